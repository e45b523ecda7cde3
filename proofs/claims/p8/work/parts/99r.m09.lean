theorem dmX13_dropBraid_0 : decode cX13_dropBraid 0 = .ok (.aload_n 0, 1) := by decide +kernel
theorem dmX13_dropBraid_1 : decode cX13_dropBraid 1 = .ok (.iconst 0, 1) := by decide +kernel
theorem dmX13_dropBraid_2 : decode cX13_dropBraid 2 = .ok (.putfield 1, 3) := by decide +kernel
theorem dmX13_dropBraid_5 : decode cX13_dropBraid 5 = .ok (.aload_n 0, 1) := by decide +kernel
theorem dmX13_dropBraid_6 : decode cX13_dropBraid 6 = .ok (.iload_n 1, 1) := by decide +kernel
theorem dmX13_dropBraid_7 : decode cX13_dropBraid 7 = .ok (.invokevirtual 739, 3) := by decide +kernel
theorem dmX13_dropBraid_10 : decode cX13_dropBraid 10 = .ok (.istore_n 2, 1) := by decide +kernel
theorem dmX13_dropBraid_11 : decode cX13_dropBraid 11 = .ok (.iload_n 2, 1) := by decide +kernel
theorem dmX13_dropBraid_12 : decode cX13_dropBraid 12 = .ok (.ifCond .eq 10, 3) := by decide +kernel
theorem dmX13_dropBraid_15 : decode cX13_dropBraid 15 = .ok (.aload_n 0, 1) := by decide +kernel
theorem dmX13_dropBraid_16 : decode cX13_dropBraid 16 = .ok (.getfield 326, 3) := by decide +kernel
theorem dmX13_dropBraid_19 : decode cX13_dropBraid 19 = .ok (.iload_n 1, 1) := by decide +kernel
theorem dmX13_dropBraid_20 : decode cX13_dropBraid 20 = .ok (.iconst 0, 1) := by decide +kernel
theorem dmX13_dropBraid_21 : decode cX13_dropBraid 21 = .ok (.iastore, 1) := by decide +kernel
theorem dmX13_dropBraid_22 : decode cX13_dropBraid 22 = .ok (.iload_n 2, 1) := by decide +kernel
theorem dmX13_dropBraid_23 : decode cX13_dropBraid 23 = .ok (.ireturn, 1) := by decide +kernel
def qm_X13_dropBraid_0 (K : Nat) (x1 : Int32) (z : ow_MS) : Option (Int32 × ow_MS) :=
 wrF z 1 0 fun z1 => cs1 (qe_X13_hasBraid K x1 z1) fun v3 z2 => (if v3 = 0 then okZ v3 (some (v3, z2))
 else wrI mX z2 96 x1 0 fun z4 => okZ v3 (some (v3, z4)))
def qe_X13_dropBraid (K : Nat) (x1 : Int32) (z : ow_MS) : Option (Int32 × ow_MS) := qm_X13_dropBraid_0 K x1 z
abbrev wm_X13_dropBraid : List Cond := .code yX13_dropBraid cX13_dropBraid 3 (some .boolean) :: wM
theorem cd_X13_dropBraid : yX13_dropBraid.cls = RX13 ∧ yX13_dropBraid.cls ≠ "java/lang/invoke/MethodHandle" ∧ yX13_dropBraid.cls ≠ "java/lang/invoke/VarHandle" ∧ (parseMethodDescriptor yX13_dropBraid.desc).map (fun d => d.parameters.length) = some 1 := by decide +kernel
set_option maxHeartbeats 4000000 in
set_option maxRecDepth 100000 in
theorem km_X13_dropBraid (l : Launch) (D : va_G) (q : ow_Q5) (u : Nat → Nat) (hU : tw_inj mX u) (K : Nat) (x1 : Int32)  (z z1 : ow_MS) (r : Int32) (hq : qe_X13_dropBraid K x1 z = some (r, z1)) : Met l yX13_dropBraid wm_X13_dropBraid ({ frames := 1, cells := 0, slots := 0, locals := 21 } : Room) (va_Pc [.ref (u 0), .int x1] (mw_pre D q u z)) (va_Qi (fun x (_ : Unit) => x = r) (fun _ t => va_P D vwCl (tw mX q u z1) t.heap) (tw_A mX u)) 0 0 (tw_A mX u) := by
  refine Met.ofW (cc := cX13_dropBraid) (maxL := 3) (ret := (some .boolean)) (by decide) rfl ?_
  intro p e s m args below meth c s₁ B hml hv
  obtain ⟨rfl, hP, hK, hN⟩ := hv
  have hx := B.exec
  have hb := B.bytes
  have hr := B.returns
  have hts := atoms_spec (ws := wm_X13_dropBraid) B.pre
  have hT : ∀ w ∈ wM, w.before ([.ref (u 0), .int x1] : List Value).toArray s = true := fun w h => hts w (List.mem_cons_of_mem _ h)
  have hown : s.vm.findClass RX13 = some m.cls := findClass_of_methodNamed B.named
  have hlocks := B.notSynchronized
  have hM : tw_M D vwCl mX q s.heap u z s.heap [] := ⟨hP, va_S.rf⟩
  have hl := lv_entry ([.ref (u 0), .int x1]) (n := 3) (Nat.le_of_ble_eq_true rfl)
  rw [lg_entry_eq]
  generalize (lg_sl ([.ref (u 0), .int x1]) ++ List.replicate (3 - (lg_sl ([.ref (u 0), .int x1])).length) Slot.unset).toArray = ls at hl ⊢
  have hl : lv_has ls 3 [(0, .ref (u 0)), (1, .int x1)] := hl
  refine ow_named (fun QQ hQQ => ?_)
  generalize ([.ref (u 0), .int x1] : List Value).toArray = args at hts hT hQQ ⊢
  have hq : qm_X13_dropBraid_0 K x1 z = some (r, z1) := hq
  unfold qm_X13_dropBraid_0 at hq
  suffices key : ∀ (H : Heap) (locs : List Loc), tw_M D vwCl mX q s.heap u z H locs → W p l e ({ frames := 1, cells := 0, slots := 0, locals := 21 } : Room) s m args below meth c H locs 0 0 QQ (F0 m 0 ls []) from key s.heap [] hM
  intro H locs hM
  refine lv_aload_n hx hb dmX13_dropBraid_0 rfl (lv_at hl 0 rfl) ?_
  refine lv_iconst (v := 0) hx hb dmX13_dropBraid_1 (by decide) ?_
  refine mp13_1 hx hb hT hown hK hM hU hq dmX13_dropBraid_2 (fun z1 H locs hM hq => ?_)
  refine lv_aload_n hx hb dmX13_dropBraid_5 rfl (lv_at hl 0 rfl) ?_
  refine lv_iload_n hx hb dmX13_dropBraid_6 rfl (lv_at hl 1 rfl) ?_
  obtain ⟨v3, z2, hcq, hq⟩ := tw_cl1 hq
  refine tw_cali hM (va_runV (As := [.int x1]) (rest := []) ⟨hx, hb, hml, hown, hts⟩ (km_X13_hasBraid l D q u hU K x1 z1 z2 v3 hcq) (cwV 1 hts (tw_gV wM_good wq_490 wq_491 wq_492 wq_61 wq_482) rfl rfl rfl cd_X13_hasBraid ⟨(Nat.le_of_ble_eq_true rfl), (Nat.le_of_ble_eq_true rfl)⟩) (mw_preV hK hN hM mo_0 rfl) rfl rfl hl.1 rfl (lv_room (Nat.le_of_ble_eq_true rfl)) dmX13_dropBraid_7 ⟨(Nat.le_of_ble_eq_true rfl), (Nat.le_of_ble_eq_true rfl)⟩) (fun H locs hM => ?_)
  refine lv_istore_n (lv' := [(2, .int v3), (0, .ref (u 0)), (1, .int x1)]) hx hb dmX13_dropBraid_10 rfl hl (by decide) rfl (fun ls hl => ?_)
  refine lv_iload_n hx hb dmX13_dropBraid_11 rfl (lv_at hl 0 rfl) ?_
  refine lv_if_eq (tgt := 22) hx hb dmX13_dropBraid_12 (by decide) (fun hc => ?_) (fun hc => ?_)
  · have hq := tw_it hq hc
    refine lv_iload_n hx hb dmX13_dropBraid_22 rfl (lv_at hl 0 rfl) ?_
    obtain ⟨hz, hq⟩ := tw_gZ hq
    exact mw_zret hx hb hr hlocks hM hz hq hQQ dmX13_dropBraid_23
  · have hq := tw_if hq hc
    refine lv_aload_n hx hb dmX13_dropBraid_15 rfl (lv_at hl 1 rfl) ?_
    refine mg13_326 hx hb hT hown hK hM dmX13_dropBraid_16 ?_
    refine lv_iload_n hx hb dmX13_dropBraid_19 rfl (lv_at hl 2 rfl) ?_
    refine lv_iconst (v := 0) hx hb dmX13_dropBraid_20 (by decide) ?_
    refine tw_iast mX_ok hU hx hb hK hM mr_96 hq dmX13_dropBraid_21 (fun z4 H locs hM hq => ?_)
    refine lv_iload_n hx hb dmX13_dropBraid_22 rfl (lv_at hl 0 rfl) ?_
    obtain ⟨hz, hq⟩ := tw_gZ hq
    exact mw_zret hx hb hr hlocks hM hz hq hQQ dmX13_dropBraid_23
theorem dmX13_product_0 : decode cX13_product 0 = .ok (.aload_n 0, 1) := dw_at cX13_product_k0 (p := 0) rfl (by decide +kernel)
theorem dmX13_product_1 : decode cX13_product 1 = .ok (.iconst 0, 1) := dw_at cX13_product_k0 (p := 1) rfl (by decide +kernel)
theorem dmX13_product_2 : decode cX13_product 2 = .ok (.putfield 1, 3) := dw_at cX13_product_k0 (p := 2) rfl (by decide +kernel)
theorem dmX13_product_5 : decode cX13_product 5 = .ok (.aload_n 0, 1) := dw_at cX13_product_k0 (p := 5) rfl (by decide +kernel)
theorem dmX13_product_6 : decode cX13_product 6 = .ok (.iload_n 1, 1) := dw_at cX13_product_k0 (p := 6) rfl (by decide +kernel)
theorem dmX13_product_7 : decode cX13_product 7 = .ok (.invokevirtual 739, 3) := dw_at cX13_product_k0 (p := 7) rfl (by decide +kernel)
theorem dmX13_product_10 : decode cX13_product 10 = .ok (.ifCond .eq 11, 3) := dw_at cX13_product_k0 (p := 10) rfl (by decide +kernel)
theorem dmX13_product_13 : decode cX13_product 13 = .ok (.aload_n 0, 1) := dw_at cX13_product_k0 (p := 13) rfl (by decide +kernel)
theorem dmX13_product_14 : decode cX13_product 14 = .ok (.iload_n 2, 1) := dw_at cX13_product_k0 (p := 14) rfl (by decide +kernel)
theorem dmX13_product_15 : decode cX13_product 15 = .ok (.invokevirtual 739, 3) := dw_at cX13_product_k0 (p := 15) rfl (by decide +kernel)
theorem dmX13_product_18 : decode cX13_product 18 = .ok (.ifCond .ne 9, 3) := dw_at cX13_product_k0 (p := 18) rfl (by decide +kernel)
theorem dmX13_product_21 : decode cX13_product 21 = .ok (.aload_n 0, 1) := dw_at cX13_product_k0 (p := 21) rfl (by decide +kernel)
theorem dmX13_product_22 : decode cX13_product 22 = .ok (.iconst 1, 1) := dw_at cX13_product_k0 (p := 22) rfl (by decide +kernel)
theorem dmX13_product_23 : decode cX13_product 23 = .ok (.invokevirtual 403, 3) := dw_at cX13_product_k0 (p := 23) rfl (by decide +kernel)
theorem dmX13_product_26 : decode cX13_product 26 = .ok (.ireturn, 1) := dw_at cX13_product_k1 (p := 0) rfl (by decide +kernel)
theorem dmX13_product_27 : decode cX13_product 27 = .ok (.aload_n 0, 1) := dw_at cX13_product_k1 (p := 1) rfl (by decide +kernel)
theorem dmX13_product_28 : decode cX13_product 28 = .ok (.getfield 326, 3) := dw_at cX13_product_k1 (p := 2) rfl (by decide +kernel)
theorem dmX13_product_31 : decode cX13_product 31 = .ok (.iload_n 1, 1) := dw_at cX13_product_k1 (p := 5) rfl (by decide +kernel)
theorem dmX13_product_32 : decode cX13_product 32 = .ok (.iaload, 1) := dw_at cX13_product_k1 (p := 6) rfl (by decide +kernel)
theorem dmX13_product_33 : decode cX13_product 33 = .ok (.aload_n 0, 1) := dw_at cX13_product_k1 (p := 7) rfl (by decide +kernel)
theorem dmX13_product_34 : decode cX13_product 34 = .ok (.getfield 326, 3) := dw_at cX13_product_k1 (p := 8) rfl (by decide +kernel)
theorem dmX13_product_37 : decode cX13_product 37 = .ok (.iload_n 2, 1) := dw_at cX13_product_k1 (p := 11) rfl (by decide +kernel)
theorem dmX13_product_38 : decode cX13_product 38 = .ok (.iaload, 1) := dw_at cX13_product_k1 (p := 12) rfl (by decide +kernel)
theorem dmX13_product_39 : decode cX13_product 39 = .ok (.if_icmp .eq 9, 3) := dw_at cX13_product_k1 (p := 13) rfl (by decide +kernel)
theorem dmX13_product_42 : decode cX13_product 42 = .ok (.aload_n 0, 1) := dw_at cX13_product_k1 (p := 16) rfl (by decide +kernel)
theorem dmX13_product_43 : decode cX13_product 43 = .ok (.iconst 2, 1) := dw_at cX13_product_k1 (p := 17) rfl (by decide +kernel)
theorem dmX13_product_44 : decode cX13_product 44 = .ok (.invokevirtual 403, 3) := dw_at cX13_product_k1 (p := 18) rfl (by decide +kernel)
theorem dmX13_product_47 : decode cX13_product 47 = .ok (.ireturn, 1) := dw_at cX13_product_k1 (p := 21) rfl (by decide +kernel)
theorem dmX13_product_48 : decode cX13_product 48 = .ok (.aload_n 0, 1) := dw_at cX13_product_k1 (p := 22) rfl (by decide +kernel)
theorem dmX13_product_49 : decode cX13_product 49 = .ok (.getfield 323, 3) := dw_at cX13_product_k1 (p := 23) rfl (by decide +kernel)
theorem dmX13_product_52 : decode cX13_product 52 = .ok (.iload_n 1, 1) := dw_at cX13_product_k2 (p := 0) rfl (by decide +kernel)
theorem dmX13_product_53 : decode cX13_product 53 = .ok (.iaload, 1) := dw_at cX13_product_k2 (p := 1) rfl (by decide +kernel)
theorem dmX13_product_54 : decode cX13_product 54 = .ok (.aload_n 0, 1) := dw_at cX13_product_k2 (p := 2) rfl (by decide +kernel)
theorem dmX13_product_55 : decode cX13_product 55 = .ok (.getfield 323, 3) := dw_at cX13_product_k2 (p := 3) rfl (by decide +kernel)
theorem dmX13_product_58 : decode cX13_product 58 = .ok (.iload_n 2, 1) := dw_at cX13_product_k2 (p := 6) rfl (by decide +kernel)
theorem dmX13_product_59 : decode cX13_product 59 = .ok (.iaload, 1) := dw_at cX13_product_k2 (p := 7) rfl (by decide +kernel)
theorem dmX13_product_60 : decode cX13_product 60 = .ok (.iadd, 1) := dw_at cX13_product_k2 (p := 8) rfl (by decide +kernel)
theorem dmX13_product_61 : decode cX13_product 61 = .ok (.bipush 16, 2) := dw_at cX13_product_k2 (p := 9) rfl (by decide +kernel)
theorem dmX13_product_63 : decode cX13_product 63 = .ok (.if_icmp .le 9, 3) := dw_at cX13_product_k2 (p := 11) rfl (by decide +kernel)
theorem dmX13_product_66 : decode cX13_product 66 = .ok (.aload_n 0, 1) := dw_at cX13_product_k2 (p := 14) rfl (by decide +kernel)
theorem dmX13_product_67 : decode cX13_product 67 = .ok (.iconst 3, 1) := dw_at cX13_product_k2 (p := 15) rfl (by decide +kernel)
theorem dmX13_product_68 : decode cX13_product 68 = .ok (.invokevirtual 403, 3) := dw_at cX13_product_k2 (p := 16) rfl (by decide +kernel)
theorem dmX13_product_71 : decode cX13_product 71 = .ok (.ireturn, 1) := dw_at cX13_product_k2 (p := 19) rfl (by decide +kernel)
theorem dmX13_product_72 : decode cX13_product 72 = .ok (.aload_n 0, 1) := dw_at cX13_product_k2 (p := 20) rfl (by decide +kernel)
theorem dmX13_product_73 : decode cX13_product 73 = .ok (.invokevirtual 736, 3) := dw_at cX13_product_k2 (p := 21) rfl (by decide +kernel)
theorem dmX13_product_76 : decode cX13_product 76 = .ok (.istore_n 3, 1) := dw_at cX13_product_k3 (p := 0) rfl (by decide +kernel)
theorem dmX13_product_77 : decode cX13_product 77 = .ok (.iload_n 3, 1) := dw_at cX13_product_k3 (p := 1) rfl (by decide +kernel)
theorem dmX13_product_78 : decode cX13_product 78 = .ok (.iconst (-1), 1) := dw_at cX13_product_k3 (p := 2) rfl (by decide +kernel)
theorem dmX13_product_79 : decode cX13_product 79 = .ok (.if_icmp .ne 9, 3) := dw_at cX13_product_k3 (p := 3) rfl (by decide +kernel)
theorem dmX13_product_82 : decode cX13_product 82 = .ok (.aload_n 0, 1) := dw_at cX13_product_k3 (p := 6) rfl (by decide +kernel)
theorem dmX13_product_83 : decode cX13_product 83 = .ok (.iconst 4, 1) := dw_at cX13_product_k3 (p := 7) rfl (by decide +kernel)
theorem dmX13_product_84 : decode cX13_product 84 = .ok (.invokevirtual 403, 3) := dw_at cX13_product_k3 (p := 8) rfl (by decide +kernel)
theorem dmX13_product_87 : decode cX13_product 87 = .ok (.ireturn, 1) := dw_at cX13_product_k3 (p := 11) rfl (by decide +kernel)
theorem dmX13_product_88 : decode cX13_product 88 = .ok (.iconst 0, 1) := dw_at cX13_product_k3 (p := 12) rfl (by decide +kernel)
theorem dmX13_product_89 : decode cX13_product 89 = .ok (.istore 4, 2) := dw_at cX13_product_k3 (p := 13) rfl (by decide +kernel)
theorem dmX13_product_91 : decode cX13_product 91 = .ok (.iload 4, 2) := dw_at cX13_product_k3 (p := 15) rfl (by decide +kernel)
theorem dmX13_product_93 : decode cX13_product 93 = .ok (.aload_n 0, 1) := dw_at cX13_product_k3 (p := 17) rfl (by decide +kernel)
theorem dmX13_product_94 : decode cX13_product 94 = .ok (.getfield 323, 3) := dw_at cX13_product_k3 (p := 18) rfl (by decide +kernel)
theorem dmX13_product_97 : decode cX13_product 97 = .ok (.iload_n 1, 1) := dw_at cX13_product_k3 (p := 21) rfl (by decide +kernel)
theorem dmX13_product_98 : decode cX13_product 98 = .ok (.iaload, 1) := dw_at cX13_product_k3 (p := 22) rfl (by decide +kernel)
theorem dmX13_product_99 : decode cX13_product 99 = .ok (.aload_n 0, 1) := dw_at cX13_product_k3 (p := 23) rfl (by decide +kernel)
theorem dmX13_product_100 : decode cX13_product 100 = .ok (.getfield 323, 3) := dw_at cX13_product_k4 (p := 0) rfl (by decide +kernel)
theorem dmX13_product_103 : decode cX13_product 103 = .ok (.iload_n 2, 1) := dw_at cX13_product_k4 (p := 3) rfl (by decide +kernel)
theorem dmX13_product_104 : decode cX13_product 104 = .ok (.iaload, 1) := dw_at cX13_product_k4 (p := 4) rfl (by decide +kernel)
theorem dmX13_product_105 : decode cX13_product 105 = .ok (.iadd, 1) := dw_at cX13_product_k4 (p := 5) rfl (by decide +kernel)
theorem dmX13_product_106 : decode cX13_product 106 = .ok (.if_icmp .ge 66, 3) := dw_at cX13_product_k4 (p := 6) rfl (by decide +kernel)
theorem dmX13_product_109 : decode cX13_product 109 = .ok (.aload_n 0, 1) := dw_at cX13_product_k4 (p := 9) rfl (by decide +kernel)
theorem dmX13_product_110 : decode cX13_product 110 = .ok (.getfield 320, 3) := dw_at cX13_product_k4 (p := 10) rfl (by decide +kernel)
theorem dmX13_product_113 : decode cX13_product 113 = .ok (.bipush 16, 2) := dw_at cX13_product_k4 (p := 13) rfl (by decide +kernel)
theorem dmX13_product_115 : decode cX13_product 115 = .ok (.iload_n 3, 1) := dw_at cX13_product_k4 (p := 15) rfl (by decide +kernel)
theorem dmX13_product_116 : decode cX13_product 116 = .ok (.imul, 1) := dw_at cX13_product_k4 (p := 16) rfl (by decide +kernel)
theorem dmX13_product_117 : decode cX13_product 117 = .ok (.iload 4, 2) := dw_at cX13_product_k4 (p := 17) rfl (by decide +kernel)
theorem dmX13_product_119 : decode cX13_product 119 = .ok (.iadd, 1) := dw_at cX13_product_k4 (p := 19) rfl (by decide +kernel)
theorem dmX13_product_120 : decode cX13_product 120 = .ok (.iload 4, 2) := dw_at cX13_product_k4 (p := 20) rfl (by decide +kernel)
theorem dmX13_product_122 : decode cX13_product 122 = .ok (.aload_n 0, 1) := dw_at cX13_product_k4 (p := 22) rfl (by decide +kernel)
theorem dmX13_product_123 : decode cX13_product 123 = .ok (.getfield 323, 3) := dw_at cX13_product_k4 (p := 23) rfl (by decide +kernel)
theorem dmX13_product_126 : decode cX13_product 126 = .ok (.iload_n 1, 1) := dw_at cX13_product_k5 (p := 0) rfl (by decide +kernel)
theorem dmX13_product_127 : decode cX13_product 127 = .ok (.iaload, 1) := dw_at cX13_product_k5 (p := 1) rfl (by decide +kernel)
theorem dmX13_product_128 : decode cX13_product 128 = .ok (.if_icmp .ge 18, 3) := dw_at cX13_product_k5 (p := 2) rfl (by decide +kernel)
theorem dmX13_product_131 : decode cX13_product 131 = .ok (.aload_n 0, 1) := dw_at cX13_product_k5 (p := 5) rfl (by decide +kernel)
theorem dmX13_product_132 : decode cX13_product 132 = .ok (.getfield 320, 3) := dw_at cX13_product_k5 (p := 6) rfl (by decide +kernel)
theorem dmX13_product_135 : decode cX13_product 135 = .ok (.bipush 16, 2) := dw_at cX13_product_k5 (p := 9) rfl (by decide +kernel)
theorem dmX13_product_137 : decode cX13_product 137 = .ok (.iload_n 1, 1) := dw_at cX13_product_k5 (p := 11) rfl (by decide +kernel)
theorem dmX13_product_138 : decode cX13_product 138 = .ok (.imul, 1) := dw_at cX13_product_k5 (p := 12) rfl (by decide +kernel)
theorem dmX13_product_139 : decode cX13_product 139 = .ok (.iload 4, 2) := dw_at cX13_product_k5 (p := 13) rfl (by decide +kernel)
theorem dmX13_product_141 : decode cX13_product 141 = .ok (.iadd, 1) := dw_at cX13_product_k5 (p := 15) rfl (by decide +kernel)
theorem dmX13_product_142 : decode cX13_product 142 = .ok (.iaload, 1) := dw_at cX13_product_k5 (p := 16) rfl (by decide +kernel)
theorem dmX13_product_143 : decode cX13_product 143 = .ok (.goto 22, 3) := dw_at cX13_product_k5 (p := 17) rfl (by decide +kernel)
theorem dmX13_product_146 : decode cX13_product 146 = .ok (.aload_n 0, 1) := dw_at cX13_product_k5 (p := 20) rfl (by decide +kernel)
theorem dmX13_product_147 : decode cX13_product 147 = .ok (.getfield 320, 3) := dw_at cX13_product_k5 (p := 21) rfl (by decide +kernel)
theorem dmX13_product_150 : decode cX13_product 150 = .ok (.bipush 16, 2) := dw_at cX13_product_k6 (p := 0) rfl (by decide +kernel)
theorem dmX13_product_152 : decode cX13_product 152 = .ok (.iload_n 2, 1) := dw_at cX13_product_k6 (p := 2) rfl (by decide +kernel)
theorem dmX13_product_153 : decode cX13_product 153 = .ok (.imul, 1) := dw_at cX13_product_k6 (p := 3) rfl (by decide +kernel)
theorem dmX13_product_154 : decode cX13_product 154 = .ok (.iload 4, 2) := dw_at cX13_product_k6 (p := 4) rfl (by decide +kernel)
theorem dmX13_product_156 : decode cX13_product 156 = .ok (.iadd, 1) := dw_at cX13_product_k6 (p := 6) rfl (by decide +kernel)
theorem dmX13_product_157 : decode cX13_product 157 = .ok (.aload_n 0, 1) := dw_at cX13_product_k6 (p := 7) rfl (by decide +kernel)
theorem dmX13_product_158 : decode cX13_product 158 = .ok (.getfield 323, 3) := dw_at cX13_product_k6 (p := 8) rfl (by decide +kernel)
theorem dmX13_product_161 : decode cX13_product 161 = .ok (.iload_n 1, 1) := dw_at cX13_product_k6 (p := 11) rfl (by decide +kernel)
theorem dmX13_product_162 : decode cX13_product 162 = .ok (.iaload, 1) := dw_at cX13_product_k6 (p := 12) rfl (by decide +kernel)
theorem dmX13_product_163 : decode cX13_product 163 = .ok (.isub, 1) := dw_at cX13_product_k6 (p := 13) rfl (by decide +kernel)
theorem dmX13_product_164 : decode cX13_product 164 = .ok (.iaload, 1) := dw_at cX13_product_k6 (p := 14) rfl (by decide +kernel)
theorem dmX13_product_165 : decode cX13_product 165 = .ok (.iastore, 1) := dw_at cX13_product_k6 (p := 15) rfl (by decide +kernel)
theorem dmX13_product_166 : decode cX13_product 166 = .ok (.iinc 4 1, 3) := dw_at cX13_product_k6 (p := 16) rfl (by decide +kernel)
theorem dmX13_product_169 : decode cX13_product 169 = .ok (.goto (-78), 3) := dw_at cX13_product_k6 (p := 19) rfl (by decide +kernel)
theorem dmX13_product_172 : decode cX13_product 172 = .ok (.aload_n 0, 1) := dw_at cX13_product_k6 (p := 22) rfl (by decide +kernel)
theorem dmX13_product_173 : decode cX13_product 173 = .ok (.getfield 323, 3) := dw_at cX13_product_k6 (p := 23) rfl (by decide +kernel)
theorem dmX13_product_176 : decode cX13_product 176 = .ok (.iload_n 3, 1) := dw_at cX13_product_k7 (p := 0) rfl (by decide +kernel)
theorem dmX13_product_177 : decode cX13_product 177 = .ok (.aload_n 0, 1) := dw_at cX13_product_k7 (p := 1) rfl (by decide +kernel)
theorem dmX13_product_178 : decode cX13_product 178 = .ok (.getfield 323, 3) := dw_at cX13_product_k7 (p := 2) rfl (by decide +kernel)
theorem dmX13_product_181 : decode cX13_product 181 = .ok (.iload_n 1, 1) := dw_at cX13_product_k7 (p := 5) rfl (by decide +kernel)
theorem dmX13_product_182 : decode cX13_product 182 = .ok (.iaload, 1) := dw_at cX13_product_k7 (p := 6) rfl (by decide +kernel)
theorem dmX13_product_183 : decode cX13_product 183 = .ok (.aload_n 0, 1) := dw_at cX13_product_k7 (p := 7) rfl (by decide +kernel)
theorem dmX13_product_184 : decode cX13_product 184 = .ok (.getfield 323, 3) := dw_at cX13_product_k7 (p := 8) rfl (by decide +kernel)
theorem dmX13_product_187 : decode cX13_product 187 = .ok (.iload_n 2, 1) := dw_at cX13_product_k7 (p := 11) rfl (by decide +kernel)
theorem dmX13_product_188 : decode cX13_product 188 = .ok (.iaload, 1) := dw_at cX13_product_k7 (p := 12) rfl (by decide +kernel)
theorem dmX13_product_189 : decode cX13_product 189 = .ok (.iadd, 1) := dw_at cX13_product_k7 (p := 13) rfl (by decide +kernel)
theorem dmX13_product_190 : decode cX13_product 190 = .ok (.iastore, 1) := dw_at cX13_product_k7 (p := 14) rfl (by decide +kernel)
theorem dmX13_product_191 : decode cX13_product 191 = .ok (.aload_n 0, 1) := dw_at cX13_product_k7 (p := 15) rfl (by decide +kernel)
theorem dmX13_product_192 : decode cX13_product 192 = .ok (.getfield 326, 3) := dw_at cX13_product_k7 (p := 16) rfl (by decide +kernel)
theorem dmX13_product_195 : decode cX13_product 195 = .ok (.iload_n 3, 1) := dw_at cX13_product_k7 (p := 19) rfl (by decide +kernel)
theorem dmX13_product_196 : decode cX13_product 196 = .ok (.aload_n 0, 1) := dw_at cX13_product_k7 (p := 20) rfl (by decide +kernel)
theorem dmX13_product_197 : decode cX13_product 197 = .ok (.getfield 326, 3) := dw_at cX13_product_k7 (p := 21) rfl (by decide +kernel)
theorem dmX13_product_200 : decode cX13_product 200 = .ok (.iload_n 1, 1) := dw_at cX13_product_k7 (p := 24) rfl (by decide +kernel)
theorem dmX13_product_201 : decode cX13_product 201 = .ok (.iaload, 1) := dw_at cX13_product_k7 (p := 25) rfl (by decide +kernel)
theorem dmX13_product_202 : decode cX13_product 202 = .ok (.iastore, 1) := dw_at cX13_product_k7 (p := 26) rfl (by decide +kernel)
theorem dmX13_product_203 : decode cX13_product 203 = .ok (.iload_n 3, 1) := dw_at cX13_product_k7 (p := 27) rfl (by decide +kernel)
theorem dmX13_product_204 : decode cX13_product 204 = .ok (.ireturn, 1) := dw_at cX13_product_k7 (p := 28) rfl (by decide +kernel)
def qm_X13_product_0 (K : Nat) (go : Nat → Int32 → Int32 → Int32 → Int32 → Int32 → Int32 → ow_MS → Option (Int32 × ow_MS)) (x1 : Int32) (x2 : Int32) (x3 : Int32) (x4 : Int32) (t0 : Int32) (t1 : Int32) (z : ow_MS) : Option (Int32 × ow_MS) :=
 wrF z 1 0 fun z1 => cs1 (qe_X13_hasBraid K x1 z1) fun v3 z2 => (if v3 = 0 then go 1 x1 x2 0 0 0 0 z2
 else cs1 (qe_X13_hasBraid K x2 z2) fun v5 z4 => (if v5 = 0 then go 1 x1 x2 0 0 0 0 z4
 else rdI mX z4 96 x1 fun v6 => rdI mX z4 96 x2 fun v7 => (if v6 = v7 then rdI mX z4 95 x1 fun v8 => rdI mX z4 95 x2 fun v9 => (if (v8 + v9) ≤ 16 then cs1 (qe_X13_freeBraid K z4) fun v11 z10 => (if v11 = (-1) then cs1 (qe_X13_fails K 4 z10) fun v13 z12 => some (v13, z12)
 else go 2 x1 x2 v11 0 0 0 z10)
 else cs1 (qe_X13_fails K 3 z4) fun v15 z14 => some (v15, z14))
 else cs1 (qe_X13_fails K 2 z4) fun v17 z16 => some (v17, z16))))
def qm_X13_product_1 (K : Nat) (go : Nat → Int32 → Int32 → Int32 → Int32 → Int32 → Int32 → ow_MS → Option (Int32 × ow_MS)) (x1 : Int32) (x2 : Int32) (x3 : Int32) (x4 : Int32) (t0 : Int32) (t1 : Int32) (z : ow_MS) : Option (Int32 × ow_MS) :=
 cs1 (qe_X13_fails K 1 z) fun v19 z18 => some (v19, z18)
def qm_X13_product_2 (K : Nat) (go : Nat → Int32 → Int32 → Int32 → Int32 → Int32 → Int32 → ow_MS → Option (Int32 × ow_MS)) (x1 : Int32) (x2 : Int32) (x3 : Int32) (x4 : Int32) (t0 : Int32) (t1 : Int32) (z : ow_MS) : Option (Int32 × ow_MS) :=
 rdI mX z 95 x1 fun v20 => rdI mX z 95 x2 fun v21 => (if (v20 + v21) ≤ x4 then rdI mX z 95 x1 fun v22 => rdI mX z 95 x2 fun v23 => wrI mX z 95 x3 (v22 + v23) fun z24 => rdI mX z24 96 x1 fun v25 => wrI mX z24 96 x3 v25 fun z26 => some (x3, z26)
 else rdI mX z 95 x1 fun v27 => (if v27 ≤ x4 then rdI mX z 95 x1 fun v28 => rdI mX z 94 (((16 * x2) + x4) - v28) fun v29 => go 3 x1 x2 x3 x4 v29 ((16 * x3) + x4) z
 else rdI mX z 94 ((16 * x1) + x4) fun v30 => go 3 x1 x2 x3 x4 v30 ((16 * x3) + x4) z))
def qm_X13_product_3 (K : Nat) (go : Nat → Int32 → Int32 → Int32 → Int32 → Int32 → Int32 → ow_MS → Option (Int32 × ow_MS)) (x1 : Int32) (x2 : Int32) (x3 : Int32) (x4 : Int32) (t0 : Int32) (t1 : Int32) (z : ow_MS) : Option (Int32 × ow_MS) :=
 wrI mX z 94 t1 t0 fun z31 => go 2 x1 x2 x3 (x4 + 1) 0 0 z31
def qb_X13_product (K : Nat) (go : Nat → Int32 → Int32 → Int32 → Int32 → Int32 → Int32 → ow_MS → Option (Int32 × ow_MS)) (L : Nat) (x1 : Int32) (x2 : Int32) (x3 : Int32) (x4 : Int32) (t0 : Int32) (t1 : Int32) (z : ow_MS) : Option (Int32 × ow_MS) := match L with
  | 0 => qm_X13_product_0 K go x1 x2 x3 x4 t0 t1 z
  | 1 => qm_X13_product_1 K go x1 x2 x3 x4 t0 t1 z
  | 2 => qm_X13_product_2 K go x1 x2 x3 x4 t0 t1 z
  | 3 => qm_X13_product_3 K go x1 x2 x3 x4 t0 t1 z
  | _ => none
def q_X13_product (K : Nat) : Nat → Nat → Int32 → Int32 → Int32 → Int32 → Int32 → Int32 → ow_MS → Option (Int32 × ow_MS)
  | 0 => fun _ _ _ _ _ _ _ _ => none
  | k + 1 => qb_X13_product K (q_X13_product K k)
def qe_X13_product (K : Nat) (x1 : Int32) (x2 : Int32) (z : ow_MS) : Option (Int32 × ow_MS) := q_X13_product K K 0 x1 x2 0 0 0 0 z
abbrev wm_X13_product : List Cond := .code yX13_product cX13_product 5 (some .int) :: wM
theorem cd_X13_product : yX13_product.cls = RX13 ∧ yX13_product.cls ≠ "java/lang/invoke/MethodHandle" ∧ yX13_product.cls ≠ "java/lang/invoke/VarHandle" ∧ (parseMethodDescriptor yX13_product.desc).map (fun d => d.parameters.length) = some 2 := by decide +kernel
set_option maxHeartbeats 4000000 in
set_option maxRecDepth 100000 in
theorem km_X13_product (l : Launch) (D : va_G) (q : ow_Q5) (u : Nat → Nat) (hU : tw_inj mX u) (K : Nat) (x1 : Int32) (x2 : Int32)  (z z1 : ow_MS) (r : Int32) (hq : qe_X13_product K x1 x2 z = some (r, z1)) : Met l yX13_product wm_X13_product ({ frames := 1, cells := 0, slots := 0, locals := 21 } : Room) (va_Pc [.ref (u 0), .int x1, .int x2] (mw_pre D q u z)) (va_Qi (fun x (_ : Unit) => x = r) (fun _ t => va_P D vwCl (tw mX q u z1) t.heap) (tw_A mX u)) 0 0 (tw_A mX u) := by
  refine Met.ofW (cc := cX13_product) (maxL := 5) (ret := (some .int)) (by decide) rfl ?_
  intro p e s m args below meth c s₁ B hml hv
  obtain ⟨rfl, hP, hK, hN⟩ := hv
  have hx := B.exec
  have hb := B.bytes
  have hr := B.returns
  have hts := atoms_spec (ws := wm_X13_product) B.pre
  have hT : ∀ w ∈ wM, w.before ([.ref (u 0), .int x1, .int x2] : List Value).toArray s = true := fun w h => hts w (List.mem_cons_of_mem _ h)
  have hown : s.vm.findClass RX13 = some m.cls := findClass_of_methodNamed B.named
  have hlocks := B.notSynchronized
  have hM : tw_M D vwCl mX q s.heap u z s.heap [] := ⟨hP, va_S.rf⟩
  have hl := lv_entry ([.ref (u 0), .int x1, .int x2]) (n := 5) (Nat.le_of_ble_eq_true rfl)
  rw [lg_entry_eq]
  generalize (lg_sl ([.ref (u 0), .int x1, .int x2]) ++ List.replicate (5 - (lg_sl ([.ref (u 0), .int x1, .int x2])).length) Slot.unset).toArray = ls at hl ⊢
  have hl : lv_has ls 5 [(0, .ref (u 0)), (1, .int x1), (2, .int x2)] := hl
  refine ow_named (fun QQ hQQ => ?_)
  generalize ([.ref (u 0), .int x1, .int x2] : List Value).toArray = args at hts hT hQQ ⊢
  have key : ∀ k : Nat, (∀ (x1 : Int32) (x2 : Int32) (x3 : Int32) (x4 : Int32) (t0 : Int32) (t1 : Int32) (z : ow_MS) (H : Heap) (locs : List Loc) (ls : Array Slot), tw_M D vwCl mX q s.heap u z H locs → lv_has ls 5 [(0, .ref (u 0)), (1, .int x1), (2, .int x2)] → q_X13_product K k 0 x1 x2 x3 x4 t0 t1 z = some (r, z1) → W p l e ({ frames := 1, cells := 0, slots := 0, locals := 21 } : Room) s m args below meth c H locs 0 0 QQ (F0 m 0 ls [])) ∧ (∀ (x1 : Int32) (x2 : Int32) (x3 : Int32) (x4 : Int32) (t0 : Int32) (t1 : Int32) (z : ow_MS) (H : Heap) (locs : List Loc) (ls : Array Slot), tw_M D vwCl mX q s.heap u z H locs → lv_has ls 5 [(0, .ref (u 0)), (1, .int x1), (2, .int x2)] → q_X13_product K k 1 x1 x2 x3 x4 t0 t1 z = some (r, z1) → W p l e ({ frames := 1, cells := 0, slots := 0, locals := 21 } : Room) s m args below meth c H locs 0 0 QQ (F0 m 21 ls [])) ∧ (∀ (x1 : Int32) (x2 : Int32) (x3 : Int32) (x4 : Int32) (t0 : Int32) (t1 : Int32) (z : ow_MS) (H : Heap) (locs : List Loc) (ls : Array Slot), tw_M D vwCl mX q s.heap u z H locs → lv_has ls 5 [(0, .ref (u 0)), (1, .int x1), (2, .int x2), (3, .int x3), (4, .int x4)] → q_X13_product K k 2 x1 x2 x3 x4 t0 t1 z = some (r, z1) → W p l e ({ frames := 1, cells := 0, slots := 0, locals := 21 } : Room) s m args below meth c H locs 0 0 QQ (F0 m 91 ls [])) ∧ (∀ (x1 : Int32) (x2 : Int32) (x3 : Int32) (x4 : Int32) (t0 : Int32) (t1 : Int32) (z : ow_MS) (H : Heap) (locs : List Loc) (ls : Array Slot), tw_M D vwCl mX q s.heap u z H locs → lv_has ls 5 [(0, .ref (u 0)), (1, .int x1), (2, .int x2), (3, .int x3), (4, .int x4)] → q_X13_product K k 3 x1 x2 x3 x4 t0 t1 z = some (r, z1) → W p l e ({ frames := 1, cells := 0, slots := 0, locals := 21 } : Room) s m args below meth c H locs 0 0 QQ (F0 m 165 ls [.int t0, .int t1, .ref (u 94)])) := by
    intro k
    induction k with
    | zero => exact ⟨fun _ _ _ _ _ _ _ _ _ _  _ _ hq => tw_no hq, fun _ _ _ _ _ _ _ _ _ _  _ _ hq => tw_no hq, fun _ _ _ _ _ _ _ _ _ _  _ _ hq => tw_no hq, fun _ _ _ _ _ _ _ _ _ _  _ _ hq => tw_no hq⟩
    | succ k ih =>
      obtain ⟨ih_0, ih_1, ih_2, ih_3⟩ := ih
      refine ⟨?_, ?_, ?_, ?_⟩
      · intro x1 x2 x3 x4 t0 t1 z H locs ls  hM hl hq
        have hq : qm_X13_product_0 K (q_X13_product K k) x1 x2 x3 x4 t0 t1 z = some (r, z1) := hq
        unfold qm_X13_product_0 at hq
        refine lv_aload_n hx hb dmX13_product_0 rfl (lv_at hl 0 rfl) ?_
        refine lv_iconst (v := 0) hx hb dmX13_product_1 (by decide) ?_
        refine mp13_1 hx hb hT hown hK hM hU hq dmX13_product_2 (fun z1 H locs hM hq => ?_)
        refine lv_aload_n hx hb dmX13_product_5 rfl (lv_at hl 0 rfl) ?_
        refine lv_iload_n hx hb dmX13_product_6 rfl (lv_at hl 1 rfl) ?_
        obtain ⟨v3, z2, hcq, hq⟩ := tw_cl1 hq
        refine tw_cali hM (va_runV (As := [.int x1]) (rest := []) ⟨hx, hb, hml, hown, hts⟩ (km_X13_hasBraid l D q u hU K x1 z1 z2 v3 hcq) (cwV 1 hts (tw_gV wM_good wq_490 wq_491 wq_492 wq_61 wq_482) rfl rfl rfl cd_X13_hasBraid ⟨(Nat.le_of_ble_eq_true rfl), (Nat.le_of_ble_eq_true rfl)⟩) (mw_preV hK hN hM mo_0 rfl) rfl rfl hl.1 rfl (lv_room (Nat.le_of_ble_eq_true rfl)) dmX13_product_7 ⟨(Nat.le_of_ble_eq_true rfl), (Nat.le_of_ble_eq_true rfl)⟩) (fun H locs hM => ?_)
        refine lv_if_eq (tgt := 21) hx hb dmX13_product_10 (by decide) (fun hc => ?_) (fun hc => ?_)
        · have hq := tw_it hq hc
          exact ih_1 x1 x2 0 0 0 0 z2 H locs ls hM (lv_sub hl [0, 1, 2] rfl) hq
        · have hq := tw_if hq hc
          refine lv_aload_n hx hb dmX13_product_13 rfl (lv_at hl 0 rfl) ?_
          refine lv_iload_n hx hb dmX13_product_14 rfl (lv_at hl 2 rfl) ?_
          obtain ⟨v5, z4, hcq, hq⟩ := tw_cl1 hq
          refine tw_cali hM (va_runV (As := [.int x2]) (rest := []) ⟨hx, hb, hml, hown, hts⟩ (km_X13_hasBraid l D q u hU K x2 z2 z4 v5 hcq) (cwV 1 hts (tw_gV wM_good wq_490 wq_491 wq_492 wq_61 wq_482) rfl rfl rfl cd_X13_hasBraid ⟨(Nat.le_of_ble_eq_true rfl), (Nat.le_of_ble_eq_true rfl)⟩) (mw_preV hK hN hM mo_0 rfl) rfl rfl hl.1 rfl (lv_room (Nat.le_of_ble_eq_true rfl)) dmX13_product_15 ⟨(Nat.le_of_ble_eq_true rfl), (Nat.le_of_ble_eq_true rfl)⟩) (fun H locs hM => ?_)
          refine lv_if_ne (tgt := 27) hx hb dmX13_product_18 (by decide) (fun hc => ?_) (fun hc => ?_)
          · have hq := tw_if hq hc
            refine lv_aload_n hx hb dmX13_product_27 rfl (lv_at hl 0 rfl) ?_
            refine mg13_326 hx hb hT hown hK hM dmX13_product_28 ?_
            refine lv_iload_n hx hb dmX13_product_31 rfl (lv_at hl 1 rfl) ?_
            refine tw_iald mX_ok hx hb hK hM mr_96 hq dmX13_product_32 (fun v6 hq => ?_)
            refine lv_aload_n hx hb dmX13_product_33 rfl (lv_at hl 0 rfl) ?_
            refine mg13_326 hx hb hT hown hK hM dmX13_product_34 ?_
            refine lv_iload_n hx hb dmX13_product_37 rfl (lv_at hl 2 rfl) ?_
            refine tw_iald mX_ok hx hb hK hM mr_96 hq dmX13_product_38 (fun v7 hq => ?_)
            refine lv_icmp_eq (tgt := 48) hx hb dmX13_product_39 (by decide) (fun hc => ?_) (fun hc => ?_)
            · have hq := tw_it hq hc
              refine lv_aload_n hx hb dmX13_product_48 rfl (lv_at hl 0 rfl) ?_
              refine mg13_323 hx hb hT hown hK hM dmX13_product_49 ?_
              refine lv_iload_n hx hb dmX13_product_52 rfl (lv_at hl 1 rfl) ?_
              refine tw_iald mX_ok hx hb hK hM mr_95 hq dmX13_product_53 (fun v8 hq => ?_)
              refine lv_aload_n hx hb dmX13_product_54 rfl (lv_at hl 0 rfl) ?_
              refine mg13_323 hx hb hT hown hK hM dmX13_product_55 ?_
              refine lv_iload_n hx hb dmX13_product_58 rfl (lv_at hl 2 rfl) ?_
              refine tw_iald mX_ok hx hb hK hM mr_95 hq dmX13_product_59 (fun v9 hq => ?_)
              refine lv_iadd hx hb dmX13_product_60 ?_
              refine lv_bipush (v := 16) hx hb dmX13_product_61 (by decide) ?_
              refine lv_icmp_le (tgt := 72) hx hb dmX13_product_63 (by decide) (fun hc => ?_) (fun hc => ?_)
              · have hq := tw_it hq hc
                refine lv_aload_n hx hb dmX13_product_72 rfl (lv_at hl 0 rfl) ?_
                obtain ⟨v11, z10, hcq, hq⟩ := tw_cl1 hq
                refine tw_cali hM (va_runV (As := []) (rest := []) ⟨hx, hb, hml, hown, hts⟩ (km_X13_freeBraid l D q u hU K z4 z10 v11 hcq) (cwV 0 hts (tw_gV wM_good wq_486 wq_487 wq_488 wq_61 wq_483) rfl rfl rfl cd_X13_freeBraid ⟨(Nat.le_of_ble_eq_true rfl), (Nat.le_of_ble_eq_true rfl)⟩) (mw_preV hK hN hM mo_0 rfl) rfl rfl hl.1 rfl (lv_room (Nat.le_of_ble_eq_true rfl)) dmX13_product_73 ⟨(Nat.le_of_ble_eq_true rfl), (Nat.le_of_ble_eq_true rfl)⟩) (fun H locs hM => ?_)
                refine lv_istore_n (lv' := [(3, .int v11), (0, .ref (u 0)), (1, .int x1), (2, .int x2)]) hx hb dmX13_product_76 rfl hl (by decide) rfl (fun ls hl => ?_)
                refine lv_iload_n hx hb dmX13_product_77 rfl (lv_at hl 0 rfl) ?_
                refine lv_iconst (v := (-1)) hx hb dmX13_product_78 (by decide) ?_
                refine lv_icmp_ne (tgt := 88) hx hb dmX13_product_79 (by decide) (fun hc => ?_) (fun hc => ?_)
                · have hq := tw_if hq hc
                  refine lv_iconst (v := 0) hx hb dmX13_product_88 (by decide) ?_
                  refine lv_istore (lv' := [(4, .int 0), (3, .int v11), (0, .ref (u 0)), (1, .int x1), (2, .int x2)]) hx hb dmX13_product_89 hl (by decide) rfl (fun ls hl => ?_)
                  exact ih_2 x1 x2 v11 0 0 0 z10 H locs ls hM (lv_sub hl [2, 3, 4, 1, 0] rfl) hq
                · have hq := tw_it hq hc
                  refine lv_aload_n hx hb dmX13_product_82 rfl (lv_at hl 1 rfl) ?_
                  refine lv_iconst (v := 4) hx hb dmX13_product_83 (by decide) ?_
                  obtain ⟨v13, z12, hcq, hq⟩ := tw_cl1 hq
                  refine tw_cali hM (va_runV (As := [.int 4]) (rest := []) ⟨hx, hb, hml, hown, hts⟩ (km_X13_fails l D q u hU K 4 z10 z12 v13 hcq) (cwV 1 hts (tw_gV wM_good wq_103 wq_104 wq_105 wq_61 wq_50) rfl rfl rfl cd_X13_fails ⟨(Nat.le_of_ble_eq_true rfl), (Nat.le_of_ble_eq_true rfl)⟩) (mw_preV hK hN hM mo_0 rfl) rfl rfl hl.1 rfl (lv_room (Nat.le_of_ble_eq_true rfl)) dmX13_product_84 ⟨(Nat.le_of_ble_eq_true rfl), (Nat.le_of_ble_eq_true rfl)⟩) (fun H locs hM => ?_)
                  exact mw_iret hx hb hr hlocks hM hq hQQ dmX13_product_87
              · have hq := tw_if hq hc
                refine lv_aload_n hx hb dmX13_product_66 rfl (lv_at hl 0 rfl) ?_
                refine lv_iconst (v := 3) hx hb dmX13_product_67 (by decide) ?_
                obtain ⟨v15, z14, hcq, hq⟩ := tw_cl1 hq
                refine tw_cali hM (va_runV (As := [.int 3]) (rest := []) ⟨hx, hb, hml, hown, hts⟩ (km_X13_fails l D q u hU K 3 z4 z14 v15 hcq) (cwV 1 hts (tw_gV wM_good wq_103 wq_104 wq_105 wq_61 wq_50) rfl rfl rfl cd_X13_fails ⟨(Nat.le_of_ble_eq_true rfl), (Nat.le_of_ble_eq_true rfl)⟩) (mw_preV hK hN hM mo_0 rfl) rfl rfl hl.1 rfl (lv_room (Nat.le_of_ble_eq_true rfl)) dmX13_product_68 ⟨(Nat.le_of_ble_eq_true rfl), (Nat.le_of_ble_eq_true rfl)⟩) (fun H locs hM => ?_)
                exact mw_iret hx hb hr hlocks hM hq hQQ dmX13_product_71
            · have hq := tw_if hq hc
              refine lv_aload_n hx hb dmX13_product_42 rfl (lv_at hl 0 rfl) ?_
              refine lv_iconst (v := 2) hx hb dmX13_product_43 (by decide) ?_
              obtain ⟨v17, z16, hcq, hq⟩ := tw_cl1 hq
              refine tw_cali hM (va_runV (As := [.int 2]) (rest := []) ⟨hx, hb, hml, hown, hts⟩ (km_X13_fails l D q u hU K 2 z4 z16 v17 hcq) (cwV 1 hts (tw_gV wM_good wq_103 wq_104 wq_105 wq_61 wq_50) rfl rfl rfl cd_X13_fails ⟨(Nat.le_of_ble_eq_true rfl), (Nat.le_of_ble_eq_true rfl)⟩) (mw_preV hK hN hM mo_0 rfl) rfl rfl hl.1 rfl (lv_room (Nat.le_of_ble_eq_true rfl)) dmX13_product_44 ⟨(Nat.le_of_ble_eq_true rfl), (Nat.le_of_ble_eq_true rfl)⟩) (fun H locs hM => ?_)
              exact mw_iret hx hb hr hlocks hM hq hQQ dmX13_product_47
          · have hq := tw_it hq hc
            exact ih_1 x1 x2 0 0 0 0 z4 H locs ls hM (lv_sub hl [0, 1, 2] rfl) hq
      · intro x1 x2 x3 x4 t0 t1 z H locs ls  hM hl hq
        have hq : qm_X13_product_1 K (q_X13_product K k) x1 x2 x3 x4 t0 t1 z = some (r, z1) := hq
        unfold qm_X13_product_1 at hq
        refine lv_aload_n hx hb dmX13_product_21 rfl (lv_at hl 0 rfl) ?_
        refine lv_iconst (v := 1) hx hb dmX13_product_22 (by decide) ?_
        obtain ⟨v19, z18, hcq, hq⟩ := tw_cl1 hq
        refine tw_cali hM (va_runV (As := [.int 1]) (rest := []) ⟨hx, hb, hml, hown, hts⟩ (km_X13_fails l D q u hU K 1 z z18 v19 hcq) (cwV 1 hts (tw_gV wM_good wq_103 wq_104 wq_105 wq_61 wq_50) rfl rfl rfl cd_X13_fails ⟨(Nat.le_of_ble_eq_true rfl), (Nat.le_of_ble_eq_true rfl)⟩) (mw_preV hK hN hM mo_0 rfl) rfl rfl hl.1 rfl (lv_room (Nat.le_of_ble_eq_true rfl)) dmX13_product_23 ⟨(Nat.le_of_ble_eq_true rfl), (Nat.le_of_ble_eq_true rfl)⟩) (fun H locs hM => ?_)
        exact mw_iret hx hb hr hlocks hM hq hQQ dmX13_product_26
      · intro x1 x2 x3 x4 t0 t1 z H locs ls  hM hl hq
        have hq : qm_X13_product_2 K (q_X13_product K k) x1 x2 x3 x4 t0 t1 z = some (r, z1) := hq
        unfold qm_X13_product_2 at hq
        refine lv_iload hx hb dmX13_product_91 (lv_at hl 4 rfl) ?_
        refine lv_aload_n hx hb dmX13_product_93 rfl (lv_at hl 0 rfl) ?_
        refine mg13_323 hx hb hT hown hK hM dmX13_product_94 ?_
        refine lv_iload_n hx hb dmX13_product_97 rfl (lv_at hl 1 rfl) ?_
        refine tw_iald mX_ok hx hb hK hM mr_95 hq dmX13_product_98 (fun v20 hq => ?_)
        refine lv_aload_n hx hb dmX13_product_99 rfl (lv_at hl 0 rfl) ?_
        refine mg13_323 hx hb hT hown hK hM dmX13_product_100 ?_
        refine lv_iload_n hx hb dmX13_product_103 rfl (lv_at hl 2 rfl) ?_
        refine tw_iald mX_ok hx hb hK hM mr_95 hq dmX13_product_104 (fun v21 hq => ?_)
        refine lv_iadd hx hb dmX13_product_105 ?_
        refine lv_icmp_ge (tgt := 172) hx hb dmX13_product_106 (by decide) (fun hc => ?_) (fun hc => ?_)
        · have hq := tw_it hq hc
          refine lv_aload_n hx hb dmX13_product_172 rfl (lv_at hl 0 rfl) ?_
          refine mg13_323 hx hb hT hown hK hM dmX13_product_173 ?_
          refine lv_iload_n hx hb dmX13_product_176 rfl (lv_at hl 3 rfl) ?_
          refine lv_aload_n hx hb dmX13_product_177 rfl (lv_at hl 0 rfl) ?_
          refine mg13_323 hx hb hT hown hK hM dmX13_product_178 ?_
          refine lv_iload_n hx hb dmX13_product_181 rfl (lv_at hl 1 rfl) ?_
          refine tw_iald mX_ok hx hb hK hM mr_95 hq dmX13_product_182 (fun v22 hq => ?_)
          refine lv_aload_n hx hb dmX13_product_183 rfl (lv_at hl 0 rfl) ?_
          refine mg13_323 hx hb hT hown hK hM dmX13_product_184 ?_
          refine lv_iload_n hx hb dmX13_product_187 rfl (lv_at hl 2 rfl) ?_
          refine tw_iald mX_ok hx hb hK hM mr_95 hq dmX13_product_188 (fun v23 hq => ?_)
          refine lv_iadd hx hb dmX13_product_189 ?_
          refine tw_iast mX_ok hU hx hb hK hM mr_95 hq dmX13_product_190 (fun z24 H locs hM hq => ?_)
          refine lv_aload_n hx hb dmX13_product_191 rfl (lv_at hl 0 rfl) ?_
          refine mg13_326 hx hb hT hown hK hM dmX13_product_192 ?_
          refine lv_iload_n hx hb dmX13_product_195 rfl (lv_at hl 3 rfl) ?_
          refine lv_aload_n hx hb dmX13_product_196 rfl (lv_at hl 0 rfl) ?_
          refine mg13_326 hx hb hT hown hK hM dmX13_product_197 ?_
          refine lv_iload_n hx hb dmX13_product_200 rfl (lv_at hl 1 rfl) ?_
          refine tw_iald mX_ok hx hb hK hM mr_96 hq dmX13_product_201 (fun v25 hq => ?_)
          refine tw_iast mX_ok hU hx hb hK hM mr_96 hq dmX13_product_202 (fun z26 H locs hM hq => ?_)
          refine lv_iload_n hx hb dmX13_product_203 rfl (lv_at hl 3 rfl) ?_
          exact mw_iret hx hb hr hlocks hM hq hQQ dmX13_product_204
        · have hq := tw_if hq hc
          refine lv_aload_n hx hb dmX13_product_109 rfl (lv_at hl 0 rfl) ?_
          refine mg13_320 hx hb hT hown hK hM dmX13_product_110 ?_
          refine lv_bipush (v := 16) hx hb dmX13_product_113 (by decide) ?_
          refine lv_iload_n hx hb dmX13_product_115 rfl (lv_at hl 3 rfl) ?_
          refine lv_imul hx hb dmX13_product_116 ?_
          refine lv_iload hx hb dmX13_product_117 (lv_at hl 4 rfl) ?_
          refine lv_iadd hx hb dmX13_product_119 ?_
          refine lv_iload hx hb dmX13_product_120 (lv_at hl 4 rfl) ?_
          refine lv_aload_n hx hb dmX13_product_122 rfl (lv_at hl 0 rfl) ?_
          refine mg13_323 hx hb hT hown hK hM dmX13_product_123 ?_
          refine lv_iload_n hx hb dmX13_product_126 rfl (lv_at hl 1 rfl) ?_
          refine tw_iald mX_ok hx hb hK hM mr_95 hq dmX13_product_127 (fun v27 hq => ?_)
          refine lv_icmp_ge (tgt := 146) hx hb dmX13_product_128 (by decide) (fun hc => ?_) (fun hc => ?_)
          · have hq := tw_it hq hc
            refine lv_aload_n hx hb dmX13_product_146 rfl (lv_at hl 0 rfl) ?_
            refine mg13_320 hx hb hT hown hK hM dmX13_product_147 ?_
            refine lv_bipush (v := 16) hx hb dmX13_product_150 (by decide) ?_
            refine lv_iload_n hx hb dmX13_product_152 rfl (lv_at hl 2 rfl) ?_
            refine lv_imul hx hb dmX13_product_153 ?_
            refine lv_iload hx hb dmX13_product_154 (lv_at hl 4 rfl) ?_
            refine lv_iadd hx hb dmX13_product_156 ?_
            refine lv_aload_n hx hb dmX13_product_157 rfl (lv_at hl 0 rfl) ?_
            refine mg13_323 hx hb hT hown hK hM dmX13_product_158 ?_
            refine lv_iload_n hx hb dmX13_product_161 rfl (lv_at hl 1 rfl) ?_
            refine tw_iald mX_ok hx hb hK hM mr_95 hq dmX13_product_162 (fun v28 hq => ?_)
            refine lv_isub hx hb dmX13_product_163 ?_
            refine tw_iald mX_ok hx hb hK hM mr_94 hq dmX13_product_164 (fun v29 hq => ?_)
            exact ih_3 x1 x2 x3 x4 v29 ((16 * x3) + x4) z H locs ls hM (lv_sub hl [0, 1, 2, 3, 4] rfl) hq
          · have hq := tw_if hq hc
            refine lv_aload_n hx hb dmX13_product_131 rfl (lv_at hl 0 rfl) ?_
            refine mg13_320 hx hb hT hown hK hM dmX13_product_132 ?_
            refine lv_bipush (v := 16) hx hb dmX13_product_135 (by decide) ?_
            refine lv_iload_n hx hb dmX13_product_137 rfl (lv_at hl 1 rfl) ?_
            refine lv_imul hx hb dmX13_product_138 ?_
            refine lv_iload hx hb dmX13_product_139 (lv_at hl 4 rfl) ?_
            refine lv_iadd hx hb dmX13_product_141 ?_
            refine tw_iald mX_ok hx hb hK hM mr_94 hq dmX13_product_142 (fun v30 hq => ?_)
            refine lv_goto (tgt := 165) hx hb dmX13_product_143 (by decide) ?_
            exact ih_3 x1 x2 x3 x4 v30 ((16 * x3) + x4) z H locs ls hM (lv_sub hl [0, 1, 2, 3, 4] rfl) hq
      · intro x1 x2 x3 x4 t0 t1 z H locs ls  hM hl hq
        have hq : qm_X13_product_3 K (q_X13_product K k) x1 x2 x3 x4 t0 t1 z = some (r, z1) := hq
        unfold qm_X13_product_3 at hq
        refine tw_iast mX_ok hU hx hb hK hM mr_94 hq dmX13_product_165 (fun z31 H locs hM hq => ?_)
        refine lv_iinc (v := (x4 + 1)) (lv' := [(4, .int (x4 + 1)), (0, .ref (u 0)), (1, .int x1), (2, .int x2), (3, .int x3)]) hx hb dmX13_product_166 hl (k := 4) rfl rfl (by decide) rfl (fun ls hl => ?_)
        refine lv_goto (tgt := 91) hx hb dmX13_product_169 (by decide) ?_
        exact ih_2 x1 x2 x3 (x4 + 1) 0 0 z31 H locs ls hM (lv_sub hl [1, 2, 3, 4, 0] rfl) hq
  exact (key K).1 x1 x2 0 0 0 0 z s.heap [] ls  hM (lv_sub hl [0, 1, 2] rfl) hq
theorem dmX13_inverse_0 : decode cX13_inverse 0 = .ok (.aload_n 0, 1) := dw_at cX13_inverse_k0 (p := 0) rfl (by decide +kernel)
theorem dmX13_inverse_1 : decode cX13_inverse 1 = .ok (.iconst 0, 1) := dw_at cX13_inverse_k0 (p := 1) rfl (by decide +kernel)
theorem dmX13_inverse_2 : decode cX13_inverse 2 = .ok (.putfield 1, 3) := dw_at cX13_inverse_k0 (p := 2) rfl (by decide +kernel)
theorem dmX13_inverse_5 : decode cX13_inverse 5 = .ok (.aload_n 0, 1) := dw_at cX13_inverse_k0 (p := 5) rfl (by decide +kernel)
theorem dmX13_inverse_6 : decode cX13_inverse 6 = .ok (.iload_n 1, 1) := dw_at cX13_inverse_k0 (p := 6) rfl (by decide +kernel)
theorem dmX13_inverse_7 : decode cX13_inverse 7 = .ok (.invokevirtual 739, 3) := dw_at cX13_inverse_k0 (p := 7) rfl (by decide +kernel)
theorem dmX13_inverse_10 : decode cX13_inverse 10 = .ok (.ifCond .ne 9, 3) := dw_at cX13_inverse_k0 (p := 10) rfl (by decide +kernel)
theorem dmX13_inverse_13 : decode cX13_inverse 13 = .ok (.aload_n 0, 1) := dw_at cX13_inverse_k0 (p := 13) rfl (by decide +kernel)
theorem dmX13_inverse_14 : decode cX13_inverse 14 = .ok (.iconst 1, 1) := dw_at cX13_inverse_k0 (p := 14) rfl (by decide +kernel)
theorem dmX13_inverse_15 : decode cX13_inverse 15 = .ok (.invokevirtual 403, 3) := dw_at cX13_inverse_k0 (p := 15) rfl (by decide +kernel)
theorem dmX13_inverse_18 : decode cX13_inverse 18 = .ok (.ireturn, 1) := dw_at cX13_inverse_k0 (p := 18) rfl (by decide +kernel)
theorem dmX13_inverse_19 : decode cX13_inverse 19 = .ok (.aload_n 0, 1) := dw_at cX13_inverse_k0 (p := 19) rfl (by decide +kernel)
theorem dmX13_inverse_20 : decode cX13_inverse 20 = .ok (.invokevirtual 736, 3) := dw_at cX13_inverse_k0 (p := 20) rfl (by decide +kernel)
theorem dmX13_inverse_23 : decode cX13_inverse 23 = .ok (.istore_n 2, 1) := dw_at cX13_inverse_k0 (p := 23) rfl (by decide +kernel)
theorem dmX13_inverse_24 : decode cX13_inverse 24 = .ok (.iload_n 2, 1) := dw_at cX13_inverse_k1 (p := 0) rfl (by decide +kernel)
theorem dmX13_inverse_25 : decode cX13_inverse 25 = .ok (.iconst (-1), 1) := dw_at cX13_inverse_k1 (p := 1) rfl (by decide +kernel)
theorem dmX13_inverse_26 : decode cX13_inverse 26 = .ok (.if_icmp .ne 9, 3) := dw_at cX13_inverse_k1 (p := 2) rfl (by decide +kernel)
theorem dmX13_inverse_29 : decode cX13_inverse 29 = .ok (.aload_n 0, 1) := dw_at cX13_inverse_k1 (p := 5) rfl (by decide +kernel)
theorem dmX13_inverse_30 : decode cX13_inverse 30 = .ok (.iconst 2, 1) := dw_at cX13_inverse_k1 (p := 6) rfl (by decide +kernel)
theorem dmX13_inverse_31 : decode cX13_inverse 31 = .ok (.invokevirtual 403, 3) := dw_at cX13_inverse_k1 (p := 7) rfl (by decide +kernel)
theorem dmX13_inverse_34 : decode cX13_inverse 34 = .ok (.ireturn, 1) := dw_at cX13_inverse_k1 (p := 10) rfl (by decide +kernel)
theorem dmX13_inverse_35 : decode cX13_inverse 35 = .ok (.iconst 0, 1) := dw_at cX13_inverse_k1 (p := 11) rfl (by decide +kernel)
theorem dmX13_inverse_36 : decode cX13_inverse 36 = .ok (.istore_n 3, 1) := dw_at cX13_inverse_k1 (p := 12) rfl (by decide +kernel)
theorem dmX13_inverse_37 : decode cX13_inverse 37 = .ok (.iload_n 3, 1) := dw_at cX13_inverse_k1 (p := 13) rfl (by decide +kernel)
theorem dmX13_inverse_38 : decode cX13_inverse 38 = .ok (.aload_n 0, 1) := dw_at cX13_inverse_k1 (p := 14) rfl (by decide +kernel)
theorem dmX13_inverse_39 : decode cX13_inverse 39 = .ok (.getfield 323, 3) := dw_at cX13_inverse_k1 (p := 15) rfl (by decide +kernel)
theorem dmX13_inverse_42 : decode cX13_inverse 42 = .ok (.iload_n 1, 1) := dw_at cX13_inverse_k1 (p := 18) rfl (by decide +kernel)
theorem dmX13_inverse_43 : decode cX13_inverse 43 = .ok (.iaload, 1) := dw_at cX13_inverse_k1 (p := 19) rfl (by decide +kernel)
theorem dmX13_inverse_44 : decode cX13_inverse 44 = .ok (.if_icmp .ge 42, 3) := dw_at cX13_inverse_k1 (p := 20) rfl (by decide +kernel)
theorem dmX13_inverse_47 : decode cX13_inverse 47 = .ok (.aload_n 0, 1) := dw_at cX13_inverse_k1 (p := 23) rfl (by decide +kernel)
theorem dmX13_inverse_48 : decode cX13_inverse 48 = .ok (.getfield 320, 3) := dw_at cX13_inverse_k2 (p := 0) rfl (by decide +kernel)
theorem dmX13_inverse_51 : decode cX13_inverse 51 = .ok (.bipush 16, 2) := dw_at cX13_inverse_k2 (p := 3) rfl (by decide +kernel)
theorem dmX13_inverse_53 : decode cX13_inverse 53 = .ok (.iload_n 2, 1) := dw_at cX13_inverse_k2 (p := 5) rfl (by decide +kernel)
theorem dmX13_inverse_54 : decode cX13_inverse 54 = .ok (.imul, 1) := dw_at cX13_inverse_k2 (p := 6) rfl (by decide +kernel)
theorem dmX13_inverse_55 : decode cX13_inverse 55 = .ok (.iload_n 3, 1) := dw_at cX13_inverse_k2 (p := 7) rfl (by decide +kernel)
theorem dmX13_inverse_56 : decode cX13_inverse 56 = .ok (.iadd, 1) := dw_at cX13_inverse_k2 (p := 8) rfl (by decide +kernel)
theorem dmX13_inverse_57 : decode cX13_inverse 57 = .ok (.iconst 0, 1) := dw_at cX13_inverse_k2 (p := 9) rfl (by decide +kernel)
theorem dmX13_inverse_58 : decode cX13_inverse 58 = .ok (.aload_n 0, 1) := dw_at cX13_inverse_k2 (p := 10) rfl (by decide +kernel)
theorem dmX13_inverse_59 : decode cX13_inverse 59 = .ok (.getfield 320, 3) := dw_at cX13_inverse_k2 (p := 11) rfl (by decide +kernel)
theorem dmX13_inverse_62 : decode cX13_inverse 62 = .ok (.bipush 16, 2) := dw_at cX13_inverse_k2 (p := 14) rfl (by decide +kernel)
theorem dmX13_inverse_64 : decode cX13_inverse 64 = .ok (.iload_n 1, 1) := dw_at cX13_inverse_k2 (p := 16) rfl (by decide +kernel)
theorem dmX13_inverse_65 : decode cX13_inverse 65 = .ok (.imul, 1) := dw_at cX13_inverse_k2 (p := 17) rfl (by decide +kernel)
theorem dmX13_inverse_66 : decode cX13_inverse 66 = .ok (.aload_n 0, 1) := dw_at cX13_inverse_k2 (p := 18) rfl (by decide +kernel)
theorem dmX13_inverse_67 : decode cX13_inverse 67 = .ok (.getfield 323, 3) := dw_at cX13_inverse_k2 (p := 19) rfl (by decide +kernel)
theorem dmX13_inverse_70 : decode cX13_inverse 70 = .ok (.iload_n 1, 1) := dw_at cX13_inverse_k2 (p := 22) rfl (by decide +kernel)
theorem dmX13_inverse_71 : decode cX13_inverse 71 = .ok (.iaload, 1) := dw_at cX13_inverse_k2 (p := 23) rfl (by decide +kernel)
theorem dmX13_inverse_72 : decode cX13_inverse 72 = .ok (.iadd, 1) := dw_at cX13_inverse_k3 (p := 0) rfl (by decide +kernel)
theorem dmX13_inverse_73 : decode cX13_inverse 73 = .ok (.iconst 1, 1) := dw_at cX13_inverse_k3 (p := 1) rfl (by decide +kernel)
theorem dmX13_inverse_74 : decode cX13_inverse 74 = .ok (.isub, 1) := dw_at cX13_inverse_k3 (p := 2) rfl (by decide +kernel)
theorem dmX13_inverse_75 : decode cX13_inverse 75 = .ok (.iload_n 3, 1) := dw_at cX13_inverse_k3 (p := 3) rfl (by decide +kernel)
theorem dmX13_inverse_76 : decode cX13_inverse 76 = .ok (.isub, 1) := dw_at cX13_inverse_k3 (p := 4) rfl (by decide +kernel)
theorem dmX13_inverse_77 : decode cX13_inverse 77 = .ok (.iaload, 1) := dw_at cX13_inverse_k3 (p := 5) rfl (by decide +kernel)
theorem dmX13_inverse_78 : decode cX13_inverse 78 = .ok (.isub, 1) := dw_at cX13_inverse_k3 (p := 6) rfl (by decide +kernel)
theorem dmX13_inverse_79 : decode cX13_inverse 79 = .ok (.iastore, 1) := dw_at cX13_inverse_k3 (p := 7) rfl (by decide +kernel)
theorem dmX13_inverse_80 : decode cX13_inverse 80 = .ok (.iinc 3 1, 3) := dw_at cX13_inverse_k3 (p := 8) rfl (by decide +kernel)
theorem dmX13_inverse_83 : decode cX13_inverse 83 = .ok (.goto (-46), 3) := dw_at cX13_inverse_k3 (p := 11) rfl (by decide +kernel)
theorem dmX13_inverse_86 : decode cX13_inverse 86 = .ok (.aload_n 0, 1) := dw_at cX13_inverse_k3 (p := 14) rfl (by decide +kernel)
theorem dmX13_inverse_87 : decode cX13_inverse 87 = .ok (.getfield 323, 3) := dw_at cX13_inverse_k3 (p := 15) rfl (by decide +kernel)
theorem dmX13_inverse_90 : decode cX13_inverse 90 = .ok (.iload_n 2, 1) := dw_at cX13_inverse_k3 (p := 18) rfl (by decide +kernel)
theorem dmX13_inverse_91 : decode cX13_inverse 91 = .ok (.aload_n 0, 1) := dw_at cX13_inverse_k3 (p := 19) rfl (by decide +kernel)
theorem dmX13_inverse_92 : decode cX13_inverse 92 = .ok (.getfield 323, 3) := dw_at cX13_inverse_k3 (p := 20) rfl (by decide +kernel)
theorem dmX13_inverse_95 : decode cX13_inverse 95 = .ok (.iload_n 1, 1) := dw_at cX13_inverse_k3 (p := 23) rfl (by decide +kernel)
theorem dmX13_inverse_96 : decode cX13_inverse 96 = .ok (.iaload, 1) := dw_at cX13_inverse_k4 (p := 0) rfl (by decide +kernel)
theorem dmX13_inverse_97 : decode cX13_inverse 97 = .ok (.iastore, 1) := dw_at cX13_inverse_k4 (p := 1) rfl (by decide +kernel)
theorem dmX13_inverse_98 : decode cX13_inverse 98 = .ok (.aload_n 0, 1) := dw_at cX13_inverse_k4 (p := 2) rfl (by decide +kernel)
theorem dmX13_inverse_99 : decode cX13_inverse 99 = .ok (.getfield 326, 3) := dw_at cX13_inverse_k4 (p := 3) rfl (by decide +kernel)
theorem dmX13_inverse_102 : decode cX13_inverse 102 = .ok (.iload_n 2, 1) := dw_at cX13_inverse_k4 (p := 6) rfl (by decide +kernel)
theorem dmX13_inverse_103 : decode cX13_inverse 103 = .ok (.aload_n 0, 1) := dw_at cX13_inverse_k4 (p := 7) rfl (by decide +kernel)
theorem dmX13_inverse_104 : decode cX13_inverse 104 = .ok (.getfield 326, 3) := dw_at cX13_inverse_k4 (p := 8) rfl (by decide +kernel)
theorem dmX13_inverse_107 : decode cX13_inverse 107 = .ok (.iload_n 1, 1) := dw_at cX13_inverse_k4 (p := 11) rfl (by decide +kernel)
theorem dmX13_inverse_108 : decode cX13_inverse 108 = .ok (.iaload, 1) := dw_at cX13_inverse_k4 (p := 12) rfl (by decide +kernel)
theorem dmX13_inverse_109 : decode cX13_inverse 109 = .ok (.iastore, 1) := dw_at cX13_inverse_k4 (p := 13) rfl (by decide +kernel)
theorem dmX13_inverse_110 : decode cX13_inverse 110 = .ok (.iload_n 2, 1) := dw_at cX13_inverse_k4 (p := 14) rfl (by decide +kernel)
theorem dmX13_inverse_111 : decode cX13_inverse 111 = .ok (.ireturn, 1) := dw_at cX13_inverse_k4 (p := 15) rfl (by decide +kernel)
def qm_X13_inverse_0 (K : Nat) (go : Nat → Int32 → Int32 → Int32 → ow_MS → Option (Int32 × ow_MS)) (x1 : Int32) (x2 : Int32) (x3 : Int32) (z : ow_MS) : Option (Int32 × ow_MS) :=
 wrF z 1 0 fun z1 => cs1 (qe_X13_hasBraid K x1 z1) fun v3 z2 => (if v3 = 0 then cs1 (qe_X13_fails K 1 z2) fun v9 z8 => some (v9, z8)
 else cs1 (qe_X13_freeBraid K z2) fun v5 z4 => (if v5 = (-1) then cs1 (qe_X13_fails K 2 z4) fun v7 z6 => some (v7, z6)
 else go 1 x1 v5 0 z4))
def qm_X13_inverse_1 (K : Nat) (go : Nat → Int32 → Int32 → Int32 → ow_MS → Option (Int32 × ow_MS)) (x1 : Int32) (x2 : Int32) (x3 : Int32) (z : ow_MS) : Option (Int32 × ow_MS) :=
 rdI mX z 95 x1 fun v10 => (if v10 ≤ x3 then rdI mX z 95 x1 fun v11 => wrI mX z 95 x2 v11 fun z12 => rdI mX z12 96 x1 fun v13 => wrI mX z12 96 x2 v13 fun z14 => some (x2, z14)
 else rdI mX z 95 x1 fun v15 => rdI mX z 94 ((((16 * x1) + v15) - 1) - x3) fun v16 => wrI mX z 94 ((16 * x2) + x3) (0 - v16) fun z17 => go 1 x1 x2 (x3 + 1) z17)
def qb_X13_inverse (K : Nat) (go : Nat → Int32 → Int32 → Int32 → ow_MS → Option (Int32 × ow_MS)) (L : Nat) (x1 : Int32) (x2 : Int32) (x3 : Int32) (z : ow_MS) : Option (Int32 × ow_MS) := match L with
  | 0 => qm_X13_inverse_0 K go x1 x2 x3 z
  | 1 => qm_X13_inverse_1 K go x1 x2 x3 z
  | _ => none
def q_X13_inverse (K : Nat) : Nat → Nat → Int32 → Int32 → Int32 → ow_MS → Option (Int32 × ow_MS)
  | 0 => fun _ _ _ _ _ => none
  | k + 1 => qb_X13_inverse K (q_X13_inverse K k)
def qe_X13_inverse (K : Nat) (x1 : Int32) (z : ow_MS) : Option (Int32 × ow_MS) := q_X13_inverse K K 0 x1 0 0 z
abbrev wm_X13_inverse : List Cond := .code yX13_inverse cX13_inverse 4 (some .int) :: wM
theorem cd_X13_inverse : yX13_inverse.cls = RX13 ∧ yX13_inverse.cls ≠ "java/lang/invoke/MethodHandle" ∧ yX13_inverse.cls ≠ "java/lang/invoke/VarHandle" ∧ (parseMethodDescriptor yX13_inverse.desc).map (fun d => d.parameters.length) = some 1 := by decide +kernel
set_option maxHeartbeats 4000000 in
set_option maxRecDepth 100000 in
theorem km_X13_inverse (l : Launch) (D : va_G) (q : ow_Q5) (u : Nat → Nat) (hU : tw_inj mX u) (K : Nat) (x1 : Int32)  (z z1 : ow_MS) (r : Int32) (hq : qe_X13_inverse K x1 z = some (r, z1)) : Met l yX13_inverse wm_X13_inverse ({ frames := 1, cells := 0, slots := 0, locals := 21 } : Room) (va_Pc [.ref (u 0), .int x1] (mw_pre D q u z)) (va_Qi (fun x (_ : Unit) => x = r) (fun _ t => va_P D vwCl (tw mX q u z1) t.heap) (tw_A mX u)) 0 0 (tw_A mX u) := by
  refine Met.ofW (cc := cX13_inverse) (maxL := 4) (ret := (some .int)) (by decide) rfl ?_
  intro p e s m args below meth c s₁ B hml hv
  obtain ⟨rfl, hP, hK, hN⟩ := hv
  have hx := B.exec
  have hb := B.bytes
  have hr := B.returns
  have hts := atoms_spec (ws := wm_X13_inverse) B.pre
  have hT : ∀ w ∈ wM, w.before ([.ref (u 0), .int x1] : List Value).toArray s = true := fun w h => hts w (List.mem_cons_of_mem _ h)
  have hown : s.vm.findClass RX13 = some m.cls := findClass_of_methodNamed B.named
  have hlocks := B.notSynchronized
  have hM : tw_M D vwCl mX q s.heap u z s.heap [] := ⟨hP, va_S.rf⟩
  have hl := lv_entry ([.ref (u 0), .int x1]) (n := 4) (Nat.le_of_ble_eq_true rfl)
  rw [lg_entry_eq]
  generalize (lg_sl ([.ref (u 0), .int x1]) ++ List.replicate (4 - (lg_sl ([.ref (u 0), .int x1])).length) Slot.unset).toArray = ls at hl ⊢
  have hl : lv_has ls 4 [(0, .ref (u 0)), (1, .int x1)] := hl
  refine ow_named (fun QQ hQQ => ?_)
  generalize ([.ref (u 0), .int x1] : List Value).toArray = args at hts hT hQQ ⊢
  have key : ∀ k : Nat, (∀ (x1 : Int32) (x2 : Int32) (x3 : Int32) (z : ow_MS) (H : Heap) (locs : List Loc) (ls : Array Slot), tw_M D vwCl mX q s.heap u z H locs → lv_has ls 4 [(0, .ref (u 0)), (1, .int x1)] → q_X13_inverse K k 0 x1 x2 x3 z = some (r, z1) → W p l e ({ frames := 1, cells := 0, slots := 0, locals := 21 } : Room) s m args below meth c H locs 0 0 QQ (F0 m 0 ls [])) ∧ (∀ (x1 : Int32) (x2 : Int32) (x3 : Int32) (z : ow_MS) (H : Heap) (locs : List Loc) (ls : Array Slot), tw_M D vwCl mX q s.heap u z H locs → lv_has ls 4 [(0, .ref (u 0)), (1, .int x1), (2, .int x2), (3, .int x3)] → q_X13_inverse K k 1 x1 x2 x3 z = some (r, z1) → W p l e ({ frames := 1, cells := 0, slots := 0, locals := 21 } : Room) s m args below meth c H locs 0 0 QQ (F0 m 37 ls [])) := by
    intro k
    induction k with
    | zero => exact ⟨fun _ _ _ _ _ _ _  _ _ hq => tw_no hq, fun _ _ _ _ _ _ _  _ _ hq => tw_no hq⟩
    | succ k ih =>
      obtain ⟨ih_0, ih_1⟩ := ih
      refine ⟨?_, ?_⟩
      · intro x1 x2 x3 z H locs ls  hM hl hq
        have hq : qm_X13_inverse_0 K (q_X13_inverse K k) x1 x2 x3 z = some (r, z1) := hq
        unfold qm_X13_inverse_0 at hq
        refine lv_aload_n hx hb dmX13_inverse_0 rfl (lv_at hl 0 rfl) ?_
        refine lv_iconst (v := 0) hx hb dmX13_inverse_1 (by decide) ?_
        refine mp13_1 hx hb hT hown hK hM hU hq dmX13_inverse_2 (fun z1 H locs hM hq => ?_)
        refine lv_aload_n hx hb dmX13_inverse_5 rfl (lv_at hl 0 rfl) ?_
        refine lv_iload_n hx hb dmX13_inverse_6 rfl (lv_at hl 1 rfl) ?_
        obtain ⟨v3, z2, hcq, hq⟩ := tw_cl1 hq
        refine tw_cali hM (va_runV (As := [.int x1]) (rest := []) ⟨hx, hb, hml, hown, hts⟩ (km_X13_hasBraid l D q u hU K x1 z1 z2 v3 hcq) (cwV 1 hts (tw_gV wM_good wq_490 wq_491 wq_492 wq_61 wq_482) rfl rfl rfl cd_X13_hasBraid ⟨(Nat.le_of_ble_eq_true rfl), (Nat.le_of_ble_eq_true rfl)⟩) (mw_preV hK hN hM mo_0 rfl) rfl rfl hl.1 rfl (lv_room (Nat.le_of_ble_eq_true rfl)) dmX13_inverse_7 ⟨(Nat.le_of_ble_eq_true rfl), (Nat.le_of_ble_eq_true rfl)⟩) (fun H locs hM => ?_)
        refine lv_if_ne (tgt := 19) hx hb dmX13_inverse_10 (by decide) (fun hc => ?_) (fun hc => ?_)
        · have hq := tw_if hq hc
          refine lv_aload_n hx hb dmX13_inverse_19 rfl (lv_at hl 0 rfl) ?_
          obtain ⟨v5, z4, hcq, hq⟩ := tw_cl1 hq
          refine tw_cali hM (va_runV (As := []) (rest := []) ⟨hx, hb, hml, hown, hts⟩ (km_X13_freeBraid l D q u hU K z2 z4 v5 hcq) (cwV 0 hts (tw_gV wM_good wq_486 wq_487 wq_488 wq_61 wq_483) rfl rfl rfl cd_X13_freeBraid ⟨(Nat.le_of_ble_eq_true rfl), (Nat.le_of_ble_eq_true rfl)⟩) (mw_preV hK hN hM mo_0 rfl) rfl rfl hl.1 rfl (lv_room (Nat.le_of_ble_eq_true rfl)) dmX13_inverse_20 ⟨(Nat.le_of_ble_eq_true rfl), (Nat.le_of_ble_eq_true rfl)⟩) (fun H locs hM => ?_)
          refine lv_istore_n (lv' := [(2, .int v5), (0, .ref (u 0)), (1, .int x1)]) hx hb dmX13_inverse_23 rfl hl (by decide) rfl (fun ls hl => ?_)
          refine lv_iload_n hx hb dmX13_inverse_24 rfl (lv_at hl 0 rfl) ?_
          refine lv_iconst (v := (-1)) hx hb dmX13_inverse_25 (by decide) ?_
          refine lv_icmp_ne (tgt := 35) hx hb dmX13_inverse_26 (by decide) (fun hc => ?_) (fun hc => ?_)
          · have hq := tw_if hq hc
            refine lv_iconst (v := 0) hx hb dmX13_inverse_35 (by decide) ?_
            refine lv_istore_n (lv' := [(3, .int 0), (2, .int v5), (0, .ref (u 0)), (1, .int x1)]) hx hb dmX13_inverse_36 rfl hl (by decide) rfl (fun ls hl => ?_)
            exact ih_1 x1 v5 0 z4 H locs ls hM (lv_sub hl [2, 3, 1, 0] rfl) hq
          · have hq := tw_it hq hc
            refine lv_aload_n hx hb dmX13_inverse_29 rfl (lv_at hl 1 rfl) ?_
            refine lv_iconst (v := 2) hx hb dmX13_inverse_30 (by decide) ?_
            obtain ⟨v7, z6, hcq, hq⟩ := tw_cl1 hq
            refine tw_cali hM (va_runV (As := [.int 2]) (rest := []) ⟨hx, hb, hml, hown, hts⟩ (km_X13_fails l D q u hU K 2 z4 z6 v7 hcq) (cwV 1 hts (tw_gV wM_good wq_103 wq_104 wq_105 wq_61 wq_50) rfl rfl rfl cd_X13_fails ⟨(Nat.le_of_ble_eq_true rfl), (Nat.le_of_ble_eq_true rfl)⟩) (mw_preV hK hN hM mo_0 rfl) rfl rfl hl.1 rfl (lv_room (Nat.le_of_ble_eq_true rfl)) dmX13_inverse_31 ⟨(Nat.le_of_ble_eq_true rfl), (Nat.le_of_ble_eq_true rfl)⟩) (fun H locs hM => ?_)
            exact mw_iret hx hb hr hlocks hM hq hQQ dmX13_inverse_34
        · have hq := tw_it hq hc
          refine lv_aload_n hx hb dmX13_inverse_13 rfl (lv_at hl 0 rfl) ?_
          refine lv_iconst (v := 1) hx hb dmX13_inverse_14 (by decide) ?_
          obtain ⟨v9, z8, hcq, hq⟩ := tw_cl1 hq
          refine tw_cali hM (va_runV (As := [.int 1]) (rest := []) ⟨hx, hb, hml, hown, hts⟩ (km_X13_fails l D q u hU K 1 z2 z8 v9 hcq) (cwV 1 hts (tw_gV wM_good wq_103 wq_104 wq_105 wq_61 wq_50) rfl rfl rfl cd_X13_fails ⟨(Nat.le_of_ble_eq_true rfl), (Nat.le_of_ble_eq_true rfl)⟩) (mw_preV hK hN hM mo_0 rfl) rfl rfl hl.1 rfl (lv_room (Nat.le_of_ble_eq_true rfl)) dmX13_inverse_15 ⟨(Nat.le_of_ble_eq_true rfl), (Nat.le_of_ble_eq_true rfl)⟩) (fun H locs hM => ?_)
          exact mw_iret hx hb hr hlocks hM hq hQQ dmX13_inverse_18
      · intro x1 x2 x3 z H locs ls  hM hl hq
        have hq : qm_X13_inverse_1 K (q_X13_inverse K k) x1 x2 x3 z = some (r, z1) := hq
        unfold qm_X13_inverse_1 at hq
        refine lv_iload_n hx hb dmX13_inverse_37 rfl (lv_at hl 3 rfl) ?_
        refine lv_aload_n hx hb dmX13_inverse_38 rfl (lv_at hl 0 rfl) ?_
        refine mg13_323 hx hb hT hown hK hM dmX13_inverse_39 ?_
        refine lv_iload_n hx hb dmX13_inverse_42 rfl (lv_at hl 1 rfl) ?_
        refine tw_iald mX_ok hx hb hK hM mr_95 hq dmX13_inverse_43 (fun v10 hq => ?_)
        refine lv_icmp_ge (tgt := 86) hx hb dmX13_inverse_44 (by decide) (fun hc => ?_) (fun hc => ?_)
        · have hq := tw_it hq hc
          refine lv_aload_n hx hb dmX13_inverse_86 rfl (lv_at hl 0 rfl) ?_
          refine mg13_323 hx hb hT hown hK hM dmX13_inverse_87 ?_
          refine lv_iload_n hx hb dmX13_inverse_90 rfl (lv_at hl 2 rfl) ?_
          refine lv_aload_n hx hb dmX13_inverse_91 rfl (lv_at hl 0 rfl) ?_
          refine mg13_323 hx hb hT hown hK hM dmX13_inverse_92 ?_
          refine lv_iload_n hx hb dmX13_inverse_95 rfl (lv_at hl 1 rfl) ?_
          refine tw_iald mX_ok hx hb hK hM mr_95 hq dmX13_inverse_96 (fun v11 hq => ?_)
          refine tw_iast mX_ok hU hx hb hK hM mr_95 hq dmX13_inverse_97 (fun z12 H locs hM hq => ?_)
          refine lv_aload_n hx hb dmX13_inverse_98 rfl (lv_at hl 0 rfl) ?_
          refine mg13_326 hx hb hT hown hK hM dmX13_inverse_99 ?_
          refine lv_iload_n hx hb dmX13_inverse_102 rfl (lv_at hl 2 rfl) ?_
          refine lv_aload_n hx hb dmX13_inverse_103 rfl (lv_at hl 0 rfl) ?_
          refine mg13_326 hx hb hT hown hK hM dmX13_inverse_104 ?_
          refine lv_iload_n hx hb dmX13_inverse_107 rfl (lv_at hl 1 rfl) ?_
          refine tw_iald mX_ok hx hb hK hM mr_96 hq dmX13_inverse_108 (fun v13 hq => ?_)
          refine tw_iast mX_ok hU hx hb hK hM mr_96 hq dmX13_inverse_109 (fun z14 H locs hM hq => ?_)
          refine lv_iload_n hx hb dmX13_inverse_110 rfl (lv_at hl 2 rfl) ?_
          exact mw_iret hx hb hr hlocks hM hq hQQ dmX13_inverse_111
        · have hq := tw_if hq hc
          refine lv_aload_n hx hb dmX13_inverse_47 rfl (lv_at hl 0 rfl) ?_
          refine mg13_320 hx hb hT hown hK hM dmX13_inverse_48 ?_
          refine lv_bipush (v := 16) hx hb dmX13_inverse_51 (by decide) ?_
          refine lv_iload_n hx hb dmX13_inverse_53 rfl (lv_at hl 2 rfl) ?_
          refine lv_imul hx hb dmX13_inverse_54 ?_
          refine lv_iload_n hx hb dmX13_inverse_55 rfl (lv_at hl 3 rfl) ?_
          refine lv_iadd hx hb dmX13_inverse_56 ?_
          refine lv_iconst (v := 0) hx hb dmX13_inverse_57 (by decide) ?_
          refine lv_aload_n hx hb dmX13_inverse_58 rfl (lv_at hl 0 rfl) ?_
          refine mg13_320 hx hb hT hown hK hM dmX13_inverse_59 ?_
          refine lv_bipush (v := 16) hx hb dmX13_inverse_62 (by decide) ?_
          refine lv_iload_n hx hb dmX13_inverse_64 rfl (lv_at hl 1 rfl) ?_
          refine lv_imul hx hb dmX13_inverse_65 ?_
          refine lv_aload_n hx hb dmX13_inverse_66 rfl (lv_at hl 0 rfl) ?_
          refine mg13_323 hx hb hT hown hK hM dmX13_inverse_67 ?_
          refine lv_iload_n hx hb dmX13_inverse_70 rfl (lv_at hl 1 rfl) ?_
          refine tw_iald mX_ok hx hb hK hM mr_95 hq dmX13_inverse_71 (fun v15 hq => ?_)
          refine lv_iadd hx hb dmX13_inverse_72 ?_
          refine lv_iconst (v := 1) hx hb dmX13_inverse_73 (by decide) ?_
          refine lv_isub hx hb dmX13_inverse_74 ?_
          refine lv_iload_n hx hb dmX13_inverse_75 rfl (lv_at hl 3 rfl) ?_
          refine lv_isub hx hb dmX13_inverse_76 ?_
          refine tw_iald mX_ok hx hb hK hM mr_94 hq dmX13_inverse_77 (fun v16 hq => ?_)
          refine lv_isub hx hb dmX13_inverse_78 ?_
          refine tw_iast mX_ok hU hx hb hK hM mr_94 hq dmX13_inverse_79 (fun z17 H locs hM hq => ?_)
          refine lv_iinc (v := (x3 + 1)) (lv' := [(3, .int (x3 + 1)), (0, .ref (u 0)), (1, .int x1), (2, .int x2)]) hx hb dmX13_inverse_80 hl (k := 3) rfl rfl (by decide) rfl (fun ls hl => ?_)
          refine lv_goto (tgt := 37) hx hb dmX13_inverse_83 (by decide) ?_
          exact ih_1 x1 x2 (x3 + 1) z17 H locs ls hM (lv_sub hl [1, 2, 3, 0] rfl) hq
  exact (key K).1 x1 0 0 z s.heap [] ls  hM (lv_sub hl [0, 1] rfl) hq
theorem dmX13_append_0 : decode cX13_append 0 = .ok (.bipush 120, 2) := dw_at cX13_append_k0 (p := 0) rfl (by decide +kernel)
theorem dmX13_append_2 : decode cX13_append 2 = .ok (.iload_n 1, 1) := dw_at cX13_append_k0 (p := 2) rfl (by decide +kernel)
theorem dmX13_append_3 : decode cX13_append 3 = .ok (.imul, 1) := dw_at cX13_append_k0 (p := 3) rfl (by decide +kernel)
theorem dmX13_append_4 : decode cX13_append 4 = .ok (.iload_n 2, 1) := dw_at cX13_append_k0 (p := 4) rfl (by decide +kernel)
theorem dmX13_append_5 : decode cX13_append 5 = .ok (.iadd, 1) := dw_at cX13_append_k0 (p := 5) rfl (by decide +kernel)
theorem dmX13_append_6 : decode cX13_append 6 = .ok (.istore_n 3, 1) := dw_at cX13_append_k0 (p := 6) rfl (by decide +kernel)
theorem dmX13_append_7 : decode cX13_append 7 = .ok (.iconst 0, 1) := dw_at cX13_append_k0 (p := 7) rfl (by decide +kernel)
theorem dmX13_append_8 : decode cX13_append 8 = .ok (.istore 4, 2) := dw_at cX13_append_k0 (p := 8) rfl (by decide +kernel)
theorem dmX13_append_10 : decode cX13_append 10 = .ok (.iload 4, 2) := dw_at cX13_append_k0 (p := 10) rfl (by decide +kernel)
theorem dmX13_append_12 : decode cX13_append 12 = .ok (.aload_n 0, 1) := dw_at cX13_append_k0 (p := 12) rfl (by decide +kernel)
theorem dmX13_append_13 : decode cX13_append 13 = .ok (.getfield 338, 3) := dw_at cX13_append_k0 (p := 13) rfl (by decide +kernel)
theorem dmX13_append_16 : decode cX13_append 16 = .ok (.iload_n 3, 1) := dw_at cX13_append_k0 (p := 16) rfl (by decide +kernel)
theorem dmX13_append_17 : decode cX13_append 17 = .ok (.iaload, 1) := dw_at cX13_append_k0 (p := 17) rfl (by decide +kernel)
theorem dmX13_append_18 : decode cX13_append 18 = .ok (.if_icmp .ge 40, 3) := dw_at cX13_append_k0 (p := 18) rfl (by decide +kernel)
theorem dmX13_append_21 : decode cX13_append 21 = .ok (.aload_n 0, 1) := dw_at cX13_append_k0 (p := 21) rfl (by decide +kernel)
theorem dmX13_append_22 : decode cX13_append 22 = .ok (.getfield 362, 3) := dw_at cX13_append_k0 (p := 22) rfl (by decide +kernel)
theorem dmX13_append_25 : decode cX13_append 25 = .ok (.aload_n 0, 1) := dw_at cX13_append_k1 (p := 0) rfl (by decide +kernel)
theorem dmX13_append_26 : decode cX13_append 26 = .ok (.getfield 742, 3) := dw_at cX13_append_k1 (p := 1) rfl (by decide +kernel)
theorem dmX13_append_29 : decode cX13_append 29 = .ok (.aload_n 0, 1) := dw_at cX13_append_k1 (p := 4) rfl (by decide +kernel)
theorem dmX13_append_30 : decode cX13_append 30 = .ok (.getfield 335, 3) := dw_at cX13_append_k1 (p := 5) rfl (by decide +kernel)
theorem dmX13_append_33 : decode cX13_append 33 = .ok (.bipush 10, 2) := dw_at cX13_append_k1 (p := 8) rfl (by decide +kernel)
theorem dmX13_append_35 : decode cX13_append 35 = .ok (.iload_n 3, 1) := dw_at cX13_append_k1 (p := 10) rfl (by decide +kernel)
theorem dmX13_append_36 : decode cX13_append 36 = .ok (.imul, 1) := dw_at cX13_append_k1 (p := 11) rfl (by decide +kernel)
theorem dmX13_append_37 : decode cX13_append 37 = .ok (.iload 4, 2) := dw_at cX13_append_k1 (p := 12) rfl (by decide +kernel)
theorem dmX13_append_39 : decode cX13_append 39 = .ok (.iadd, 1) := dw_at cX13_append_k1 (p := 14) rfl (by decide +kernel)
theorem dmX13_append_40 : decode cX13_append 40 = .ok (.iaload, 1) := dw_at cX13_append_k1 (p := 15) rfl (by decide +kernel)
theorem dmX13_append_41 : decode cX13_append 41 = .ok (.iastore, 1) := dw_at cX13_append_k1 (p := 16) rfl (by decide +kernel)
theorem dmX13_append_42 : decode cX13_append 42 = .ok (.aload_n 0, 1) := dw_at cX13_append_k1 (p := 17) rfl (by decide +kernel)
theorem dmX13_append_43 : decode cX13_append 43 = .ok (.dup, 1) := dw_at cX13_append_k1 (p := 18) rfl (by decide +kernel)
theorem dmX13_append_44 : decode cX13_append 44 = .ok (.getfield 742, 3) := dw_at cX13_append_k1 (p := 19) rfl (by decide +kernel)
theorem dmX13_append_47 : decode cX13_append 47 = .ok (.iconst 1, 1) := dw_at cX13_append_k1 (p := 22) rfl (by decide +kernel)
theorem dmX13_append_48 : decode cX13_append 48 = .ok (.iadd, 1) := dw_at cX13_append_k1 (p := 23) rfl (by decide +kernel)
theorem dmX13_append_49 : decode cX13_append 49 = .ok (.putfield 742, 3) := dw_at cX13_append_k2 (p := 0) rfl (by decide +kernel)
theorem dmX13_append_52 : decode cX13_append 52 = .ok (.iinc 4 1, 3) := dw_at cX13_append_k2 (p := 3) rfl (by decide +kernel)
theorem dmX13_append_55 : decode cX13_append 55 = .ok (.goto (-45), 3) := dw_at cX13_append_k2 (p := 6) rfl (by decide +kernel)
theorem dmX13_append_58 : decode cX13_append 58 = .ok (.return_, 1) := dw_at cX13_append_k2 (p := 9) rfl (by decide +kernel)
def qm_X13_append_0 (K : Nat) (go : Nat → Int32 → Int32 → Int32 → Int32 → ow_MS → Option ow_MS) (x1 : Int32) (x2 : Int32) (x3 : Int32) (x4 : Int32) (z : ow_MS) : Option ow_MS :=
 go 1 x1 x2 ((120 * x1) + x2) 0 z
def qm_X13_append_1 (K : Nat) (go : Nat → Int32 → Int32 → Int32 → Int32 → ow_MS → Option ow_MS) (x1 : Int32) (x2 : Int32) (x3 : Int32) (x4 : Int32) (z : ow_MS) : Option ow_MS :=
 rdI mX z 100 x3 fun v1 => (if v1 ≤ x4 then some z
 else rdF z 109 fun v2 => rdI mX z 99 ((10 * x3) + x4) fun v3 => wrI mX z 108 v2 v3 fun z4 => rdF z4 109 fun v5 => wrF z4 109 (v5 + 1) fun z6 => go 1 x1 x2 x3 (x4 + 1) z6)
def qb_X13_append (K : Nat) (go : Nat → Int32 → Int32 → Int32 → Int32 → ow_MS → Option ow_MS) (L : Nat) (x1 : Int32) (x2 : Int32) (x3 : Int32) (x4 : Int32) (z : ow_MS) : Option ow_MS := match L with
  | 0 => qm_X13_append_0 K go x1 x2 x3 x4 z
  | 1 => qm_X13_append_1 K go x1 x2 x3 x4 z
  | _ => none
def q_X13_append (K : Nat) : Nat → Nat → Int32 → Int32 → Int32 → Int32 → ow_MS → Option ow_MS
  | 0 => fun _ _ _ _ _ _ => none
  | k + 1 => qb_X13_append K (q_X13_append K k)
def qe_X13_append (K : Nat) (x1 : Int32) (x2 : Int32) (z : ow_MS) : Option ow_MS := q_X13_append K K 0 x1 x2 0 0 z
abbrev wm_X13_append : List Cond := .code yX13_append cX13_append 5 none :: wM
theorem cd_X13_append : yX13_append.cls = RX13 ∧ yX13_append.cls ≠ "java/lang/invoke/MethodHandle" ∧ yX13_append.cls ≠ "java/lang/invoke/VarHandle" ∧ (parseMethodDescriptor yX13_append.desc).map (fun d => d.parameters.length) = some 2 := by decide +kernel
set_option maxHeartbeats 4000000 in
set_option maxRecDepth 100000 in
theorem km_X13_append (l : Launch) (D : va_G) (q : ow_Q5) (u : Nat → Nat) (hU : tw_inj mX u) (K : Nat) (x1 : Int32) (x2 : Int32)  (z z1 : ow_MS) (hq : qe_X13_append K x1 x2 z = some z1) : Met l yX13_append wm_X13_append ({ frames := 0, cells := 0, slots := 0, locals := 0 } : Room) (va_Pc [.ref (u 0), .int x1, .int x2] (mw_pre D q u z)) (va_Qv (fun (_ : Unit) => True) (fun _ t => va_P D vwCl (tw mX q u z1) t.heap) (tw_A mX u)) 0 0 (tw_A mX u) := by
  refine Met.ofW (cc := cX13_append) (maxL := 5) (ret := none) (by decide) rfl ?_
  intro p e s m args below meth c s₁ B hml hv
  obtain ⟨rfl, hP, hK, hN⟩ := hv
  have hx := B.exec
  have hb := B.bytes
  have hr := B.returns
  have hts := atoms_spec (ws := wm_X13_append) B.pre
  have hT : ∀ w ∈ wM, w.before ([.ref (u 0), .int x1, .int x2] : List Value).toArray s = true := fun w h => hts w (List.mem_cons_of_mem _ h)
  have hown : s.vm.findClass RX13 = some m.cls := findClass_of_methodNamed B.named
  have hlocks := B.notSynchronized
  have hM : tw_M D vwCl mX q s.heap u z s.heap [] := ⟨hP, va_S.rf⟩
  have hl := lv_entry ([.ref (u 0), .int x1, .int x2]) (n := 5) (Nat.le_of_ble_eq_true rfl)
  rw [lg_entry_eq]
  generalize (lg_sl ([.ref (u 0), .int x1, .int x2]) ++ List.replicate (5 - (lg_sl ([.ref (u 0), .int x1, .int x2])).length) Slot.unset).toArray = ls at hl ⊢
  have hl : lv_has ls 5 [(0, .ref (u 0)), (1, .int x1), (2, .int x2)] := hl
  refine ow_named (fun QQ hQQ => ?_)
  generalize ([.ref (u 0), .int x1, .int x2] : List Value).toArray = args at hts hT hQQ ⊢
  have key : ∀ k : Nat, (∀ (x1 : Int32) (x2 : Int32) (x3 : Int32) (x4 : Int32) (z : ow_MS) (H : Heap) (locs : List Loc) (ls : Array Slot), tw_M D vwCl mX q s.heap u z H locs → lv_has ls 5 [(0, .ref (u 0)), (1, .int x1), (2, .int x2)] → q_X13_append K k 0 x1 x2 x3 x4 z = some z1 → W p l e ({ frames := 0, cells := 0, slots := 0, locals := 0 } : Room) s m args below meth c H locs 0 0 QQ (F0 m 0 ls [])) ∧ (∀ (x1 : Int32) (x2 : Int32) (x3 : Int32) (x4 : Int32) (z : ow_MS) (H : Heap) (locs : List Loc) (ls : Array Slot), tw_M D vwCl mX q s.heap u z H locs → lv_has ls 5 [(0, .ref (u 0)), (1, .int x1), (2, .int x2), (3, .int x3), (4, .int x4)] → q_X13_append K k 1 x1 x2 x3 x4 z = some z1 → W p l e ({ frames := 0, cells := 0, slots := 0, locals := 0 } : Room) s m args below meth c H locs 0 0 QQ (F0 m 10 ls [])) := by
    intro k
    induction k with
    | zero => exact ⟨fun _ _ _ _ _ _ _ _  _ _ hq => tw_no hq, fun _ _ _ _ _ _ _ _  _ _ hq => tw_no hq⟩
    | succ k ih =>
      obtain ⟨ih_0, ih_1⟩ := ih
      refine ⟨?_, ?_⟩
      · intro x1 x2 x3 x4 z H locs ls  hM hl hq
        have hq : qm_X13_append_0 K (q_X13_append K k) x1 x2 x3 x4 z = some z1 := hq
        unfold qm_X13_append_0 at hq
        refine lv_bipush (v := 120) hx hb dmX13_append_0 (by decide) ?_
        refine lv_iload_n hx hb dmX13_append_2 rfl (lv_at hl 1 rfl) ?_
        refine lv_imul hx hb dmX13_append_3 ?_
        refine lv_iload_n hx hb dmX13_append_4 rfl (lv_at hl 2 rfl) ?_
        refine lv_iadd hx hb dmX13_append_5 ?_
        refine lv_istore_n (lv' := [(3, .int ((120 * x1) + x2)), (0, .ref (u 0)), (1, .int x1), (2, .int x2)]) hx hb dmX13_append_6 rfl hl (by decide) rfl (fun ls hl => ?_)
        refine lv_iconst (v := 0) hx hb dmX13_append_7 (by decide) ?_
        refine lv_istore (lv' := [(4, .int 0), (3, .int ((120 * x1) + x2)), (0, .ref (u 0)), (1, .int x1), (2, .int x2)]) hx hb dmX13_append_8 hl (by decide) rfl (fun ls hl => ?_)
        exact ih_1 x1 x2 ((120 * x1) + x2) 0 z H locs ls hM (lv_sub hl [2, 3, 4, 1, 0] rfl) hq
      · intro x1 x2 x3 x4 z H locs ls  hM hl hq
        have hq : qm_X13_append_1 K (q_X13_append K k) x1 x2 x3 x4 z = some z1 := hq
        unfold qm_X13_append_1 at hq
        refine lv_iload hx hb dmX13_append_10 (lv_at hl 4 rfl) ?_
        refine lv_aload_n hx hb dmX13_append_12 rfl (lv_at hl 0 rfl) ?_
        refine mg13_338 hx hb hT hown hK hM dmX13_append_13 ?_
        refine lv_iload_n hx hb dmX13_append_16 rfl (lv_at hl 3 rfl) ?_
        refine tw_iald mX_ok hx hb hK hM mr_100 hq dmX13_append_17 (fun v1 hq => ?_)
        refine lv_icmp_ge (tgt := 58) hx hb dmX13_append_18 (by decide) (fun hc => ?_) (fun hc => ?_)
        · have hq := tw_it hq hc
          exact mw_vret hx hb hr hlocks hM hq hQQ dmX13_append_58
        · have hq := tw_if hq hc
          refine lv_aload_n hx hb dmX13_append_21 rfl (lv_at hl 0 rfl) ?_
          refine mg13_362 hx hb hT hown hK hM dmX13_append_22 ?_
          refine lv_aload_n hx hb dmX13_append_25 rfl (lv_at hl 0 rfl) ?_
          refine mg13_742 hx hb hT hown hK hM hq dmX13_append_26 (fun v2 hq => ?_)
          refine lv_aload_n hx hb dmX13_append_29 rfl (lv_at hl 0 rfl) ?_
          refine mg13_335 hx hb hT hown hK hM dmX13_append_30 ?_
          refine lv_bipush (v := 10) hx hb dmX13_append_33 (by decide) ?_
          refine lv_iload_n hx hb dmX13_append_35 rfl (lv_at hl 3 rfl) ?_
          refine lv_imul hx hb dmX13_append_36 ?_
          refine lv_iload hx hb dmX13_append_37 (lv_at hl 4 rfl) ?_
          refine lv_iadd hx hb dmX13_append_39 ?_
          refine tw_iald mX_ok hx hb hK hM mr_99 hq dmX13_append_40 (fun v3 hq => ?_)
          refine tw_iast mX_ok hU hx hb hK hM mr_108 hq dmX13_append_41 (fun z4 H locs hM hq => ?_)
          refine lv_aload_n hx hb dmX13_append_42 rfl (lv_at hl 0 rfl) ?_
          refine lv_dup hx hb dmX13_append_43 rfl ?_
          refine mg13_742 hx hb hT hown hK hM hq dmX13_append_44 (fun v5 hq => ?_)
          refine lv_iconst (v := 1) hx hb dmX13_append_47 (by decide) ?_
          refine lv_iadd hx hb dmX13_append_48 ?_
          refine mp13_742 hx hb hT hown hK hM hU hq dmX13_append_49 (fun z6 H locs hM hq => ?_)
          refine lv_iinc (v := (x4 + 1)) (lv' := [(4, .int (x4 + 1)), (0, .ref (u 0)), (1, .int x1), (2, .int x2), (3, .int x3)]) hx hb dmX13_append_52 hl (k := 4) rfl rfl (by decide) rfl (fun ls hl => ?_)
          refine lv_goto (tgt := 10) hx hb dmX13_append_55 (by decide) ?_
          exact ih_1 x1 x2 x3 (x4 + 1) z6 H locs ls hM (lv_sub hl [1, 2, 3, 4, 0] rfl) hq
  exact (key K).1 x1 x2 0 0 z s.heap [] ls  hM (lv_sub hl [0, 1, 2] rfl) hq
theorem dmX13_begins_0 : decode cX13_begins 0 = .ok (.aload_n 0, 1) := dw_at cX13_begins_k0 (p := 0) rfl (by decide +kernel)
theorem dmX13_begins_1 : decode cX13_begins 1 = .ok (.getfield 341, 3) := dw_at cX13_begins_k0 (p := 1) rfl (by decide +kernel)
theorem dmX13_begins_4 : decode cX13_begins 4 = .ok (.sipush 480, 3) := dw_at cX13_begins_k0 (p := 4) rfl (by decide +kernel)
theorem dmX13_begins_7 : decode cX13_begins 7 = .ok (.iload_n 1, 1) := dw_at cX13_begins_k0 (p := 7) rfl (by decide +kernel)
theorem dmX13_begins_8 : decode cX13_begins 8 = .ok (.imul, 1) := dw_at cX13_begins_k0 (p := 8) rfl (by decide +kernel)
theorem dmX13_begins_9 : decode cX13_begins 9 = .ok (.iload_n 2, 1) := dw_at cX13_begins_k0 (p := 9) rfl (by decide +kernel)
theorem dmX13_begins_10 : decode cX13_begins 10 = .ok (.iadd, 1) := dw_at cX13_begins_k0 (p := 10) rfl (by decide +kernel)
theorem dmX13_begins_11 : decode cX13_begins 11 = .ok (.iaload, 1) := dw_at cX13_begins_k0 (p := 11) rfl (by decide +kernel)
theorem dmX13_begins_12 : decode cX13_begins 12 = .ok (.istore_n 3, 1) := dw_at cX13_begins_k0 (p := 12) rfl (by decide +kernel)
theorem dmX13_begins_13 : decode cX13_begins 13 = .ok (.aload_n 0, 1) := dw_at cX13_begins_k0 (p := 13) rfl (by decide +kernel)
theorem dmX13_begins_14 : decode cX13_begins 14 = .ok (.iconst 0, 1) := dw_at cX13_begins_k0 (p := 14) rfl (by decide +kernel)
theorem dmX13_begins_15 : decode cX13_begins 15 = .ok (.putfield 745, 3) := dw_at cX13_begins_k0 (p := 15) rfl (by decide +kernel)
theorem dmX13_begins_18 : decode cX13_begins 18 = .ok (.iconst 0, 1) := dw_at cX13_begins_k0 (p := 18) rfl (by decide +kernel)
theorem dmX13_begins_19 : decode cX13_begins 19 = .ok (.istore 4, 2) := dw_at cX13_begins_k0 (p := 19) rfl (by decide +kernel)
theorem dmX13_begins_21 : decode cX13_begins 21 = .ok (.iload 4, 2) := dw_at cX13_begins_k0 (p := 21) rfl (by decide +kernel)
theorem dmX13_begins_23 : decode cX13_begins 23 = .ok (.aload_n 0, 1) := dw_at cX13_begins_k0 (p := 23) rfl (by decide +kernel)
theorem dmX13_begins_24 : decode cX13_begins 24 = .ok (.getfield 742, 3) := dw_at cX13_begins_k1 (p := 0) rfl (by decide +kernel)
theorem dmX13_begins_27 : decode cX13_begins 27 = .ok (.if_icmp .ge 135, 3) := dw_at cX13_begins_k1 (p := 3) rfl (by decide +kernel)
theorem dmX13_begins_30 : decode cX13_begins 30 = .ok (.iload_n 3, 1) := dw_at cX13_begins_k1 (p := 6) rfl (by decide +kernel)
theorem dmX13_begins_31 : decode cX13_begins 31 = .ok (.ifCond .ne 32, 3) := dw_at cX13_begins_k1 (p := 7) rfl (by decide +kernel)
theorem dmX13_begins_34 : decode cX13_begins 34 = .ok (.aload_n 0, 1) := dw_at cX13_begins_k1 (p := 10) rfl (by decide +kernel)
theorem dmX13_begins_35 : decode cX13_begins 35 = .ok (.getfield 365, 3) := dw_at cX13_begins_k1 (p := 11) rfl (by decide +kernel)
theorem dmX13_begins_38 : decode cX13_begins 38 = .ok (.aload_n 0, 1) := dw_at cX13_begins_k1 (p := 14) rfl (by decide +kernel)
theorem dmX13_begins_39 : decode cX13_begins 39 = .ok (.getfield 745, 3) := dw_at cX13_begins_k1 (p := 15) rfl (by decide +kernel)
theorem dmX13_begins_42 : decode cX13_begins 42 = .ok (.aload_n 0, 1) := dw_at cX13_begins_k1 (p := 18) rfl (by decide +kernel)
theorem dmX13_begins_43 : decode cX13_begins 43 = .ok (.getfield 362, 3) := dw_at cX13_begins_k1 (p := 19) rfl (by decide +kernel)
theorem dmX13_begins_46 : decode cX13_begins 46 = .ok (.iload 4, 2) := dw_at cX13_begins_k1 (p := 22) rfl (by decide +kernel)
theorem dmX13_begins_48 : decode cX13_begins 48 = .ok (.iaload, 1) := dw_at cX13_begins_k2 (p := 0) rfl (by decide +kernel)
theorem dmX13_begins_49 : decode cX13_begins 49 = .ok (.iastore, 1) := dw_at cX13_begins_k2 (p := 1) rfl (by decide +kernel)
theorem dmX13_begins_50 : decode cX13_begins 50 = .ok (.aload_n 0, 1) := dw_at cX13_begins_k2 (p := 2) rfl (by decide +kernel)
theorem dmX13_begins_51 : decode cX13_begins 51 = .ok (.dup, 1) := dw_at cX13_begins_k2 (p := 3) rfl (by decide +kernel)
theorem dmX13_begins_52 : decode cX13_begins 52 = .ok (.getfield 745, 3) := dw_at cX13_begins_k2 (p := 4) rfl (by decide +kernel)
theorem dmX13_begins_55 : decode cX13_begins 55 = .ok (.iconst 1, 1) := dw_at cX13_begins_k2 (p := 7) rfl (by decide +kernel)
theorem dmX13_begins_56 : decode cX13_begins 56 = .ok (.iadd, 1) := dw_at cX13_begins_k2 (p := 8) rfl (by decide +kernel)
theorem dmX13_begins_57 : decode cX13_begins 57 = .ok (.putfield 745, 3) := dw_at cX13_begins_k2 (p := 9) rfl (by decide +kernel)
theorem dmX13_begins_60 : decode cX13_begins 60 = .ok (.goto 96, 3) := dw_at cX13_begins_k2 (p := 12) rfl (by decide +kernel)
theorem dmX13_begins_63 : decode cX13_begins 63 = .ok (.iconst 4, 1) := dw_at cX13_begins_k2 (p := 15) rfl (by decide +kernel)
theorem dmX13_begins_64 : decode cX13_begins 64 = .ok (.bipush 120, 2) := dw_at cX13_begins_k2 (p := 16) rfl (by decide +kernel)
theorem dmX13_begins_66 : decode cX13_begins 66 = .ok (.iload_n 1, 1) := dw_at cX13_begins_k2 (p := 18) rfl (by decide +kernel)
theorem dmX13_begins_67 : decode cX13_begins 67 = .ok (.imul, 1) := dw_at cX13_begins_k2 (p := 19) rfl (by decide +kernel)
theorem dmX13_begins_68 : decode cX13_begins 68 = .ok (.iload_n 3, 1) := dw_at cX13_begins_k2 (p := 20) rfl (by decide +kernel)
theorem dmX13_begins_69 : decode cX13_begins 69 = .ok (.iadd, 1) := dw_at cX13_begins_k2 (p := 21) rfl (by decide +kernel)
theorem dmX13_begins_70 : decode cX13_begins 70 = .ok (.imul, 1) := dw_at cX13_begins_k2 (p := 22) rfl (by decide +kernel)
theorem dmX13_begins_71 : decode cX13_begins 71 = .ok (.aload_n 0, 1) := dw_at cX13_begins_k2 (p := 23) rfl (by decide +kernel)
theorem dmX13_begins_72 : decode cX13_begins 72 = .ok (.getfield 362, 3) := dw_at cX13_begins_k3 (p := 0) rfl (by decide +kernel)
theorem dmX13_begins_75 : decode cX13_begins 75 = .ok (.iload 4, 2) := dw_at cX13_begins_k3 (p := 3) rfl (by decide +kernel)
theorem dmX13_begins_77 : decode cX13_begins 77 = .ok (.iaload, 1) := dw_at cX13_begins_k3 (p := 5) rfl (by decide +kernel)
theorem dmX13_begins_78 : decode cX13_begins 78 = .ok (.iadd, 1) := dw_at cX13_begins_k3 (p := 6) rfl (by decide +kernel)
theorem dmX13_begins_79 : decode cX13_begins 79 = .ok (.istore 5, 2) := dw_at cX13_begins_k3 (p := 7) rfl (by decide +kernel)
theorem dmX13_begins_81 : decode cX13_begins 81 = .ok (.bipush 120, 2) := dw_at cX13_begins_k3 (p := 9) rfl (by decide +kernel)
theorem dmX13_begins_83 : decode cX13_begins 83 = .ok (.iload_n 1, 1) := dw_at cX13_begins_k3 (p := 11) rfl (by decide +kernel)
theorem dmX13_begins_84 : decode cX13_begins 84 = .ok (.imul, 1) := dw_at cX13_begins_k3 (p := 12) rfl (by decide +kernel)
theorem dmX13_begins_85 : decode cX13_begins 85 = .ok (.aload_n 0, 1) := dw_at cX13_begins_k3 (p := 13) rfl (by decide +kernel)
theorem dmX13_begins_86 : decode cX13_begins 86 = .ok (.getfield 350, 3) := dw_at cX13_begins_k3 (p := 14) rfl (by decide +kernel)
theorem dmX13_begins_89 : decode cX13_begins 89 = .ok (.iload 5, 2) := dw_at cX13_begins_k3 (p := 17) rfl (by decide +kernel)
theorem dmX13_begins_91 : decode cX13_begins 91 = .ok (.iaload, 1) := dw_at cX13_begins_k3 (p := 19) rfl (by decide +kernel)
theorem dmX13_begins_92 : decode cX13_begins 92 = .ok (.iadd, 1) := dw_at cX13_begins_k3 (p := 20) rfl (by decide +kernel)
theorem dmX13_begins_93 : decode cX13_begins 93 = .ok (.istore 6, 2) := dw_at cX13_begins_k3 (p := 21) rfl (by decide +kernel)
theorem dmX13_begins_95 : decode cX13_begins 95 = .ok (.iconst 0, 1) := dw_at cX13_begins_k3 (p := 23) rfl (by decide +kernel)
theorem dmX13_begins_96 : decode cX13_begins 96 = .ok (.istore 7, 2) := dw_at cX13_begins_k4 (p := 0) rfl (by decide +kernel)
theorem dmX13_begins_98 : decode cX13_begins 98 = .ok (.iload 7, 2) := dw_at cX13_begins_k4 (p := 2) rfl (by decide +kernel)
theorem dmX13_begins_100 : decode cX13_begins 100 = .ok (.aload_n 0, 1) := dw_at cX13_begins_k4 (p := 4) rfl (by decide +kernel)
theorem dmX13_begins_101 : decode cX13_begins 101 = .ok (.getfield 338, 3) := dw_at cX13_begins_k4 (p := 5) rfl (by decide +kernel)
theorem dmX13_begins_104 : decode cX13_begins 104 = .ok (.iload 6, 2) := dw_at cX13_begins_k4 (p := 8) rfl (by decide +kernel)
theorem dmX13_begins_106 : decode cX13_begins 106 = .ok (.iaload, 1) := dw_at cX13_begins_k4 (p := 10) rfl (by decide +kernel)
theorem dmX13_begins_107 : decode cX13_begins 107 = .ok (.if_icmp .ge 41, 3) := dw_at cX13_begins_k4 (p := 11) rfl (by decide +kernel)
theorem dmX13_begins_110 : decode cX13_begins 110 = .ok (.aload_n 0, 1) := dw_at cX13_begins_k4 (p := 14) rfl (by decide +kernel)
theorem dmX13_begins_111 : decode cX13_begins 111 = .ok (.getfield 365, 3) := dw_at cX13_begins_k4 (p := 15) rfl (by decide +kernel)
theorem dmX13_begins_114 : decode cX13_begins 114 = .ok (.aload_n 0, 1) := dw_at cX13_begins_k4 (p := 18) rfl (by decide +kernel)
theorem dmX13_begins_115 : decode cX13_begins 115 = .ok (.getfield 745, 3) := dw_at cX13_begins_k4 (p := 19) rfl (by decide +kernel)
theorem dmX13_begins_118 : decode cX13_begins 118 = .ok (.aload_n 0, 1) := dw_at cX13_begins_k4 (p := 22) rfl (by decide +kernel)
theorem dmX13_begins_119 : decode cX13_begins 119 = .ok (.getfield 335, 3) := dw_at cX13_begins_k4 (p := 23) rfl (by decide +kernel)
theorem dmX13_begins_122 : decode cX13_begins 122 = .ok (.bipush 10, 2) := dw_at cX13_begins_k5 (p := 0) rfl (by decide +kernel)
theorem dmX13_begins_124 : decode cX13_begins 124 = .ok (.iload 6, 2) := dw_at cX13_begins_k5 (p := 2) rfl (by decide +kernel)
theorem dmX13_begins_126 : decode cX13_begins 126 = .ok (.imul, 1) := dw_at cX13_begins_k5 (p := 4) rfl (by decide +kernel)
theorem dmX13_begins_127 : decode cX13_begins 127 = .ok (.iload 7, 2) := dw_at cX13_begins_k5 (p := 5) rfl (by decide +kernel)
theorem dmX13_begins_129 : decode cX13_begins 129 = .ok (.iadd, 1) := dw_at cX13_begins_k5 (p := 7) rfl (by decide +kernel)
theorem dmX13_begins_130 : decode cX13_begins 130 = .ok (.iaload, 1) := dw_at cX13_begins_k5 (p := 8) rfl (by decide +kernel)
theorem dmX13_begins_131 : decode cX13_begins 131 = .ok (.iastore, 1) := dw_at cX13_begins_k5 (p := 9) rfl (by decide +kernel)
theorem dmX13_begins_132 : decode cX13_begins 132 = .ok (.aload_n 0, 1) := dw_at cX13_begins_k5 (p := 10) rfl (by decide +kernel)
theorem dmX13_begins_133 : decode cX13_begins 133 = .ok (.dup, 1) := dw_at cX13_begins_k5 (p := 11) rfl (by decide +kernel)
theorem dmX13_begins_134 : decode cX13_begins 134 = .ok (.getfield 745, 3) := dw_at cX13_begins_k5 (p := 12) rfl (by decide +kernel)
theorem dmX13_begins_137 : decode cX13_begins 137 = .ok (.iconst 1, 1) := dw_at cX13_begins_k5 (p := 15) rfl (by decide +kernel)
theorem dmX13_begins_138 : decode cX13_begins 138 = .ok (.iadd, 1) := dw_at cX13_begins_k5 (p := 16) rfl (by decide +kernel)
theorem dmX13_begins_139 : decode cX13_begins 139 = .ok (.putfield 745, 3) := dw_at cX13_begins_k5 (p := 17) rfl (by decide +kernel)
theorem dmX13_begins_142 : decode cX13_begins 142 = .ok (.iinc 7 1, 3) := dw_at cX13_begins_k5 (p := 20) rfl (by decide +kernel)
theorem dmX13_begins_145 : decode cX13_begins 145 = .ok (.goto (-47), 3) := dw_at cX13_begins_k5 (p := 23) rfl (by decide +kernel)
theorem dmX13_begins_148 : decode cX13_begins 148 = .ok (.aload_n 0, 1) := dw_at cX13_begins_k6 (p := 0) rfl (by decide +kernel)
theorem dmX13_begins_149 : decode cX13_begins 149 = .ok (.getfield 353, 3) := dw_at cX13_begins_k6 (p := 1) rfl (by decide +kernel)
theorem dmX13_begins_152 : decode cX13_begins 152 = .ok (.iload 5, 2) := dw_at cX13_begins_k6 (p := 4) rfl (by decide +kernel)
theorem dmX13_begins_154 : decode cX13_begins 154 = .ok (.iaload, 1) := dw_at cX13_begins_k6 (p := 6) rfl (by decide +kernel)
theorem dmX13_begins_155 : decode cX13_begins 155 = .ok (.istore_n 3, 1) := dw_at cX13_begins_k6 (p := 7) rfl (by decide +kernel)
theorem dmX13_begins_156 : decode cX13_begins 156 = .ok (.iinc 4 1, 3) := dw_at cX13_begins_k6 (p := 8) rfl (by decide +kernel)
theorem dmX13_begins_159 : decode cX13_begins 159 = .ok (.goto (-138), 3) := dw_at cX13_begins_k6 (p := 11) rfl (by decide +kernel)
theorem dmX13_begins_162 : decode cX13_begins 162 = .ok (.iload_n 3, 1) := dw_at cX13_begins_k6 (p := 14) rfl (by decide +kernel)
theorem dmX13_begins_163 : decode cX13_begins 163 = .ok (.ifCond .ne 7, 3) := dw_at cX13_begins_k6 (p := 15) rfl (by decide +kernel)
theorem dmX13_begins_166 : decode cX13_begins 166 = .ok (.iconst 1, 1) := dw_at cX13_begins_k6 (p := 18) rfl (by decide +kernel)
theorem dmX13_begins_167 : decode cX13_begins 167 = .ok (.goto 4, 3) := dw_at cX13_begins_k6 (p := 19) rfl (by decide +kernel)
theorem dmX13_begins_170 : decode cX13_begins 170 = .ok (.iconst 0, 1) := dw_at cX13_begins_k6 (p := 22) rfl (by decide +kernel)
theorem dmX13_begins_171 : decode cX13_begins 171 = .ok (.ireturn, 1) := dw_at cX13_begins_k6 (p := 23) rfl (by decide +kernel)
def qm_X13_begins_0 (K : Nat) (go : Nat → Int32 → Int32 → Int32 → Int32 → Int32 → Int32 → Int32 → ow_MS → Option (Int32 × ow_MS)) (x1 : Int32) (x2 : Int32) (x3 : Int32) (x4 : Int32) (x5 : Int32) (x6 : Int32) (x7 : Int32) (z : ow_MS) : Option (Int32 × ow_MS) :=
 rdI mX z 101 ((480 * x1) + x2) fun v1 => wrF z 111 0 fun z2 => go 1 x1 x2 v1 0 0 0 0 z2
def qm_X13_begins_1 (K : Nat) (go : Nat → Int32 → Int32 → Int32 → Int32 → Int32 → Int32 → Int32 → ow_MS → Option (Int32 × ow_MS)) (x1 : Int32) (x2 : Int32) (x3 : Int32) (x4 : Int32) (x5 : Int32) (x6 : Int32) (x7 : Int32) (z : ow_MS) : Option (Int32 × ow_MS) :=
 rdF z 109 fun v3 => (if v3 ≤ x4 then (if x3 = 0 then okZ 1 (some (1, z))
 else okZ 0 (some (0, z)))
 else (if x3 = 0 then rdF z 111 fun v6 => rdI mX z 108 x4 fun v7 => wrI mX z 110 v6 v7 fun z8 => rdF z8 111 fun v9 => wrF z8 111 (v9 + 1) fun z10 => go 3 x1 x2 x3 x4 0 0 0 z10
 else rdI mX z 108 x4 fun v4 => rdI mX z 104 ((4 * ((120 * x1) + x3)) + v4) fun v5 => go 2 x1 x2 x3 x4 ((4 * ((120 * x1) + x3)) + v4) ((120 * x1) + v5) 0 z))
def qm_X13_begins_2 (K : Nat) (go : Nat → Int32 → Int32 → Int32 → Int32 → Int32 → Int32 → Int32 → ow_MS → Option (Int32 × ow_MS)) (x1 : Int32) (x2 : Int32) (x3 : Int32) (x4 : Int32) (x5 : Int32) (x6 : Int32) (x7 : Int32) (z : ow_MS) : Option (Int32 × ow_MS) :=
 rdI mX z 100 x6 fun v11 => (if v11 ≤ x7 then rdI mX z 105 x5 fun v12 => go 3 x1 x2 v12 x4 0 0 0 z
 else rdF z 111 fun v13 => rdI mX z 99 ((10 * x6) + x7) fun v14 => wrI mX z 110 v13 v14 fun z15 => rdF z15 111 fun v16 => wrF z15 111 (v16 + 1) fun z17 => go 2 x1 x2 x3 x4 x5 x6 (x7 + 1) z17)
def qm_X13_begins_3 (K : Nat) (go : Nat → Int32 → Int32 → Int32 → Int32 → Int32 → Int32 → Int32 → ow_MS → Option (Int32 × ow_MS)) (x1 : Int32) (x2 : Int32) (x3 : Int32) (x4 : Int32) (x5 : Int32) (x6 : Int32) (x7 : Int32) (z : ow_MS) : Option (Int32 × ow_MS) :=
 go 1 x1 x2 x3 (x4 + 1) 0 0 0 z
def qb_X13_begins (K : Nat) (go : Nat → Int32 → Int32 → Int32 → Int32 → Int32 → Int32 → Int32 → ow_MS → Option (Int32 × ow_MS)) (L : Nat) (x1 : Int32) (x2 : Int32) (x3 : Int32) (x4 : Int32) (x5 : Int32) (x6 : Int32) (x7 : Int32) (z : ow_MS) : Option (Int32 × ow_MS) := match L with
  | 0 => qm_X13_begins_0 K go x1 x2 x3 x4 x5 x6 x7 z
  | 1 => qm_X13_begins_1 K go x1 x2 x3 x4 x5 x6 x7 z
  | 2 => qm_X13_begins_2 K go x1 x2 x3 x4 x5 x6 x7 z
  | 3 => qm_X13_begins_3 K go x1 x2 x3 x4 x5 x6 x7 z
  | _ => none
def q_X13_begins (K : Nat) : Nat → Nat → Int32 → Int32 → Int32 → Int32 → Int32 → Int32 → Int32 → ow_MS → Option (Int32 × ow_MS)
  | 0 => fun _ _ _ _ _ _ _ _ _ => none
  | k + 1 => qb_X13_begins K (q_X13_begins K k)
def qe_X13_begins (K : Nat) (x1 : Int32) (x2 : Int32) (z : ow_MS) : Option (Int32 × ow_MS) := q_X13_begins K K 0 x1 x2 0 0 0 0 0 z
abbrev wm_X13_begins : List Cond := .code yX13_begins cX13_begins 8 (some .boolean) :: wM
theorem cd_X13_begins : yX13_begins.cls = RX13 ∧ yX13_begins.cls ≠ "java/lang/invoke/MethodHandle" ∧ yX13_begins.cls ≠ "java/lang/invoke/VarHandle" ∧ (parseMethodDescriptor yX13_begins.desc).map (fun d => d.parameters.length) = some 2 := by decide +kernel
set_option maxHeartbeats 4000000 in
set_option maxRecDepth 100000 in
theorem km_X13_begins (l : Launch) (D : va_G) (q : ow_Q5) (u : Nat → Nat) (hU : tw_inj mX u) (K : Nat) (x1 : Int32) (x2 : Int32)  (z z1 : ow_MS) (r : Int32) (hq : qe_X13_begins K x1 x2 z = some (r, z1)) : Met l yX13_begins wm_X13_begins ({ frames := 0, cells := 0, slots := 0, locals := 0 } : Room) (va_Pc [.ref (u 0), .int x1, .int x2] (mw_pre D q u z)) (va_Qi (fun x (_ : Unit) => x = r) (fun _ t => va_P D vwCl (tw mX q u z1) t.heap) (tw_A mX u)) 0 0 (tw_A mX u) := by
  refine Met.ofW (cc := cX13_begins) (maxL := 8) (ret := (some .boolean)) (by decide) rfl ?_
  intro p e s m args below meth c s₁ B hml hv
  obtain ⟨rfl, hP, hK, hN⟩ := hv
  have hx := B.exec
  have hb := B.bytes
  have hr := B.returns
  have hts := atoms_spec (ws := wm_X13_begins) B.pre
  have hT : ∀ w ∈ wM, w.before ([.ref (u 0), .int x1, .int x2] : List Value).toArray s = true := fun w h => hts w (List.mem_cons_of_mem _ h)
  have hown : s.vm.findClass RX13 = some m.cls := findClass_of_methodNamed B.named
  have hlocks := B.notSynchronized
  have hM : tw_M D vwCl mX q s.heap u z s.heap [] := ⟨hP, va_S.rf⟩
  have hl := lv_entry ([.ref (u 0), .int x1, .int x2]) (n := 8) (Nat.le_of_ble_eq_true rfl)
  rw [lg_entry_eq]
  generalize (lg_sl ([.ref (u 0), .int x1, .int x2]) ++ List.replicate (8 - (lg_sl ([.ref (u 0), .int x1, .int x2])).length) Slot.unset).toArray = ls at hl ⊢
  have hl : lv_has ls 8 [(0, .ref (u 0)), (1, .int x1), (2, .int x2)] := hl
  refine ow_named (fun QQ hQQ => ?_)
  generalize ([.ref (u 0), .int x1, .int x2] : List Value).toArray = args at hts hT hQQ ⊢
  have key : ∀ k : Nat, (∀ (x1 : Int32) (x2 : Int32) (x3 : Int32) (x4 : Int32) (x5 : Int32) (x6 : Int32) (x7 : Int32) (z : ow_MS) (H : Heap) (locs : List Loc) (ls : Array Slot), tw_M D vwCl mX q s.heap u z H locs → lv_has ls 8 [(0, .ref (u 0)), (1, .int x1), (2, .int x2)] → q_X13_begins K k 0 x1 x2 x3 x4 x5 x6 x7 z = some (r, z1) → W p l e ({ frames := 0, cells := 0, slots := 0, locals := 0 } : Room) s m args below meth c H locs 0 0 QQ (F0 m 0 ls [])) ∧ (∀ (x1 : Int32) (x2 : Int32) (x3 : Int32) (x4 : Int32) (x5 : Int32) (x6 : Int32) (x7 : Int32) (z : ow_MS) (H : Heap) (locs : List Loc) (ls : Array Slot), tw_M D vwCl mX q s.heap u z H locs → lv_has ls 8 [(0, .ref (u 0)), (1, .int x1), (2, .int x2), (3, .int x3), (4, .int x4)] → q_X13_begins K k 1 x1 x2 x3 x4 x5 x6 x7 z = some (r, z1) → W p l e ({ frames := 0, cells := 0, slots := 0, locals := 0 } : Room) s m args below meth c H locs 0 0 QQ (F0 m 21 ls [])) ∧ (∀ (x1 : Int32) (x2 : Int32) (x3 : Int32) (x4 : Int32) (x5 : Int32) (x6 : Int32) (x7 : Int32) (z : ow_MS) (H : Heap) (locs : List Loc) (ls : Array Slot), tw_M D vwCl mX q s.heap u z H locs → lv_has ls 8 [(0, .ref (u 0)), (1, .int x1), (2, .int x2), (3, .int x3), (4, .int x4), (5, .int x5), (6, .int x6), (7, .int x7)] → q_X13_begins K k 2 x1 x2 x3 x4 x5 x6 x7 z = some (r, z1) → W p l e ({ frames := 0, cells := 0, slots := 0, locals := 0 } : Room) s m args below meth c H locs 0 0 QQ (F0 m 98 ls [])) ∧ (∀ (x1 : Int32) (x2 : Int32) (x3 : Int32) (x4 : Int32) (x5 : Int32) (x6 : Int32) (x7 : Int32) (z : ow_MS) (H : Heap) (locs : List Loc) (ls : Array Slot), tw_M D vwCl mX q s.heap u z H locs → lv_has ls 8 [(0, .ref (u 0)), (1, .int x1), (2, .int x2), (3, .int x3), (4, .int x4)] → q_X13_begins K k 3 x1 x2 x3 x4 x5 x6 x7 z = some (r, z1) → W p l e ({ frames := 0, cells := 0, slots := 0, locals := 0 } : Room) s m args below meth c H locs 0 0 QQ (F0 m 156 ls [])) := by
    intro k
    induction k with
    | zero => exact ⟨fun _ _ _ _ _ _ _ _ _ _ _  _ _ hq => tw_no hq, fun _ _ _ _ _ _ _ _ _ _ _  _ _ hq => tw_no hq, fun _ _ _ _ _ _ _ _ _ _ _  _ _ hq => tw_no hq, fun _ _ _ _ _ _ _ _ _ _ _  _ _ hq => tw_no hq⟩
    | succ k ih =>
      obtain ⟨ih_0, ih_1, ih_2, ih_3⟩ := ih
      refine ⟨?_, ?_, ?_, ?_⟩
      · intro x1 x2 x3 x4 x5 x6 x7 z H locs ls  hM hl hq
        have hq : qm_X13_begins_0 K (q_X13_begins K k) x1 x2 x3 x4 x5 x6 x7 z = some (r, z1) := hq
        unfold qm_X13_begins_0 at hq
        refine lv_aload_n hx hb dmX13_begins_0 rfl (lv_at hl 0 rfl) ?_
        refine mg13_341 hx hb hT hown hK hM dmX13_begins_1 ?_
        refine lv_sipush (v := 480) hx hb dmX13_begins_4 (by decide) ?_
        refine lv_iload_n hx hb dmX13_begins_7 rfl (lv_at hl 1 rfl) ?_
        refine lv_imul hx hb dmX13_begins_8 ?_
        refine lv_iload_n hx hb dmX13_begins_9 rfl (lv_at hl 2 rfl) ?_
        refine lv_iadd hx hb dmX13_begins_10 ?_
        refine tw_iald mX_ok hx hb hK hM mr_101 hq dmX13_begins_11 (fun v1 hq => ?_)
        refine lv_istore_n (lv' := [(3, .int v1), (0, .ref (u 0)), (1, .int x1), (2, .int x2)]) hx hb dmX13_begins_12 rfl hl (by decide) rfl (fun ls hl => ?_)
        refine lv_aload_n hx hb dmX13_begins_13 rfl (lv_at hl 1 rfl) ?_
        refine lv_iconst (v := 0) hx hb dmX13_begins_14 (by decide) ?_
        refine mp13_745 hx hb hT hown hK hM hU hq dmX13_begins_15 (fun z2 H locs hM hq => ?_)
        refine lv_iconst (v := 0) hx hb dmX13_begins_18 (by decide) ?_
        refine lv_istore (lv' := [(4, .int 0), (3, .int v1), (0, .ref (u 0)), (1, .int x1), (2, .int x2)]) hx hb dmX13_begins_19 hl (by decide) rfl (fun ls hl => ?_)
        exact ih_1 x1 x2 v1 0 0 0 0 z2 H locs ls hM (lv_sub hl [2, 3, 4, 1, 0] rfl) hq
      · intro x1 x2 x3 x4 x5 x6 x7 z H locs ls  hM hl hq
        have hq : qm_X13_begins_1 K (q_X13_begins K k) x1 x2 x3 x4 x5 x6 x7 z = some (r, z1) := hq
        unfold qm_X13_begins_1 at hq
        refine lv_iload hx hb dmX13_begins_21 (lv_at hl 4 rfl) ?_
        refine lv_aload_n hx hb dmX13_begins_23 rfl (lv_at hl 0 rfl) ?_
        refine mg13_742 hx hb hT hown hK hM hq dmX13_begins_24 (fun v3 hq => ?_)
        refine lv_icmp_ge (tgt := 162) hx hb dmX13_begins_27 (by decide) (fun hc => ?_) (fun hc => ?_)
        · have hq := tw_it hq hc
          refine lv_iload_n hx hb dmX13_begins_162 rfl (lv_at hl 3 rfl) ?_
          refine lv_if_ne (tgt := 170) hx hb dmX13_begins_163 (by decide) (fun hc => ?_) (fun hc => ?_)
          · have hq := tw_if hq hc
            refine lv_iconst (v := 0) hx hb dmX13_begins_170 (by decide) ?_
            obtain ⟨hz, hq⟩ := tw_gZ hq
            exact mw_zret hx hb hr hlocks hM hz hq hQQ dmX13_begins_171
          · have hq := tw_it hq hc
            refine lv_iconst (v := 1) hx hb dmX13_begins_166 (by decide) ?_
            refine lv_goto (tgt := 171) hx hb dmX13_begins_167 (by decide) ?_
            obtain ⟨hz, hq⟩ := tw_gZ hq
            exact mw_zret hx hb hr hlocks hM hz hq hQQ dmX13_begins_171
        · have hq := tw_if hq hc
          refine lv_iload_n hx hb dmX13_begins_30 rfl (lv_at hl 3 rfl) ?_
          refine lv_if_ne (tgt := 63) hx hb dmX13_begins_31 (by decide) (fun hc => ?_) (fun hc => ?_)
          · have hq := tw_if hq hc
            refine lv_iconst (v := 4) hx hb dmX13_begins_63 (by decide) ?_
            refine lv_bipush (v := 120) hx hb dmX13_begins_64 (by decide) ?_
            refine lv_iload_n hx hb dmX13_begins_66 rfl (lv_at hl 1 rfl) ?_
            refine lv_imul hx hb dmX13_begins_67 ?_
            refine lv_iload_n hx hb dmX13_begins_68 rfl (lv_at hl 3 rfl) ?_
            refine lv_iadd hx hb dmX13_begins_69 ?_
            refine lv_imul hx hb dmX13_begins_70 ?_
            refine lv_aload_n hx hb dmX13_begins_71 rfl (lv_at hl 0 rfl) ?_
            refine mg13_362 hx hb hT hown hK hM dmX13_begins_72 ?_
            refine lv_iload hx hb dmX13_begins_75 (lv_at hl 4 rfl) ?_
            refine tw_iald mX_ok hx hb hK hM mr_108 hq dmX13_begins_77 (fun v4 hq => ?_)
            refine lv_iadd hx hb dmX13_begins_78 ?_
            refine lv_istore (lv' := [(5, .int ((4 * ((120 * x1) + x3)) + v4)), (0, .ref (u 0)), (1, .int x1), (2, .int x2), (3, .int x3), (4, .int x4)]) hx hb dmX13_begins_79 hl (by decide) rfl (fun ls hl => ?_)
            refine lv_bipush (v := 120) hx hb dmX13_begins_81 (by decide) ?_
            refine lv_iload_n hx hb dmX13_begins_83 rfl (lv_at hl 2 rfl) ?_
            refine lv_imul hx hb dmX13_begins_84 ?_
            refine lv_aload_n hx hb dmX13_begins_85 rfl (lv_at hl 1 rfl) ?_
            refine mg13_350 hx hb hT hown hK hM dmX13_begins_86 ?_
            refine lv_iload hx hb dmX13_begins_89 (lv_at hl 0 rfl) ?_
            refine tw_iald mX_ok hx hb hK hM mr_104 hq dmX13_begins_91 (fun v5 hq => ?_)
            refine lv_iadd hx hb dmX13_begins_92 ?_
            refine lv_istore (lv' := [(6, .int ((120 * x1) + v5)), (5, .int ((4 * ((120 * x1) + x3)) + v4)), (0, .ref (u 0)), (1, .int x1), (2, .int x2), (3, .int x3), (4, .int x4)]) hx hb dmX13_begins_93 hl (by decide) rfl (fun ls hl => ?_)
            refine lv_iconst (v := 0) hx hb dmX13_begins_95 (by decide) ?_
            refine lv_istore (lv' := [(7, .int 0), (6, .int ((120 * x1) + v5)), (5, .int ((4 * ((120 * x1) + x3)) + v4)), (0, .ref (u 0)), (1, .int x1), (2, .int x2), (3, .int x3), (4, .int x4)]) hx hb dmX13_begins_96 hl (by decide) rfl (fun ls hl => ?_)
            exact ih_2 x1 x2 x3 x4 ((4 * ((120 * x1) + x3)) + v4) ((120 * x1) + v5) 0 z H locs ls hM (lv_sub hl [3, 4, 5, 6, 7, 2, 1, 0] rfl) hq
          · have hq := tw_it hq hc
            refine lv_aload_n hx hb dmX13_begins_34 rfl (lv_at hl 0 rfl) ?_
            refine mg13_365 hx hb hT hown hK hM dmX13_begins_35 ?_
            refine lv_aload_n hx hb dmX13_begins_38 rfl (lv_at hl 0 rfl) ?_
            refine mg13_745 hx hb hT hown hK hM hq dmX13_begins_39 (fun v6 hq => ?_)
            refine lv_aload_n hx hb dmX13_begins_42 rfl (lv_at hl 0 rfl) ?_
            refine mg13_362 hx hb hT hown hK hM dmX13_begins_43 ?_
            refine lv_iload hx hb dmX13_begins_46 (lv_at hl 4 rfl) ?_
            refine tw_iald mX_ok hx hb hK hM mr_108 hq dmX13_begins_48 (fun v7 hq => ?_)
            refine tw_iast mX_ok hU hx hb hK hM mr_110 hq dmX13_begins_49 (fun z8 H locs hM hq => ?_)
            refine lv_aload_n hx hb dmX13_begins_50 rfl (lv_at hl 0 rfl) ?_
            refine lv_dup hx hb dmX13_begins_51 rfl ?_
            refine mg13_745 hx hb hT hown hK hM hq dmX13_begins_52 (fun v9 hq => ?_)
            refine lv_iconst (v := 1) hx hb dmX13_begins_55 (by decide) ?_
            refine lv_iadd hx hb dmX13_begins_56 ?_
            refine mp13_745 hx hb hT hown hK hM hU hq dmX13_begins_57 (fun z10 H locs hM hq => ?_)
            refine lv_goto (tgt := 156) hx hb dmX13_begins_60 (by decide) ?_
            exact ih_3 x1 x2 x3 x4 0 0 0 z10 H locs ls hM (lv_sub hl [0, 1, 2, 3, 4] rfl) hq
      · intro x1 x2 x3 x4 x5 x6 x7 z H locs ls  hM hl hq
        have hq : qm_X13_begins_2 K (q_X13_begins K k) x1 x2 x3 x4 x5 x6 x7 z = some (r, z1) := hq
        unfold qm_X13_begins_2 at hq
        refine lv_iload hx hb dmX13_begins_98 (lv_at hl 7 rfl) ?_
        refine lv_aload_n hx hb dmX13_begins_100 rfl (lv_at hl 0 rfl) ?_
        refine mg13_338 hx hb hT hown hK hM dmX13_begins_101 ?_
        refine lv_iload hx hb dmX13_begins_104 (lv_at hl 6 rfl) ?_
        refine tw_iald mX_ok hx hb hK hM mr_100 hq dmX13_begins_106 (fun v11 hq => ?_)
        refine lv_icmp_ge (tgt := 148) hx hb dmX13_begins_107 (by decide) (fun hc => ?_) (fun hc => ?_)
        · have hq := tw_it hq hc
          refine lv_aload_n hx hb dmX13_begins_148 rfl (lv_at hl 0 rfl) ?_
          refine mg13_353 hx hb hT hown hK hM dmX13_begins_149 ?_
          refine lv_iload hx hb dmX13_begins_152 (lv_at hl 5 rfl) ?_
          refine tw_iald mX_ok hx hb hK hM mr_105 hq dmX13_begins_154 (fun v12 hq => ?_)
          refine lv_istore_n (lv' := [(3, .int v12), (0, .ref (u 0)), (1, .int x1), (2, .int x2), (4, .int x4), (5, .int x5), (6, .int x6), (7, .int x7)]) hx hb dmX13_begins_155 rfl hl (by decide) rfl (fun ls hl => ?_)
          exact ih_3 x1 x2 v12 x4 0 0 0 z H locs ls hM (lv_sub hl [1, 2, 3, 0, 4] rfl) hq
        · have hq := tw_if hq hc
          refine lv_aload_n hx hb dmX13_begins_110 rfl (lv_at hl 0 rfl) ?_
          refine mg13_365 hx hb hT hown hK hM dmX13_begins_111 ?_
          refine lv_aload_n hx hb dmX13_begins_114 rfl (lv_at hl 0 rfl) ?_
          refine mg13_745 hx hb hT hown hK hM hq dmX13_begins_115 (fun v13 hq => ?_)
          refine lv_aload_n hx hb dmX13_begins_118 rfl (lv_at hl 0 rfl) ?_
          refine mg13_335 hx hb hT hown hK hM dmX13_begins_119 ?_
          refine lv_bipush (v := 10) hx hb dmX13_begins_122 (by decide) ?_
          refine lv_iload hx hb dmX13_begins_124 (lv_at hl 6 rfl) ?_
          refine lv_imul hx hb dmX13_begins_126 ?_
          refine lv_iload hx hb dmX13_begins_127 (lv_at hl 7 rfl) ?_
          refine lv_iadd hx hb dmX13_begins_129 ?_
          refine tw_iald mX_ok hx hb hK hM mr_99 hq dmX13_begins_130 (fun v14 hq => ?_)
          refine tw_iast mX_ok hU hx hb hK hM mr_110 hq dmX13_begins_131 (fun z15 H locs hM hq => ?_)
          refine lv_aload_n hx hb dmX13_begins_132 rfl (lv_at hl 0 rfl) ?_
          refine lv_dup hx hb dmX13_begins_133 rfl ?_
          refine mg13_745 hx hb hT hown hK hM hq dmX13_begins_134 (fun v16 hq => ?_)
          refine lv_iconst (v := 1) hx hb dmX13_begins_137 (by decide) ?_
          refine lv_iadd hx hb dmX13_begins_138 ?_
          refine mp13_745 hx hb hT hown hK hM hU hq dmX13_begins_139 (fun z17 H locs hM hq => ?_)
          refine lv_iinc (v := (x7 + 1)) (lv' := [(7, .int (x7 + 1)), (0, .ref (u 0)), (1, .int x1), (2, .int x2), (3, .int x3), (4, .int x4), (5, .int x5), (6, .int x6)]) hx hb dmX13_begins_142 hl (k := 7) rfl rfl (by decide) rfl (fun ls hl => ?_)
          refine lv_goto (tgt := 98) hx hb dmX13_begins_145 (by decide) ?_
          exact ih_2 x1 x2 x3 x4 x5 x6 (x7 + 1) z17 H locs ls hM (lv_sub hl [1, 2, 3, 4, 5, 6, 7, 0] rfl) hq
      · intro x1 x2 x3 x4 x5 x6 x7 z H locs ls  hM hl hq
        have hq : qm_X13_begins_3 K (q_X13_begins K k) x1 x2 x3 x4 x5 x6 x7 z = some (r, z1) := hq
        unfold qm_X13_begins_3 at hq
        refine lv_iinc (v := (x4 + 1)) (lv' := [(4, .int (x4 + 1)), (0, .ref (u 0)), (1, .int x1), (2, .int x2), (3, .int x3)]) hx hb dmX13_begins_156 hl (k := 4) rfl rfl (by decide) rfl (fun ls hl => ?_)
        refine lv_goto (tgt := 21) hx hb dmX13_begins_159 (by decide) ?_
        exact ih_1 x1 x2 x3 (x4 + 1) 0 0 0 z H locs ls hM (lv_sub hl [1, 2, 3, 4, 0] rfl) hq
  exact (key K).1 x1 x2 0 0 0 0 0 z s.heap [] ls  hM (lv_sub hl [0, 1, 2] rfl) hq
theorem dmX13_normalise_0 : decode cX13_normalise 0 = .ok (.aload_n 0, 1) := dw_at cX13_normalise_k0 (p := 0) rfl (by decide +kernel)
theorem dmX13_normalise_1 : decode cX13_normalise 1 = .ok (.iload_n 2, 1) := dw_at cX13_normalise_k0 (p := 1) rfl (by decide +kernel)
theorem dmX13_normalise_2 : decode cX13_normalise 2 = .ok (.putfield 748, 3) := dw_at cX13_normalise_k0 (p := 2) rfl (by decide +kernel)
theorem dmX13_normalise_5 : decode cX13_normalise 5 = .ok (.aload_n 0, 1) := dw_at cX13_normalise_k0 (p := 5) rfl (by decide +kernel)
theorem dmX13_normalise_6 : decode cX13_normalise 6 = .ok (.iconst 0, 1) := dw_at cX13_normalise_k0 (p := 6) rfl (by decide +kernel)
theorem dmX13_normalise_7 : decode cX13_normalise 7 = .ok (.putfield 751, 3) := dw_at cX13_normalise_k0 (p := 7) rfl (by decide +kernel)
theorem dmX13_normalise_10 : decode cX13_normalise 10 = .ok (.aload_n 0, 1) := dw_at cX13_normalise_k0 (p := 10) rfl (by decide +kernel)
theorem dmX13_normalise_11 : decode cX13_normalise 11 = .ok (.getfield 329, 3) := dw_at cX13_normalise_k0 (p := 11) rfl (by decide +kernel)
theorem dmX13_normalise_14 : decode cX13_normalise 14 = .ok (.iload_n 1, 1) := dw_at cX13_normalise_k0 (p := 14) rfl (by decide +kernel)
theorem dmX13_normalise_15 : decode cX13_normalise 15 = .ok (.iaload, 1) := dw_at cX13_normalise_k0 (p := 15) rfl (by decide +kernel)
theorem dmX13_normalise_16 : decode cX13_normalise 16 = .ok (.iconst 1, 1) := dw_at cX13_normalise_k0 (p := 16) rfl (by decide +kernel)
theorem dmX13_normalise_17 : decode cX13_normalise 17 = .ok (.isub, 1) := dw_at cX13_normalise_k0 (p := 17) rfl (by decide +kernel)
theorem dmX13_normalise_18 : decode cX13_normalise 18 = .ok (.istore_n 3, 1) := dw_at cX13_normalise_k0 (p := 18) rfl (by decide +kernel)
theorem dmX13_normalise_19 : decode cX13_normalise 19 = .ok (.aload_n 0, 1) := dw_at cX13_normalise_k0 (p := 19) rfl (by decide +kernel)
theorem dmX13_normalise_20 : decode cX13_normalise 20 = .ok (.getfield 742, 3) := dw_at cX13_normalise_k0 (p := 20) rfl (by decide +kernel)
theorem dmX13_normalise_23 : decode cX13_normalise 23 = .ok (.ifCond .le 174, 3) := dw_at cX13_normalise_k0 (p := 23) rfl (by decide +kernel)
theorem dmX13_normalise_26 : decode cX13_normalise 26 = .ok (.iconst 0, 1) := dw_at cX13_normalise_k1 (p := 0) rfl (by decide +kernel)
theorem dmX13_normalise_27 : decode cX13_normalise 27 = .ok (.istore 4, 2) := dw_at cX13_normalise_k1 (p := 1) rfl (by decide +kernel)
theorem dmX13_normalise_29 : decode cX13_normalise 29 = .ok (.iconst 1, 1) := dw_at cX13_normalise_k1 (p := 3) rfl (by decide +kernel)
theorem dmX13_normalise_30 : decode cX13_normalise 30 = .ok (.istore 5, 2) := dw_at cX13_normalise_k1 (p := 4) rfl (by decide +kernel)
theorem dmX13_normalise_32 : decode cX13_normalise 32 = .ok (.iload 5, 2) := dw_at cX13_normalise_k1 (p := 6) rfl (by decide +kernel)
theorem dmX13_normalise_34 : decode cX13_normalise 34 = .ok (.ifCond .eq 120, 3) := dw_at cX13_normalise_k1 (p := 8) rfl (by decide +kernel)
theorem dmX13_normalise_37 : decode cX13_normalise 37 = .ok (.iconst 0, 1) := dw_at cX13_normalise_k1 (p := 11) rfl (by decide +kernel)
theorem dmX13_normalise_38 : decode cX13_normalise 38 = .ok (.istore 5, 2) := dw_at cX13_normalise_k1 (p := 12) rfl (by decide +kernel)
theorem dmX13_normalise_40 : decode cX13_normalise 40 = .ok (.iconst 0, 1) := dw_at cX13_normalise_k1 (p := 14) rfl (by decide +kernel)
theorem dmX13_normalise_41 : decode cX13_normalise 41 = .ok (.istore 6, 2) := dw_at cX13_normalise_k1 (p := 15) rfl (by decide +kernel)
theorem dmX13_normalise_43 : decode cX13_normalise 43 = .ok (.iload 6, 2) := dw_at cX13_normalise_k1 (p := 17) rfl (by decide +kernel)
theorem dmX13_normalise_45 : decode cX13_normalise 45 = .ok (.iload_n 1, 1) := dw_at cX13_normalise_k1 (p := 19) rfl (by decide +kernel)
theorem dmX13_normalise_46 : decode cX13_normalise 46 = .ok (.iconst 1, 1) := dw_at cX13_normalise_k1 (p := 20) rfl (by decide +kernel)
theorem dmX13_normalise_47 : decode cX13_normalise 47 = .ok (.isub, 1) := dw_at cX13_normalise_k1 (p := 21) rfl (by decide +kernel)
theorem dmX13_normalise_48 : decode cX13_normalise 48 = .ok (.if_icmp .ge 103, 3) := dw_at cX13_normalise_k1 (p := 22) rfl (by decide +kernel)
theorem dmX13_normalise_51 : decode cX13_normalise 51 = .ok (.iload 5, 2) := dw_at cX13_normalise_k2 (p := 0) rfl (by decide +kernel)
theorem dmX13_normalise_53 : decode cX13_normalise 53 = .ok (.ifCond .ne 98, 3) := dw_at cX13_normalise_k2 (p := 2) rfl (by decide +kernel)
theorem dmX13_normalise_56 : decode cX13_normalise 56 = .ok (.aload_n 0, 1) := dw_at cX13_normalise_k2 (p := 5) rfl (by decide +kernel)
theorem dmX13_normalise_57 : decode cX13_normalise 57 = .ok (.getfield 341, 3) := dw_at cX13_normalise_k2 (p := 6) rfl (by decide +kernel)
theorem dmX13_normalise_60 : decode cX13_normalise 60 = .ok (.iconst 4, 1) := dw_at cX13_normalise_k2 (p := 9) rfl (by decide +kernel)
theorem dmX13_normalise_61 : decode cX13_normalise 61 = .ok (.bipush 120, 2) := dw_at cX13_normalise_k2 (p := 10) rfl (by decide +kernel)
theorem dmX13_normalise_63 : decode cX13_normalise 63 = .ok (.iload_n 1, 1) := dw_at cX13_normalise_k2 (p := 12) rfl (by decide +kernel)
theorem dmX13_normalise_64 : decode cX13_normalise 64 = .ok (.imul, 1) := dw_at cX13_normalise_k2 (p := 13) rfl (by decide +kernel)
theorem dmX13_normalise_65 : decode cX13_normalise 65 = .ok (.iload 4, 2) := dw_at cX13_normalise_k2 (p := 14) rfl (by decide +kernel)
theorem dmX13_normalise_67 : decode cX13_normalise 67 = .ok (.iadd, 1) := dw_at cX13_normalise_k2 (p := 16) rfl (by decide +kernel)
theorem dmX13_normalise_68 : decode cX13_normalise 68 = .ok (.imul, 1) := dw_at cX13_normalise_k2 (p := 17) rfl (by decide +kernel)
theorem dmX13_normalise_69 : decode cX13_normalise 69 = .ok (.iload 6, 2) := dw_at cX13_normalise_k2 (p := 18) rfl (by decide +kernel)
theorem dmX13_normalise_71 : decode cX13_normalise 71 = .ok (.iadd, 1) := dw_at cX13_normalise_k2 (p := 20) rfl (by decide +kernel)
theorem dmX13_normalise_72 : decode cX13_normalise 72 = .ok (.iaload, 1) := dw_at cX13_normalise_k2 (p := 21) rfl (by decide +kernel)
theorem dmX13_normalise_73 : decode cX13_normalise 73 = .ok (.istore 7, 2) := dw_at cX13_normalise_k2 (p := 22) rfl (by decide +kernel)
theorem dmX13_normalise_75 : decode cX13_normalise 75 = .ok (.iload 7, 2) := dw_at cX13_normalise_k3 (p := 0) rfl (by decide +kernel)
theorem dmX13_normalise_77 : decode cX13_normalise 77 = .ok (.iconst (-1), 1) := dw_at cX13_normalise_k3 (p := 2) rfl (by decide +kernel)
theorem dmX13_normalise_78 : decode cX13_normalise 78 = .ok (.if_icmp .eq 67, 3) := dw_at cX13_normalise_k3 (p := 3) rfl (by decide +kernel)
theorem dmX13_normalise_81 : decode cX13_normalise 81 = .ok (.aload_n 0, 1) := dw_at cX13_normalise_k3 (p := 6) rfl (by decide +kernel)
theorem dmX13_normalise_82 : decode cX13_normalise 82 = .ok (.getfield 742, 3) := dw_at cX13_normalise_k3 (p := 7) rfl (by decide +kernel)
theorem dmX13_normalise_85 : decode cX13_normalise 85 = .ok (.ifCond .le 60, 3) := dw_at cX13_normalise_k3 (p := 10) rfl (by decide +kernel)
theorem dmX13_normalise_88 : decode cX13_normalise 88 = .ok (.aload_n 0, 1) := dw_at cX13_normalise_k3 (p := 13) rfl (by decide +kernel)
theorem dmX13_normalise_89 : decode cX13_normalise 89 = .ok (.iload_n 1, 1) := dw_at cX13_normalise_k3 (p := 14) rfl (by decide +kernel)
theorem dmX13_normalise_90 : decode cX13_normalise 90 = .ok (.iload 6, 2) := dw_at cX13_normalise_k3 (p := 15) rfl (by decide +kernel)
theorem dmX13_normalise_92 : decode cX13_normalise 92 = .ok (.invokevirtual 754, 3) := dw_at cX13_normalise_k3 (p := 17) rfl (by decide +kernel)
theorem dmX13_normalise_95 : decode cX13_normalise 95 = .ok (.ifCond .eq 50, 3) := dw_at cX13_normalise_k3 (p := 20) rfl (by decide +kernel)
theorem dmX13_normalise_98 : decode cX13_normalise 98 = .ok (.iload 7, 2) := dw_at cX13_normalise_k3 (p := 23) rfl (by decide +kernel)
theorem dmX13_normalise_100 : decode cX13_normalise 100 = .ok (.istore 4, 2) := dw_at cX13_normalise_k4 (p := 0) rfl (by decide +kernel)
theorem dmX13_normalise_102 : decode cX13_normalise 102 = .ok (.aload_n 0, 1) := dw_at cX13_normalise_k4 (p := 2) rfl (by decide +kernel)
theorem dmX13_normalise_103 : decode cX13_normalise 103 = .ok (.aload_n 0, 1) := dw_at cX13_normalise_k4 (p := 3) rfl (by decide +kernel)
theorem dmX13_normalise_104 : decode cX13_normalise 104 = .ok (.getfield 745, 3) := dw_at cX13_normalise_k4 (p := 4) rfl (by decide +kernel)
theorem dmX13_normalise_107 : decode cX13_normalise 107 = .ok (.putfield 742, 3) := dw_at cX13_normalise_k4 (p := 7) rfl (by decide +kernel)
theorem dmX13_normalise_110 : decode cX13_normalise 110 = .ok (.iconst 0, 1) := dw_at cX13_normalise_k4 (p := 10) rfl (by decide +kernel)
theorem dmX13_normalise_111 : decode cX13_normalise 111 = .ok (.istore 8, 2) := dw_at cX13_normalise_k4 (p := 11) rfl (by decide +kernel)
theorem dmX13_normalise_113 : decode cX13_normalise 113 = .ok (.iload 8, 2) := dw_at cX13_normalise_k4 (p := 13) rfl (by decide +kernel)
theorem dmX13_normalise_115 : decode cX13_normalise 115 = .ok (.aload_n 0, 1) := dw_at cX13_normalise_k4 (p := 15) rfl (by decide +kernel)
theorem dmX13_normalise_116 : decode cX13_normalise 116 = .ok (.getfield 742, 3) := dw_at cX13_normalise_k4 (p := 16) rfl (by decide +kernel)
theorem dmX13_normalise_119 : decode cX13_normalise 119 = .ok (.if_icmp .ge 23, 3) := dw_at cX13_normalise_k4 (p := 19) rfl (by decide +kernel)
theorem dmX13_normalise_122 : decode cX13_normalise 122 = .ok (.aload_n 0, 1) := dw_at cX13_normalise_k4 (p := 22) rfl (by decide +kernel)
theorem dmX13_normalise_123 : decode cX13_normalise 123 = .ok (.getfield 362, 3) := dw_at cX13_normalise_k4 (p := 23) rfl (by decide +kernel)
theorem dmX13_normalise_126 : decode cX13_normalise 126 = .ok (.iload 8, 2) := dw_at cX13_normalise_k5 (p := 0) rfl (by decide +kernel)
theorem dmX13_normalise_128 : decode cX13_normalise 128 = .ok (.aload_n 0, 1) := dw_at cX13_normalise_k5 (p := 2) rfl (by decide +kernel)
theorem dmX13_normalise_129 : decode cX13_normalise 129 = .ok (.getfield 365, 3) := dw_at cX13_normalise_k5 (p := 3) rfl (by decide +kernel)
theorem dmX13_normalise_132 : decode cX13_normalise 132 = .ok (.iload 8, 2) := dw_at cX13_normalise_k5 (p := 6) rfl (by decide +kernel)
theorem dmX13_normalise_134 : decode cX13_normalise 134 = .ok (.iaload, 1) := dw_at cX13_normalise_k5 (p := 8) rfl (by decide +kernel)
theorem dmX13_normalise_135 : decode cX13_normalise 135 = .ok (.iastore, 1) := dw_at cX13_normalise_k5 (p := 9) rfl (by decide +kernel)
theorem dmX13_normalise_136 : decode cX13_normalise 136 = .ok (.iinc 8 1, 3) := dw_at cX13_normalise_k5 (p := 10) rfl (by decide +kernel)
theorem dmX13_normalise_139 : decode cX13_normalise 139 = .ok (.goto (-26), 3) := dw_at cX13_normalise_k5 (p := 13) rfl (by decide +kernel)
theorem dmX13_normalise_142 : decode cX13_normalise 142 = .ok (.iconst 1, 1) := dw_at cX13_normalise_k5 (p := 16) rfl (by decide +kernel)
theorem dmX13_normalise_143 : decode cX13_normalise 143 = .ok (.istore 5, 2) := dw_at cX13_normalise_k5 (p := 17) rfl (by decide +kernel)
theorem dmX13_normalise_145 : decode cX13_normalise 145 = .ok (.iinc 6 1, 3) := dw_at cX13_normalise_k5 (p := 19) rfl (by decide +kernel)
theorem dmX13_normalise_148 : decode cX13_normalise 148 = .ok (.goto (-105), 3) := dw_at cX13_normalise_k5 (p := 22) rfl (by decide +kernel)
theorem dmX13_normalise_151 : decode cX13_normalise 151 = .ok (.goto (-119), 3) := dw_at cX13_normalise_k6 (p := 0) rfl (by decide +kernel)
theorem dmX13_normalise_154 : decode cX13_normalise 154 = .ok (.iload 4, 2) := dw_at cX13_normalise_k6 (p := 3) rfl (by decide +kernel)
theorem dmX13_normalise_156 : decode cX13_normalise 156 = .ok (.iload_n 3, 1) := dw_at cX13_normalise_k6 (p := 5) rfl (by decide +kernel)
theorem dmX13_normalise_157 : decode cX13_normalise 157 = .ok (.if_icmp .ne 16, 3) := dw_at cX13_normalise_k6 (p := 6) rfl (by decide +kernel)
theorem dmX13_normalise_160 : decode cX13_normalise 160 = .ok (.aload_n 0, 1) := dw_at cX13_normalise_k6 (p := 9) rfl (by decide +kernel)
theorem dmX13_normalise_161 : decode cX13_normalise 161 = .ok (.dup, 1) := dw_at cX13_normalise_k6 (p := 10) rfl (by decide +kernel)
theorem dmX13_normalise_162 : decode cX13_normalise 162 = .ok (.getfield 748, 3) := dw_at cX13_normalise_k6 (p := 11) rfl (by decide +kernel)
theorem dmX13_normalise_165 : decode cX13_normalise 165 = .ok (.iconst 1, 1) := dw_at cX13_normalise_k6 (p := 14) rfl (by decide +kernel)
theorem dmX13_normalise_166 : decode cX13_normalise 166 = .ok (.iadd, 1) := dw_at cX13_normalise_k6 (p := 15) rfl (by decide +kernel)
theorem dmX13_normalise_167 : decode cX13_normalise 167 = .ok (.putfield 748, 3) := dw_at cX13_normalise_k6 (p := 16) rfl (by decide +kernel)
theorem dmX13_normalise_170 : decode cX13_normalise 170 = .ok (.goto 24, 3) := dw_at cX13_normalise_k6 (p := 19) rfl (by decide +kernel)
theorem dmX13_normalise_173 : decode cX13_normalise 173 = .ok (.aload_n 0, 1) := dw_at cX13_normalise_k6 (p := 22) rfl (by decide +kernel)
theorem dmX13_normalise_174 : decode cX13_normalise 174 = .ok (.getfield 368, 3) := dw_at cX13_normalise_k6 (p := 23) rfl (by decide +kernel)
theorem dmX13_normalise_177 : decode cX13_normalise 177 = .ok (.aload_n 0, 1) := dw_at cX13_normalise_k7 (p := 0) rfl (by decide +kernel)
theorem dmX13_normalise_178 : decode cX13_normalise 178 = .ok (.getfield 751, 3) := dw_at cX13_normalise_k7 (p := 1) rfl (by decide +kernel)
theorem dmX13_normalise_181 : decode cX13_normalise 181 = .ok (.iload 4, 2) := dw_at cX13_normalise_k7 (p := 4) rfl (by decide +kernel)
theorem dmX13_normalise_183 : decode cX13_normalise 183 = .ok (.iastore, 1) := dw_at cX13_normalise_k7 (p := 6) rfl (by decide +kernel)
theorem dmX13_normalise_184 : decode cX13_normalise 184 = .ok (.aload_n 0, 1) := dw_at cX13_normalise_k7 (p := 7) rfl (by decide +kernel)
theorem dmX13_normalise_185 : decode cX13_normalise 185 = .ok (.dup, 1) := dw_at cX13_normalise_k7 (p := 8) rfl (by decide +kernel)
theorem dmX13_normalise_186 : decode cX13_normalise 186 = .ok (.getfield 751, 3) := dw_at cX13_normalise_k7 (p := 9) rfl (by decide +kernel)
theorem dmX13_normalise_189 : decode cX13_normalise 189 = .ok (.iconst 1, 1) := dw_at cX13_normalise_k7 (p := 12) rfl (by decide +kernel)
theorem dmX13_normalise_190 : decode cX13_normalise 190 = .ok (.iadd, 1) := dw_at cX13_normalise_k7 (p := 13) rfl (by decide +kernel)
theorem dmX13_normalise_191 : decode cX13_normalise 191 = .ok (.putfield 751, 3) := dw_at cX13_normalise_k7 (p := 14) rfl (by decide +kernel)
theorem dmX13_normalise_194 : decode cX13_normalise 194 = .ok (.goto (-175), 3) := dw_at cX13_normalise_k7 (p := 17) rfl (by decide +kernel)
theorem dmX13_normalise_197 : decode cX13_normalise 197 = .ok (.return_, 1) := dw_at cX13_normalise_k7 (p := 20) rfl (by decide +kernel)
def qm_X13_normalise_0 (K : Nat) (go : Nat → Int32 → Int32 → Int32 → Int32 → Int32 → Int32 → Int32 → Int32 → ow_MS → Option ow_MS) (x1 : Int32) (x2 : Int32) (x3 : Int32) (x4 : Int32) (x5 : Int32) (x6 : Int32) (x7 : Int32) (x8 : Int32) (z : ow_MS) : Option ow_MS :=
 wrF z 112 x2 fun z1 => wrF z1 113 0 fun z2 => rdI mX z2 97 x1 fun v3 => go 1 x1 x2 (v3 - 1) 0 0 0 0 0 z2
def qm_X13_normalise_1 (K : Nat) (go : Nat → Int32 → Int32 → Int32 → Int32 → Int32 → Int32 → Int32 → Int32 → ow_MS → Option ow_MS) (x1 : Int32) (x2 : Int32) (x3 : Int32) (x4 : Int32) (x5 : Int32) (x6 : Int32) (x7 : Int32) (x8 : Int32) (z : ow_MS) : Option ow_MS :=
 rdF z 109 fun v4 => (if v4 ≤ 0 then some z
 else go 2 x1 x2 x3 0 1 0 0 0 z)
def qm_X13_normalise_2 (K : Nat) (go : Nat → Int32 → Int32 → Int32 → Int32 → Int32 → Int32 → Int32 → Int32 → ow_MS → Option ow_MS) (x1 : Int32) (x2 : Int32) (x3 : Int32) (x4 : Int32) (x5 : Int32) (x6 : Int32) (x7 : Int32) (x8 : Int32) (z : ow_MS) : Option ow_MS :=
 (if x5 = 0 then (if x4 = x3 then rdF z 112 fun v9 => wrF z 112 (v9 + 1) fun z10 => go 7 x1 x2 x3 x4 x5 0 0 0 z10
 else rdF z 113 fun v5 => wrI mX z 114 v5 x4 fun z6 => rdF z6 113 fun v7 => wrF z6 113 (v7 + 1) fun z8 => go 7 x1 x2 x3 x4 x5 0 0 0 z8)
 else go 3 x1 x2 x3 x4 0 0 0 0 z)
def qm_X13_normalise_3 (K : Nat) (go : Nat → Int32 → Int32 → Int32 → Int32 → Int32 → Int32 → Int32 → Int32 → ow_MS → Option ow_MS) (x1 : Int32) (x2 : Int32) (x3 : Int32) (x4 : Int32) (x5 : Int32) (x6 : Int32) (x7 : Int32) (x8 : Int32) (z : ow_MS) : Option ow_MS :=
 (if (x1 - 1) ≤ x6 then go 6 x1 x2 x3 x4 x5 x6 0 0 z
 else (if x5 = 0 then rdI mX z 101 ((4 * ((120 * x1) + x4)) + x6) fun v11 => (if v11 = (-1) then go 5 x1 x2 x3 x4 x5 x6 v11 0 z
 else rdF z 109 fun v12 => (if v12 ≤ 0 then go 5 x1 x2 x3 x4 x5 x6 v11 0 z
 else cs1 (qe_X13_begins K x1 x6 z) fun v14 z13 => (if v14 = 0 then go 5 x1 x2 x3 x4 x5 x6 v11 0 z13
 else rdF z13 111 fun v15 => wrF z13 109 v15 fun z16 => go 4 x1 x2 x3 v11 x5 x6 v11 0 z16)))
 else go 6 x1 x2 x3 x4 x5 x6 0 0 z))
def qm_X13_normalise_4 (K : Nat) (go : Nat → Int32 → Int32 → Int32 → Int32 → Int32 → Int32 → Int32 → Int32 → ow_MS → Option ow_MS) (x1 : Int32) (x2 : Int32) (x3 : Int32) (x4 : Int32) (x5 : Int32) (x6 : Int32) (x7 : Int32) (x8 : Int32) (z : ow_MS) : Option ow_MS :=
 rdF z 109 fun v17 => (if v17 ≤ x8 then go 5 x1 x2 x3 x4 1 x6 x7 0 z
 else rdI mX z 110 x8 fun v18 => wrI mX z 108 x8 v18 fun z19 => go 4 x1 x2 x3 x4 x5 x6 x7 (x8 + 1) z19)
def qm_X13_normalise_5 (K : Nat) (go : Nat → Int32 → Int32 → Int32 → Int32 → Int32 → Int32 → Int32 → Int32 → ow_MS → Option ow_MS) (x1 : Int32) (x2 : Int32) (x3 : Int32) (x4 : Int32) (x5 : Int32) (x6 : Int32) (x7 : Int32) (x8 : Int32) (z : ow_MS) : Option ow_MS :=
 go 3 x1 x2 x3 x4 x5 (x6 + 1) 0 0 z
def qm_X13_normalise_6 (K : Nat) (go : Nat → Int32 → Int32 → Int32 → Int32 → Int32 → Int32 → Int32 → Int32 → ow_MS → Option ow_MS) (x1 : Int32) (x2 : Int32) (x3 : Int32) (x4 : Int32) (x5 : Int32) (x6 : Int32) (x7 : Int32) (x8 : Int32) (z : ow_MS) : Option ow_MS :=
 go 2 x1 x2 x3 x4 x5 0 0 0 z
def qm_X13_normalise_7 (K : Nat) (go : Nat → Int32 → Int32 → Int32 → Int32 → Int32 → Int32 → Int32 → Int32 → ow_MS → Option ow_MS) (x1 : Int32) (x2 : Int32) (x3 : Int32) (x4 : Int32) (x5 : Int32) (x6 : Int32) (x7 : Int32) (x8 : Int32) (z : ow_MS) : Option ow_MS :=
 go 1 x1 x2 x3 0 0 0 0 0 z
def qb_X13_normalise (K : Nat) (go : Nat → Int32 → Int32 → Int32 → Int32 → Int32 → Int32 → Int32 → Int32 → ow_MS → Option ow_MS) (L : Nat) (x1 : Int32) (x2 : Int32) (x3 : Int32) (x4 : Int32) (x5 : Int32) (x6 : Int32) (x7 : Int32) (x8 : Int32) (z : ow_MS) : Option ow_MS := match L with
  | 0 => qm_X13_normalise_0 K go x1 x2 x3 x4 x5 x6 x7 x8 z
  | 1 => qm_X13_normalise_1 K go x1 x2 x3 x4 x5 x6 x7 x8 z
  | 2 => qm_X13_normalise_2 K go x1 x2 x3 x4 x5 x6 x7 x8 z
  | 3 => qm_X13_normalise_3 K go x1 x2 x3 x4 x5 x6 x7 x8 z
  | 4 => qm_X13_normalise_4 K go x1 x2 x3 x4 x5 x6 x7 x8 z
  | 5 => qm_X13_normalise_5 K go x1 x2 x3 x4 x5 x6 x7 x8 z
  | 6 => qm_X13_normalise_6 K go x1 x2 x3 x4 x5 x6 x7 x8 z
  | 7 => qm_X13_normalise_7 K go x1 x2 x3 x4 x5 x6 x7 x8 z
  | _ => none
def q_X13_normalise (K : Nat) : Nat → Nat → Int32 → Int32 → Int32 → Int32 → Int32 → Int32 → Int32 → Int32 → ow_MS → Option ow_MS
  | 0 => fun _ _ _ _ _ _ _ _ _ _ => none
  | k + 1 => qb_X13_normalise K (q_X13_normalise K k)
def qe_X13_normalise (K : Nat) (x1 : Int32) (x2 : Int32) (z : ow_MS) : Option ow_MS := q_X13_normalise K K 0 x1 x2 0 0 0 0 0 0 z
abbrev wm_X13_normalise : List Cond := .code yX13_normalise cX13_normalise 9 none :: wM
theorem cd_X13_normalise : yX13_normalise.cls = RX13 ∧ yX13_normalise.cls ≠ "java/lang/invoke/MethodHandle" ∧ yX13_normalise.cls ≠ "java/lang/invoke/VarHandle" ∧ (parseMethodDescriptor yX13_normalise.desc).map (fun d => d.parameters.length) = some 2 := by decide +kernel
set_option maxHeartbeats 4000000 in
set_option maxRecDepth 100000 in
theorem km_X13_normalise (l : Launch) (D : va_G) (q : ow_Q5) (u : Nat → Nat) (hU : tw_inj mX u) (K : Nat) (x1 : Int32) (x2 : Int32)  (z z1 : ow_MS) (hq : qe_X13_normalise K x1 x2 z = some z1) : Met l yX13_normalise wm_X13_normalise ({ frames := 1, cells := 0, slots := 0, locals := 27 } : Room) (va_Pc [.ref (u 0), .int x1, .int x2] (mw_pre D q u z)) (va_Qv (fun (_ : Unit) => True) (fun _ t => va_P D vwCl (tw mX q u z1) t.heap) (tw_A mX u)) 0 0 (tw_A mX u) := by
  refine Met.ofW (cc := cX13_normalise) (maxL := 9) (ret := none) (by decide) rfl ?_
  intro p e s m args below meth c s₁ B hml hv
  obtain ⟨rfl, hP, hK, hN⟩ := hv
  have hx := B.exec
  have hb := B.bytes
  have hr := B.returns
  have hts := atoms_spec (ws := wm_X13_normalise) B.pre
  have hT : ∀ w ∈ wM, w.before ([.ref (u 0), .int x1, .int x2] : List Value).toArray s = true := fun w h => hts w (List.mem_cons_of_mem _ h)
  have hown : s.vm.findClass RX13 = some m.cls := findClass_of_methodNamed B.named
  have hlocks := B.notSynchronized
  have hM : tw_M D vwCl mX q s.heap u z s.heap [] := ⟨hP, va_S.rf⟩
  have hl := lv_entry ([.ref (u 0), .int x1, .int x2]) (n := 9) (Nat.le_of_ble_eq_true rfl)
  rw [lg_entry_eq]
  generalize (lg_sl ([.ref (u 0), .int x1, .int x2]) ++ List.replicate (9 - (lg_sl ([.ref (u 0), .int x1, .int x2])).length) Slot.unset).toArray = ls at hl ⊢
  have hl : lv_has ls 9 [(0, .ref (u 0)), (1, .int x1), (2, .int x2)] := hl
  refine ow_named (fun QQ hQQ => ?_)
  generalize ([.ref (u 0), .int x1, .int x2] : List Value).toArray = args at hts hT hQQ ⊢
  have key : ∀ k : Nat, (∀ (x1 : Int32) (x2 : Int32) (x3 : Int32) (x4 : Int32) (x5 : Int32) (x6 : Int32) (x7 : Int32) (x8 : Int32) (z : ow_MS) (H : Heap) (locs : List Loc) (ls : Array Slot), tw_M D vwCl mX q s.heap u z H locs → lv_has ls 9 [(0, .ref (u 0)), (1, .int x1), (2, .int x2)] → q_X13_normalise K k 0 x1 x2 x3 x4 x5 x6 x7 x8 z = some z1 → W p l e ({ frames := 1, cells := 0, slots := 0, locals := 27 } : Room) s m args below meth c H locs 0 0 QQ (F0 m 0 ls [])) ∧ (∀ (x1 : Int32) (x2 : Int32) (x3 : Int32) (x4 : Int32) (x5 : Int32) (x6 : Int32) (x7 : Int32) (x8 : Int32) (z : ow_MS) (H : Heap) (locs : List Loc) (ls : Array Slot), tw_M D vwCl mX q s.heap u z H locs → lv_has ls 9 [(0, .ref (u 0)), (1, .int x1), (2, .int x2), (3, .int x3)] → q_X13_normalise K k 1 x1 x2 x3 x4 x5 x6 x7 x8 z = some z1 → W p l e ({ frames := 1, cells := 0, slots := 0, locals := 27 } : Room) s m args below meth c H locs 0 0 QQ (F0 m 19 ls [])) ∧ (∀ (x1 : Int32) (x2 : Int32) (x3 : Int32) (x4 : Int32) (x5 : Int32) (x6 : Int32) (x7 : Int32) (x8 : Int32) (z : ow_MS) (H : Heap) (locs : List Loc) (ls : Array Slot), tw_M D vwCl mX q s.heap u z H locs → lv_has ls 9 [(0, .ref (u 0)), (1, .int x1), (2, .int x2), (3, .int x3), (4, .int x4), (5, .int x5)] → q_X13_normalise K k 2 x1 x2 x3 x4 x5 x6 x7 x8 z = some z1 → W p l e ({ frames := 1, cells := 0, slots := 0, locals := 27 } : Room) s m args below meth c H locs 0 0 QQ (F0 m 32 ls [])) ∧ (∀ (x1 : Int32) (x2 : Int32) (x3 : Int32) (x4 : Int32) (x5 : Int32) (x6 : Int32) (x7 : Int32) (x8 : Int32) (z : ow_MS) (H : Heap) (locs : List Loc) (ls : Array Slot), tw_M D vwCl mX q s.heap u z H locs → lv_has ls 9 [(0, .ref (u 0)), (1, .int x1), (2, .int x2), (3, .int x3), (4, .int x4), (5, .int x5), (6, .int x6)] → q_X13_normalise K k 3 x1 x2 x3 x4 x5 x6 x7 x8 z = some z1 → W p l e ({ frames := 1, cells := 0, slots := 0, locals := 27 } : Room) s m args below meth c H locs 0 0 QQ (F0 m 43 ls [])) ∧ (∀ (x1 : Int32) (x2 : Int32) (x3 : Int32) (x4 : Int32) (x5 : Int32) (x6 : Int32) (x7 : Int32) (x8 : Int32) (z : ow_MS) (H : Heap) (locs : List Loc) (ls : Array Slot), tw_M D vwCl mX q s.heap u z H locs → lv_has ls 9 [(0, .ref (u 0)), (1, .int x1), (2, .int x2), (3, .int x3), (4, .int x4), (5, .int x5), (6, .int x6), (7, .int x7), (8, .int x8)] → q_X13_normalise K k 4 x1 x2 x3 x4 x5 x6 x7 x8 z = some z1 → W p l e ({ frames := 1, cells := 0, slots := 0, locals := 27 } : Room) s m args below meth c H locs 0 0 QQ (F0 m 113 ls [])) ∧ (∀ (x1 : Int32) (x2 : Int32) (x3 : Int32) (x4 : Int32) (x5 : Int32) (x6 : Int32) (x7 : Int32) (x8 : Int32) (z : ow_MS) (H : Heap) (locs : List Loc) (ls : Array Slot), tw_M D vwCl mX q s.heap u z H locs → lv_has ls 9 [(0, .ref (u 0)), (1, .int x1), (2, .int x2), (3, .int x3), (4, .int x4), (5, .int x5), (6, .int x6), (7, .int x7)] → q_X13_normalise K k 5 x1 x2 x3 x4 x5 x6 x7 x8 z = some z1 → W p l e ({ frames := 1, cells := 0, slots := 0, locals := 27 } : Room) s m args below meth c H locs 0 0 QQ (F0 m 145 ls [])) ∧ (∀ (x1 : Int32) (x2 : Int32) (x3 : Int32) (x4 : Int32) (x5 : Int32) (x6 : Int32) (x7 : Int32) (x8 : Int32) (z : ow_MS) (H : Heap) (locs : List Loc) (ls : Array Slot), tw_M D vwCl mX q s.heap u z H locs → lv_has ls 9 [(0, .ref (u 0)), (1, .int x1), (2, .int x2), (3, .int x3), (4, .int x4), (5, .int x5), (6, .int x6)] → q_X13_normalise K k 6 x1 x2 x3 x4 x5 x6 x7 x8 z = some z1 → W p l e ({ frames := 1, cells := 0, slots := 0, locals := 27 } : Room) s m args below meth c H locs 0 0 QQ (F0 m 151 ls [])) ∧ (∀ (x1 : Int32) (x2 : Int32) (x3 : Int32) (x4 : Int32) (x5 : Int32) (x6 : Int32) (x7 : Int32) (x8 : Int32) (z : ow_MS) (H : Heap) (locs : List Loc) (ls : Array Slot), tw_M D vwCl mX q s.heap u z H locs → lv_has ls 9 [(0, .ref (u 0)), (1, .int x1), (2, .int x2), (3, .int x3), (4, .int x4), (5, .int x5)] → q_X13_normalise K k 7 x1 x2 x3 x4 x5 x6 x7 x8 z = some z1 → W p l e ({ frames := 1, cells := 0, slots := 0, locals := 27 } : Room) s m args below meth c H locs 0 0 QQ (F0 m 194 ls [])) := by
    intro k
    induction k with
    | zero => exact ⟨fun _ _ _ _ _ _ _ _ _ _ _ _  _ _ hq => tw_no hq, fun _ _ _ _ _ _ _ _ _ _ _ _  _ _ hq => tw_no hq, fun _ _ _ _ _ _ _ _ _ _ _ _  _ _ hq => tw_no hq, fun _ _ _ _ _ _ _ _ _ _ _ _  _ _ hq => tw_no hq, fun _ _ _ _ _ _ _ _ _ _ _ _  _ _ hq => tw_no hq, fun _ _ _ _ _ _ _ _ _ _ _ _  _ _ hq => tw_no hq, fun _ _ _ _ _ _ _ _ _ _ _ _  _ _ hq => tw_no hq, fun _ _ _ _ _ _ _ _ _ _ _ _  _ _ hq => tw_no hq⟩
    | succ k ih =>
      obtain ⟨ih_0, ih_1, ih_2, ih_3, ih_4, ih_5, ih_6, ih_7⟩ := ih
      refine ⟨?_, ?_, ?_, ?_, ?_, ?_, ?_, ?_⟩
      · intro x1 x2 x3 x4 x5 x6 x7 x8 z H locs ls  hM hl hq
        have hq : qm_X13_normalise_0 K (q_X13_normalise K k) x1 x2 x3 x4 x5 x6 x7 x8 z = some z1 := hq
        unfold qm_X13_normalise_0 at hq
        refine lv_aload_n hx hb dmX13_normalise_0 rfl (lv_at hl 0 rfl) ?_
        refine lv_iload_n hx hb dmX13_normalise_1 rfl (lv_at hl 2 rfl) ?_
        refine mp13_748 hx hb hT hown hK hM hU hq dmX13_normalise_2 (fun z1 H locs hM hq => ?_)
        refine lv_aload_n hx hb dmX13_normalise_5 rfl (lv_at hl 0 rfl) ?_
        refine lv_iconst (v := 0) hx hb dmX13_normalise_6 (by decide) ?_
        refine mp13_751 hx hb hT hown hK hM hU hq dmX13_normalise_7 (fun z2 H locs hM hq => ?_)
        refine lv_aload_n hx hb dmX13_normalise_10 rfl (lv_at hl 0 rfl) ?_
        refine mg13_329 hx hb hT hown hK hM dmX13_normalise_11 ?_
        refine lv_iload_n hx hb dmX13_normalise_14 rfl (lv_at hl 1 rfl) ?_
        refine tw_iald mX_ok hx hb hK hM mr_97 hq dmX13_normalise_15 (fun v3 hq => ?_)
        refine lv_iconst (v := 1) hx hb dmX13_normalise_16 (by decide) ?_
        refine lv_isub hx hb dmX13_normalise_17 ?_
        refine lv_istore_n (lv' := [(3, .int (v3 - 1)), (0, .ref (u 0)), (1, .int x1), (2, .int x2)]) hx hb dmX13_normalise_18 rfl hl (by decide) rfl (fun ls hl => ?_)
        exact ih_1 x1 x2 (v3 - 1) 0 0 0 0 0 z2 H locs ls hM (lv_sub hl [1, 2, 3, 0] rfl) hq
      · intro x1 x2 x3 x4 x5 x6 x7 x8 z H locs ls  hM hl hq
        have hq : qm_X13_normalise_1 K (q_X13_normalise K k) x1 x2 x3 x4 x5 x6 x7 x8 z = some z1 := hq
        unfold qm_X13_normalise_1 at hq
        refine lv_aload_n hx hb dmX13_normalise_19 rfl (lv_at hl 0 rfl) ?_
        refine mg13_742 hx hb hT hown hK hM hq dmX13_normalise_20 (fun v4 hq => ?_)
        refine lv_if_le (tgt := 197) hx hb dmX13_normalise_23 (by decide) (fun hc => ?_) (fun hc => ?_)
        · have hq := tw_it hq hc
          exact mw_vret hx hb hr hlocks hM hq hQQ dmX13_normalise_197
        · have hq := tw_if hq hc
          refine lv_iconst (v := 0) hx hb dmX13_normalise_26 (by decide) ?_
          refine lv_istore (lv' := [(4, .int 0), (0, .ref (u 0)), (1, .int x1), (2, .int x2), (3, .int x3)]) hx hb dmX13_normalise_27 hl (by decide) rfl (fun ls hl => ?_)
          refine lv_iconst (v := 1) hx hb dmX13_normalise_29 (by decide) ?_
          refine lv_istore (lv' := [(5, .int 1), (4, .int 0), (0, .ref (u 0)), (1, .int x1), (2, .int x2), (3, .int x3)]) hx hb dmX13_normalise_30 hl (by decide) rfl (fun ls hl => ?_)
          exact ih_2 x1 x2 x3 0 1 0 0 0 z H locs ls hM (lv_sub hl [2, 3, 4, 5, 1, 0] rfl) hq
      · intro x1 x2 x3 x4 x5 x6 x7 x8 z H locs ls  hM hl hq
        have hq : qm_X13_normalise_2 K (q_X13_normalise K k) x1 x2 x3 x4 x5 x6 x7 x8 z = some z1 := hq
        unfold qm_X13_normalise_2 at hq
        refine lv_iload hx hb dmX13_normalise_32 (lv_at hl 5 rfl) ?_
        refine lv_if_eq (tgt := 154) hx hb dmX13_normalise_34 (by decide) (fun hc => ?_) (fun hc => ?_)
        · have hq := tw_it hq hc
          refine lv_iload hx hb dmX13_normalise_154 (lv_at hl 4 rfl) ?_
          refine lv_iload_n hx hb dmX13_normalise_156 rfl (lv_at hl 3 rfl) ?_
          refine lv_icmp_ne (tgt := 173) hx hb dmX13_normalise_157 (by decide) (fun hc => ?_) (fun hc => ?_)
          · have hq := tw_if hq hc
            refine lv_aload_n hx hb dmX13_normalise_173 rfl (lv_at hl 0 rfl) ?_
            refine mg13_368 hx hb hT hown hK hM dmX13_normalise_174 ?_
            refine lv_aload_n hx hb dmX13_normalise_177 rfl (lv_at hl 0 rfl) ?_
            refine mg13_751 hx hb hT hown hK hM hq dmX13_normalise_178 (fun v5 hq => ?_)
            refine lv_iload hx hb dmX13_normalise_181 (lv_at hl 4 rfl) ?_
            refine tw_iast mX_ok hU hx hb hK hM mr_114 hq dmX13_normalise_183 (fun z6 H locs hM hq => ?_)
            refine lv_aload_n hx hb dmX13_normalise_184 rfl (lv_at hl 0 rfl) ?_
            refine lv_dup hx hb dmX13_normalise_185 rfl ?_
            refine mg13_751 hx hb hT hown hK hM hq dmX13_normalise_186 (fun v7 hq => ?_)
            refine lv_iconst (v := 1) hx hb dmX13_normalise_189 (by decide) ?_
            refine lv_iadd hx hb dmX13_normalise_190 ?_
            refine mp13_751 hx hb hT hown hK hM hU hq dmX13_normalise_191 (fun z8 H locs hM hq => ?_)
            exact ih_7 x1 x2 x3 x4 x5 0 0 0 z8 H locs ls hM (lv_sub hl [0, 1, 2, 3, 4, 5] rfl) hq
          · have hq := tw_it hq hc
            refine lv_aload_n hx hb dmX13_normalise_160 rfl (lv_at hl 0 rfl) ?_
            refine lv_dup hx hb dmX13_normalise_161 rfl ?_
            refine mg13_748 hx hb hT hown hK hM hq dmX13_normalise_162 (fun v9 hq => ?_)
            refine lv_iconst (v := 1) hx hb dmX13_normalise_165 (by decide) ?_
            refine lv_iadd hx hb dmX13_normalise_166 ?_
            refine mp13_748 hx hb hT hown hK hM hU hq dmX13_normalise_167 (fun z10 H locs hM hq => ?_)
            refine lv_goto (tgt := 194) hx hb dmX13_normalise_170 (by decide) ?_
            exact ih_7 x1 x2 x3 x4 x5 0 0 0 z10 H locs ls hM (lv_sub hl [0, 1, 2, 3, 4, 5] rfl) hq
        · have hq := tw_if hq hc
          refine lv_iconst (v := 0) hx hb dmX13_normalise_37 (by decide) ?_
          refine lv_istore (lv' := [(5, .int 0), (0, .ref (u 0)), (1, .int x1), (2, .int x2), (3, .int x3), (4, .int x4)]) hx hb dmX13_normalise_38 hl (by decide) rfl (fun ls hl => ?_)
          refine lv_iconst (v := 0) hx hb dmX13_normalise_40 (by decide) ?_
          refine lv_istore (lv' := [(6, .int 0), (5, .int 0), (0, .ref (u 0)), (1, .int x1), (2, .int x2), (3, .int x3), (4, .int x4)]) hx hb dmX13_normalise_41 hl (by decide) rfl (fun ls hl => ?_)
          exact ih_3 x1 x2 x3 x4 0 0 0 0 z H locs ls hM (lv_sub hl [2, 3, 4, 5, 6, 1, 0] rfl) hq
      · intro x1 x2 x3 x4 x5 x6 x7 x8 z H locs ls  hM hl hq
        have hq : qm_X13_normalise_3 K (q_X13_normalise K k) x1 x2 x3 x4 x5 x6 x7 x8 z = some z1 := hq
        unfold qm_X13_normalise_3 at hq
        refine lv_iload hx hb dmX13_normalise_43 (lv_at hl 6 rfl) ?_
        refine lv_iload_n hx hb dmX13_normalise_45 rfl (lv_at hl 1 rfl) ?_
        refine lv_iconst (v := 1) hx hb dmX13_normalise_46 (by decide) ?_
        refine lv_isub hx hb dmX13_normalise_47 ?_
        refine lv_icmp_ge (tgt := 151) hx hb dmX13_normalise_48 (by decide) (fun hc => ?_) (fun hc => ?_)
        · have hq := tw_it hq hc
          exact ih_6 x1 x2 x3 x4 x5 x6 0 0 z H locs ls hM (lv_sub hl [0, 1, 2, 3, 4, 5, 6] rfl) hq
        · have hq := tw_if hq hc
          refine lv_iload hx hb dmX13_normalise_51 (lv_at hl 5 rfl) ?_
          refine lv_if_ne (tgt := 151) hx hb dmX13_normalise_53 (by decide) (fun hc => ?_) (fun hc => ?_)
          · have hq := tw_if hq hc
            exact ih_6 x1 x2 x3 x4 x5 x6 0 0 z H locs ls hM (lv_sub hl [0, 1, 2, 3, 4, 5, 6] rfl) hq
          · have hq := tw_it hq hc
            refine lv_aload_n hx hb dmX13_normalise_56 rfl (lv_at hl 0 rfl) ?_
            refine mg13_341 hx hb hT hown hK hM dmX13_normalise_57 ?_
            refine lv_iconst (v := 4) hx hb dmX13_normalise_60 (by decide) ?_
            refine lv_bipush (v := 120) hx hb dmX13_normalise_61 (by decide) ?_
            refine lv_iload_n hx hb dmX13_normalise_63 rfl (lv_at hl 1 rfl) ?_
            refine lv_imul hx hb dmX13_normalise_64 ?_
            refine lv_iload hx hb dmX13_normalise_65 (lv_at hl 4 rfl) ?_
            refine lv_iadd hx hb dmX13_normalise_67 ?_
            refine lv_imul hx hb dmX13_normalise_68 ?_
            refine lv_iload hx hb dmX13_normalise_69 (lv_at hl 6 rfl) ?_
            refine lv_iadd hx hb dmX13_normalise_71 ?_
            refine tw_iald mX_ok hx hb hK hM mr_101 hq dmX13_normalise_72 (fun v11 hq => ?_)
            refine lv_istore (lv' := [(7, .int v11), (0, .ref (u 0)), (1, .int x1), (2, .int x2), (3, .int x3), (4, .int x4), (5, .int x5), (6, .int x6)]) hx hb dmX13_normalise_73 hl (by decide) rfl (fun ls hl => ?_)
            refine lv_iload hx hb dmX13_normalise_75 (lv_at hl 0 rfl) ?_
            refine lv_iconst (v := (-1)) hx hb dmX13_normalise_77 (by decide) ?_
            refine lv_icmp_eq (tgt := 145) hx hb dmX13_normalise_78 (by decide) (fun hc => ?_) (fun hc => ?_)
            · have hq := tw_it hq hc
              exact ih_5 x1 x2 x3 x4 x5 x6 v11 0 z H locs ls hM (lv_sub hl [1, 2, 3, 4, 5, 6, 7, 0] rfl) hq
            · have hq := tw_if hq hc
              refine lv_aload_n hx hb dmX13_normalise_81 rfl (lv_at hl 1 rfl) ?_
              refine mg13_742 hx hb hT hown hK hM hq dmX13_normalise_82 (fun v12 hq => ?_)
              refine lv_if_le (tgt := 145) hx hb dmX13_normalise_85 (by decide) (fun hc => ?_) (fun hc => ?_)
              · have hq := tw_it hq hc
                exact ih_5 x1 x2 x3 x4 x5 x6 v11 0 z H locs ls hM (lv_sub hl [1, 2, 3, 4, 5, 6, 7, 0] rfl) hq
              · have hq := tw_if hq hc
                refine lv_aload_n hx hb dmX13_normalise_88 rfl (lv_at hl 1 rfl) ?_
                refine lv_iload_n hx hb dmX13_normalise_89 rfl (lv_at hl 2 rfl) ?_
                refine lv_iload hx hb dmX13_normalise_90 (lv_at hl 7 rfl) ?_
                obtain ⟨v14, z13, hcq, hq⟩ := tw_cl1 hq
                refine tw_cali hM (va_runV (As := [.int x1, .int x6]) (rest := []) ⟨hx, hb, hml, hown, hts⟩ (km_X13_begins l D q u hU K x1 x6 z z13 v14 hcq) (cwV 2 hts (tw_gV wM_good wq_510 wq_511 wq_512 wq_61 wq_506) rfl rfl rfl cd_X13_begins ⟨(Nat.le_of_ble_eq_true rfl), (Nat.le_of_ble_eq_true rfl)⟩) (mw_preV hK hN hM mo_0 rfl) rfl rfl hl.1 rfl (lv_room (Nat.le_of_ble_eq_true rfl)) dmX13_normalise_92 ⟨(Nat.le_of_ble_eq_true rfl), (Nat.le_of_ble_eq_true rfl)⟩) (fun H locs hM => ?_)
                refine lv_if_eq (tgt := 145) hx hb dmX13_normalise_95 (by decide) (fun hc => ?_) (fun hc => ?_)
                · have hq := tw_it hq hc
                  exact ih_5 x1 x2 x3 x4 x5 x6 v11 0 z13 H locs ls hM (lv_sub hl [1, 2, 3, 4, 5, 6, 7, 0] rfl) hq
                · have hq := tw_if hq hc
                  refine lv_iload hx hb dmX13_normalise_98 (lv_at hl 0 rfl) ?_
                  refine lv_istore (lv' := [(4, .int v11), (7, .int v11), (0, .ref (u 0)), (1, .int x1), (2, .int x2), (3, .int x3), (5, .int x5), (6, .int x6)]) hx hb dmX13_normalise_100 hl (by decide) rfl (fun ls hl => ?_)
                  refine lv_aload_n hx hb dmX13_normalise_102 rfl (lv_at hl 2 rfl) ?_
                  refine lv_aload_n hx hb dmX13_normalise_103 rfl (lv_at hl 2 rfl) ?_
                  refine mg13_745 hx hb hT hown hK hM hq dmX13_normalise_104 (fun v15 hq => ?_)
                  refine mp13_742 hx hb hT hown hK hM hU hq dmX13_normalise_107 (fun z16 H locs hM hq => ?_)
                  refine lv_iconst (v := 0) hx hb dmX13_normalise_110 (by decide) ?_
                  refine lv_istore (lv' := [(8, .int 0), (4, .int v11), (7, .int v11), (0, .ref (u 0)), (1, .int x1), (2, .int x2), (3, .int x3), (5, .int x5), (6, .int x6)]) hx hb dmX13_normalise_111 hl (by decide) rfl (fun ls hl => ?_)
                  exact ih_4 x1 x2 x3 v11 x5 x6 v11 0 z16 H locs ls hM (lv_sub hl [3, 4, 5, 6, 1, 7, 8, 2, 0] rfl) hq
      · intro x1 x2 x3 x4 x5 x6 x7 x8 z H locs ls  hM hl hq
        have hq : qm_X13_normalise_4 K (q_X13_normalise K k) x1 x2 x3 x4 x5 x6 x7 x8 z = some z1 := hq
        unfold qm_X13_normalise_4 at hq
        refine lv_iload hx hb dmX13_normalise_113 (lv_at hl 8 rfl) ?_
        refine lv_aload_n hx hb dmX13_normalise_115 rfl (lv_at hl 0 rfl) ?_
        refine mg13_742 hx hb hT hown hK hM hq dmX13_normalise_116 (fun v17 hq => ?_)
        refine lv_icmp_ge (tgt := 142) hx hb dmX13_normalise_119 (by decide) (fun hc => ?_) (fun hc => ?_)
        · have hq := tw_it hq hc
          refine lv_iconst (v := 1) hx hb dmX13_normalise_142 (by decide) ?_
          refine lv_istore (lv' := [(5, .int 1), (0, .ref (u 0)), (1, .int x1), (2, .int x2), (3, .int x3), (4, .int x4), (6, .int x6), (7, .int x7), (8, .int x8)]) hx hb dmX13_normalise_143 hl (by decide) rfl (fun ls hl => ?_)
          exact ih_5 x1 x2 x3 x4 1 x6 x7 0 z H locs ls hM (lv_sub hl [1, 2, 3, 4, 5, 0, 6, 7] rfl) hq
        · have hq := tw_if hq hc
          refine lv_aload_n hx hb dmX13_normalise_122 rfl (lv_at hl 0 rfl) ?_
          refine mg13_362 hx hb hT hown hK hM dmX13_normalise_123 ?_
          refine lv_iload hx hb dmX13_normalise_126 (lv_at hl 8 rfl) ?_
          refine lv_aload_n hx hb dmX13_normalise_128 rfl (lv_at hl 0 rfl) ?_
          refine mg13_365 hx hb hT hown hK hM dmX13_normalise_129 ?_
          refine lv_iload hx hb dmX13_normalise_132 (lv_at hl 8 rfl) ?_
          refine tw_iald mX_ok hx hb hK hM mr_110 hq dmX13_normalise_134 (fun v18 hq => ?_)
          refine tw_iast mX_ok hU hx hb hK hM mr_108 hq dmX13_normalise_135 (fun z19 H locs hM hq => ?_)
          refine lv_iinc (v := (x8 + 1)) (lv' := [(8, .int (x8 + 1)), (0, .ref (u 0)), (1, .int x1), (2, .int x2), (3, .int x3), (4, .int x4), (5, .int x5), (6, .int x6), (7, .int x7)]) hx hb dmX13_normalise_136 hl (k := 8) rfl rfl (by decide) rfl (fun ls hl => ?_)
          refine lv_goto (tgt := 113) hx hb dmX13_normalise_139 (by decide) ?_
          exact ih_4 x1 x2 x3 x4 x5 x6 x7 (x8 + 1) z19 H locs ls hM (lv_sub hl [1, 2, 3, 4, 5, 6, 7, 8, 0] rfl) hq
      · intro x1 x2 x3 x4 x5 x6 x7 x8 z H locs ls  hM hl hq
        have hq : qm_X13_normalise_5 K (q_X13_normalise K k) x1 x2 x3 x4 x5 x6 x7 x8 z = some z1 := hq
        unfold qm_X13_normalise_5 at hq
        refine lv_iinc (v := (x6 + 1)) (lv' := [(6, .int (x6 + 1)), (0, .ref (u 0)), (1, .int x1), (2, .int x2), (3, .int x3), (4, .int x4), (5, .int x5), (7, .int x7)]) hx hb dmX13_normalise_145 hl (k := 6) rfl rfl (by decide) rfl (fun ls hl => ?_)
        refine lv_goto (tgt := 43) hx hb dmX13_normalise_148 (by decide) ?_
        exact ih_3 x1 x2 x3 x4 x5 (x6 + 1) 0 0 z H locs ls hM (lv_sub hl [1, 2, 3, 4, 5, 6, 0] rfl) hq
      · intro x1 x2 x3 x4 x5 x6 x7 x8 z H locs ls  hM hl hq
        have hq : qm_X13_normalise_6 K (q_X13_normalise K k) x1 x2 x3 x4 x5 x6 x7 x8 z = some z1 := hq
        unfold qm_X13_normalise_6 at hq
        refine lv_goto (tgt := 32) hx hb dmX13_normalise_151 (by decide) ?_
        exact ih_2 x1 x2 x3 x4 x5 0 0 0 z H locs ls hM (lv_sub hl [0, 1, 2, 3, 4, 5] rfl) hq
      · intro x1 x2 x3 x4 x5 x6 x7 x8 z H locs ls  hM hl hq
        have hq : qm_X13_normalise_7 K (q_X13_normalise K k) x1 x2 x3 x4 x5 x6 x7 x8 z = some z1 := hq
        unfold qm_X13_normalise_7 at hq
        refine lv_goto (tgt := 19) hx hb dmX13_normalise_194 (by decide) ?_
        exact ih_1 x1 x2 x3 0 0 0 0 0 z H locs ls hM (lv_sub hl [0, 1, 2, 3] rfl) hq
  exact (key K).1 x1 x2 0 0 0 0 0 0 z s.heap [] ls  hM (lv_sub hl [0, 1, 2] rfl) hq
theorem dmX13_formOf_0 : decode cX13_formOf 0 = .ok (.aload_n 0, 1) := dw_at cX13_formOf_k0 (p := 0) rfl (by decide +kernel)
theorem dmX13_formOf_1 : decode cX13_formOf 1 = .ok (.getfield 326, 3) := dw_at cX13_formOf_k0 (p := 1) rfl (by decide +kernel)
theorem dmX13_formOf_4 : decode cX13_formOf 4 = .ok (.iload_n 1, 1) := dw_at cX13_formOf_k0 (p := 4) rfl (by decide +kernel)
theorem dmX13_formOf_5 : decode cX13_formOf 5 = .ok (.iaload, 1) := dw_at cX13_formOf_k0 (p := 5) rfl (by decide +kernel)
theorem dmX13_formOf_6 : decode cX13_formOf 6 = .ok (.istore_n 2, 1) := dw_at cX13_formOf_k0 (p := 6) rfl (by decide +kernel)
theorem dmX13_formOf_7 : decode cX13_formOf 7 = .ok (.aload_n 0, 1) := dw_at cX13_formOf_k0 (p := 7) rfl (by decide +kernel)
theorem dmX13_formOf_8 : decode cX13_formOf 8 = .ok (.iconst 0, 1) := dw_at cX13_formOf_k0 (p := 8) rfl (by decide +kernel)
theorem dmX13_formOf_9 : decode cX13_formOf 9 = .ok (.putfield 742, 3) := dw_at cX13_formOf_k0 (p := 9) rfl (by decide +kernel)
theorem dmX13_formOf_12 : decode cX13_formOf 12 = .ok (.iconst 0, 1) := dw_at cX13_formOf_k0 (p := 12) rfl (by decide +kernel)
theorem dmX13_formOf_13 : decode cX13_formOf 13 = .ok (.istore_n 3, 1) := dw_at cX13_formOf_k0 (p := 13) rfl (by decide +kernel)
theorem dmX13_formOf_14 : decode cX13_formOf 14 = .ok (.iconst 0, 1) := dw_at cX13_formOf_k0 (p := 14) rfl (by decide +kernel)
theorem dmX13_formOf_15 : decode cX13_formOf 15 = .ok (.istore 4, 2) := dw_at cX13_formOf_k0 (p := 15) rfl (by decide +kernel)
theorem dmX13_formOf_17 : decode cX13_formOf 17 = .ok (.iload 4, 2) := dw_at cX13_formOf_k0 (p := 17) rfl (by decide +kernel)
theorem dmX13_formOf_19 : decode cX13_formOf 19 = .ok (.aload_n 0, 1) := dw_at cX13_formOf_k0 (p := 19) rfl (by decide +kernel)
theorem dmX13_formOf_20 : decode cX13_formOf 20 = .ok (.getfield 323, 3) := dw_at cX13_formOf_k0 (p := 20) rfl (by decide +kernel)
theorem dmX13_formOf_23 : decode cX13_formOf 23 = .ok (.iload_n 1, 1) := dw_at cX13_formOf_k0 (p := 23) rfl (by decide +kernel)
theorem dmX13_formOf_24 : decode cX13_formOf 24 = .ok (.iaload, 1) := dw_at cX13_formOf_k1 (p := 0) rfl (by decide +kernel)
theorem dmX13_formOf_25 : decode cX13_formOf 25 = .ok (.if_icmp .ge 123, 3) := dw_at cX13_formOf_k1 (p := 1) rfl (by decide +kernel)
theorem dmX13_formOf_28 : decode cX13_formOf 28 = .ok (.aload_n 0, 1) := dw_at cX13_formOf_k1 (p := 4) rfl (by decide +kernel)
theorem dmX13_formOf_29 : decode cX13_formOf 29 = .ok (.getfield 320, 3) := dw_at cX13_formOf_k1 (p := 5) rfl (by decide +kernel)
theorem dmX13_formOf_32 : decode cX13_formOf 32 = .ok (.bipush 16, 2) := dw_at cX13_formOf_k1 (p := 8) rfl (by decide +kernel)
theorem dmX13_formOf_34 : decode cX13_formOf 34 = .ok (.iload_n 1, 1) := dw_at cX13_formOf_k1 (p := 10) rfl (by decide +kernel)
theorem dmX13_formOf_35 : decode cX13_formOf 35 = .ok (.imul, 1) := dw_at cX13_formOf_k1 (p := 11) rfl (by decide +kernel)
theorem dmX13_formOf_36 : decode cX13_formOf 36 = .ok (.iload 4, 2) := dw_at cX13_formOf_k1 (p := 12) rfl (by decide +kernel)
theorem dmX13_formOf_38 : decode cX13_formOf 38 = .ok (.iadd, 1) := dw_at cX13_formOf_k1 (p := 14) rfl (by decide +kernel)
theorem dmX13_formOf_39 : decode cX13_formOf 39 = .ok (.iaload, 1) := dw_at cX13_formOf_k1 (p := 15) rfl (by decide +kernel)
theorem dmX13_formOf_40 : decode cX13_formOf 40 = .ok (.istore 5, 2) := dw_at cX13_formOf_k1 (p := 16) rfl (by decide +kernel)
theorem dmX13_formOf_42 : decode cX13_formOf 42 = .ok (.iload 5, 2) := dw_at cX13_formOf_k1 (p := 18) rfl (by decide +kernel)
theorem dmX13_formOf_44 : decode cX13_formOf 44 = .ok (.ifCond .le 29, 3) := dw_at cX13_formOf_k1 (p := 20) rfl (by decide +kernel)
theorem dmX13_formOf_47 : decode cX13_formOf 47 = .ok (.aload_n 0, 1) := dw_at cX13_formOf_k1 (p := 23) rfl (by decide +kernel)
theorem dmX13_formOf_48 : decode cX13_formOf 48 = .ok (.getfield 362, 3) := dw_at cX13_formOf_k2 (p := 0) rfl (by decide +kernel)
theorem dmX13_formOf_51 : decode cX13_formOf 51 = .ok (.aload_n 0, 1) := dw_at cX13_formOf_k2 (p := 3) rfl (by decide +kernel)
theorem dmX13_formOf_52 : decode cX13_formOf 52 = .ok (.getfield 742, 3) := dw_at cX13_formOf_k2 (p := 4) rfl (by decide +kernel)
theorem dmX13_formOf_55 : decode cX13_formOf 55 = .ok (.iload 5, 2) := dw_at cX13_formOf_k2 (p := 7) rfl (by decide +kernel)
theorem dmX13_formOf_57 : decode cX13_formOf 57 = .ok (.iconst 1, 1) := dw_at cX13_formOf_k2 (p := 9) rfl (by decide +kernel)
theorem dmX13_formOf_58 : decode cX13_formOf 58 = .ok (.isub, 1) := dw_at cX13_formOf_k2 (p := 10) rfl (by decide +kernel)
theorem dmX13_formOf_59 : decode cX13_formOf 59 = .ok (.iastore, 1) := dw_at cX13_formOf_k2 (p := 11) rfl (by decide +kernel)
theorem dmX13_formOf_60 : decode cX13_formOf 60 = .ok (.aload_n 0, 1) := dw_at cX13_formOf_k2 (p := 12) rfl (by decide +kernel)
theorem dmX13_formOf_61 : decode cX13_formOf 61 = .ok (.dup, 1) := dw_at cX13_formOf_k2 (p := 13) rfl (by decide +kernel)
theorem dmX13_formOf_62 : decode cX13_formOf 62 = .ok (.getfield 742, 3) := dw_at cX13_formOf_k2 (p := 14) rfl (by decide +kernel)
theorem dmX13_formOf_65 : decode cX13_formOf 65 = .ok (.iconst 1, 1) := dw_at cX13_formOf_k2 (p := 17) rfl (by decide +kernel)
theorem dmX13_formOf_66 : decode cX13_formOf 66 = .ok (.iadd, 1) := dw_at cX13_formOf_k2 (p := 18) rfl (by decide +kernel)
theorem dmX13_formOf_67 : decode cX13_formOf 67 = .ok (.putfield 742, 3) := dw_at cX13_formOf_k2 (p := 19) rfl (by decide +kernel)
theorem dmX13_formOf_70 : decode cX13_formOf 70 = .ok (.goto 72, 3) := dw_at cX13_formOf_k2 (p := 22) rfl (by decide +kernel)
theorem dmX13_formOf_73 : decode cX13_formOf 73 = .ok (.iinc 3 (-1), 3) := dw_at cX13_formOf_k3 (p := 0) rfl (by decide +kernel)
theorem dmX13_formOf_76 : decode cX13_formOf 76 = .ok (.iconst 0, 1) := dw_at cX13_formOf_k3 (p := 3) rfl (by decide +kernel)
theorem dmX13_formOf_77 : decode cX13_formOf 77 = .ok (.istore 6, 2) := dw_at cX13_formOf_k3 (p := 4) rfl (by decide +kernel)
theorem dmX13_formOf_79 : decode cX13_formOf 79 = .ok (.iload 6, 2) := dw_at cX13_formOf_k3 (p := 6) rfl (by decide +kernel)
theorem dmX13_formOf_81 : decode cX13_formOf 81 = .ok (.aload_n 0, 1) := dw_at cX13_formOf_k3 (p := 8) rfl (by decide +kernel)
theorem dmX13_formOf_82 : decode cX13_formOf 82 = .ok (.getfield 742, 3) := dw_at cX13_formOf_k3 (p := 9) rfl (by decide +kernel)
theorem dmX13_formOf_85 : decode cX13_formOf 85 = .ok (.if_icmp .ge 27, 3) := dw_at cX13_formOf_k3 (p := 12) rfl (by decide +kernel)
theorem dmX13_formOf_88 : decode cX13_formOf 88 = .ok (.aload_n 0, 1) := dw_at cX13_formOf_k3 (p := 15) rfl (by decide +kernel)
theorem dmX13_formOf_89 : decode cX13_formOf 89 = .ok (.getfield 362, 3) := dw_at cX13_formOf_k3 (p := 16) rfl (by decide +kernel)
theorem dmX13_formOf_92 : decode cX13_formOf 92 = .ok (.iload 6, 2) := dw_at cX13_formOf_k3 (p := 19) rfl (by decide +kernel)
theorem dmX13_formOf_94 : decode cX13_formOf 94 = .ok (.iload_n 2, 1) := dw_at cX13_formOf_k3 (p := 21) rfl (by decide +kernel)
theorem dmX13_formOf_95 : decode cX13_formOf 95 = .ok (.iconst 2, 1) := dw_at cX13_formOf_k3 (p := 22) rfl (by decide +kernel)
theorem dmX13_formOf_96 : decode cX13_formOf 96 = .ok (.isub, 1) := dw_at cX13_formOf_k3 (p := 23) rfl (by decide +kernel)
theorem dmX13_formOf_97 : decode cX13_formOf 97 = .ok (.aload_n 0, 1) := dw_at cX13_formOf_k4 (p := 0) rfl (by decide +kernel)
theorem dmX13_formOf_98 : decode cX13_formOf 98 = .ok (.getfield 362, 3) := dw_at cX13_formOf_k4 (p := 1) rfl (by decide +kernel)
theorem dmX13_formOf_101 : decode cX13_formOf 101 = .ok (.iload 6, 2) := dw_at cX13_formOf_k4 (p := 4) rfl (by decide +kernel)
theorem dmX13_formOf_103 : decode cX13_formOf 103 = .ok (.iaload, 1) := dw_at cX13_formOf_k4 (p := 6) rfl (by decide +kernel)
theorem dmX13_formOf_104 : decode cX13_formOf 104 = .ok (.isub, 1) := dw_at cX13_formOf_k4 (p := 7) rfl (by decide +kernel)
theorem dmX13_formOf_105 : decode cX13_formOf 105 = .ok (.iastore, 1) := dw_at cX13_formOf_k4 (p := 8) rfl (by decide +kernel)
theorem dmX13_formOf_106 : decode cX13_formOf 106 = .ok (.iinc 6 1, 3) := dw_at cX13_formOf_k4 (p := 9) rfl (by decide +kernel)
theorem dmX13_formOf_109 : decode cX13_formOf 109 = .ok (.goto (-30), 3) := dw_at cX13_formOf_k4 (p := 12) rfl (by decide +kernel)
theorem dmX13_formOf_112 : decode cX13_formOf 112 = .ok (.aload_n 0, 1) := dw_at cX13_formOf_k4 (p := 15) rfl (by decide +kernel)
theorem dmX13_formOf_113 : decode cX13_formOf 113 = .ok (.iload_n 2, 1) := dw_at cX13_formOf_k4 (p := 16) rfl (by decide +kernel)
theorem dmX13_formOf_114 : decode cX13_formOf 114 = .ok (.aload_n 0, 1) := dw_at cX13_formOf_k4 (p := 17) rfl (by decide +kernel)
theorem dmX13_formOf_115 : decode cX13_formOf 115 = .ok (.getfield 344, 3) := dw_at cX13_formOf_k4 (p := 18) rfl (by decide +kernel)
theorem dmX13_formOf_118 : decode cX13_formOf 118 = .ok (.bipush 120, 2) := dw_at cX13_formOf_k4 (p := 21) rfl (by decide +kernel)
theorem dmX13_formOf_120 : decode cX13_formOf 120 = .ok (.iload_n 2, 1) := dw_at cX13_formOf_k4 (p := 23) rfl (by decide +kernel)
theorem dmX13_formOf_121 : decode cX13_formOf 121 = .ok (.imul, 1) := dw_at cX13_formOf_k5 (p := 0) rfl (by decide +kernel)
theorem dmX13_formOf_122 : decode cX13_formOf 122 = .ok (.aload_n 0, 1) := dw_at cX13_formOf_k5 (p := 1) rfl (by decide +kernel)
theorem dmX13_formOf_123 : decode cX13_formOf 123 = .ok (.getfield 341, 3) := dw_at cX13_formOf_k5 (p := 2) rfl (by decide +kernel)
theorem dmX13_formOf_126 : decode cX13_formOf 126 = .ok (.sipush 480, 3) := dw_at cX13_formOf_k5 (p := 5) rfl (by decide +kernel)
theorem dmX13_formOf_129 : decode cX13_formOf 129 = .ok (.iload_n 2, 1) := dw_at cX13_formOf_k5 (p := 8) rfl (by decide +kernel)
theorem dmX13_formOf_130 : decode cX13_formOf 130 = .ok (.imul, 1) := dw_at cX13_formOf_k5 (p := 9) rfl (by decide +kernel)
theorem dmX13_formOf_131 : decode cX13_formOf 131 = .ok (.iload 5, 2) := dw_at cX13_formOf_k5 (p := 10) rfl (by decide +kernel)
theorem dmX13_formOf_133 : decode cX13_formOf 133 = .ok (.isub, 1) := dw_at cX13_formOf_k5 (p := 12) rfl (by decide +kernel)
theorem dmX13_formOf_134 : decode cX13_formOf 134 = .ok (.iconst 1, 1) := dw_at cX13_formOf_k5 (p := 13) rfl (by decide +kernel)
theorem dmX13_formOf_135 : decode cX13_formOf 135 = .ok (.isub, 1) := dw_at cX13_formOf_k5 (p := 14) rfl (by decide +kernel)
theorem dmX13_formOf_136 : decode cX13_formOf 136 = .ok (.iaload, 1) := dw_at cX13_formOf_k5 (p := 15) rfl (by decide +kernel)
theorem dmX13_formOf_137 : decode cX13_formOf 137 = .ok (.iadd, 1) := dw_at cX13_formOf_k5 (p := 16) rfl (by decide +kernel)
theorem dmX13_formOf_138 : decode cX13_formOf 138 = .ok (.iaload, 1) := dw_at cX13_formOf_k5 (p := 17) rfl (by decide +kernel)
theorem dmX13_formOf_139 : decode cX13_formOf 139 = .ok (.invokevirtual 757, 3) := dw_at cX13_formOf_k5 (p := 18) rfl (by decide +kernel)
theorem dmX13_formOf_142 : decode cX13_formOf 142 = .ok (.iinc 4 1, 3) := dw_at cX13_formOf_k5 (p := 21) rfl (by decide +kernel)
theorem dmX13_formOf_145 : decode cX13_formOf 145 = .ok (.goto (-128), 3) := dw_at cX13_formOf_k6 (p := 0) rfl (by decide +kernel)
theorem dmX13_formOf_148 : decode cX13_formOf 148 = .ok (.aload_n 0, 1) := dw_at cX13_formOf_k6 (p := 3) rfl (by decide +kernel)
theorem dmX13_formOf_149 : decode cX13_formOf 149 = .ok (.iload_n 2, 1) := dw_at cX13_formOf_k6 (p := 4) rfl (by decide +kernel)
theorem dmX13_formOf_150 : decode cX13_formOf 150 = .ok (.iload_n 3, 1) := dw_at cX13_formOf_k6 (p := 5) rfl (by decide +kernel)
theorem dmX13_formOf_151 : decode cX13_formOf 151 = .ok (.invokevirtual 760, 3) := dw_at cX13_formOf_k6 (p := 6) rfl (by decide +kernel)
theorem dmX13_formOf_154 : decode cX13_formOf 154 = .ok (.return_, 1) := dw_at cX13_formOf_k6 (p := 9) rfl (by decide +kernel)
def qm_X13_formOf_0 (K : Nat) (go : Nat → Int32 → Int32 → Int32 → Int32 → Int32 → Int32 → ow_MS → Option ow_MS) (x1 : Int32) (x2 : Int32) (x3 : Int32) (x4 : Int32) (x5 : Int32) (x6 : Int32) (z : ow_MS) : Option ow_MS :=
 rdI mX z 96 x1 fun v1 => wrF z 109 0 fun z2 => go 1 x1 v1 0 0 0 0 z2
def qm_X13_formOf_1 (K : Nat) (go : Nat → Int32 → Int32 → Int32 → Int32 → Int32 → Int32 → ow_MS → Option ow_MS) (x1 : Int32) (x2 : Int32) (x3 : Int32) (x4 : Int32) (x5 : Int32) (x6 : Int32) (z : ow_MS) : Option ow_MS :=
 rdI mX z 95 x1 fun v3 => (if v3 ≤ x4 then cs0 (qe_X13_normalise K x2 x3 z) fun z4 => some z4
 else rdI mX z 94 ((16 * x1) + x4) fun v5 => (if v5 ≤ 0 then go 2 x1 x2 (x3 + (-1)) x4 v5 0 z
 else rdF z 109 fun v6 => wrI mX z 108 v6 (v5 - 1) fun z7 => rdF z7 109 fun v8 => wrF z7 109 (v8 + 1) fun z9 => go 3 x1 x2 x3 x4 v5 0 z9))
def qm_X13_formOf_2 (K : Nat) (go : Nat → Int32 → Int32 → Int32 → Int32 → Int32 → Int32 → ow_MS → Option ow_MS) (x1 : Int32) (x2 : Int32) (x3 : Int32) (x4 : Int32) (x5 : Int32) (x6 : Int32) (z : ow_MS) : Option ow_MS :=
 rdF z 109 fun v10 => (if v10 ≤ x6 then rdI mX z 101 (((480 * x2) - x5) - 1) fun v11 => rdI mX z 102 ((120 * x2) + v11) fun v12 => cs0 (qe_X13_append K x2 v12 z) fun z13 => go 3 x1 x2 x3 x4 x5 0 z13
 else rdI mX z 108 x6 fun v14 => wrI mX z 108 x6 ((x2 - 2) - v14) fun z15 => go 2 x1 x2 x3 x4 x5 (x6 + 1) z15)
def qm_X13_formOf_3 (K : Nat) (go : Nat → Int32 → Int32 → Int32 → Int32 → Int32 → Int32 → ow_MS → Option ow_MS) (x1 : Int32) (x2 : Int32) (x3 : Int32) (x4 : Int32) (x5 : Int32) (x6 : Int32) (z : ow_MS) : Option ow_MS :=
 go 1 x1 x2 x3 (x4 + 1) 0 0 z
def qb_X13_formOf (K : Nat) (go : Nat → Int32 → Int32 → Int32 → Int32 → Int32 → Int32 → ow_MS → Option ow_MS) (L : Nat) (x1 : Int32) (x2 : Int32) (x3 : Int32) (x4 : Int32) (x5 : Int32) (x6 : Int32) (z : ow_MS) : Option ow_MS := match L with
  | 0 => qm_X13_formOf_0 K go x1 x2 x3 x4 x5 x6 z
  | 1 => qm_X13_formOf_1 K go x1 x2 x3 x4 x5 x6 z
  | 2 => qm_X13_formOf_2 K go x1 x2 x3 x4 x5 x6 z
  | 3 => qm_X13_formOf_3 K go x1 x2 x3 x4 x5 x6 z
  | _ => none
def q_X13_formOf (K : Nat) : Nat → Nat → Int32 → Int32 → Int32 → Int32 → Int32 → Int32 → ow_MS → Option ow_MS
  | 0 => fun _ _ _ _ _ _ _ _ => none
  | k + 1 => qb_X13_formOf K (q_X13_formOf K k)
def qe_X13_formOf (K : Nat) (x1 : Int32) (z : ow_MS) : Option ow_MS := q_X13_formOf K K 0 x1 0 0 0 0 0 z
abbrev wm_X13_formOf : List Cond := .code yX13_formOf cX13_formOf 7 none :: wM
theorem cd_X13_formOf : yX13_formOf.cls = RX13 ∧ yX13_formOf.cls ≠ "java/lang/invoke/MethodHandle" ∧ yX13_formOf.cls ≠ "java/lang/invoke/VarHandle" ∧ (parseMethodDescriptor yX13_formOf.desc).map (fun d => d.parameters.length) = some 1 := by decide +kernel
set_option maxHeartbeats 4000000 in
set_option maxRecDepth 100000 in
theorem km_X13_formOf (l : Launch) (D : va_G) (q : ow_Q5) (u : Nat → Nat) (hU : tw_inj mX u) (K : Nat) (x1 : Int32)  (z z1 : ow_MS) (hq : qe_X13_formOf K x1 z = some z1) : Met l yX13_formOf wm_X13_formOf ({ frames := 2, cells := 0, slots := 0, locals := 55 } : Room) (va_Pc [.ref (u 0), .int x1] (mw_pre D q u z)) (va_Qv (fun (_ : Unit) => True) (fun _ t => va_P D vwCl (tw mX q u z1) t.heap) (tw_A mX u)) 0 0 (tw_A mX u) := by
  refine Met.ofW (cc := cX13_formOf) (maxL := 7) (ret := none) (by decide) rfl ?_
  intro p e s m args below meth c s₁ B hml hv
  obtain ⟨rfl, hP, hK, hN⟩ := hv
  have hx := B.exec
  have hb := B.bytes
  have hr := B.returns
  have hts := atoms_spec (ws := wm_X13_formOf) B.pre
  have hT : ∀ w ∈ wM, w.before ([.ref (u 0), .int x1] : List Value).toArray s = true := fun w h => hts w (List.mem_cons_of_mem _ h)
  have hown : s.vm.findClass RX13 = some m.cls := findClass_of_methodNamed B.named
  have hlocks := B.notSynchronized
  have hM : tw_M D vwCl mX q s.heap u z s.heap [] := ⟨hP, va_S.rf⟩
  have hl := lv_entry ([.ref (u 0), .int x1]) (n := 7) (Nat.le_of_ble_eq_true rfl)
  rw [lg_entry_eq]
  generalize (lg_sl ([.ref (u 0), .int x1]) ++ List.replicate (7 - (lg_sl ([.ref (u 0), .int x1])).length) Slot.unset).toArray = ls at hl ⊢
  have hl : lv_has ls 7 [(0, .ref (u 0)), (1, .int x1)] := hl
  refine ow_named (fun QQ hQQ => ?_)
  generalize ([.ref (u 0), .int x1] : List Value).toArray = args at hts hT hQQ ⊢
  have key : ∀ k : Nat, (∀ (x1 : Int32) (x2 : Int32) (x3 : Int32) (x4 : Int32) (x5 : Int32) (x6 : Int32) (z : ow_MS) (H : Heap) (locs : List Loc) (ls : Array Slot), tw_M D vwCl mX q s.heap u z H locs → lv_has ls 7 [(0, .ref (u 0)), (1, .int x1)] → q_X13_formOf K k 0 x1 x2 x3 x4 x5 x6 z = some z1 → W p l e ({ frames := 2, cells := 0, slots := 0, locals := 55 } : Room) s m args below meth c H locs 0 0 QQ (F0 m 0 ls [])) ∧ (∀ (x1 : Int32) (x2 : Int32) (x3 : Int32) (x4 : Int32) (x5 : Int32) (x6 : Int32) (z : ow_MS) (H : Heap) (locs : List Loc) (ls : Array Slot), tw_M D vwCl mX q s.heap u z H locs → lv_has ls 7 [(0, .ref (u 0)), (1, .int x1), (2, .int x2), (3, .int x3), (4, .int x4)] → q_X13_formOf K k 1 x1 x2 x3 x4 x5 x6 z = some z1 → W p l e ({ frames := 2, cells := 0, slots := 0, locals := 55 } : Room) s m args below meth c H locs 0 0 QQ (F0 m 17 ls [])) ∧ (∀ (x1 : Int32) (x2 : Int32) (x3 : Int32) (x4 : Int32) (x5 : Int32) (x6 : Int32) (z : ow_MS) (H : Heap) (locs : List Loc) (ls : Array Slot), tw_M D vwCl mX q s.heap u z H locs → lv_has ls 7 [(0, .ref (u 0)), (1, .int x1), (2, .int x2), (3, .int x3), (4, .int x4), (5, .int x5), (6, .int x6)] → q_X13_formOf K k 2 x1 x2 x3 x4 x5 x6 z = some z1 → W p l e ({ frames := 2, cells := 0, slots := 0, locals := 55 } : Room) s m args below meth c H locs 0 0 QQ (F0 m 79 ls [])) ∧ (∀ (x1 : Int32) (x2 : Int32) (x3 : Int32) (x4 : Int32) (x5 : Int32) (x6 : Int32) (z : ow_MS) (H : Heap) (locs : List Loc) (ls : Array Slot), tw_M D vwCl mX q s.heap u z H locs → lv_has ls 7 [(0, .ref (u 0)), (1, .int x1), (2, .int x2), (3, .int x3), (4, .int x4), (5, .int x5)] → q_X13_formOf K k 3 x1 x2 x3 x4 x5 x6 z = some z1 → W p l e ({ frames := 2, cells := 0, slots := 0, locals := 55 } : Room) s m args below meth c H locs 0 0 QQ (F0 m 142 ls [])) := by
    intro k
    induction k with
    | zero => exact ⟨fun _ _ _ _ _ _ _ _ _ _  _ _ hq => tw_no hq, fun _ _ _ _ _ _ _ _ _ _  _ _ hq => tw_no hq, fun _ _ _ _ _ _ _ _ _ _  _ _ hq => tw_no hq, fun _ _ _ _ _ _ _ _ _ _  _ _ hq => tw_no hq⟩
    | succ k ih =>
      obtain ⟨ih_0, ih_1, ih_2, ih_3⟩ := ih
      refine ⟨?_, ?_, ?_, ?_⟩
      · intro x1 x2 x3 x4 x5 x6 z H locs ls  hM hl hq
        have hq : qm_X13_formOf_0 K (q_X13_formOf K k) x1 x2 x3 x4 x5 x6 z = some z1 := hq
        unfold qm_X13_formOf_0 at hq
        refine lv_aload_n hx hb dmX13_formOf_0 rfl (lv_at hl 0 rfl) ?_
        refine mg13_326 hx hb hT hown hK hM dmX13_formOf_1 ?_
        refine lv_iload_n hx hb dmX13_formOf_4 rfl (lv_at hl 1 rfl) ?_
        refine tw_iald mX_ok hx hb hK hM mr_96 hq dmX13_formOf_5 (fun v1 hq => ?_)
        refine lv_istore_n (lv' := [(2, .int v1), (0, .ref (u 0)), (1, .int x1)]) hx hb dmX13_formOf_6 rfl hl (by decide) rfl (fun ls hl => ?_)
        refine lv_aload_n hx hb dmX13_formOf_7 rfl (lv_at hl 1 rfl) ?_
        refine lv_iconst (v := 0) hx hb dmX13_formOf_8 (by decide) ?_
        refine mp13_742 hx hb hT hown hK hM hU hq dmX13_formOf_9 (fun z2 H locs hM hq => ?_)
        refine lv_iconst (v := 0) hx hb dmX13_formOf_12 (by decide) ?_
        refine lv_istore_n (lv' := [(3, .int 0), (2, .int v1), (0, .ref (u 0)), (1, .int x1)]) hx hb dmX13_formOf_13 rfl hl (by decide) rfl (fun ls hl => ?_)
        refine lv_iconst (v := 0) hx hb dmX13_formOf_14 (by decide) ?_
        refine lv_istore (lv' := [(4, .int 0), (3, .int 0), (2, .int v1), (0, .ref (u 0)), (1, .int x1)]) hx hb dmX13_formOf_15 hl (by decide) rfl (fun ls hl => ?_)
        exact ih_1 x1 v1 0 0 0 0 z2 H locs ls hM (lv_sub hl [3, 4, 2, 1, 0] rfl) hq
      · intro x1 x2 x3 x4 x5 x6 z H locs ls  hM hl hq
        have hq : qm_X13_formOf_1 K (q_X13_formOf K k) x1 x2 x3 x4 x5 x6 z = some z1 := hq
        unfold qm_X13_formOf_1 at hq
        refine lv_iload hx hb dmX13_formOf_17 (lv_at hl 4 rfl) ?_
        refine lv_aload_n hx hb dmX13_formOf_19 rfl (lv_at hl 0 rfl) ?_
        refine mg13_323 hx hb hT hown hK hM dmX13_formOf_20 ?_
        refine lv_iload_n hx hb dmX13_formOf_23 rfl (lv_at hl 1 rfl) ?_
        refine tw_iald mX_ok hx hb hK hM mr_95 hq dmX13_formOf_24 (fun v3 hq => ?_)
        refine lv_icmp_ge (tgt := 148) hx hb dmX13_formOf_25 (by decide) (fun hc => ?_) (fun hc => ?_)
        · have hq := tw_it hq hc
          refine lv_aload_n hx hb dmX13_formOf_148 rfl (lv_at hl 0 rfl) ?_
          refine lv_iload_n hx hb dmX13_formOf_149 rfl (lv_at hl 2 rfl) ?_
          refine lv_iload_n hx hb dmX13_formOf_150 rfl (lv_at hl 3 rfl) ?_
          obtain ⟨z4, hcq, hq⟩ := tw_cl0 hq
          refine tw_calv hM (va_runV (As := [.int x2, .int x3]) (rest := []) ⟨hx, hb, hml, hown, hts⟩ (km_X13_normalise l D q u hU K x2 x3 z z4 hcq) (cwV 2 hts (tw_gV wM_good wq_518 wq_519 wq_520 wq_61 wq_513) rfl rfl rfl cd_X13_normalise ⟨(Nat.le_of_ble_eq_true rfl), (Nat.le_of_ble_eq_true rfl)⟩) (mw_preV hK hN hM mo_0 rfl) rfl rfl hl.1 rfl (lv_room (Nat.le_of_ble_eq_true rfl)) dmX13_formOf_151 ⟨(Nat.le_of_ble_eq_true rfl), (Nat.le_of_ble_eq_true rfl)⟩) (fun H locs hM => ?_)
          exact mw_vret hx hb hr hlocks hM hq hQQ dmX13_formOf_154
        · have hq := tw_if hq hc
          refine lv_aload_n hx hb dmX13_formOf_28 rfl (lv_at hl 0 rfl) ?_
          refine mg13_320 hx hb hT hown hK hM dmX13_formOf_29 ?_
          refine lv_bipush (v := 16) hx hb dmX13_formOf_32 (by decide) ?_
          refine lv_iload_n hx hb dmX13_formOf_34 rfl (lv_at hl 1 rfl) ?_
          refine lv_imul hx hb dmX13_formOf_35 ?_
          refine lv_iload hx hb dmX13_formOf_36 (lv_at hl 4 rfl) ?_
          refine lv_iadd hx hb dmX13_formOf_38 ?_
          refine tw_iald mX_ok hx hb hK hM mr_94 hq dmX13_formOf_39 (fun v5 hq => ?_)
          refine lv_istore (lv' := [(5, .int v5), (0, .ref (u 0)), (1, .int x1), (2, .int x2), (3, .int x3), (4, .int x4)]) hx hb dmX13_formOf_40 hl (by decide) rfl (fun ls hl => ?_)
          refine lv_iload hx hb dmX13_formOf_42 (lv_at hl 0 rfl) ?_
          refine lv_if_le (tgt := 73) hx hb dmX13_formOf_44 (by decide) (fun hc => ?_) (fun hc => ?_)
          · have hq := tw_it hq hc
            refine lv_iinc (v := (x3 + (-1))) (lv' := [(3, .int (x3 + (-1))), (5, .int v5), (0, .ref (u 0)), (1, .int x1), (2, .int x2), (4, .int x4)]) hx hb dmX13_formOf_73 hl (k := 4) rfl rfl (by decide) rfl (fun ls hl => ?_)
            refine lv_iconst (v := 0) hx hb dmX13_formOf_76 (by decide) ?_
            refine lv_istore (lv' := [(6, .int 0), (3, .int (x3 + (-1))), (5, .int v5), (0, .ref (u 0)), (1, .int x1), (2, .int x2), (4, .int x4)]) hx hb dmX13_formOf_77 hl (by decide) rfl (fun ls hl => ?_)
            exact ih_2 x1 x2 (x3 + (-1)) x4 v5 0 z H locs ls hM (lv_sub hl [3, 4, 5, 1, 6, 2, 0] rfl) hq
          · have hq := tw_if hq hc
            refine lv_aload_n hx hb dmX13_formOf_47 rfl (lv_at hl 1 rfl) ?_
            refine mg13_362 hx hb hT hown hK hM dmX13_formOf_48 ?_
            refine lv_aload_n hx hb dmX13_formOf_51 rfl (lv_at hl 1 rfl) ?_
            refine mg13_742 hx hb hT hown hK hM hq dmX13_formOf_52 (fun v6 hq => ?_)
            refine lv_iload hx hb dmX13_formOf_55 (lv_at hl 0 rfl) ?_
            refine lv_iconst (v := 1) hx hb dmX13_formOf_57 (by decide) ?_
            refine lv_isub hx hb dmX13_formOf_58 ?_
            refine tw_iast mX_ok hU hx hb hK hM mr_108 hq dmX13_formOf_59 (fun z7 H locs hM hq => ?_)
            refine lv_aload_n hx hb dmX13_formOf_60 rfl (lv_at hl 1 rfl) ?_
            refine lv_dup hx hb dmX13_formOf_61 rfl ?_
            refine mg13_742 hx hb hT hown hK hM hq dmX13_formOf_62 (fun v8 hq => ?_)
            refine lv_iconst (v := 1) hx hb dmX13_formOf_65 (by decide) ?_
            refine lv_iadd hx hb dmX13_formOf_66 ?_
            refine mp13_742 hx hb hT hown hK hM hU hq dmX13_formOf_67 (fun z9 H locs hM hq => ?_)
            refine lv_goto (tgt := 142) hx hb dmX13_formOf_70 (by decide) ?_
            exact ih_3 x1 x2 x3 x4 v5 0 z9 H locs ls hM (lv_sub hl [1, 2, 3, 4, 5, 0] rfl) hq
      · intro x1 x2 x3 x4 x5 x6 z H locs ls  hM hl hq
        have hq : qm_X13_formOf_2 K (q_X13_formOf K k) x1 x2 x3 x4 x5 x6 z = some z1 := hq
        unfold qm_X13_formOf_2 at hq
        refine lv_iload hx hb dmX13_formOf_79 (lv_at hl 6 rfl) ?_
        refine lv_aload_n hx hb dmX13_formOf_81 rfl (lv_at hl 0 rfl) ?_
        refine mg13_742 hx hb hT hown hK hM hq dmX13_formOf_82 (fun v10 hq => ?_)
        refine lv_icmp_ge (tgt := 112) hx hb dmX13_formOf_85 (by decide) (fun hc => ?_) (fun hc => ?_)
        · have hq := tw_it hq hc
          refine lv_aload_n hx hb dmX13_formOf_112 rfl (lv_at hl 0 rfl) ?_
          refine lv_iload_n hx hb dmX13_formOf_113 rfl (lv_at hl 2 rfl) ?_
          refine lv_aload_n hx hb dmX13_formOf_114 rfl (lv_at hl 0 rfl) ?_
          refine mg13_344 hx hb hT hown hK hM dmX13_formOf_115 ?_
          refine lv_bipush (v := 120) hx hb dmX13_formOf_118 (by decide) ?_
          refine lv_iload_n hx hb dmX13_formOf_120 rfl (lv_at hl 2 rfl) ?_
          refine lv_imul hx hb dmX13_formOf_121 ?_
          refine lv_aload_n hx hb dmX13_formOf_122 rfl (lv_at hl 0 rfl) ?_
          refine mg13_341 hx hb hT hown hK hM dmX13_formOf_123 ?_
          refine lv_sipush (v := 480) hx hb dmX13_formOf_126 (by decide) ?_
          refine lv_iload_n hx hb dmX13_formOf_129 rfl (lv_at hl 2 rfl) ?_
          refine lv_imul hx hb dmX13_formOf_130 ?_
          refine lv_iload hx hb dmX13_formOf_131 (lv_at hl 5 rfl) ?_
          refine lv_isub hx hb dmX13_formOf_133 ?_
          refine lv_iconst (v := 1) hx hb dmX13_formOf_134 (by decide) ?_
          refine lv_isub hx hb dmX13_formOf_135 ?_
          refine tw_iald mX_ok hx hb hK hM mr_101 hq dmX13_formOf_136 (fun v11 hq => ?_)
          refine lv_iadd hx hb dmX13_formOf_137 ?_
          refine tw_iald mX_ok hx hb hK hM mr_102 hq dmX13_formOf_138 (fun v12 hq => ?_)
          obtain ⟨z13, hcq, hq⟩ := tw_cl0 hq
          refine tw_calv hM (va_runV (As := [.int x2, .int v12]) (rest := []) ⟨hx, hb, hml, hown, hts⟩ (km_X13_append l D q u hU K x2 v12 z z13 hcq) (cwV 2 hts (tw_gV wM_good wq_515 wq_516 wq_517 wq_61 wq_500) rfl rfl rfl cd_X13_append ⟨(Nat.le_of_ble_eq_true rfl), (Nat.le_of_ble_eq_true rfl)⟩) (mw_preV hK hN hM mo_0 rfl) rfl rfl hl.1 rfl (lv_room (Nat.le_of_ble_eq_true rfl)) dmX13_formOf_139 ⟨(Nat.le_of_ble_eq_true rfl), (Nat.le_of_ble_eq_true rfl)⟩) (fun H locs hM => ?_)
          exact ih_3 x1 x2 x3 x4 x5 0 z13 H locs ls hM (lv_sub hl [0, 1, 2, 3, 4, 5] rfl) hq
        · have hq := tw_if hq hc
          refine lv_aload_n hx hb dmX13_formOf_88 rfl (lv_at hl 0 rfl) ?_
          refine mg13_362 hx hb hT hown hK hM dmX13_formOf_89 ?_
          refine lv_iload hx hb dmX13_formOf_92 (lv_at hl 6 rfl) ?_
          refine lv_iload_n hx hb dmX13_formOf_94 rfl (lv_at hl 2 rfl) ?_
          refine lv_iconst (v := 2) hx hb dmX13_formOf_95 (by decide) ?_
          refine lv_isub hx hb dmX13_formOf_96 ?_
          refine lv_aload_n hx hb dmX13_formOf_97 rfl (lv_at hl 0 rfl) ?_
          refine mg13_362 hx hb hT hown hK hM dmX13_formOf_98 ?_
          refine lv_iload hx hb dmX13_formOf_101 (lv_at hl 6 rfl) ?_
          refine tw_iald mX_ok hx hb hK hM mr_108 hq dmX13_formOf_103 (fun v14 hq => ?_)
          refine lv_isub hx hb dmX13_formOf_104 ?_
          refine tw_iast mX_ok hU hx hb hK hM mr_108 hq dmX13_formOf_105 (fun z15 H locs hM hq => ?_)
          refine lv_iinc (v := (x6 + 1)) (lv' := [(6, .int (x6 + 1)), (0, .ref (u 0)), (1, .int x1), (2, .int x2), (3, .int x3), (4, .int x4), (5, .int x5)]) hx hb dmX13_formOf_106 hl (k := 6) rfl rfl (by decide) rfl (fun ls hl => ?_)
          refine lv_goto (tgt := 79) hx hb dmX13_formOf_109 (by decide) ?_
          exact ih_2 x1 x2 x3 x4 x5 (x6 + 1) z15 H locs ls hM (lv_sub hl [1, 2, 3, 4, 5, 6, 0] rfl) hq
      · intro x1 x2 x3 x4 x5 x6 z H locs ls  hM hl hq
        have hq : qm_X13_formOf_3 K (q_X13_formOf K k) x1 x2 x3 x4 x5 x6 z = some z1 := hq
        unfold qm_X13_formOf_3 at hq
        refine lv_iinc (v := (x4 + 1)) (lv' := [(4, .int (x4 + 1)), (0, .ref (u 0)), (1, .int x1), (2, .int x2), (3, .int x3), (5, .int x5)]) hx hb dmX13_formOf_142 hl (k := 4) rfl rfl (by decide) rfl (fun ls hl => ?_)
        refine lv_goto (tgt := 17) hx hb dmX13_formOf_145 (by decide) ?_
        exact ih_1 x1 x2 x3 (x4 + 1) 0 0 z H locs ls hM (lv_sub hl [1, 2, 3, 4, 0] rfl) hq
  exact (key K).1 x1 0 0 0 0 0 z s.heap [] ls  hM (lv_sub hl [0, 1] rfl) hq
theorem dmX13_normal_0 : decode cX13_normal 0 = .ok (.aload_n 0, 1) := dw_at cX13_normal_k0 (p := 0) rfl (by decide +kernel)
theorem dmX13_normal_1 : decode cX13_normal 1 = .ok (.iconst 0, 1) := dw_at cX13_normal_k0 (p := 1) rfl (by decide +kernel)
theorem dmX13_normal_2 : decode cX13_normal 2 = .ok (.putfield 1, 3) := dw_at cX13_normal_k0 (p := 2) rfl (by decide +kernel)
theorem dmX13_normal_5 : decode cX13_normal 5 = .ok (.aload_n 0, 1) := dw_at cX13_normal_k0 (p := 5) rfl (by decide +kernel)
theorem dmX13_normal_6 : decode cX13_normal 6 = .ok (.iload_n 1, 1) := dw_at cX13_normal_k0 (p := 6) rfl (by decide +kernel)
theorem dmX13_normal_7 : decode cX13_normal 7 = .ok (.invokevirtual 739, 3) := dw_at cX13_normal_k0 (p := 7) rfl (by decide +kernel)
theorem dmX13_normal_10 : decode cX13_normal 10 = .ok (.ifCond .ne 9, 3) := dw_at cX13_normal_k0 (p := 10) rfl (by decide +kernel)
theorem dmX13_normal_13 : decode cX13_normal 13 = .ok (.aload_n 0, 1) := dw_at cX13_normal_k0 (p := 13) rfl (by decide +kernel)
theorem dmX13_normal_14 : decode cX13_normal 14 = .ok (.iconst 1, 1) := dw_at cX13_normal_k0 (p := 14) rfl (by decide +kernel)
theorem dmX13_normal_15 : decode cX13_normal 15 = .ok (.invokevirtual 403, 3) := dw_at cX13_normal_k0 (p := 15) rfl (by decide +kernel)
theorem dmX13_normal_18 : decode cX13_normal 18 = .ok (.ireturn, 1) := dw_at cX13_normal_k0 (p := 18) rfl (by decide +kernel)
theorem dmX13_normal_19 : decode cX13_normal 19 = .ok (.iload_n 2, 1) := dw_at cX13_normal_k0 (p := 19) rfl (by decide +kernel)
theorem dmX13_normal_20 : decode cX13_normal 20 = .ok (.ifCond .lt 8, 3) := dw_at cX13_normal_k0 (p := 20) rfl (by decide +kernel)
theorem dmX13_normal_23 : decode cX13_normal 23 = .ok (.iload_n 2, 1) := dw_at cX13_normal_k0 (p := 23) rfl (by decide +kernel)
theorem dmX13_normal_24 : decode cX13_normal 24 = .ok (.iconst 3, 1) := dw_at cX13_normal_k1 (p := 0) rfl (by decide +kernel)
theorem dmX13_normal_25 : decode cX13_normal 25 = .ok (.if_icmp .le 9, 3) := dw_at cX13_normal_k1 (p := 1) rfl (by decide +kernel)
theorem dmX13_normal_28 : decode cX13_normal 28 = .ok (.aload_n 0, 1) := dw_at cX13_normal_k1 (p := 4) rfl (by decide +kernel)
theorem dmX13_normal_29 : decode cX13_normal 29 = .ok (.iconst 2, 1) := dw_at cX13_normal_k1 (p := 5) rfl (by decide +kernel)
theorem dmX13_normal_30 : decode cX13_normal 30 = .ok (.invokevirtual 403, 3) := dw_at cX13_normal_k1 (p := 6) rfl (by decide +kernel)
theorem dmX13_normal_33 : decode cX13_normal 33 = .ok (.ireturn, 1) := dw_at cX13_normal_k1 (p := 9) rfl (by decide +kernel)
theorem dmX13_normal_34 : decode cX13_normal 34 = .ok (.iload_n 2, 1) := dw_at cX13_normal_k1 (p := 10) rfl (by decide +kernel)
theorem dmX13_normal_35 : decode cX13_normal 35 = .ok (.iconst 2, 1) := dw_at cX13_normal_k1 (p := 11) rfl (by decide +kernel)
theorem dmX13_normal_36 : decode cX13_normal 36 = .ok (.if_icmp .ne 10, 3) := dw_at cX13_normal_k1 (p := 12) rfl (by decide +kernel)
theorem dmX13_normal_39 : decode cX13_normal 39 = .ok (.aload_n 0, 1) := dw_at cX13_normal_k1 (p := 15) rfl (by decide +kernel)
theorem dmX13_normal_40 : decode cX13_normal 40 = .ok (.getfield 323, 3) := dw_at cX13_normal_k1 (p := 16) rfl (by decide +kernel)
theorem dmX13_normal_43 : decode cX13_normal 43 = .ok (.iload_n 1, 1) := dw_at cX13_normal_k1 (p := 19) rfl (by decide +kernel)
theorem dmX13_normal_44 : decode cX13_normal 44 = .ok (.iaload, 1) := dw_at cX13_normal_k1 (p := 20) rfl (by decide +kernel)
theorem dmX13_normal_45 : decode cX13_normal 45 = .ok (.ireturn, 1) := dw_at cX13_normal_k1 (p := 21) rfl (by decide +kernel)
theorem dmX13_normal_46 : decode cX13_normal 46 = .ok (.iload_n 2, 1) := dw_at cX13_normal_k1 (p := 22) rfl (by decide +kernel)
theorem dmX13_normal_47 : decode cX13_normal 47 = .ok (.iconst 3, 1) := dw_at cX13_normal_k1 (p := 23) rfl (by decide +kernel)
theorem dmX13_normal_48 : decode cX13_normal 48 = .ok (.if_icmp .ne 10, 3) := dw_at cX13_normal_k2 (p := 0) rfl (by decide +kernel)
theorem dmX13_normal_51 : decode cX13_normal 51 = .ok (.aload_n 0, 1) := dw_at cX13_normal_k2 (p := 3) rfl (by decide +kernel)
theorem dmX13_normal_52 : decode cX13_normal 52 = .ok (.getfield 326, 3) := dw_at cX13_normal_k2 (p := 4) rfl (by decide +kernel)
theorem dmX13_normal_55 : decode cX13_normal 55 = .ok (.iload_n 1, 1) := dw_at cX13_normal_k2 (p := 7) rfl (by decide +kernel)
theorem dmX13_normal_56 : decode cX13_normal 56 = .ok (.iaload, 1) := dw_at cX13_normal_k2 (p := 8) rfl (by decide +kernel)
theorem dmX13_normal_57 : decode cX13_normal 57 = .ok (.ireturn, 1) := dw_at cX13_normal_k2 (p := 9) rfl (by decide +kernel)
theorem dmX13_normal_58 : decode cX13_normal 58 = .ok (.aload_n 0, 1) := dw_at cX13_normal_k2 (p := 10) rfl (by decide +kernel)
theorem dmX13_normal_59 : decode cX13_normal 59 = .ok (.iload_n 1, 1) := dw_at cX13_normal_k2 (p := 11) rfl (by decide +kernel)
theorem dmX13_normal_60 : decode cX13_normal 60 = .ok (.invokevirtual 763, 3) := dw_at cX13_normal_k2 (p := 12) rfl (by decide +kernel)
theorem dmX13_normal_63 : decode cX13_normal 63 = .ok (.iload_n 2, 1) := dw_at cX13_normal_k2 (p := 15) rfl (by decide +kernel)
theorem dmX13_normal_64 : decode cX13_normal 64 = .ok (.ifCond .ne 10, 3) := dw_at cX13_normal_k2 (p := 16) rfl (by decide +kernel)
theorem dmX13_normal_67 : decode cX13_normal 67 = .ok (.aload_n 0, 1) := dw_at cX13_normal_k2 (p := 19) rfl (by decide +kernel)
theorem dmX13_normal_68 : decode cX13_normal 68 = .ok (.getfield 748, 3) := dw_at cX13_normal_k2 (p := 20) rfl (by decide +kernel)
theorem dmX13_normal_71 : decode cX13_normal 71 = .ok (.goto 7, 3) := dw_at cX13_normal_k2 (p := 23) rfl (by decide +kernel)
theorem dmX13_normal_74 : decode cX13_normal 74 = .ok (.aload_n 0, 1) := dw_at cX13_normal_k2 (p := 26) rfl (by decide +kernel)
theorem dmX13_normal_75 : decode cX13_normal 75 = .ok (.getfield 751, 3) := dw_at cX13_normal_k2 (p := 27) rfl (by decide +kernel)
theorem dmX13_normal_78 : decode cX13_normal 78 = .ok (.ireturn, 1) := dw_at cX13_normal_k2 (p := 30) rfl (by decide +kernel)
def qm_X13_normal_0 (K : Nat) (go : Nat → Int32 → Int32 → ow_MS → Option (Int32 × ow_MS)) (x1 : Int32) (x2 : Int32) (z : ow_MS) : Option (Int32 × ow_MS) :=
 wrF z 1 0 fun z1 => cs1 (qe_X13_hasBraid K x1 z1) fun v3 z2 => (if v3 = 0 then cs1 (qe_X13_fails K 1 z2) fun v10 z9 => some (v10, z9)
 else (if x2 < 0 then go 1 x1 x2 z2
 else (if x2 ≤ 3 then (if x2 = 2 then rdI mX z2 95 x1 fun v8 => some (v8, z2)
 else (if x2 = 3 then rdI mX z2 96 x1 fun v7 => some (v7, z2)
 else cs0 (qe_X13_formOf K x1 z2) fun z4 => (if x2 = 0 then rdF z4 112 fun v6 => some (v6, z4)
 else rdF z4 113 fun v5 => some (v5, z4))))
 else go 1 x1 x2 z2)))
def qm_X13_normal_1 (K : Nat) (go : Nat → Int32 → Int32 → ow_MS → Option (Int32 × ow_MS)) (x1 : Int32) (x2 : Int32) (z : ow_MS) : Option (Int32 × ow_MS) :=
 cs1 (qe_X13_fails K 2 z) fun v12 z11 => some (v12, z11)
def qb_X13_normal (K : Nat) (go : Nat → Int32 → Int32 → ow_MS → Option (Int32 × ow_MS)) (L : Nat) (x1 : Int32) (x2 : Int32) (z : ow_MS) : Option (Int32 × ow_MS) := match L with
  | 0 => qm_X13_normal_0 K go x1 x2 z
  | 1 => qm_X13_normal_1 K go x1 x2 z
  | _ => none
def q_X13_normal (K : Nat) : Nat → Nat → Int32 → Int32 → ow_MS → Option (Int32 × ow_MS)
  | 0 => fun _ _ _ _ => none
  | k + 1 => qb_X13_normal K (q_X13_normal K k)
def qe_X13_normal (K : Nat) (x1 : Int32) (x2 : Int32) (z : ow_MS) : Option (Int32 × ow_MS) := q_X13_normal K K 0 x1 x2 z
abbrev wm_X13_normal : List Cond := .code yX13_normal cX13_normal 3 (some .int) :: wM
theorem cd_X13_normal : yX13_normal.cls = RX13 ∧ yX13_normal.cls ≠ "java/lang/invoke/MethodHandle" ∧ yX13_normal.cls ≠ "java/lang/invoke/VarHandle" ∧ (parseMethodDescriptor yX13_normal.desc).map (fun d => d.parameters.length) = some 2 := by decide +kernel
set_option maxHeartbeats 4000000 in
set_option maxRecDepth 100000 in
theorem km_X13_normal (l : Launch) (D : va_G) (q : ow_Q5) (u : Nat → Nat) (hU : tw_inj mX u) (K : Nat) (x1 : Int32) (x2 : Int32)  (z z1 : ow_MS) (r : Int32) (hq : qe_X13_normal K x1 x2 z = some (r, z1)) : Met l yX13_normal wm_X13_normal ({ frames := 3, cells := 0, slots := 0, locals := 81 } : Room) (va_Pc [.ref (u 0), .int x1, .int x2] (mw_pre D q u z)) (va_Qi (fun x (_ : Unit) => x = r) (fun _ t => va_P D vwCl (tw mX q u z1) t.heap) (tw_A mX u)) 0 0 (tw_A mX u) := by
  refine Met.ofW (cc := cX13_normal) (maxL := 3) (ret := (some .int)) (by decide) rfl ?_
  intro p e s m args below meth c s₁ B hml hv
  obtain ⟨rfl, hP, hK, hN⟩ := hv
  have hx := B.exec
  have hb := B.bytes
  have hr := B.returns
  have hts := atoms_spec (ws := wm_X13_normal) B.pre
  have hT : ∀ w ∈ wM, w.before ([.ref (u 0), .int x1, .int x2] : List Value).toArray s = true := fun w h => hts w (List.mem_cons_of_mem _ h)
  have hown : s.vm.findClass RX13 = some m.cls := findClass_of_methodNamed B.named
  have hlocks := B.notSynchronized
  have hM : tw_M D vwCl mX q s.heap u z s.heap [] := ⟨hP, va_S.rf⟩
  have hl := lv_entry ([.ref (u 0), .int x1, .int x2]) (n := 3) (Nat.le_of_ble_eq_true rfl)
  rw [lg_entry_eq]
  generalize (lg_sl ([.ref (u 0), .int x1, .int x2]) ++ List.replicate (3 - (lg_sl ([.ref (u 0), .int x1, .int x2])).length) Slot.unset).toArray = ls at hl ⊢
  have hl : lv_has ls 3 [(0, .ref (u 0)), (1, .int x1), (2, .int x2)] := hl
  refine ow_named (fun QQ hQQ => ?_)
  generalize ([.ref (u 0), .int x1, .int x2] : List Value).toArray = args at hts hT hQQ ⊢
  have key : ∀ k : Nat, (∀ (x1 : Int32) (x2 : Int32) (z : ow_MS) (H : Heap) (locs : List Loc) (ls : Array Slot), tw_M D vwCl mX q s.heap u z H locs → lv_has ls 3 [(0, .ref (u 0)), (1, .int x1), (2, .int x2)] → q_X13_normal K k 0 x1 x2 z = some (r, z1) → W p l e ({ frames := 3, cells := 0, slots := 0, locals := 81 } : Room) s m args below meth c H locs 0 0 QQ (F0 m 0 ls [])) ∧ (∀ (x1 : Int32) (x2 : Int32) (z : ow_MS) (H : Heap) (locs : List Loc) (ls : Array Slot), tw_M D vwCl mX q s.heap u z H locs → lv_has ls 3 [(0, .ref (u 0)), (1, .int x1), (2, .int x2)] → q_X13_normal K k 1 x1 x2 z = some (r, z1) → W p l e ({ frames := 3, cells := 0, slots := 0, locals := 81 } : Room) s m args below meth c H locs 0 0 QQ (F0 m 28 ls [])) := by
    intro k
    induction k with
    | zero => exact ⟨fun _ _ _ _ _ _  _ _ hq => tw_no hq, fun _ _ _ _ _ _  _ _ hq => tw_no hq⟩
    | succ k ih =>
      obtain ⟨ih_0, ih_1⟩ := ih
      refine ⟨?_, ?_⟩
      · intro x1 x2 z H locs ls  hM hl hq
        have hq : qm_X13_normal_0 K (q_X13_normal K k) x1 x2 z = some (r, z1) := hq
        unfold qm_X13_normal_0 at hq
        refine lv_aload_n hx hb dmX13_normal_0 rfl (lv_at hl 0 rfl) ?_
        refine lv_iconst (v := 0) hx hb dmX13_normal_1 (by decide) ?_
        refine mp13_1 hx hb hT hown hK hM hU hq dmX13_normal_2 (fun z1 H locs hM hq => ?_)
        refine lv_aload_n hx hb dmX13_normal_5 rfl (lv_at hl 0 rfl) ?_
        refine lv_iload_n hx hb dmX13_normal_6 rfl (lv_at hl 1 rfl) ?_
        obtain ⟨v3, z2, hcq, hq⟩ := tw_cl1 hq
        refine tw_cali hM (va_runV (As := [.int x1]) (rest := []) ⟨hx, hb, hml, hown, hts⟩ (km_X13_hasBraid l D q u hU K x1 z1 z2 v3 hcq) (cwV 1 hts (tw_gV wM_good wq_490 wq_491 wq_492 wq_61 wq_482) rfl rfl rfl cd_X13_hasBraid ⟨(Nat.le_of_ble_eq_true rfl), (Nat.le_of_ble_eq_true rfl)⟩) (mw_preV hK hN hM mo_0 rfl) rfl rfl hl.1 rfl (lv_room (Nat.le_of_ble_eq_true rfl)) dmX13_normal_7 ⟨(Nat.le_of_ble_eq_true rfl), (Nat.le_of_ble_eq_true rfl)⟩) (fun H locs hM => ?_)
        refine lv_if_ne (tgt := 19) hx hb dmX13_normal_10 (by decide) (fun hc => ?_) (fun hc => ?_)
        · have hq := tw_if hq hc
          refine lv_iload_n hx hb dmX13_normal_19 rfl (lv_at hl 2 rfl) ?_
          refine lv_if_lt (tgt := 28) hx hb dmX13_normal_20 (by decide) (fun hc => ?_) (fun hc => ?_)
          · have hq := tw_it hq hc
            exact ih_1 x1 x2 z2 H locs ls hM (lv_sub hl [0, 1, 2] rfl) hq
          · have hq := tw_if hq hc
            refine lv_iload_n hx hb dmX13_normal_23 rfl (lv_at hl 2 rfl) ?_
            refine lv_iconst (v := 3) hx hb dmX13_normal_24 (by decide) ?_
            refine lv_icmp_le (tgt := 34) hx hb dmX13_normal_25 (by decide) (fun hc => ?_) (fun hc => ?_)
            · have hq := tw_it hq hc
              refine lv_iload_n hx hb dmX13_normal_34 rfl (lv_at hl 2 rfl) ?_
              refine lv_iconst (v := 2) hx hb dmX13_normal_35 (by decide) ?_
              refine lv_icmp_ne (tgt := 46) hx hb dmX13_normal_36 (by decide) (fun hc => ?_) (fun hc => ?_)
              · have hq := tw_if hq hc
                refine lv_iload_n hx hb dmX13_normal_46 rfl (lv_at hl 2 rfl) ?_
                refine lv_iconst (v := 3) hx hb dmX13_normal_47 (by decide) ?_
                refine lv_icmp_ne (tgt := 58) hx hb dmX13_normal_48 (by decide) (fun hc => ?_) (fun hc => ?_)
                · have hq := tw_if hq hc
                  refine lv_aload_n hx hb dmX13_normal_58 rfl (lv_at hl 0 rfl) ?_
                  refine lv_iload_n hx hb dmX13_normal_59 rfl (lv_at hl 1 rfl) ?_
                  obtain ⟨z4, hcq, hq⟩ := tw_cl0 hq
                  refine tw_calv hM (va_runV (As := [.int x1]) (rest := []) ⟨hx, hb, hml, hown, hts⟩ (km_X13_formOf l D q u hU K x1 z2 z4 hcq) (cwV 1 hts (tw_gV wM_good wq_522 wq_523 wq_524 wq_61 wq_521) rfl rfl rfl cd_X13_formOf ⟨(Nat.le_of_ble_eq_true rfl), (Nat.le_of_ble_eq_true rfl)⟩) (mw_preV hK hN hM mo_0 rfl) rfl rfl hl.1 rfl (lv_room (Nat.le_of_ble_eq_true rfl)) dmX13_normal_60 ⟨(Nat.le_of_ble_eq_true rfl), (Nat.le_of_ble_eq_true rfl)⟩) (fun H locs hM => ?_)
                  refine lv_iload_n hx hb dmX13_normal_63 rfl (lv_at hl 2 rfl) ?_
                  refine lv_if_ne (tgt := 74) hx hb dmX13_normal_64 (by decide) (fun hc => ?_) (fun hc => ?_)
                  · have hq := tw_if hq hc
                    refine lv_aload_n hx hb dmX13_normal_74 rfl (lv_at hl 0 rfl) ?_
                    refine mg13_751 hx hb hT hown hK hM hq dmX13_normal_75 (fun v5 hq => ?_)
                    exact mw_iret hx hb hr hlocks hM hq hQQ dmX13_normal_78
                  · have hq := tw_it hq hc
                    refine lv_aload_n hx hb dmX13_normal_67 rfl (lv_at hl 0 rfl) ?_
                    refine mg13_748 hx hb hT hown hK hM hq dmX13_normal_68 (fun v6 hq => ?_)
                    refine lv_goto (tgt := 78) hx hb dmX13_normal_71 (by decide) ?_
                    exact mw_iret hx hb hr hlocks hM hq hQQ dmX13_normal_78
                · have hq := tw_it hq hc
                  refine lv_aload_n hx hb dmX13_normal_51 rfl (lv_at hl 0 rfl) ?_
                  refine mg13_326 hx hb hT hown hK hM dmX13_normal_52 ?_
                  refine lv_iload_n hx hb dmX13_normal_55 rfl (lv_at hl 1 rfl) ?_
                  refine tw_iald mX_ok hx hb hK hM mr_96 hq dmX13_normal_56 (fun v7 hq => ?_)
                  exact mw_iret hx hb hr hlocks hM hq hQQ dmX13_normal_57
              · have hq := tw_it hq hc
                refine lv_aload_n hx hb dmX13_normal_39 rfl (lv_at hl 0 rfl) ?_
                refine mg13_323 hx hb hT hown hK hM dmX13_normal_40 ?_
                refine lv_iload_n hx hb dmX13_normal_43 rfl (lv_at hl 1 rfl) ?_
                refine tw_iald mX_ok hx hb hK hM mr_95 hq dmX13_normal_44 (fun v8 hq => ?_)
                exact mw_iret hx hb hr hlocks hM hq hQQ dmX13_normal_45
            · have hq := tw_if hq hc
              exact ih_1 x1 x2 z2 H locs ls hM (lv_sub hl [0, 1, 2] rfl) hq
        · have hq := tw_it hq hc
          refine lv_aload_n hx hb dmX13_normal_13 rfl (lv_at hl 0 rfl) ?_
          refine lv_iconst (v := 1) hx hb dmX13_normal_14 (by decide) ?_
          obtain ⟨v10, z9, hcq, hq⟩ := tw_cl1 hq
          refine tw_cali hM (va_runV (As := [.int 1]) (rest := []) ⟨hx, hb, hml, hown, hts⟩ (km_X13_fails l D q u hU K 1 z2 z9 v10 hcq) (cwV 1 hts (tw_gV wM_good wq_103 wq_104 wq_105 wq_61 wq_50) rfl rfl rfl cd_X13_fails ⟨(Nat.le_of_ble_eq_true rfl), (Nat.le_of_ble_eq_true rfl)⟩) (mw_preV hK hN hM mo_0 rfl) rfl rfl hl.1 rfl (lv_room (Nat.le_of_ble_eq_true rfl)) dmX13_normal_15 ⟨(Nat.le_of_ble_eq_true rfl), (Nat.le_of_ble_eq_true rfl)⟩) (fun H locs hM => ?_)
          exact mw_iret hx hb hr hlocks hM hq hQQ dmX13_normal_18
      · intro x1 x2 z H locs ls  hM hl hq
        have hq : qm_X13_normal_1 K (q_X13_normal K k) x1 x2 z = some (r, z1) := hq
        unfold qm_X13_normal_1 at hq
        refine lv_aload_n hx hb dmX13_normal_28 rfl (lv_at hl 0 rfl) ?_
        refine lv_iconst (v := 2) hx hb dmX13_normal_29 (by decide) ?_
        obtain ⟨v12, z11, hcq, hq⟩ := tw_cl1 hq
        refine tw_cali hM (va_runV (As := [.int 2]) (rest := []) ⟨hx, hb, hml, hown, hts⟩ (km_X13_fails l D q u hU K 2 z z11 v12 hcq) (cwV 1 hts (tw_gV wM_good wq_103 wq_104 wq_105 wq_61 wq_50) rfl rfl rfl cd_X13_fails ⟨(Nat.le_of_ble_eq_true rfl), (Nat.le_of_ble_eq_true rfl)⟩) (mw_preV hK hN hM mo_0 rfl) rfl rfl hl.1 rfl (lv_room (Nat.le_of_ble_eq_true rfl)) dmX13_normal_30 ⟨(Nat.le_of_ble_eq_true rfl), (Nat.le_of_ble_eq_true rfl)⟩) (fun H locs hM => ?_)
        exact mw_iret hx hb hr hlocks hM hq hQQ dmX13_normal_33
  exact (key K).1 x1 x2 z s.heap [] ls  hM (lv_sub hl [0, 1, 2] rfl) hq
theorem dmX13_factor_0 : decode cX13_factor 0 = .ok (.aload_n 0, 1) := dw_at cX13_factor_k0 (p := 0) rfl (by decide +kernel)
theorem dmX13_factor_1 : decode cX13_factor 1 = .ok (.iconst 0, 1) := dw_at cX13_factor_k0 (p := 1) rfl (by decide +kernel)
theorem dmX13_factor_2 : decode cX13_factor 2 = .ok (.putfield 1, 3) := dw_at cX13_factor_k0 (p := 2) rfl (by decide +kernel)
theorem dmX13_factor_5 : decode cX13_factor 5 = .ok (.aload_n 0, 1) := dw_at cX13_factor_k0 (p := 5) rfl (by decide +kernel)
theorem dmX13_factor_6 : decode cX13_factor 6 = .ok (.iload_n 1, 1) := dw_at cX13_factor_k0 (p := 6) rfl (by decide +kernel)
theorem dmX13_factor_7 : decode cX13_factor 7 = .ok (.invokevirtual 739, 3) := dw_at cX13_factor_k0 (p := 7) rfl (by decide +kernel)
theorem dmX13_factor_10 : decode cX13_factor 10 = .ok (.ifCond .ne 9, 3) := dw_at cX13_factor_k0 (p := 10) rfl (by decide +kernel)
theorem dmX13_factor_13 : decode cX13_factor 13 = .ok (.aload_n 0, 1) := dw_at cX13_factor_k0 (p := 13) rfl (by decide +kernel)
theorem dmX13_factor_14 : decode cX13_factor 14 = .ok (.iconst 1, 1) := dw_at cX13_factor_k0 (p := 14) rfl (by decide +kernel)
theorem dmX13_factor_15 : decode cX13_factor 15 = .ok (.invokevirtual 403, 3) := dw_at cX13_factor_k0 (p := 15) rfl (by decide +kernel)
theorem dmX13_factor_18 : decode cX13_factor 18 = .ok (.ireturn, 1) := dw_at cX13_factor_k0 (p := 18) rfl (by decide +kernel)
theorem dmX13_factor_19 : decode cX13_factor 19 = .ok (.aload_n 0, 1) := dw_at cX13_factor_k0 (p := 19) rfl (by decide +kernel)
theorem dmX13_factor_20 : decode cX13_factor 20 = .ok (.iload_n 1, 1) := dw_at cX13_factor_k0 (p := 20) rfl (by decide +kernel)
theorem dmX13_factor_21 : decode cX13_factor 21 = .ok (.invokevirtual 763, 3) := dw_at cX13_factor_k0 (p := 21) rfl (by decide +kernel)
theorem dmX13_factor_24 : decode cX13_factor 24 = .ok (.iload_n 2, 1) := dw_at cX13_factor_k1 (p := 0) rfl (by decide +kernel)
theorem dmX13_factor_25 : decode cX13_factor 25 = .ok (.iconst 1, 1) := dw_at cX13_factor_k1 (p := 1) rfl (by decide +kernel)
theorem dmX13_factor_26 : decode cX13_factor 26 = .ok (.if_icmp .lt 25, 3) := dw_at cX13_factor_k1 (p := 2) rfl (by decide +kernel)
theorem dmX13_factor_29 : decode cX13_factor 29 = .ok (.iload_n 2, 1) := dw_at cX13_factor_k1 (p := 5) rfl (by decide +kernel)
theorem dmX13_factor_30 : decode cX13_factor 30 = .ok (.aload_n 0, 1) := dw_at cX13_factor_k1 (p := 6) rfl (by decide +kernel)
theorem dmX13_factor_31 : decode cX13_factor 31 = .ok (.getfield 751, 3) := dw_at cX13_factor_k1 (p := 7) rfl (by decide +kernel)
theorem dmX13_factor_34 : decode cX13_factor 34 = .ok (.if_icmp .gt 17, 3) := dw_at cX13_factor_k1 (p := 10) rfl (by decide +kernel)
theorem dmX13_factor_37 : decode cX13_factor 37 = .ok (.iload_n 3, 1) := dw_at cX13_factor_k1 (p := 13) rfl (by decide +kernel)
theorem dmX13_factor_38 : decode cX13_factor 38 = .ok (.ifCond .lt 13, 3) := dw_at cX13_factor_k1 (p := 14) rfl (by decide +kernel)
theorem dmX13_factor_41 : decode cX13_factor 41 = .ok (.iload_n 3, 1) := dw_at cX13_factor_k1 (p := 17) rfl (by decide +kernel)
theorem dmX13_factor_42 : decode cX13_factor 42 = .ok (.aload_n 0, 1) := dw_at cX13_factor_k1 (p := 18) rfl (by decide +kernel)
theorem dmX13_factor_43 : decode cX13_factor 43 = .ok (.getfield 326, 3) := dw_at cX13_factor_k1 (p := 19) rfl (by decide +kernel)
theorem dmX13_factor_46 : decode cX13_factor 46 = .ok (.iload_n 1, 1) := dw_at cX13_factor_k1 (p := 22) rfl (by decide +kernel)
theorem dmX13_factor_47 : decode cX13_factor 47 = .ok (.iaload, 1) := dw_at cX13_factor_k1 (p := 23) rfl (by decide +kernel)
theorem dmX13_factor_48 : decode cX13_factor 48 = .ok (.if_icmp .lt 7, 3) := dw_at cX13_factor_k2 (p := 0) rfl (by decide +kernel)
theorem dmX13_factor_51 : decode cX13_factor 51 = .ok (.iconst (-1), 1) := dw_at cX13_factor_k2 (p := 3) rfl (by decide +kernel)
theorem dmX13_factor_52 : decode cX13_factor 52 = .ok (.goto 30, 3) := dw_at cX13_factor_k2 (p := 4) rfl (by decide +kernel)
theorem dmX13_factor_55 : decode cX13_factor 55 = .ok (.aload_n 0, 1) := dw_at cX13_factor_k2 (p := 7) rfl (by decide +kernel)
theorem dmX13_factor_56 : decode cX13_factor 56 = .ok (.getfield 332, 3) := dw_at cX13_factor_k2 (p := 8) rfl (by decide +kernel)
theorem dmX13_factor_59 : decode cX13_factor 59 = .ok (.iconst 5, 1) := dw_at cX13_factor_k2 (p := 11) rfl (by decide +kernel)
theorem dmX13_factor_60 : decode cX13_factor 60 = .ok (.bipush 120, 2) := dw_at cX13_factor_k2 (p := 12) rfl (by decide +kernel)
theorem dmX13_factor_62 : decode cX13_factor 62 = .ok (.aload_n 0, 1) := dw_at cX13_factor_k2 (p := 14) rfl (by decide +kernel)
theorem dmX13_factor_63 : decode cX13_factor 63 = .ok (.getfield 326, 3) := dw_at cX13_factor_k2 (p := 15) rfl (by decide +kernel)
theorem dmX13_factor_66 : decode cX13_factor 66 = .ok (.iload_n 1, 1) := dw_at cX13_factor_k2 (p := 18) rfl (by decide +kernel)
theorem dmX13_factor_67 : decode cX13_factor 67 = .ok (.iaload, 1) := dw_at cX13_factor_k2 (p := 19) rfl (by decide +kernel)
theorem dmX13_factor_68 : decode cX13_factor 68 = .ok (.imul, 1) := dw_at cX13_factor_k2 (p := 20) rfl (by decide +kernel)
theorem dmX13_factor_69 : decode cX13_factor 69 = .ok (.aload_n 0, 1) := dw_at cX13_factor_k2 (p := 21) rfl (by decide +kernel)
theorem dmX13_factor_70 : decode cX13_factor 70 = .ok (.getfield 368, 3) := dw_at cX13_factor_k2 (p := 22) rfl (by decide +kernel)
theorem dmX13_factor_73 : decode cX13_factor 73 = .ok (.iload_n 2, 1) := dw_at cX13_factor_k3 (p := 0) rfl (by decide +kernel)
theorem dmX13_factor_74 : decode cX13_factor 74 = .ok (.iconst 1, 1) := dw_at cX13_factor_k3 (p := 1) rfl (by decide +kernel)
theorem dmX13_factor_75 : decode cX13_factor 75 = .ok (.isub, 1) := dw_at cX13_factor_k3 (p := 2) rfl (by decide +kernel)
theorem dmX13_factor_76 : decode cX13_factor 76 = .ok (.iaload, 1) := dw_at cX13_factor_k3 (p := 3) rfl (by decide +kernel)
theorem dmX13_factor_77 : decode cX13_factor 77 = .ok (.iadd, 1) := dw_at cX13_factor_k3 (p := 4) rfl (by decide +kernel)
theorem dmX13_factor_78 : decode cX13_factor 78 = .ok (.imul, 1) := dw_at cX13_factor_k3 (p := 5) rfl (by decide +kernel)
theorem dmX13_factor_79 : decode cX13_factor 79 = .ok (.iload_n 3, 1) := dw_at cX13_factor_k3 (p := 6) rfl (by decide +kernel)
theorem dmX13_factor_80 : decode cX13_factor 80 = .ok (.iadd, 1) := dw_at cX13_factor_k3 (p := 7) rfl (by decide +kernel)
theorem dmX13_factor_81 : decode cX13_factor 81 = .ok (.iaload, 1) := dw_at cX13_factor_k3 (p := 8) rfl (by decide +kernel)
theorem dmX13_factor_82 : decode cX13_factor 82 = .ok (.ireturn, 1) := dw_at cX13_factor_k3 (p := 9) rfl (by decide +kernel)
def qm_X13_factor_0 (K : Nat) (go : Nat → Int32 → Int32 → Int32 → ow_MS → Option (Int32 × ow_MS)) (x1 : Int32) (x2 : Int32) (x3 : Int32) (z : ow_MS) : Option (Int32 × ow_MS) :=
 wrF z 1 0 fun z1 => cs1 (qe_X13_hasBraid K x1 z1) fun v3 z2 => (if v3 = 0 then cs1 (qe_X13_fails K 1 z2) fun v11 z10 => some (v11, z10)
 else cs0 (qe_X13_formOf K x1 z2) fun z4 => (if x2 < 1 then go 1 x1 x2 x3 z4
 else rdF z4 113 fun v5 => (if v5 < x2 then go 1 x1 x2 x3 z4
 else (if x3 < 0 then go 1 x1 x2 x3 z4
 else rdI mX z4 96 x1 fun v6 => (if x3 < v6 then rdI mX z4 96 x1 fun v7 => rdI mX z4 114 (x2 - 1) fun v8 => rdI mX z4 98 ((5 * ((120 * v7) + v8)) + x3) fun v9 => some (v9, z4)
 else go 1 x1 x2 x3 z4)))))
def qm_X13_factor_1 (K : Nat) (go : Nat → Int32 → Int32 → Int32 → ow_MS → Option (Int32 × ow_MS)) (x1 : Int32) (x2 : Int32) (x3 : Int32) (z : ow_MS) : Option (Int32 × ow_MS) :=
 some ((-1), z)
def qb_X13_factor (K : Nat) (go : Nat → Int32 → Int32 → Int32 → ow_MS → Option (Int32 × ow_MS)) (L : Nat) (x1 : Int32) (x2 : Int32) (x3 : Int32) (z : ow_MS) : Option (Int32 × ow_MS) := match L with
  | 0 => qm_X13_factor_0 K go x1 x2 x3 z
  | 1 => qm_X13_factor_1 K go x1 x2 x3 z
  | _ => none
def q_X13_factor (K : Nat) : Nat → Nat → Int32 → Int32 → Int32 → ow_MS → Option (Int32 × ow_MS)
  | 0 => fun _ _ _ _ _ => none
  | k + 1 => qb_X13_factor K (q_X13_factor K k)
def qe_X13_factor (K : Nat) (x1 : Int32) (x2 : Int32) (x3 : Int32) (z : ow_MS) : Option (Int32 × ow_MS) := q_X13_factor K K 0 x1 x2 x3 z
abbrev wm_X13_factor : List Cond := .code yX13_factor cX13_factor 4 (some .int) :: wM
theorem cd_X13_factor : yX13_factor.cls = RX13 ∧ yX13_factor.cls ≠ "java/lang/invoke/MethodHandle" ∧ yX13_factor.cls ≠ "java/lang/invoke/VarHandle" ∧ (parseMethodDescriptor yX13_factor.desc).map (fun d => d.parameters.length) = some 3 := by decide +kernel
set_option maxHeartbeats 4000000 in
set_option maxRecDepth 100000 in
theorem km_X13_factor (l : Launch) (D : va_G) (q : ow_Q5) (u : Nat → Nat) (hU : tw_inj mX u) (K : Nat) (x1 : Int32) (x2 : Int32) (x3 : Int32)  (z z1 : ow_MS) (r : Int32) (hq : qe_X13_factor K x1 x2 x3 z = some (r, z1)) : Met l yX13_factor wm_X13_factor ({ frames := 3, cells := 0, slots := 0, locals := 81 } : Room) (va_Pc [.ref (u 0), .int x1, .int x2, .int x3] (mw_pre D q u z)) (va_Qi (fun x (_ : Unit) => x = r) (fun _ t => va_P D vwCl (tw mX q u z1) t.heap) (tw_A mX u)) 0 0 (tw_A mX u) := by
  refine Met.ofW (cc := cX13_factor) (maxL := 4) (ret := (some .int)) (by decide) rfl ?_
  intro p e s m args below meth c s₁ B hml hv
  obtain ⟨rfl, hP, hK, hN⟩ := hv
  have hx := B.exec
  have hb := B.bytes
  have hr := B.returns
  have hts := atoms_spec (ws := wm_X13_factor) B.pre
  have hT : ∀ w ∈ wM, w.before ([.ref (u 0), .int x1, .int x2, .int x3] : List Value).toArray s = true := fun w h => hts w (List.mem_cons_of_mem _ h)
  have hown : s.vm.findClass RX13 = some m.cls := findClass_of_methodNamed B.named
  have hlocks := B.notSynchronized
  have hM : tw_M D vwCl mX q s.heap u z s.heap [] := ⟨hP, va_S.rf⟩
  have hl := lv_entry ([.ref (u 0), .int x1, .int x2, .int x3]) (n := 4) (Nat.le_of_ble_eq_true rfl)
  rw [lg_entry_eq]
  generalize (lg_sl ([.ref (u 0), .int x1, .int x2, .int x3]) ++ List.replicate (4 - (lg_sl ([.ref (u 0), .int x1, .int x2, .int x3])).length) Slot.unset).toArray = ls at hl ⊢
  have hl : lv_has ls 4 [(0, .ref (u 0)), (1, .int x1), (2, .int x2), (3, .int x3)] := hl
  refine ow_named (fun QQ hQQ => ?_)
  generalize ([.ref (u 0), .int x1, .int x2, .int x3] : List Value).toArray = args at hts hT hQQ ⊢
  have key : ∀ k : Nat, (∀ (x1 : Int32) (x2 : Int32) (x3 : Int32) (z : ow_MS) (H : Heap) (locs : List Loc) (ls : Array Slot), tw_M D vwCl mX q s.heap u z H locs → lv_has ls 4 [(0, .ref (u 0)), (1, .int x1), (2, .int x2), (3, .int x3)] → q_X13_factor K k 0 x1 x2 x3 z = some (r, z1) → W p l e ({ frames := 3, cells := 0, slots := 0, locals := 81 } : Room) s m args below meth c H locs 0 0 QQ (F0 m 0 ls [])) ∧ (∀ (x1 : Int32) (x2 : Int32) (x3 : Int32) (z : ow_MS) (H : Heap) (locs : List Loc) (ls : Array Slot), tw_M D vwCl mX q s.heap u z H locs → lv_has ls 4 [(0, .ref (u 0)), (1, .int x1), (2, .int x2), (3, .int x3)] → q_X13_factor K k 1 x1 x2 x3 z = some (r, z1) → W p l e ({ frames := 3, cells := 0, slots := 0, locals := 81 } : Room) s m args below meth c H locs 0 0 QQ (F0 m 51 ls [])) := by
    intro k
    induction k with
    | zero => exact ⟨fun _ _ _ _ _ _ _  _ _ hq => tw_no hq, fun _ _ _ _ _ _ _  _ _ hq => tw_no hq⟩
    | succ k ih =>
      obtain ⟨ih_0, ih_1⟩ := ih
      refine ⟨?_, ?_⟩
      · intro x1 x2 x3 z H locs ls  hM hl hq
        have hq : qm_X13_factor_0 K (q_X13_factor K k) x1 x2 x3 z = some (r, z1) := hq
        unfold qm_X13_factor_0 at hq
        refine lv_aload_n hx hb dmX13_factor_0 rfl (lv_at hl 0 rfl) ?_
        refine lv_iconst (v := 0) hx hb dmX13_factor_1 (by decide) ?_
        refine mp13_1 hx hb hT hown hK hM hU hq dmX13_factor_2 (fun z1 H locs hM hq => ?_)
        refine lv_aload_n hx hb dmX13_factor_5 rfl (lv_at hl 0 rfl) ?_
        refine lv_iload_n hx hb dmX13_factor_6 rfl (lv_at hl 1 rfl) ?_
        obtain ⟨v3, z2, hcq, hq⟩ := tw_cl1 hq
        refine tw_cali hM (va_runV (As := [.int x1]) (rest := []) ⟨hx, hb, hml, hown, hts⟩ (km_X13_hasBraid l D q u hU K x1 z1 z2 v3 hcq) (cwV 1 hts (tw_gV wM_good wq_490 wq_491 wq_492 wq_61 wq_482) rfl rfl rfl cd_X13_hasBraid ⟨(Nat.le_of_ble_eq_true rfl), (Nat.le_of_ble_eq_true rfl)⟩) (mw_preV hK hN hM mo_0 rfl) rfl rfl hl.1 rfl (lv_room (Nat.le_of_ble_eq_true rfl)) dmX13_factor_7 ⟨(Nat.le_of_ble_eq_true rfl), (Nat.le_of_ble_eq_true rfl)⟩) (fun H locs hM => ?_)
        refine lv_if_ne (tgt := 19) hx hb dmX13_factor_10 (by decide) (fun hc => ?_) (fun hc => ?_)
        · have hq := tw_if hq hc
          refine lv_aload_n hx hb dmX13_factor_19 rfl (lv_at hl 0 rfl) ?_
          refine lv_iload_n hx hb dmX13_factor_20 rfl (lv_at hl 1 rfl) ?_
          obtain ⟨z4, hcq, hq⟩ := tw_cl0 hq
          refine tw_calv hM (va_runV (As := [.int x1]) (rest := []) ⟨hx, hb, hml, hown, hts⟩ (km_X13_formOf l D q u hU K x1 z2 z4 hcq) (cwV 1 hts (tw_gV wM_good wq_522 wq_523 wq_524 wq_61 wq_521) rfl rfl rfl cd_X13_formOf ⟨(Nat.le_of_ble_eq_true rfl), (Nat.le_of_ble_eq_true rfl)⟩) (mw_preV hK hN hM mo_0 rfl) rfl rfl hl.1 rfl (lv_room (Nat.le_of_ble_eq_true rfl)) dmX13_factor_21 ⟨(Nat.le_of_ble_eq_true rfl), (Nat.le_of_ble_eq_true rfl)⟩) (fun H locs hM => ?_)
          refine lv_iload_n hx hb dmX13_factor_24 rfl (lv_at hl 2 rfl) ?_
          refine lv_iconst (v := 1) hx hb dmX13_factor_25 (by decide) ?_
          refine lv_icmp_lt (tgt := 51) hx hb dmX13_factor_26 (by decide) (fun hc => ?_) (fun hc => ?_)
          · have hq := tw_it hq hc
            exact ih_1 x1 x2 x3 z4 H locs ls hM (lv_sub hl [0, 1, 2, 3] rfl) hq
          · have hq := tw_if hq hc
            refine lv_iload_n hx hb dmX13_factor_29 rfl (lv_at hl 2 rfl) ?_
            refine lv_aload_n hx hb dmX13_factor_30 rfl (lv_at hl 0 rfl) ?_
            refine mg13_751 hx hb hT hown hK hM hq dmX13_factor_31 (fun v5 hq => ?_)
            refine lv_icmp_gt (tgt := 51) hx hb dmX13_factor_34 (by decide) (fun hc => ?_) (fun hc => ?_)
            · have hq := tw_it hq hc
              exact ih_1 x1 x2 x3 z4 H locs ls hM (lv_sub hl [0, 1, 2, 3] rfl) hq
            · have hq := tw_if hq hc
              refine lv_iload_n hx hb dmX13_factor_37 rfl (lv_at hl 3 rfl) ?_
              refine lv_if_lt (tgt := 51) hx hb dmX13_factor_38 (by decide) (fun hc => ?_) (fun hc => ?_)
              · have hq := tw_it hq hc
                exact ih_1 x1 x2 x3 z4 H locs ls hM (lv_sub hl [0, 1, 2, 3] rfl) hq
              · have hq := tw_if hq hc
                refine lv_iload_n hx hb dmX13_factor_41 rfl (lv_at hl 3 rfl) ?_
                refine lv_aload_n hx hb dmX13_factor_42 rfl (lv_at hl 0 rfl) ?_
                refine mg13_326 hx hb hT hown hK hM dmX13_factor_43 ?_
                refine lv_iload_n hx hb dmX13_factor_46 rfl (lv_at hl 1 rfl) ?_
                refine tw_iald mX_ok hx hb hK hM mr_96 hq dmX13_factor_47 (fun v6 hq => ?_)
                refine lv_icmp_lt (tgt := 55) hx hb dmX13_factor_48 (by decide) (fun hc => ?_) (fun hc => ?_)
                · have hq := tw_it hq hc
                  refine lv_aload_n hx hb dmX13_factor_55 rfl (lv_at hl 0 rfl) ?_
                  refine mg13_332 hx hb hT hown hK hM dmX13_factor_56 ?_
                  refine lv_iconst (v := 5) hx hb dmX13_factor_59 (by decide) ?_
                  refine lv_bipush (v := 120) hx hb dmX13_factor_60 (by decide) ?_
                  refine lv_aload_n hx hb dmX13_factor_62 rfl (lv_at hl 0 rfl) ?_
                  refine mg13_326 hx hb hT hown hK hM dmX13_factor_63 ?_
                  refine lv_iload_n hx hb dmX13_factor_66 rfl (lv_at hl 1 rfl) ?_
                  refine tw_iald mX_ok hx hb hK hM mr_96 hq dmX13_factor_67 (fun v7 hq => ?_)
                  refine lv_imul hx hb dmX13_factor_68 ?_
                  refine lv_aload_n hx hb dmX13_factor_69 rfl (lv_at hl 0 rfl) ?_
                  refine mg13_368 hx hb hT hown hK hM dmX13_factor_70 ?_
                  refine lv_iload_n hx hb dmX13_factor_73 rfl (lv_at hl 2 rfl) ?_
                  refine lv_iconst (v := 1) hx hb dmX13_factor_74 (by decide) ?_
                  refine lv_isub hx hb dmX13_factor_75 ?_
                  refine tw_iald mX_ok hx hb hK hM mr_114 hq dmX13_factor_76 (fun v8 hq => ?_)
                  refine lv_iadd hx hb dmX13_factor_77 ?_
                  refine lv_imul hx hb dmX13_factor_78 ?_
                  refine lv_iload_n hx hb dmX13_factor_79 rfl (lv_at hl 3 rfl) ?_
                  refine lv_iadd hx hb dmX13_factor_80 ?_
                  refine tw_iald mX_ok hx hb hK hM mr_98 hq dmX13_factor_81 (fun v9 hq => ?_)
                  exact mw_iret hx hb hr hlocks hM hq hQQ dmX13_factor_82
                · have hq := tw_if hq hc
                  exact ih_1 x1 x2 x3 z4 H locs ls hM (lv_sub hl [0, 1, 2, 3] rfl) hq
        · have hq := tw_it hq hc
          refine lv_aload_n hx hb dmX13_factor_13 rfl (lv_at hl 0 rfl) ?_
          refine lv_iconst (v := 1) hx hb dmX13_factor_14 (by decide) ?_
          obtain ⟨v11, z10, hcq, hq⟩ := tw_cl1 hq
          refine tw_cali hM (va_runV (As := [.int 1]) (rest := []) ⟨hx, hb, hml, hown, hts⟩ (km_X13_fails l D q u hU K 1 z2 z10 v11 hcq) (cwV 1 hts (tw_gV wM_good wq_103 wq_104 wq_105 wq_61 wq_50) rfl rfl rfl cd_X13_fails ⟨(Nat.le_of_ble_eq_true rfl), (Nat.le_of_ble_eq_true rfl)⟩) (mw_preV hK hN hM mo_0 rfl) rfl rfl hl.1 rfl (lv_room (Nat.le_of_ble_eq_true rfl)) dmX13_factor_15 ⟨(Nat.le_of_ble_eq_true rfl), (Nat.le_of_ble_eq_true rfl)⟩) (fun H locs hM => ?_)
          exact mw_iret hx hb hr hlocks hM hq hQQ dmX13_factor_18
      · intro x1 x2 x3 z H locs ls  hM hl hq
        have hq : qm_X13_factor_1 K (q_X13_factor K k) x1 x2 x3 z = some (r, z1) := hq
        unfold qm_X13_factor_1 at hq
        refine lv_iconst (v := (-1)) hx hb dmX13_factor_51 (by decide) ?_
        refine lv_goto (tgt := 82) hx hb dmX13_factor_52 (by decide) ?_
        exact mw_iret hx hb hr hlocks hM hq hQQ dmX13_factor_82
  exact (key K).1 x1 x2 x3 z s.heap [] ls  hM (lv_sub hl [0, 1, 2, 3] rfl) hq
theorem dmX13_formTo_0 : decode cX13_formTo 0 = .ok (.aload_n 1, 1) := dw_at cX13_formTo_k0 (p := 0) rfl (by decide +kernel)
theorem dmX13_formTo_1 : decode cX13_formTo 1 = .ok (.iload_n 2, 1) := dw_at cX13_formTo_k0 (p := 1) rfl (by decide +kernel)
theorem dmX13_formTo_2 : decode cX13_formTo 2 = .ok (.aload_n 0, 1) := dw_at cX13_formTo_k0 (p := 2) rfl (by decide +kernel)
theorem dmX13_formTo_3 : decode cX13_formTo 3 = .ok (.getfield 748, 3) := dw_at cX13_formTo_k0 (p := 3) rfl (by decide +kernel)
theorem dmX13_formTo_6 : decode cX13_formTo 6 = .ok (.iastore, 1) := dw_at cX13_formTo_k0 (p := 6) rfl (by decide +kernel)
theorem dmX13_formTo_7 : decode cX13_formTo 7 = .ok (.aload_n 1, 1) := dw_at cX13_formTo_k0 (p := 7) rfl (by decide +kernel)
theorem dmX13_formTo_8 : decode cX13_formTo 8 = .ok (.iload_n 2, 1) := dw_at cX13_formTo_k0 (p := 8) rfl (by decide +kernel)
theorem dmX13_formTo_9 : decode cX13_formTo 9 = .ok (.iconst 1, 1) := dw_at cX13_formTo_k0 (p := 9) rfl (by decide +kernel)
theorem dmX13_formTo_10 : decode cX13_formTo 10 = .ok (.iadd, 1) := dw_at cX13_formTo_k0 (p := 10) rfl (by decide +kernel)
theorem dmX13_formTo_11 : decode cX13_formTo 11 = .ok (.aload_n 0, 1) := dw_at cX13_formTo_k0 (p := 11) rfl (by decide +kernel)
theorem dmX13_formTo_12 : decode cX13_formTo 12 = .ok (.getfield 751, 3) := dw_at cX13_formTo_k0 (p := 12) rfl (by decide +kernel)
theorem dmX13_formTo_15 : decode cX13_formTo 15 = .ok (.iastore, 1) := dw_at cX13_formTo_k0 (p := 15) rfl (by decide +kernel)
theorem dmX13_formTo_16 : decode cX13_formTo 16 = .ok (.iconst 0, 1) := dw_at cX13_formTo_k0 (p := 16) rfl (by decide +kernel)
theorem dmX13_formTo_17 : decode cX13_formTo 17 = .ok (.istore_n 3, 1) := dw_at cX13_formTo_k0 (p := 17) rfl (by decide +kernel)
theorem dmX13_formTo_18 : decode cX13_formTo 18 = .ok (.iload_n 3, 1) := dw_at cX13_formTo_k0 (p := 18) rfl (by decide +kernel)
theorem dmX13_formTo_19 : decode cX13_formTo 19 = .ok (.aload_n 0, 1) := dw_at cX13_formTo_k0 (p := 19) rfl (by decide +kernel)
theorem dmX13_formTo_20 : decode cX13_formTo 20 = .ok (.getfield 751, 3) := dw_at cX13_formTo_k0 (p := 20) rfl (by decide +kernel)
theorem dmX13_formTo_23 : decode cX13_formTo 23 = .ok (.if_icmp .ge 22, 3) := dw_at cX13_formTo_k0 (p := 23) rfl (by decide +kernel)
theorem dmX13_formTo_26 : decode cX13_formTo 26 = .ok (.aload_n 1, 1) := dw_at cX13_formTo_k1 (p := 0) rfl (by decide +kernel)
theorem dmX13_formTo_27 : decode cX13_formTo 27 = .ok (.iload_n 2, 1) := dw_at cX13_formTo_k1 (p := 1) rfl (by decide +kernel)
theorem dmX13_formTo_28 : decode cX13_formTo 28 = .ok (.iconst 2, 1) := dw_at cX13_formTo_k1 (p := 2) rfl (by decide +kernel)
theorem dmX13_formTo_29 : decode cX13_formTo 29 = .ok (.iadd, 1) := dw_at cX13_formTo_k1 (p := 3) rfl (by decide +kernel)
theorem dmX13_formTo_30 : decode cX13_formTo 30 = .ok (.iload_n 3, 1) := dw_at cX13_formTo_k1 (p := 4) rfl (by decide +kernel)
theorem dmX13_formTo_31 : decode cX13_formTo 31 = .ok (.iadd, 1) := dw_at cX13_formTo_k1 (p := 5) rfl (by decide +kernel)
theorem dmX13_formTo_32 : decode cX13_formTo 32 = .ok (.aload_n 0, 1) := dw_at cX13_formTo_k1 (p := 6) rfl (by decide +kernel)
theorem dmX13_formTo_33 : decode cX13_formTo 33 = .ok (.getfield 368, 3) := dw_at cX13_formTo_k1 (p := 7) rfl (by decide +kernel)
theorem dmX13_formTo_36 : decode cX13_formTo 36 = .ok (.iload_n 3, 1) := dw_at cX13_formTo_k1 (p := 10) rfl (by decide +kernel)
theorem dmX13_formTo_37 : decode cX13_formTo 37 = .ok (.iaload, 1) := dw_at cX13_formTo_k1 (p := 11) rfl (by decide +kernel)
theorem dmX13_formTo_38 : decode cX13_formTo 38 = .ok (.iastore, 1) := dw_at cX13_formTo_k1 (p := 12) rfl (by decide +kernel)
theorem dmX13_formTo_39 : decode cX13_formTo 39 = .ok (.iinc 3 1, 3) := dw_at cX13_formTo_k1 (p := 13) rfl (by decide +kernel)
theorem dmX13_formTo_42 : decode cX13_formTo 42 = .ok (.goto (-24), 3) := dw_at cX13_formTo_k1 (p := 16) rfl (by decide +kernel)
theorem dmX13_formTo_45 : decode cX13_formTo 45 = .ok (.return_, 1) := dw_at cX13_formTo_k1 (p := 19) rfl (by decide +kernel)
def qm_X13_formTo_0 (K : Nat) (go : Nat → Int32 → Int32 → Nat → ow_MS → Option ow_MS) (x2 : Int32) (x3 : Int32) (r1 : Nat) (z : ow_MS) : Option ow_MS :=
 rdF z 112 fun v1 => wrI mX z r1 x2 v1 fun z2 => rdF z2 113 fun v3 => wrI mX z2 r1 (x2 + 1) v3 fun z4 => go 1 x2 0 r1 z4
def qm_X13_formTo_1 (K : Nat) (go : Nat → Int32 → Int32 → Nat → ow_MS → Option ow_MS) (x2 : Int32) (x3 : Int32) (r1 : Nat) (z : ow_MS) : Option ow_MS :=
 rdF z 113 fun v5 => (if v5 ≤ x3 then some z
 else rdI mX z 114 x3 fun v6 => wrI mX z r1 ((x2 + 2) + x3) v6 fun z7 => go 1 x2 (x3 + 1) r1 z7)
def qb_X13_formTo (K : Nat) (go : Nat → Int32 → Int32 → Nat → ow_MS → Option ow_MS) (L : Nat) (x2 : Int32) (x3 : Int32) (r1 : Nat) (z : ow_MS) : Option ow_MS := match L with
  | 0 => qm_X13_formTo_0 K go x2 x3 r1 z
  | 1 => qm_X13_formTo_1 K go x2 x3 r1 z
  | _ => none
def q_X13_formTo (K : Nat) : Nat → Nat → Int32 → Int32 → Nat → ow_MS → Option ow_MS
  | 0 => fun _ _ _ _ _ => none
  | k + 1 => qb_X13_formTo K (q_X13_formTo K k)
def qe_X13_formTo (K : Nat) (r1 : Nat) (x2 : Int32) (z : ow_MS) : Option ow_MS := q_X13_formTo K K 0 x2 0 r1 z
abbrev wm_X13_formTo : List Cond := .code yX13_formTo cX13_formTo 4 none :: wM
theorem cd_X13_formTo : yX13_formTo.cls = RX13 ∧ yX13_formTo.cls ≠ "java/lang/invoke/MethodHandle" ∧ yX13_formTo.cls ≠ "java/lang/invoke/VarHandle" ∧ (parseMethodDescriptor yX13_formTo.desc).map (fun d => d.parameters.length) = some 2 := by decide +kernel
set_option maxHeartbeats 4000000 in
set_option maxRecDepth 100000 in
theorem km_X13_formTo (l : Launch) (D : va_G) (q : ow_Q5) (u : Nat → Nat) (hU : tw_inj mX u) (K : Nat) (r1 : Nat) (x2 : Int32) (hr1 : tw_in mX r1 0) (z z1 : ow_MS) (hq : qe_X13_formTo K r1 x2 z = some z1) : Met l yX13_formTo wm_X13_formTo ({ frames := 0, cells := 0, slots := 0, locals := 0 } : Room) (va_Pc [.ref (u 0), .ref (u r1), .int x2] (mw_pre D q u z)) (va_Qv (fun (_ : Unit) => True) (fun _ t => va_P D vwCl (tw mX q u z1) t.heap) (tw_A mX u)) 0 0 (tw_A mX u) := by
  refine Met.ofW (cc := cX13_formTo) (maxL := 4) (ret := none) (by decide) rfl ?_
  intro p e s m args below meth c s₁ B hml hv
  obtain ⟨rfl, hP, hK, hN⟩ := hv
  have hx := B.exec
  have hb := B.bytes
  have hr := B.returns
  have hts := atoms_spec (ws := wm_X13_formTo) B.pre
  have hT : ∀ w ∈ wM, w.before ([.ref (u 0), .ref (u r1), .int x2] : List Value).toArray s = true := fun w h => hts w (List.mem_cons_of_mem _ h)
  have hown : s.vm.findClass RX13 = some m.cls := findClass_of_methodNamed B.named
  have hlocks := B.notSynchronized
  have hM : tw_M D vwCl mX q s.heap u z s.heap [] := ⟨hP, va_S.rf⟩
  have hl := lv_entry ([.ref (u 0), .ref (u r1), .int x2]) (n := 4) (Nat.le_of_ble_eq_true rfl)
  rw [lg_entry_eq]
  generalize (lg_sl ([.ref (u 0), .ref (u r1), .int x2]) ++ List.replicate (4 - (lg_sl ([.ref (u 0), .ref (u r1), .int x2])).length) Slot.unset).toArray = ls at hl ⊢
  have hl : lv_has ls 4 [(0, .ref (u 0)), (1, .ref (u r1)), (2, .int x2)] := hl
  refine ow_named (fun QQ hQQ => ?_)
  generalize ([.ref (u 0), .ref (u r1), .int x2] : List Value).toArray = args at hts hT hQQ ⊢
  have key : ∀ k : Nat, (∀ (x2 : Int32) (x3 : Int32) (r1 : Nat) (z : ow_MS) (H : Heap) (locs : List Loc) (ls : Array Slot), tw_in mX r1 0 → tw_M D vwCl mX q s.heap u z H locs → lv_has ls 4 [(0, .ref (u 0)), (1, .ref (u r1)), (2, .int x2)] → q_X13_formTo K k 0 x2 x3 r1 z = some z1 → W p l e ({ frames := 0, cells := 0, slots := 0, locals := 0 } : Room) s m args below meth c H locs 0 0 QQ (F0 m 0 ls [])) ∧ (∀ (x2 : Int32) (x3 : Int32) (r1 : Nat) (z : ow_MS) (H : Heap) (locs : List Loc) (ls : Array Slot), tw_in mX r1 0 → tw_M D vwCl mX q s.heap u z H locs → lv_has ls 4 [(0, .ref (u 0)), (1, .ref (u r1)), (2, .int x2), (3, .int x3)] → q_X13_formTo K k 1 x2 x3 r1 z = some z1 → W p l e ({ frames := 0, cells := 0, slots := 0, locals := 0 } : Room) s m args below meth c H locs 0 0 QQ (F0 m 18 ls [])) := by
    intro k
    induction k with
    | zero => exact ⟨fun _ _ _ _ _ _ _ _ _ _ hq => tw_no hq, fun _ _ _ _ _ _ _ _ _ _ hq => tw_no hq⟩
    | succ k ih =>
      obtain ⟨ih_0, ih_1⟩ := ih
      refine ⟨?_, ?_⟩
      · intro x2 x3 r1 z H locs ls hr1 hM hl hq
        have hq : qm_X13_formTo_0 K (q_X13_formTo K k) x2 x3 r1 z = some z1 := hq
        unfold qm_X13_formTo_0 at hq
        refine lv_aload_n hx hb dmX13_formTo_0 rfl (lv_at hl 1 rfl) ?_
        refine lv_iload_n hx hb dmX13_formTo_1 rfl (lv_at hl 2 rfl) ?_
        refine lv_aload_n hx hb dmX13_formTo_2 rfl (lv_at hl 0 rfl) ?_
        refine mg13_748 hx hb hT hown hK hM hq dmX13_formTo_3 (fun v1 hq => ?_)
        refine tw_iast mX_ok hU hx hb hK hM hr1 hq dmX13_formTo_6 (fun z2 H locs hM hq => ?_)
        refine lv_aload_n hx hb dmX13_formTo_7 rfl (lv_at hl 1 rfl) ?_
        refine lv_iload_n hx hb dmX13_formTo_8 rfl (lv_at hl 2 rfl) ?_
        refine lv_iconst (v := 1) hx hb dmX13_formTo_9 (by decide) ?_
        refine lv_iadd hx hb dmX13_formTo_10 ?_
        refine lv_aload_n hx hb dmX13_formTo_11 rfl (lv_at hl 0 rfl) ?_
        refine mg13_751 hx hb hT hown hK hM hq dmX13_formTo_12 (fun v3 hq => ?_)
        refine tw_iast mX_ok hU hx hb hK hM hr1 hq dmX13_formTo_15 (fun z4 H locs hM hq => ?_)
        refine lv_iconst (v := 0) hx hb dmX13_formTo_16 (by decide) ?_
        refine lv_istore_n (lv' := [(3, .int 0), (0, .ref (u 0)), (1, .ref (u r1)), (2, .int x2)]) hx hb dmX13_formTo_17 rfl hl (by decide) rfl (fun ls hl => ?_)
        exact ih_1 x2 0 r1 z4 H locs ls hr1 hM (lv_sub hl [1, 2, 3, 0] rfl) hq
      · intro x2 x3 r1 z H locs ls hr1 hM hl hq
        have hq : qm_X13_formTo_1 K (q_X13_formTo K k) x2 x3 r1 z = some z1 := hq
        unfold qm_X13_formTo_1 at hq
        refine lv_iload_n hx hb dmX13_formTo_18 rfl (lv_at hl 3 rfl) ?_
        refine lv_aload_n hx hb dmX13_formTo_19 rfl (lv_at hl 0 rfl) ?_
        refine mg13_751 hx hb hT hown hK hM hq dmX13_formTo_20 (fun v5 hq => ?_)
        refine lv_icmp_ge (tgt := 45) hx hb dmX13_formTo_23 (by decide) (fun hc => ?_) (fun hc => ?_)
        · have hq := tw_it hq hc
          exact mw_vret hx hb hr hlocks hM hq hQQ dmX13_formTo_45
        · have hq := tw_if hq hc
          refine lv_aload_n hx hb dmX13_formTo_26 rfl (lv_at hl 1 rfl) ?_
          refine lv_iload_n hx hb dmX13_formTo_27 rfl (lv_at hl 2 rfl) ?_
          refine lv_iconst (v := 2) hx hb dmX13_formTo_28 (by decide) ?_
          refine lv_iadd hx hb dmX13_formTo_29 ?_
          refine lv_iload_n hx hb dmX13_formTo_30 rfl (lv_at hl 3 rfl) ?_
          refine lv_iadd hx hb dmX13_formTo_31 ?_
          refine lv_aload_n hx hb dmX13_formTo_32 rfl (lv_at hl 0 rfl) ?_
          refine mg13_368 hx hb hT hown hK hM dmX13_formTo_33 ?_
          refine lv_iload_n hx hb dmX13_formTo_36 rfl (lv_at hl 3 rfl) ?_
          refine tw_iald mX_ok hx hb hK hM mr_114 hq dmX13_formTo_37 (fun v6 hq => ?_)
          refine tw_iast mX_ok hU hx hb hK hM hr1 hq dmX13_formTo_38 (fun z7 H locs hM hq => ?_)
          refine lv_iinc (v := (x3 + 1)) (lv' := [(3, .int (x3 + 1)), (0, .ref (u 0)), (1, .ref (u r1)), (2, .int x2)]) hx hb dmX13_formTo_39 hl (k := 3) rfl rfl (by decide) rfl (fun ls hl => ?_)
          refine lv_goto (tgt := 18) hx hb dmX13_formTo_42 (by decide) ?_
          exact ih_1 x2 (x3 + 1) r1 z7 H locs ls hr1 hM (lv_sub hl [1, 2, 3, 0] rfl) hq
  exact (key K).1 x2 0 r1 z s.heap [] ls hr1 hM (lv_sub hl [0, 1, 2] rfl) hq
theorem dmX13_isForm_0 : decode cX13_isForm 0 = .ok (.aload_n 0, 1) := dw_at cX13_isForm_k0 (p := 0) rfl (by decide +kernel)
theorem dmX13_isForm_1 : decode cX13_isForm 1 = .ok (.iload_n 1, 1) := dw_at cX13_isForm_k0 (p := 1) rfl (by decide +kernel)
theorem dmX13_isForm_2 : decode cX13_isForm 2 = .ok (.iaload, 1) := dw_at cX13_isForm_k0 (p := 2) rfl (by decide +kernel)
theorem dmX13_isForm_3 : decode cX13_isForm 3 = .ok (.aload_n 2, 1) := dw_at cX13_isForm_k0 (p := 3) rfl (by decide +kernel)
theorem dmX13_isForm_4 : decode cX13_isForm 4 = .ok (.iload_n 3, 1) := dw_at cX13_isForm_k0 (p := 4) rfl (by decide +kernel)
theorem dmX13_isForm_5 : decode cX13_isForm 5 = .ok (.iaload, 1) := dw_at cX13_isForm_k0 (p := 5) rfl (by decide +kernel)
theorem dmX13_isForm_6 : decode cX13_isForm 6 = .ok (.if_icmp .ne 20, 3) := dw_at cX13_isForm_k0 (p := 6) rfl (by decide +kernel)
theorem dmX13_isForm_9 : decode cX13_isForm 9 = .ok (.aload_n 0, 1) := dw_at cX13_isForm_k0 (p := 9) rfl (by decide +kernel)
theorem dmX13_isForm_10 : decode cX13_isForm 10 = .ok (.iload_n 1, 1) := dw_at cX13_isForm_k0 (p := 10) rfl (by decide +kernel)
theorem dmX13_isForm_11 : decode cX13_isForm 11 = .ok (.iconst 1, 1) := dw_at cX13_isForm_k0 (p := 11) rfl (by decide +kernel)
theorem dmX13_isForm_12 : decode cX13_isForm 12 = .ok (.iadd, 1) := dw_at cX13_isForm_k0 (p := 12) rfl (by decide +kernel)
theorem dmX13_isForm_13 : decode cX13_isForm 13 = .ok (.iaload, 1) := dw_at cX13_isForm_k0 (p := 13) rfl (by decide +kernel)
theorem dmX13_isForm_14 : decode cX13_isForm 14 = .ok (.aload_n 2, 1) := dw_at cX13_isForm_k0 (p := 14) rfl (by decide +kernel)
theorem dmX13_isForm_15 : decode cX13_isForm 15 = .ok (.iload_n 3, 1) := dw_at cX13_isForm_k0 (p := 15) rfl (by decide +kernel)
theorem dmX13_isForm_16 : decode cX13_isForm 16 = .ok (.iconst 1, 1) := dw_at cX13_isForm_k0 (p := 16) rfl (by decide +kernel)
theorem dmX13_isForm_17 : decode cX13_isForm 17 = .ok (.iadd, 1) := dw_at cX13_isForm_k0 (p := 17) rfl (by decide +kernel)
theorem dmX13_isForm_18 : decode cX13_isForm 18 = .ok (.iaload, 1) := dw_at cX13_isForm_k0 (p := 18) rfl (by decide +kernel)
theorem dmX13_isForm_19 : decode cX13_isForm 19 = .ok (.if_icmp .ne 7, 3) := dw_at cX13_isForm_k0 (p := 19) rfl (by decide +kernel)
theorem dmX13_isForm_22 : decode cX13_isForm 22 = .ok (.iconst 1, 1) := dw_at cX13_isForm_k0 (p := 22) rfl (by decide +kernel)
theorem dmX13_isForm_23 : decode cX13_isForm 23 = .ok (.goto 4, 3) := dw_at cX13_isForm_k0 (p := 23) rfl (by decide +kernel)
theorem dmX13_isForm_26 : decode cX13_isForm 26 = .ok (.iconst 0, 1) := dw_at cX13_isForm_k1 (p := 0) rfl (by decide +kernel)
theorem dmX13_isForm_27 : decode cX13_isForm 27 = .ok (.istore 4, 2) := dw_at cX13_isForm_k1 (p := 1) rfl (by decide +kernel)
theorem dmX13_isForm_29 : decode cX13_isForm 29 = .ok (.iconst 0, 1) := dw_at cX13_isForm_k1 (p := 3) rfl (by decide +kernel)
theorem dmX13_isForm_30 : decode cX13_isForm 30 = .ok (.istore 5, 2) := dw_at cX13_isForm_k1 (p := 4) rfl (by decide +kernel)
theorem dmX13_isForm_32 : decode cX13_isForm 32 = .ok (.iload 4, 2) := dw_at cX13_isForm_k1 (p := 6) rfl (by decide +kernel)
theorem dmX13_isForm_34 : decode cX13_isForm 34 = .ok (.ifCond .eq 45, 3) := dw_at cX13_isForm_k1 (p := 8) rfl (by decide +kernel)
theorem dmX13_isForm_37 : decode cX13_isForm 37 = .ok (.iload 5, 2) := dw_at cX13_isForm_k1 (p := 11) rfl (by decide +kernel)
theorem dmX13_isForm_39 : decode cX13_isForm 39 = .ok (.aload_n 0, 1) := dw_at cX13_isForm_k1 (p := 13) rfl (by decide +kernel)
theorem dmX13_isForm_40 : decode cX13_isForm 40 = .ok (.iload_n 1, 1) := dw_at cX13_isForm_k1 (p := 14) rfl (by decide +kernel)
theorem dmX13_isForm_41 : decode cX13_isForm 41 = .ok (.iconst 1, 1) := dw_at cX13_isForm_k1 (p := 15) rfl (by decide +kernel)
theorem dmX13_isForm_42 : decode cX13_isForm 42 = .ok (.iadd, 1) := dw_at cX13_isForm_k1 (p := 16) rfl (by decide +kernel)
theorem dmX13_isForm_43 : decode cX13_isForm 43 = .ok (.iaload, 1) := dw_at cX13_isForm_k1 (p := 17) rfl (by decide +kernel)
theorem dmX13_isForm_44 : decode cX13_isForm 44 = .ok (.if_icmp .ge 35, 3) := dw_at cX13_isForm_k1 (p := 18) rfl (by decide +kernel)
theorem dmX13_isForm_47 : decode cX13_isForm 47 = .ok (.aload_n 0, 1) := dw_at cX13_isForm_k1 (p := 21) rfl (by decide +kernel)
theorem dmX13_isForm_48 : decode cX13_isForm 48 = .ok (.iload_n 1, 1) := dw_at cX13_isForm_k1 (p := 22) rfl (by decide +kernel)
theorem dmX13_isForm_49 : decode cX13_isForm 49 = .ok (.iconst 2, 1) := dw_at cX13_isForm_k1 (p := 23) rfl (by decide +kernel)
theorem dmX13_isForm_50 : decode cX13_isForm 50 = .ok (.iadd, 1) := dw_at cX13_isForm_k2 (p := 0) rfl (by decide +kernel)
theorem dmX13_isForm_51 : decode cX13_isForm 51 = .ok (.iload 5, 2) := dw_at cX13_isForm_k2 (p := 1) rfl (by decide +kernel)
theorem dmX13_isForm_53 : decode cX13_isForm 53 = .ok (.iadd, 1) := dw_at cX13_isForm_k2 (p := 3) rfl (by decide +kernel)
theorem dmX13_isForm_54 : decode cX13_isForm 54 = .ok (.iaload, 1) := dw_at cX13_isForm_k2 (p := 4) rfl (by decide +kernel)
theorem dmX13_isForm_55 : decode cX13_isForm 55 = .ok (.aload_n 2, 1) := dw_at cX13_isForm_k2 (p := 5) rfl (by decide +kernel)
theorem dmX13_isForm_56 : decode cX13_isForm 56 = .ok (.iload_n 3, 1) := dw_at cX13_isForm_k2 (p := 6) rfl (by decide +kernel)
theorem dmX13_isForm_57 : decode cX13_isForm 57 = .ok (.iconst 2, 1) := dw_at cX13_isForm_k2 (p := 7) rfl (by decide +kernel)
theorem dmX13_isForm_58 : decode cX13_isForm 58 = .ok (.iadd, 1) := dw_at cX13_isForm_k2 (p := 8) rfl (by decide +kernel)
theorem dmX13_isForm_59 : decode cX13_isForm 59 = .ok (.iload 5, 2) := dw_at cX13_isForm_k2 (p := 9) rfl (by decide +kernel)
theorem dmX13_isForm_61 : decode cX13_isForm 61 = .ok (.iadd, 1) := dw_at cX13_isForm_k2 (p := 11) rfl (by decide +kernel)
theorem dmX13_isForm_62 : decode cX13_isForm 62 = .ok (.iaload, 1) := dw_at cX13_isForm_k2 (p := 12) rfl (by decide +kernel)
theorem dmX13_isForm_63 : decode cX13_isForm 63 = .ok (.if_icmp .ne 7, 3) := dw_at cX13_isForm_k2 (p := 13) rfl (by decide +kernel)
theorem dmX13_isForm_66 : decode cX13_isForm 66 = .ok (.iconst 1, 1) := dw_at cX13_isForm_k2 (p := 16) rfl (by decide +kernel)
theorem dmX13_isForm_67 : decode cX13_isForm 67 = .ok (.goto 4, 3) := dw_at cX13_isForm_k2 (p := 17) rfl (by decide +kernel)
theorem dmX13_isForm_70 : decode cX13_isForm 70 = .ok (.iconst 0, 1) := dw_at cX13_isForm_k2 (p := 20) rfl (by decide +kernel)
theorem dmX13_isForm_71 : decode cX13_isForm 71 = .ok (.istore 4, 2) := dw_at cX13_isForm_k2 (p := 21) rfl (by decide +kernel)
theorem dmX13_isForm_73 : decode cX13_isForm 73 = .ok (.iinc 5 1, 3) := dw_at cX13_isForm_k2 (p := 23) rfl (by decide +kernel)
theorem dmX13_isForm_76 : decode cX13_isForm 76 = .ok (.goto (-44), 3) := dw_at cX13_isForm_k2 (p := 26) rfl (by decide +kernel)
theorem dmX13_isForm_79 : decode cX13_isForm 79 = .ok (.iload 4, 2) := dw_at cX13_isForm_k2 (p := 29) rfl (by decide +kernel)
theorem dmX13_isForm_81 : decode cX13_isForm 81 = .ok (.ireturn, 1) := dw_at cX13_isForm_k2 (p := 31) rfl (by decide +kernel)
def qm_X13_isForm_0 (K : Nat) (go : Nat → Int32 → Int32 → Int32 → Int32 → Nat → Nat → Int32 → ow_MS → Option (Int32 × ow_MS)) (x1 : Int32) (x3 : Int32) (x4 : Int32) (x5 : Int32) (r0 : Nat) (r2 : Nat) (t0 : Int32) (z : ow_MS) : Option (Int32 × ow_MS) :=
 rdI mX z r0 x1 fun v1 => rdI mX z r2 x3 fun v2 => (if v1 = v2 then rdI mX z r0 (x1 + 1) fun v3 => rdI mX z r2 (x3 + 1) fun v4 => (if v3 = v4 then go 2 x1 x3 0 0 r0 r2 1 z
 else go 1 x1 x3 0 0 r0 r2 0 z)
 else go 1 x1 x3 0 0 r0 r2 0 z)
def qm_X13_isForm_1 (K : Nat) (go : Nat → Int32 → Int32 → Int32 → Int32 → Nat → Nat → Int32 → ow_MS → Option (Int32 × ow_MS)) (x1 : Int32) (x3 : Int32) (x4 : Int32) (x5 : Int32) (r0 : Nat) (r2 : Nat) (t0 : Int32) (z : ow_MS) : Option (Int32 × ow_MS) :=
 go 2 x1 x3 0 0 r0 r2 0 z
def qm_X13_isForm_2 (K : Nat) (go : Nat → Int32 → Int32 → Int32 → Int32 → Nat → Nat → Int32 → ow_MS → Option (Int32 × ow_MS)) (x1 : Int32) (x3 : Int32) (x4 : Int32) (x5 : Int32) (r0 : Nat) (r2 : Nat) (t0 : Int32) (z : ow_MS) : Option (Int32 × ow_MS) :=
 go 3 x1 x3 t0 0 r0 r2 0 z
def qm_X13_isForm_3 (K : Nat) (go : Nat → Int32 → Int32 → Int32 → Int32 → Nat → Nat → Int32 → ow_MS → Option (Int32 × ow_MS)) (x1 : Int32) (x3 : Int32) (x4 : Int32) (x5 : Int32) (r0 : Nat) (r2 : Nat) (t0 : Int32) (z : ow_MS) : Option (Int32 × ow_MS) :=
 (if x4 = 0 then okZ x4 (some (x4, z))
 else rdI mX z r0 (x1 + 1) fun v5 => (if v5 ≤ x5 then okZ x4 (some (x4, z))
 else rdI mX z r0 ((x1 + 2) + x5) fun v6 => rdI mX z r2 ((x3 + 2) + x5) fun v7 => (if v6 = v7 then go 4 x1 x3 x4 x5 r0 r2 1 z
 else go 4 x1 x3 x4 x5 r0 r2 0 z)))
def qm_X13_isForm_4 (K : Nat) (go : Nat → Int32 → Int32 → Int32 → Int32 → Nat → Nat → Int32 → ow_MS → Option (Int32 × ow_MS)) (x1 : Int32) (x3 : Int32) (x4 : Int32) (x5 : Int32) (r0 : Nat) (r2 : Nat) (t0 : Int32) (z : ow_MS) : Option (Int32 × ow_MS) :=
 go 3 x1 x3 t0 (x5 + 1) r0 r2 0 z
def qb_X13_isForm (K : Nat) (go : Nat → Int32 → Int32 → Int32 → Int32 → Nat → Nat → Int32 → ow_MS → Option (Int32 × ow_MS)) (L : Nat) (x1 : Int32) (x3 : Int32) (x4 : Int32) (x5 : Int32) (r0 : Nat) (r2 : Nat) (t0 : Int32) (z : ow_MS) : Option (Int32 × ow_MS) := match L with
  | 0 => qm_X13_isForm_0 K go x1 x3 x4 x5 r0 r2 t0 z
  | 1 => qm_X13_isForm_1 K go x1 x3 x4 x5 r0 r2 t0 z
  | 2 => qm_X13_isForm_2 K go x1 x3 x4 x5 r0 r2 t0 z
  | 3 => qm_X13_isForm_3 K go x1 x3 x4 x5 r0 r2 t0 z
  | 4 => qm_X13_isForm_4 K go x1 x3 x4 x5 r0 r2 t0 z
  | _ => none
def q_X13_isForm (K : Nat) : Nat → Nat → Int32 → Int32 → Int32 → Int32 → Nat → Nat → Int32 → ow_MS → Option (Int32 × ow_MS)
  | 0 => fun _ _ _ _ _ _ _ _ _ => none
  | k + 1 => qb_X13_isForm K (q_X13_isForm K k)
def qe_X13_isForm (K : Nat) (r0 : Nat) (x1 : Int32) (r2 : Nat) (x3 : Int32) (z : ow_MS) : Option (Int32 × ow_MS) := q_X13_isForm K K 0 x1 x3 0 0 r0 r2 0 z
abbrev wm_X13_isForm : List Cond := .code yX13_isForm cX13_isForm 6 (some .boolean) :: wM
theorem cd_X13_isForm : yX13_isForm.cls ≠ "java/lang/invoke/MethodHandle" ∧ yX13_isForm.cls ≠ "java/lang/invoke/VarHandle" ∧ (parseMethodDescriptor yX13_isForm.desc).map (fun d => d.parameters.length) = some 4 := by decide +kernel
set_option maxHeartbeats 4000000 in
set_option maxRecDepth 100000 in
theorem km_X13_isForm (l : Launch) (D : va_G) (q : ow_Q5) (u : Nat → Nat) (hU : tw_inj mX u) (K : Nat) (r0 : Nat) (x1 : Int32) (r2 : Nat) (x3 : Int32) (hr0 : tw_in mX r0 0) (hr2 : tw_in mX r2 0) (z z1 : ow_MS) (r : Int32) (hq : qe_X13_isForm K r0 x1 r2 x3 z = some (r, z1)) : Met l yX13_isForm wm_X13_isForm ({ frames := 0, cells := 0, slots := 0, locals := 0 } : Room) (va_Pc [.ref (u r0), .int x1, .ref (u r2), .int x3] (mw_pre D q u z)) (va_Qi (fun x (_ : Unit) => x = r) (fun _ t => va_P D vwCl (tw mX q u z1) t.heap) (tw_A mX u)) 0 0 (tw_A mX u) := by
  refine Met.ofW (cc := cX13_isForm) (maxL := 6) (ret := (some .boolean)) (by decide) rfl ?_
  intro p e s m args below meth c s₁ B hml hv
  obtain ⟨rfl, hP, hK, hN⟩ := hv
  have hx := B.exec
  have hb := B.bytes
  have hr := B.returns
  have hts := atoms_spec (ws := wm_X13_isForm) B.pre
  have hT : ∀ w ∈ wM, w.before ([.ref (u r0), .int x1, .ref (u r2), .int x3] : List Value).toArray s = true := fun w h => hts w (List.mem_cons_of_mem _ h)
  have hown : s.vm.findClass RX13 = some m.cls := findClass_of_methodNamed B.named
  have hlocks := B.notSynchronized
  have hM : tw_M D vwCl mX q s.heap u z s.heap [] := ⟨hP, va_S.rf⟩
  have hl := lv_entry ([.ref (u r0), .int x1, .ref (u r2), .int x3]) (n := 6) (Nat.le_of_ble_eq_true rfl)
  rw [lg_entry_eq]
  generalize (lg_sl ([.ref (u r0), .int x1, .ref (u r2), .int x3]) ++ List.replicate (6 - (lg_sl ([.ref (u r0), .int x1, .ref (u r2), .int x3])).length) Slot.unset).toArray = ls at hl ⊢
  have hl : lv_has ls 6 [(0, .ref (u r0)), (1, .int x1), (2, .ref (u r2)), (3, .int x3)] := hl
  refine ow_named (fun QQ hQQ => ?_)
  generalize ([.ref (u r0), .int x1, .ref (u r2), .int x3] : List Value).toArray = args at hts hT hQQ ⊢
  have key : ∀ k : Nat, (∀ (x1 : Int32) (x3 : Int32) (x4 : Int32) (x5 : Int32) (r0 : Nat) (r2 : Nat) (t0 : Int32) (z : ow_MS) (H : Heap) (locs : List Loc) (ls : Array Slot), tw_in mX r0 0 → tw_in mX r2 0 → tw_M D vwCl mX q s.heap u z H locs → lv_has ls 6 [(0, .ref (u r0)), (1, .int x1), (2, .ref (u r2)), (3, .int x3)] → q_X13_isForm K k 0 x1 x3 x4 x5 r0 r2 t0 z = some (r, z1) → W p l e ({ frames := 0, cells := 0, slots := 0, locals := 0 } : Room) s m args below meth c H locs 0 0 QQ (F0 m 0 ls [])) ∧ (∀ (x1 : Int32) (x3 : Int32) (x4 : Int32) (x5 : Int32) (r0 : Nat) (r2 : Nat) (t0 : Int32) (z : ow_MS) (H : Heap) (locs : List Loc) (ls : Array Slot), tw_in mX r0 0 → tw_in mX r2 0 → tw_M D vwCl mX q s.heap u z H locs → lv_has ls 6 [(0, .ref (u r0)), (1, .int x1), (2, .ref (u r2)), (3, .int x3)] → q_X13_isForm K k 1 x1 x3 x4 x5 r0 r2 t0 z = some (r, z1) → W p l e ({ frames := 0, cells := 0, slots := 0, locals := 0 } : Room) s m args below meth c H locs 0 0 QQ (F0 m 26 ls [])) ∧ (∀ (x1 : Int32) (x3 : Int32) (x4 : Int32) (x5 : Int32) (r0 : Nat) (r2 : Nat) (t0 : Int32) (z : ow_MS) (H : Heap) (locs : List Loc) (ls : Array Slot), tw_in mX r0 0 → tw_in mX r2 0 → tw_M D vwCl mX q s.heap u z H locs → lv_has ls 6 [(0, .ref (u r0)), (1, .int x1), (2, .ref (u r2)), (3, .int x3)] → q_X13_isForm K k 2 x1 x3 x4 x5 r0 r2 t0 z = some (r, z1) → W p l e ({ frames := 0, cells := 0, slots := 0, locals := 0 } : Room) s m args below meth c H locs 0 0 QQ (F0 m 27 ls [.int t0])) ∧ (∀ (x1 : Int32) (x3 : Int32) (x4 : Int32) (x5 : Int32) (r0 : Nat) (r2 : Nat) (t0 : Int32) (z : ow_MS) (H : Heap) (locs : List Loc) (ls : Array Slot), tw_in mX r0 0 → tw_in mX r2 0 → tw_M D vwCl mX q s.heap u z H locs → lv_has ls 6 [(0, .ref (u r0)), (1, .int x1), (2, .ref (u r2)), (3, .int x3), (4, .int x4), (5, .int x5)] → q_X13_isForm K k 3 x1 x3 x4 x5 r0 r2 t0 z = some (r, z1) → W p l e ({ frames := 0, cells := 0, slots := 0, locals := 0 } : Room) s m args below meth c H locs 0 0 QQ (F0 m 32 ls [])) ∧ (∀ (x1 : Int32) (x3 : Int32) (x4 : Int32) (x5 : Int32) (r0 : Nat) (r2 : Nat) (t0 : Int32) (z : ow_MS) (H : Heap) (locs : List Loc) (ls : Array Slot), tw_in mX r0 0 → tw_in mX r2 0 → tw_M D vwCl mX q s.heap u z H locs → lv_has ls 6 [(0, .ref (u r0)), (1, .int x1), (2, .ref (u r2)), (3, .int x3), (4, .int x4), (5, .int x5)] → q_X13_isForm K k 4 x1 x3 x4 x5 r0 r2 t0 z = some (r, z1) → W p l e ({ frames := 0, cells := 0, slots := 0, locals := 0 } : Room) s m args below meth c H locs 0 0 QQ (F0 m 71 ls [.int t0])) := by
    intro k
    induction k with
    | zero => exact ⟨fun _ _ _ _ _ _ _ _ _ _ _ _ _ _ _ hq => tw_no hq, fun _ _ _ _ _ _ _ _ _ _ _ _ _ _ _ hq => tw_no hq, fun _ _ _ _ _ _ _ _ _ _ _ _ _ _ _ hq => tw_no hq, fun _ _ _ _ _ _ _ _ _ _ _ _ _ _ _ hq => tw_no hq, fun _ _ _ _ _ _ _ _ _ _ _ _ _ _ _ hq => tw_no hq⟩
    | succ k ih =>
      obtain ⟨ih_0, ih_1, ih_2, ih_3, ih_4⟩ := ih
      refine ⟨?_, ?_, ?_, ?_, ?_⟩
      · intro x1 x3 x4 x5 r0 r2 t0 z H locs ls hr0 hr2 hM hl hq
        have hq : qm_X13_isForm_0 K (q_X13_isForm K k) x1 x3 x4 x5 r0 r2 t0 z = some (r, z1) := hq
        unfold qm_X13_isForm_0 at hq
        refine lv_aload_n hx hb dmX13_isForm_0 rfl (lv_at hl 0 rfl) ?_
        refine lv_iload_n hx hb dmX13_isForm_1 rfl (lv_at hl 1 rfl) ?_
        refine tw_iald mX_ok hx hb hK hM hr0 hq dmX13_isForm_2 (fun v1 hq => ?_)
        refine lv_aload_n hx hb dmX13_isForm_3 rfl (lv_at hl 2 rfl) ?_
        refine lv_iload_n hx hb dmX13_isForm_4 rfl (lv_at hl 3 rfl) ?_
        refine tw_iald mX_ok hx hb hK hM hr2 hq dmX13_isForm_5 (fun v2 hq => ?_)
        refine lv_icmp_ne (tgt := 26) hx hb dmX13_isForm_6 (by decide) (fun hc => ?_) (fun hc => ?_)
        · have hq := tw_if hq hc
          exact ih_1 x1 x3 0 0 r0 r2 0 z H locs ls hr0 hr2 hM (lv_sub hl [0, 1, 2, 3] rfl) hq
        · have hq := tw_it hq hc
          refine lv_aload_n hx hb dmX13_isForm_9 rfl (lv_at hl 0 rfl) ?_
          refine lv_iload_n hx hb dmX13_isForm_10 rfl (lv_at hl 1 rfl) ?_
          refine lv_iconst (v := 1) hx hb dmX13_isForm_11 (by decide) ?_
          refine lv_iadd hx hb dmX13_isForm_12 ?_
          refine tw_iald mX_ok hx hb hK hM hr0 hq dmX13_isForm_13 (fun v3 hq => ?_)
          refine lv_aload_n hx hb dmX13_isForm_14 rfl (lv_at hl 2 rfl) ?_
          refine lv_iload_n hx hb dmX13_isForm_15 rfl (lv_at hl 3 rfl) ?_
          refine lv_iconst (v := 1) hx hb dmX13_isForm_16 (by decide) ?_
          refine lv_iadd hx hb dmX13_isForm_17 ?_
          refine tw_iald mX_ok hx hb hK hM hr2 hq dmX13_isForm_18 (fun v4 hq => ?_)
          refine lv_icmp_ne (tgt := 26) hx hb dmX13_isForm_19 (by decide) (fun hc => ?_) (fun hc => ?_)
          · have hq := tw_if hq hc
            exact ih_1 x1 x3 0 0 r0 r2 0 z H locs ls hr0 hr2 hM (lv_sub hl [0, 1, 2, 3] rfl) hq
          · have hq := tw_it hq hc
            refine lv_iconst (v := 1) hx hb dmX13_isForm_22 (by decide) ?_
            refine lv_goto (tgt := 27) hx hb dmX13_isForm_23 (by decide) ?_
            exact ih_2 x1 x3 0 0 r0 r2 1 z H locs ls hr0 hr2 hM (lv_sub hl [0, 1, 2, 3] rfl) hq
      · intro x1 x3 x4 x5 r0 r2 t0 z H locs ls hr0 hr2 hM hl hq
        have hq : qm_X13_isForm_1 K (q_X13_isForm K k) x1 x3 x4 x5 r0 r2 t0 z = some (r, z1) := hq
        unfold qm_X13_isForm_1 at hq
        refine lv_iconst (v := 0) hx hb dmX13_isForm_26 (by decide) ?_
        exact ih_2 x1 x3 0 0 r0 r2 0 z H locs ls hr0 hr2 hM (lv_sub hl [0, 1, 2, 3] rfl) hq
      · intro x1 x3 x4 x5 r0 r2 t0 z H locs ls hr0 hr2 hM hl hq
        have hq : qm_X13_isForm_2 K (q_X13_isForm K k) x1 x3 x4 x5 r0 r2 t0 z = some (r, z1) := hq
        unfold qm_X13_isForm_2 at hq
        refine lv_istore (lv' := [(4, .int t0), (0, .ref (u r0)), (1, .int x1), (2, .ref (u r2)), (3, .int x3)]) hx hb dmX13_isForm_27 hl (by decide) rfl (fun ls hl => ?_)
        refine lv_iconst (v := 0) hx hb dmX13_isForm_29 (by decide) ?_
        refine lv_istore (lv' := [(5, .int 0), (4, .int t0), (0, .ref (u r0)), (1, .int x1), (2, .ref (u r2)), (3, .int x3)]) hx hb dmX13_isForm_30 hl (by decide) rfl (fun ls hl => ?_)
        exact ih_3 x1 x3 t0 0 r0 r2 0 z H locs ls hr0 hr2 hM (lv_sub hl [2, 3, 4, 5, 1, 0] rfl) hq
      · intro x1 x3 x4 x5 r0 r2 t0 z H locs ls hr0 hr2 hM hl hq
        have hq : qm_X13_isForm_3 K (q_X13_isForm K k) x1 x3 x4 x5 r0 r2 t0 z = some (r, z1) := hq
        unfold qm_X13_isForm_3 at hq
        refine lv_iload hx hb dmX13_isForm_32 (lv_at hl 4 rfl) ?_
        refine lv_if_eq (tgt := 79) hx hb dmX13_isForm_34 (by decide) (fun hc => ?_) (fun hc => ?_)
        · have hq := tw_it hq hc
          refine lv_iload hx hb dmX13_isForm_79 (lv_at hl 4 rfl) ?_
          obtain ⟨hz, hq⟩ := tw_gZ hq
          exact mw_zret hx hb hr hlocks hM hz hq hQQ dmX13_isForm_81
        · have hq := tw_if hq hc
          refine lv_iload hx hb dmX13_isForm_37 (lv_at hl 5 rfl) ?_
          refine lv_aload_n hx hb dmX13_isForm_39 rfl (lv_at hl 0 rfl) ?_
          refine lv_iload_n hx hb dmX13_isForm_40 rfl (lv_at hl 1 rfl) ?_
          refine lv_iconst (v := 1) hx hb dmX13_isForm_41 (by decide) ?_
          refine lv_iadd hx hb dmX13_isForm_42 ?_
          refine tw_iald mX_ok hx hb hK hM hr0 hq dmX13_isForm_43 (fun v5 hq => ?_)
          refine lv_icmp_ge (tgt := 79) hx hb dmX13_isForm_44 (by decide) (fun hc => ?_) (fun hc => ?_)
          · have hq := tw_it hq hc
            refine lv_iload hx hb dmX13_isForm_79 (lv_at hl 4 rfl) ?_
            obtain ⟨hz, hq⟩ := tw_gZ hq
            exact mw_zret hx hb hr hlocks hM hz hq hQQ dmX13_isForm_81
          · have hq := tw_if hq hc
            refine lv_aload_n hx hb dmX13_isForm_47 rfl (lv_at hl 0 rfl) ?_
            refine lv_iload_n hx hb dmX13_isForm_48 rfl (lv_at hl 1 rfl) ?_
            refine lv_iconst (v := 2) hx hb dmX13_isForm_49 (by decide) ?_
            refine lv_iadd hx hb dmX13_isForm_50 ?_
            refine lv_iload hx hb dmX13_isForm_51 (lv_at hl 5 rfl) ?_
            refine lv_iadd hx hb dmX13_isForm_53 ?_
            refine tw_iald mX_ok hx hb hK hM hr0 hq dmX13_isForm_54 (fun v6 hq => ?_)
            refine lv_aload_n hx hb dmX13_isForm_55 rfl (lv_at hl 2 rfl) ?_
            refine lv_iload_n hx hb dmX13_isForm_56 rfl (lv_at hl 3 rfl) ?_
            refine lv_iconst (v := 2) hx hb dmX13_isForm_57 (by decide) ?_
            refine lv_iadd hx hb dmX13_isForm_58 ?_
            refine lv_iload hx hb dmX13_isForm_59 (lv_at hl 5 rfl) ?_
            refine lv_iadd hx hb dmX13_isForm_61 ?_
            refine tw_iald mX_ok hx hb hK hM hr2 hq dmX13_isForm_62 (fun v7 hq => ?_)
            refine lv_icmp_ne (tgt := 70) hx hb dmX13_isForm_63 (by decide) (fun hc => ?_) (fun hc => ?_)
            · have hq := tw_if hq hc
              refine lv_iconst (v := 0) hx hb dmX13_isForm_70 (by decide) ?_
              exact ih_4 x1 x3 x4 x5 r0 r2 0 z H locs ls hr0 hr2 hM (lv_sub hl [0, 1, 2, 3, 4, 5] rfl) hq
            · have hq := tw_it hq hc
              refine lv_iconst (v := 1) hx hb dmX13_isForm_66 (by decide) ?_
              refine lv_goto (tgt := 71) hx hb dmX13_isForm_67 (by decide) ?_
              exact ih_4 x1 x3 x4 x5 r0 r2 1 z H locs ls hr0 hr2 hM (lv_sub hl [0, 1, 2, 3, 4, 5] rfl) hq
      · intro x1 x3 x4 x5 r0 r2 t0 z H locs ls hr0 hr2 hM hl hq
        have hq : qm_X13_isForm_4 K (q_X13_isForm K k) x1 x3 x4 x5 r0 r2 t0 z = some (r, z1) := hq
        unfold qm_X13_isForm_4 at hq
        refine lv_istore (lv' := [(4, .int t0), (0, .ref (u r0)), (1, .int x1), (2, .ref (u r2)), (3, .int x3), (5, .int x5)]) hx hb dmX13_isForm_71 hl (by decide) rfl (fun ls hl => ?_)
        refine lv_iinc (v := (x5 + 1)) (lv' := [(5, .int (x5 + 1)), (4, .int t0), (0, .ref (u r0)), (1, .int x1), (2, .ref (u r2)), (3, .int x3)]) hx hb dmX13_isForm_73 hl (k := 5) rfl rfl (by decide) rfl (fun ls hl => ?_)
        refine lv_goto (tgt := 32) hx hb dmX13_isForm_76 (by decide) ?_
        exact ih_3 x1 x3 t0 (x5 + 1) r0 r2 0 z H locs ls hr0 hr2 hM (lv_sub hl [2, 3, 4, 5, 1, 0] rfl) hq
  exact (key K).1 x1 x3 0 0 r0 r2 0 z s.heap [] ls hr0 hr2 hM (lv_sub hl [0, 1, 2, 3] rfl) hq
theorem dmX13_equal_0 : decode cX13_equal 0 = .ok (.aload_n 0, 1) := dw_at cX13_equal_k0 (p := 0) rfl (by decide +kernel)
theorem dmX13_equal_1 : decode cX13_equal 1 = .ok (.iconst 0, 1) := dw_at cX13_equal_k0 (p := 1) rfl (by decide +kernel)
theorem dmX13_equal_2 : decode cX13_equal 2 = .ok (.putfield 1, 3) := dw_at cX13_equal_k0 (p := 2) rfl (by decide +kernel)
theorem dmX13_equal_5 : decode cX13_equal 5 = .ok (.aload_n 0, 1) := dw_at cX13_equal_k0 (p := 5) rfl (by decide +kernel)
theorem dmX13_equal_6 : decode cX13_equal 6 = .ok (.iload_n 1, 1) := dw_at cX13_equal_k0 (p := 6) rfl (by decide +kernel)
theorem dmX13_equal_7 : decode cX13_equal 7 = .ok (.invokevirtual 739, 3) := dw_at cX13_equal_k0 (p := 7) rfl (by decide +kernel)
theorem dmX13_equal_10 : decode cX13_equal 10 = .ok (.ifCond .eq 26, 3) := dw_at cX13_equal_k0 (p := 10) rfl (by decide +kernel)
theorem dmX13_equal_13 : decode cX13_equal 13 = .ok (.aload_n 0, 1) := dw_at cX13_equal_k0 (p := 13) rfl (by decide +kernel)
theorem dmX13_equal_14 : decode cX13_equal 14 = .ok (.iload_n 2, 1) := dw_at cX13_equal_k0 (p := 14) rfl (by decide +kernel)
theorem dmX13_equal_15 : decode cX13_equal 15 = .ok (.invokevirtual 739, 3) := dw_at cX13_equal_k0 (p := 15) rfl (by decide +kernel)
theorem dmX13_equal_18 : decode cX13_equal 18 = .ok (.ifCond .eq 18, 3) := dw_at cX13_equal_k0 (p := 18) rfl (by decide +kernel)
theorem dmX13_equal_21 : decode cX13_equal 21 = .ok (.aload_n 0, 1) := dw_at cX13_equal_k0 (p := 21) rfl (by decide +kernel)
theorem dmX13_equal_22 : decode cX13_equal 22 = .ok (.getfield 326, 3) := dw_at cX13_equal_k0 (p := 22) rfl (by decide +kernel)
theorem dmX13_equal_25 : decode cX13_equal 25 = .ok (.iload_n 1, 1) := dw_at cX13_equal_k1 (p := 0) rfl (by decide +kernel)
theorem dmX13_equal_26 : decode cX13_equal 26 = .ok (.iaload, 1) := dw_at cX13_equal_k1 (p := 1) rfl (by decide +kernel)
theorem dmX13_equal_27 : decode cX13_equal 27 = .ok (.aload_n 0, 1) := dw_at cX13_equal_k1 (p := 2) rfl (by decide +kernel)
theorem dmX13_equal_28 : decode cX13_equal 28 = .ok (.getfield 326, 3) := dw_at cX13_equal_k1 (p := 3) rfl (by decide +kernel)
theorem dmX13_equal_31 : decode cX13_equal 31 = .ok (.iload_n 2, 1) := dw_at cX13_equal_k1 (p := 6) rfl (by decide +kernel)
theorem dmX13_equal_32 : decode cX13_equal 32 = .ok (.iaload, 1) := dw_at cX13_equal_k1 (p := 7) rfl (by decide +kernel)
theorem dmX13_equal_33 : decode cX13_equal 33 = .ok (.if_icmp .eq 5, 3) := dw_at cX13_equal_k1 (p := 8) rfl (by decide +kernel)
theorem dmX13_equal_36 : decode cX13_equal 36 = .ok (.iconst 0, 1) := dw_at cX13_equal_k1 (p := 11) rfl (by decide +kernel)
theorem dmX13_equal_37 : decode cX13_equal 37 = .ok (.ireturn, 1) := dw_at cX13_equal_k1 (p := 12) rfl (by decide +kernel)
theorem dmX13_equal_38 : decode cX13_equal 38 = .ok (.aload_n 0, 1) := dw_at cX13_equal_k1 (p := 13) rfl (by decide +kernel)
theorem dmX13_equal_39 : decode cX13_equal 39 = .ok (.iload_n 1, 1) := dw_at cX13_equal_k1 (p := 14) rfl (by decide +kernel)
theorem dmX13_equal_40 : decode cX13_equal 40 = .ok (.invokevirtual 763, 3) := dw_at cX13_equal_k1 (p := 15) rfl (by decide +kernel)
theorem dmX13_equal_43 : decode cX13_equal 43 = .ok (.aload_n 0, 1) := dw_at cX13_equal_k1 (p := 18) rfl (by decide +kernel)
theorem dmX13_equal_44 : decode cX13_equal 44 = .ok (.aload_n 0, 1) := dw_at cX13_equal_k1 (p := 19) rfl (by decide +kernel)
theorem dmX13_equal_45 : decode cX13_equal 45 = .ok (.getfield 374, 3) := dw_at cX13_equal_k1 (p := 20) rfl (by decide +kernel)
theorem dmX13_equal_48 : decode cX13_equal 48 = .ok (.iconst 0, 1) := dw_at cX13_equal_k1 (p := 23) rfl (by decide +kernel)
theorem dmX13_equal_49 : decode cX13_equal 49 = .ok (.invokevirtual 766, 3) := dw_at cX13_equal_k2 (p := 0) rfl (by decide +kernel)
theorem dmX13_equal_52 : decode cX13_equal 52 = .ok (.aload_n 0, 1) := dw_at cX13_equal_k2 (p := 3) rfl (by decide +kernel)
theorem dmX13_equal_53 : decode cX13_equal 53 = .ok (.iload_n 2, 1) := dw_at cX13_equal_k2 (p := 4) rfl (by decide +kernel)
theorem dmX13_equal_54 : decode cX13_equal 54 = .ok (.invokevirtual 763, 3) := dw_at cX13_equal_k2 (p := 5) rfl (by decide +kernel)
theorem dmX13_equal_57 : decode cX13_equal 57 = .ok (.aload_n 0, 1) := dw_at cX13_equal_k2 (p := 8) rfl (by decide +kernel)
theorem dmX13_equal_58 : decode cX13_equal 58 = .ok (.aload_n 0, 1) := dw_at cX13_equal_k2 (p := 9) rfl (by decide +kernel)
theorem dmX13_equal_59 : decode cX13_equal 59 = .ok (.getfield 377, 3) := dw_at cX13_equal_k2 (p := 10) rfl (by decide +kernel)
theorem dmX13_equal_62 : decode cX13_equal 62 = .ok (.iconst 0, 1) := dw_at cX13_equal_k2 (p := 13) rfl (by decide +kernel)
theorem dmX13_equal_63 : decode cX13_equal 63 = .ok (.invokevirtual 766, 3) := dw_at cX13_equal_k2 (p := 14) rfl (by decide +kernel)
theorem dmX13_equal_66 : decode cX13_equal 66 = .ok (.aload_n 0, 1) := dw_at cX13_equal_k2 (p := 17) rfl (by decide +kernel)
theorem dmX13_equal_67 : decode cX13_equal 67 = .ok (.getfield 374, 3) := dw_at cX13_equal_k2 (p := 18) rfl (by decide +kernel)
theorem dmX13_equal_70 : decode cX13_equal 70 = .ok (.iconst 0, 1) := dw_at cX13_equal_k2 (p := 21) rfl (by decide +kernel)
theorem dmX13_equal_71 : decode cX13_equal 71 = .ok (.aload_n 0, 1) := dw_at cX13_equal_k2 (p := 22) rfl (by decide +kernel)
theorem dmX13_equal_72 : decode cX13_equal 72 = .ok (.getfield 377, 3) := dw_at cX13_equal_k2 (p := 23) rfl (by decide +kernel)
theorem dmX13_equal_75 : decode cX13_equal 75 = .ok (.iconst 0, 1) := dw_at cX13_equal_k2 (p := 26) rfl (by decide +kernel)
theorem dmX13_equal_76 : decode cX13_equal 76 = .ok (.invokestatic 770, 3) := dw_at cX13_equal_k2 (p := 27) rfl (by decide +kernel)
theorem dmX13_equal_79 : decode cX13_equal 79 = .ok (.ireturn, 1) := dw_at cX13_equal_k2 (p := 30) rfl (by decide +kernel)
def qm_X13_equal_0 (K : Nat) (x1 : Int32) (x2 : Int32) (z : ow_MS) : Option (Int32 × ow_MS) :=
 wrF z 1 0 fun z1 => cs1 (qe_X13_hasBraid K x1 z1) fun v3 z2 => (if v3 = 0 then okZ 0 (some (0, z2))
 else cs1 (qe_X13_hasBraid K x2 z2) fun v5 z4 => (if v5 = 0 then okZ 0 (some (0, z4))
 else rdI mX z4 96 x1 fun v6 => rdI mX z4 96 x2 fun v7 => (if v6 = v7 then cs0 (qe_X13_formOf K x1 z4) fun z8 => cs0 (qe_X13_formTo K 117 0 z8) fun z9 => cs0 (qe_X13_formOf K x2 z9) fun z10 => cs0 (qe_X13_formTo K 118 0 z10) fun z11 => cs1 (qe_X13_isForm K 117 0 118 0 z11) fun v13 z12 => okZ v13 (some (v13, z12))
 else okZ 0 (some (0, z4)))))
def qe_X13_equal (K : Nat) (x1 : Int32) (x2 : Int32) (z : ow_MS) : Option (Int32 × ow_MS) := qm_X13_equal_0 K x1 x2 z
abbrev wm_X13_equal : List Cond := .code yX13_equal cX13_equal 3 (some .boolean) :: wM
theorem cd_X13_equal : yX13_equal.cls = RX13 ∧ yX13_equal.cls ≠ "java/lang/invoke/MethodHandle" ∧ yX13_equal.cls ≠ "java/lang/invoke/VarHandle" ∧ (parseMethodDescriptor yX13_equal.desc).map (fun d => d.parameters.length) = some 2 := by decide +kernel
set_option maxHeartbeats 4000000 in
set_option maxRecDepth 100000 in
theorem km_X13_equal (l : Launch) (D : va_G) (q : ow_Q5) (u : Nat → Nat) (hU : tw_inj mX u) (K : Nat) (x1 : Int32) (x2 : Int32)  (z z1 : ow_MS) (r : Int32) (hq : qe_X13_equal K x1 x2 z = some (r, z1)) : Met l yX13_equal wm_X13_equal ({ frames := 3, cells := 0, slots := 0, locals := 81 } : Room) (va_Pc [.ref (u 0), .int x1, .int x2] (mw_pre D q u z)) (va_Qi (fun x (_ : Unit) => x = r) (fun _ t => va_P D vwCl (tw mX q u z1) t.heap) (tw_A mX u)) 0 0 (tw_A mX u) := by
  refine Met.ofW (cc := cX13_equal) (maxL := 3) (ret := (some .boolean)) (by decide) rfl ?_
  intro p e s m args below meth c s₁ B hml hv
  obtain ⟨rfl, hP, hK, hN⟩ := hv
  have hx := B.exec
  have hb := B.bytes
  have hr := B.returns
  have hts := atoms_spec (ws := wm_X13_equal) B.pre
  have hT : ∀ w ∈ wM, w.before ([.ref (u 0), .int x1, .int x2] : List Value).toArray s = true := fun w h => hts w (List.mem_cons_of_mem _ h)
  have hown : s.vm.findClass RX13 = some m.cls := findClass_of_methodNamed B.named
  have hlocks := B.notSynchronized
  have hM : tw_M D vwCl mX q s.heap u z s.heap [] := ⟨hP, va_S.rf⟩
  have hl := lv_entry ([.ref (u 0), .int x1, .int x2]) (n := 3) (Nat.le_of_ble_eq_true rfl)
  rw [lg_entry_eq]
  generalize (lg_sl ([.ref (u 0), .int x1, .int x2]) ++ List.replicate (3 - (lg_sl ([.ref (u 0), .int x1, .int x2])).length) Slot.unset).toArray = ls at hl ⊢
  have hl : lv_has ls 3 [(0, .ref (u 0)), (1, .int x1), (2, .int x2)] := hl
  refine ow_named (fun QQ hQQ => ?_)
  generalize ([.ref (u 0), .int x1, .int x2] : List Value).toArray = args at hts hT hQQ ⊢
  have hq : qm_X13_equal_0 K x1 x2 z = some (r, z1) := hq
  unfold qm_X13_equal_0 at hq
  suffices key : ∀ (H : Heap) (locs : List Loc), tw_M D vwCl mX q s.heap u z H locs → W p l e ({ frames := 3, cells := 0, slots := 0, locals := 81 } : Room) s m args below meth c H locs 0 0 QQ (F0 m 0 ls []) from key s.heap [] hM
  intro H locs hM
  refine lv_aload_n hx hb dmX13_equal_0 rfl (lv_at hl 0 rfl) ?_
  refine lv_iconst (v := 0) hx hb dmX13_equal_1 (by decide) ?_
  refine mp13_1 hx hb hT hown hK hM hU hq dmX13_equal_2 (fun z1 H locs hM hq => ?_)
  refine lv_aload_n hx hb dmX13_equal_5 rfl (lv_at hl 0 rfl) ?_
  refine lv_iload_n hx hb dmX13_equal_6 rfl (lv_at hl 1 rfl) ?_
  obtain ⟨v3, z2, hcq, hq⟩ := tw_cl1 hq
  refine tw_cali hM (va_runV (As := [.int x1]) (rest := []) ⟨hx, hb, hml, hown, hts⟩ (km_X13_hasBraid l D q u hU K x1 z1 z2 v3 hcq) (cwV 1 hts (tw_gV wM_good wq_490 wq_491 wq_492 wq_61 wq_482) rfl rfl rfl cd_X13_hasBraid ⟨(Nat.le_of_ble_eq_true rfl), (Nat.le_of_ble_eq_true rfl)⟩) (mw_preV hK hN hM mo_0 rfl) rfl rfl hl.1 rfl (lv_room (Nat.le_of_ble_eq_true rfl)) dmX13_equal_7 ⟨(Nat.le_of_ble_eq_true rfl), (Nat.le_of_ble_eq_true rfl)⟩) (fun H locs hM => ?_)
  refine lv_if_eq (tgt := 36) hx hb dmX13_equal_10 (by decide) (fun hc => ?_) (fun hc => ?_)
  · have hq := tw_it hq hc
    refine lv_iconst (v := 0) hx hb dmX13_equal_36 (by decide) ?_
    obtain ⟨hz, hq⟩ := tw_gZ hq
    exact mw_zret hx hb hr hlocks hM hz hq hQQ dmX13_equal_37
  · have hq := tw_if hq hc
    refine lv_aload_n hx hb dmX13_equal_13 rfl (lv_at hl 0 rfl) ?_
    refine lv_iload_n hx hb dmX13_equal_14 rfl (lv_at hl 2 rfl) ?_
    obtain ⟨v5, z4, hcq, hq⟩ := tw_cl1 hq
    refine tw_cali hM (va_runV (As := [.int x2]) (rest := []) ⟨hx, hb, hml, hown, hts⟩ (km_X13_hasBraid l D q u hU K x2 z2 z4 v5 hcq) (cwV 1 hts (tw_gV wM_good wq_490 wq_491 wq_492 wq_61 wq_482) rfl rfl rfl cd_X13_hasBraid ⟨(Nat.le_of_ble_eq_true rfl), (Nat.le_of_ble_eq_true rfl)⟩) (mw_preV hK hN hM mo_0 rfl) rfl rfl hl.1 rfl (lv_room (Nat.le_of_ble_eq_true rfl)) dmX13_equal_15 ⟨(Nat.le_of_ble_eq_true rfl), (Nat.le_of_ble_eq_true rfl)⟩) (fun H locs hM => ?_)
    refine lv_if_eq (tgt := 36) hx hb dmX13_equal_18 (by decide) (fun hc => ?_) (fun hc => ?_)
    · have hq := tw_it hq hc
      refine lv_iconst (v := 0) hx hb dmX13_equal_36 (by decide) ?_
      obtain ⟨hz, hq⟩ := tw_gZ hq
      exact mw_zret hx hb hr hlocks hM hz hq hQQ dmX13_equal_37
    · have hq := tw_if hq hc
      refine lv_aload_n hx hb dmX13_equal_21 rfl (lv_at hl 0 rfl) ?_
      refine mg13_326 hx hb hT hown hK hM dmX13_equal_22 ?_
      refine lv_iload_n hx hb dmX13_equal_25 rfl (lv_at hl 1 rfl) ?_
      refine tw_iald mX_ok hx hb hK hM mr_96 hq dmX13_equal_26 (fun v6 hq => ?_)
      refine lv_aload_n hx hb dmX13_equal_27 rfl (lv_at hl 0 rfl) ?_
      refine mg13_326 hx hb hT hown hK hM dmX13_equal_28 ?_
      refine lv_iload_n hx hb dmX13_equal_31 rfl (lv_at hl 2 rfl) ?_
      refine tw_iald mX_ok hx hb hK hM mr_96 hq dmX13_equal_32 (fun v7 hq => ?_)
      refine lv_icmp_eq (tgt := 38) hx hb dmX13_equal_33 (by decide) (fun hc => ?_) (fun hc => ?_)
      · have hq := tw_it hq hc
        refine lv_aload_n hx hb dmX13_equal_38 rfl (lv_at hl 0 rfl) ?_
        refine lv_iload_n hx hb dmX13_equal_39 rfl (lv_at hl 1 rfl) ?_
        obtain ⟨z8, hcq, hq⟩ := tw_cl0 hq
        refine tw_calv hM (va_runV (As := [.int x1]) (rest := []) ⟨hx, hb, hml, hown, hts⟩ (km_X13_formOf l D q u hU K x1 z4 z8 hcq) (cwV 1 hts (tw_gV wM_good wq_522 wq_523 wq_524 wq_61 wq_521) rfl rfl rfl cd_X13_formOf ⟨(Nat.le_of_ble_eq_true rfl), (Nat.le_of_ble_eq_true rfl)⟩) (mw_preV hK hN hM mo_0 rfl) rfl rfl hl.1 rfl (lv_room (Nat.le_of_ble_eq_true rfl)) dmX13_equal_40 ⟨(Nat.le_of_ble_eq_true rfl), (Nat.le_of_ble_eq_true rfl)⟩) (fun H locs hM => ?_)
        refine lv_aload_n hx hb dmX13_equal_43 rfl (lv_at hl 0 rfl) ?_
        refine lv_aload_n hx hb dmX13_equal_44 rfl (lv_at hl 0 rfl) ?_
        refine mg13_374 hx hb hT hown hK hM dmX13_equal_45 ?_
        refine lv_iconst (v := 0) hx hb dmX13_equal_48 (by decide) ?_
        obtain ⟨z9, hcq, hq⟩ := tw_cl0 hq
        refine tw_calv hM (va_runV (As := [.ref (u 117), .int 0]) (rest := []) ⟨hx, hb, hml, hown, hts⟩ (km_X13_formTo l D q u hU K 117 0 mr_117 z8 z9 hcq) (cwV 2 hts (tw_gV wM_good wq_531 wq_532 wq_533 wq_61 wq_527) rfl rfl rfl cd_X13_formTo ⟨(Nat.le_of_ble_eq_true rfl), (Nat.le_of_ble_eq_true rfl)⟩) (mw_preV hK hN hM mo_0 rfl) rfl rfl hl.1 rfl (lv_room (Nat.le_of_ble_eq_true rfl)) dmX13_equal_49 ⟨(Nat.le_of_ble_eq_true rfl), (Nat.le_of_ble_eq_true rfl)⟩) (fun H locs hM => ?_)
        refine lv_aload_n hx hb dmX13_equal_52 rfl (lv_at hl 0 rfl) ?_
        refine lv_iload_n hx hb dmX13_equal_53 rfl (lv_at hl 2 rfl) ?_
        obtain ⟨z10, hcq, hq⟩ := tw_cl0 hq
        refine tw_calv hM (va_runV (As := [.int x2]) (rest := []) ⟨hx, hb, hml, hown, hts⟩ (km_X13_formOf l D q u hU K x2 z9 z10 hcq) (cwV 1 hts (tw_gV wM_good wq_522 wq_523 wq_524 wq_61 wq_521) rfl rfl rfl cd_X13_formOf ⟨(Nat.le_of_ble_eq_true rfl), (Nat.le_of_ble_eq_true rfl)⟩) (mw_preV hK hN hM mo_0 rfl) rfl rfl hl.1 rfl (lv_room (Nat.le_of_ble_eq_true rfl)) dmX13_equal_54 ⟨(Nat.le_of_ble_eq_true rfl), (Nat.le_of_ble_eq_true rfl)⟩) (fun H locs hM => ?_)
        refine lv_aload_n hx hb dmX13_equal_57 rfl (lv_at hl 0 rfl) ?_
        refine lv_aload_n hx hb dmX13_equal_58 rfl (lv_at hl 0 rfl) ?_
        refine mg13_377 hx hb hT hown hK hM dmX13_equal_59 ?_
        refine lv_iconst (v := 0) hx hb dmX13_equal_62 (by decide) ?_
        obtain ⟨z11, hcq, hq⟩ := tw_cl0 hq
        refine tw_calv hM (va_runV (As := [.ref (u 118), .int 0]) (rest := []) ⟨hx, hb, hml, hown, hts⟩ (km_X13_formTo l D q u hU K 118 0 mr_118 z10 z11 hcq) (cwV 2 hts (tw_gV wM_good wq_531 wq_532 wq_533 wq_61 wq_527) rfl rfl rfl cd_X13_formTo ⟨(Nat.le_of_ble_eq_true rfl), (Nat.le_of_ble_eq_true rfl)⟩) (mw_preV hK hN hM mo_0 rfl) rfl rfl hl.1 rfl (lv_room (Nat.le_of_ble_eq_true rfl)) dmX13_equal_63 ⟨(Nat.le_of_ble_eq_true rfl), (Nat.le_of_ble_eq_true rfl)⟩) (fun H locs hM => ?_)
        refine lv_aload_n hx hb dmX13_equal_66 rfl (lv_at hl 0 rfl) ?_
        refine mg13_374 hx hb hT hown hK hM dmX13_equal_67 ?_
        refine lv_iconst (v := 0) hx hb dmX13_equal_70 (by decide) ?_
        refine lv_aload_n hx hb dmX13_equal_71 rfl (lv_at hl 0 rfl) ?_
        refine mg13_377 hx hb hT hown hK hM dmX13_equal_72 ?_
        refine lv_iconst (v := 0) hx hb dmX13_equal_75 (by decide) ?_
        obtain ⟨v13, z12, hcq, hq⟩ := tw_cl1 hq
        refine tw_cali hM (va_runS (As := [.ref (u 117), .int 0, .ref (u 118), .int 0]) (rest := []) ⟨hx, hb, hml, hown, hts⟩ (km_X13_isForm l D q u hU K 117 0 118 0 mr_117 mr_118 z11 z12 v13 hcq) (va_cwS 4 hts (tw_gS wM_good wq_534 wq_535 wq_61 wq_528) rfl rfl rfl cd_X13_isForm ⟨(Nat.le_of_ble_eq_true rfl), (Nat.le_of_ble_eq_true rfl)⟩) (mw_preS hK hN hM) rfl rfl hl.1 rfl (lv_room (Nat.le_of_ble_eq_true rfl)) dmX13_equal_76 ⟨(Nat.le_of_ble_eq_true rfl), (Nat.le_of_ble_eq_true rfl)⟩) (fun H locs hM => ?_)
        obtain ⟨hz, hq⟩ := tw_gZ hq
        exact mw_zret hx hb hr hlocks hM hz hq hQQ dmX13_equal_79
      · have hq := tw_if hq hc
        refine lv_iconst (v := 0) hx hb dmX13_equal_36 (by decide) ?_
        obtain ⟨hz, hq⟩ := tw_gZ hq
        exact mw_zret hx hb hr hlocks hM hz hq hQQ dmX13_equal_37
theorem dmX13_turned_0 : decode cX13_turned 0 = .ok (.iload_n 3, 1) := by decide +kernel
theorem dmX13_turned_1 : decode cX13_turned 1 = .ok (.iconst 1, 1) := by decide +kernel
theorem dmX13_turned_2 : decode cX13_turned 2 = .ok (.iand, 1) := by decide +kernel
theorem dmX13_turned_3 : decode cX13_turned 3 = .ok (.ifCond .ne 7, 3) := by decide +kernel
theorem dmX13_turned_6 : decode cX13_turned 6 = .ok (.iload_n 2, 1) := by decide +kernel
theorem dmX13_turned_7 : decode cX13_turned 7 = .ok (.goto 14, 3) := by decide +kernel
theorem dmX13_turned_10 : decode cX13_turned 10 = .ok (.aload_n 0, 1) := by decide +kernel
theorem dmX13_turned_11 : decode cX13_turned 11 = .ok (.getfield 347, 3) := by decide +kernel
theorem dmX13_turned_14 : decode cX13_turned 14 = .ok (.bipush 120, 2) := by decide +kernel
theorem dmX13_turned_16 : decode cX13_turned 16 = .ok (.iload_n 1, 1) := by decide +kernel
theorem dmX13_turned_17 : decode cX13_turned 17 = .ok (.imul, 1) := by decide +kernel
theorem dmX13_turned_18 : decode cX13_turned 18 = .ok (.iload_n 2, 1) := by decide +kernel
theorem dmX13_turned_19 : decode cX13_turned 19 = .ok (.iadd, 1) := by decide +kernel
theorem dmX13_turned_20 : decode cX13_turned 20 = .ok (.iaload, 1) := by decide +kernel
theorem dmX13_turned_21 : decode cX13_turned 21 = .ok (.ireturn, 1) := by decide +kernel
def qm_X13_turned_0 (K : Nat) (x1 : Int32) (x2 : Int32) (x3 : Int32) (z : ow_MS) : Option (Int32 × ow_MS) :=
 (if (x3 &&& 1) = 0 then some (x2, z)
 else rdI mX z 103 ((120 * x1) + x2) fun v1 => some (v1, z))
def qe_X13_turned (K : Nat) (x1 : Int32) (x2 : Int32) (x3 : Int32) (z : ow_MS) : Option (Int32 × ow_MS) := qm_X13_turned_0 K x1 x2 x3 z
abbrev wm_X13_turned : List Cond := .code yX13_turned cX13_turned 4 (some .int) :: wM
theorem cd_X13_turned : yX13_turned.cls = RX13 ∧ yX13_turned.cls ≠ "java/lang/invoke/MethodHandle" ∧ yX13_turned.cls ≠ "java/lang/invoke/VarHandle" ∧ (parseMethodDescriptor yX13_turned.desc).map (fun d => d.parameters.length) = some 3 := by decide +kernel
set_option maxHeartbeats 4000000 in
set_option maxRecDepth 100000 in
theorem km_X13_turned (l : Launch) (D : va_G) (q : ow_Q5) (u : Nat → Nat) (hU : tw_inj mX u) (K : Nat) (x1 : Int32) (x2 : Int32) (x3 : Int32)  (z z1 : ow_MS) (r : Int32) (hq : qe_X13_turned K x1 x2 x3 z = some (r, z1)) : Met l yX13_turned wm_X13_turned ({ frames := 0, cells := 0, slots := 0, locals := 0 } : Room) (va_Pc [.ref (u 0), .int x1, .int x2, .int x3] (mw_pre D q u z)) (va_Qi (fun x (_ : Unit) => x = r) (fun _ t => va_P D vwCl (tw mX q u z1) t.heap) (tw_A mX u)) 0 0 (tw_A mX u) := by
  refine Met.ofW (cc := cX13_turned) (maxL := 4) (ret := (some .int)) (by decide) rfl ?_
  intro p e s m args below meth c s₁ B hml hv
  obtain ⟨rfl, hP, hK, hN⟩ := hv
  have hx := B.exec
  have hb := B.bytes
  have hr := B.returns
  have hts := atoms_spec (ws := wm_X13_turned) B.pre
  have hT : ∀ w ∈ wM, w.before ([.ref (u 0), .int x1, .int x2, .int x3] : List Value).toArray s = true := fun w h => hts w (List.mem_cons_of_mem _ h)
  have hown : s.vm.findClass RX13 = some m.cls := findClass_of_methodNamed B.named
  have hlocks := B.notSynchronized
  have hM : tw_M D vwCl mX q s.heap u z s.heap [] := ⟨hP, va_S.rf⟩
  have hl := lv_entry ([.ref (u 0), .int x1, .int x2, .int x3]) (n := 4) (Nat.le_of_ble_eq_true rfl)
  rw [lg_entry_eq]
  generalize (lg_sl ([.ref (u 0), .int x1, .int x2, .int x3]) ++ List.replicate (4 - (lg_sl ([.ref (u 0), .int x1, .int x2, .int x3])).length) Slot.unset).toArray = ls at hl ⊢
  have hl : lv_has ls 4 [(0, .ref (u 0)), (1, .int x1), (2, .int x2), (3, .int x3)] := hl
  refine ow_named (fun QQ hQQ => ?_)
  generalize ([.ref (u 0), .int x1, .int x2, .int x3] : List Value).toArray = args at hts hT hQQ ⊢
  have hq : qm_X13_turned_0 K x1 x2 x3 z = some (r, z1) := hq
  unfold qm_X13_turned_0 at hq
  suffices key : ∀ (H : Heap) (locs : List Loc), tw_M D vwCl mX q s.heap u z H locs → W p l e ({ frames := 0, cells := 0, slots := 0, locals := 0 } : Room) s m args below meth c H locs 0 0 QQ (F0 m 0 ls []) from key s.heap [] hM
  intro H locs hM
  refine lv_iload_n hx hb dmX13_turned_0 rfl (lv_at hl 3 rfl) ?_
  refine lv_iconst (v := 1) hx hb dmX13_turned_1 (by decide) ?_
  refine lv_iand hx hb dmX13_turned_2 ?_
  refine lv_if_ne (tgt := 10) hx hb dmX13_turned_3 (by decide) (fun hc => ?_) (fun hc => ?_)
  · have hq := tw_if hq hc
    refine lv_aload_n hx hb dmX13_turned_10 rfl (lv_at hl 0 rfl) ?_
    refine mg13_347 hx hb hT hown hK hM dmX13_turned_11 ?_
    refine lv_bipush (v := 120) hx hb dmX13_turned_14 (by decide) ?_
    refine lv_iload_n hx hb dmX13_turned_16 rfl (lv_at hl 1 rfl) ?_
    refine lv_imul hx hb dmX13_turned_17 ?_
    refine lv_iload_n hx hb dmX13_turned_18 rfl (lv_at hl 2 rfl) ?_
    refine lv_iadd hx hb dmX13_turned_19 ?_
    refine tw_iald mX_ok hx hb hK hM mr_103 hq dmX13_turned_20 (fun v1 hq => ?_)
    exact mw_iret hx hb hr hlocks hM hq hQQ dmX13_turned_21
  · have hq := tw_it hq hc
    refine lv_iload_n hx hb dmX13_turned_6 rfl (lv_at hl 2 rfl) ?_
    refine lv_goto (tgt := 21) hx hb dmX13_turned_7 (by decide) ?_
    exact mw_iret hx hb hr hlocks hM hq hQQ dmX13_turned_21
theorem dmX13_cycle_0 : decode cX13_cycle 0 = .ok (.aload_n 0, 1) := dw_at cX13_cycle_k0 (p := 0) rfl (by decide +kernel)
theorem dmX13_cycle_1 : decode cX13_cycle 1 = .ok (.getfield 751, 3) := dw_at cX13_cycle_k0 (p := 1) rfl (by decide +kernel)
theorem dmX13_cycle_4 : decode cX13_cycle 4 = .ok (.istore_n 3, 1) := dw_at cX13_cycle_k0 (p := 4) rfl (by decide +kernel)
theorem dmX13_cycle_5 : decode cX13_cycle 5 = .ok (.aload_n 0, 1) := dw_at cX13_cycle_k0 (p := 5) rfl (by decide +kernel)
theorem dmX13_cycle_6 : decode cX13_cycle 6 = .ok (.getfield 748, 3) := dw_at cX13_cycle_k0 (p := 6) rfl (by decide +kernel)
theorem dmX13_cycle_9 : decode cX13_cycle 9 = .ok (.istore 4, 2) := dw_at cX13_cycle_k0 (p := 9) rfl (by decide +kernel)
theorem dmX13_cycle_11 : decode cX13_cycle 11 = .ok (.aload_n 0, 1) := dw_at cX13_cycle_k0 (p := 11) rfl (by decide +kernel)
theorem dmX13_cycle_12 : decode cX13_cycle 12 = .ok (.iconst 0, 1) := dw_at cX13_cycle_k0 (p := 12) rfl (by decide +kernel)
theorem dmX13_cycle_13 : decode cX13_cycle 13 = .ok (.putfield 742, 3) := dw_at cX13_cycle_k0 (p := 13) rfl (by decide +kernel)
theorem dmX13_cycle_16 : decode cX13_cycle 16 = .ok (.iload_n 2, 1) := dw_at cX13_cycle_k0 (p := 16) rfl (by decide +kernel)
theorem dmX13_cycle_17 : decode cX13_cycle 17 = .ok (.ifCond .eq 23, 3) := dw_at cX13_cycle_k0 (p := 17) rfl (by decide +kernel)
theorem dmX13_cycle_20 : decode cX13_cycle 20 = .ok (.aload_n 0, 1) := dw_at cX13_cycle_k0 (p := 20) rfl (by decide +kernel)
theorem dmX13_cycle_21 : decode cX13_cycle 21 = .ok (.iload_n 1, 1) := dw_at cX13_cycle_k0 (p := 21) rfl (by decide +kernel)
theorem dmX13_cycle_22 : decode cX13_cycle 22 = .ok (.aload_n 0, 1) := dw_at cX13_cycle_k0 (p := 22) rfl (by decide +kernel)
theorem dmX13_cycle_23 : decode cX13_cycle 23 = .ok (.iload_n 1, 1) := dw_at cX13_cycle_k0 (p := 23) rfl (by decide +kernel)
theorem dmX13_cycle_24 : decode cX13_cycle 24 = .ok (.aload_n 0, 1) := dw_at cX13_cycle_k1 (p := 0) rfl (by decide +kernel)
theorem dmX13_cycle_25 : decode cX13_cycle 25 = .ok (.getfield 368, 3) := dw_at cX13_cycle_k1 (p := 1) rfl (by decide +kernel)
theorem dmX13_cycle_28 : decode cX13_cycle 28 = .ok (.iload_n 3, 1) := dw_at cX13_cycle_k1 (p := 4) rfl (by decide +kernel)
theorem dmX13_cycle_29 : decode cX13_cycle 29 = .ok (.iconst 1, 1) := dw_at cX13_cycle_k1 (p := 5) rfl (by decide +kernel)
theorem dmX13_cycle_30 : decode cX13_cycle 30 = .ok (.isub, 1) := dw_at cX13_cycle_k1 (p := 6) rfl (by decide +kernel)
theorem dmX13_cycle_31 : decode cX13_cycle 31 = .ok (.iaload, 1) := dw_at cX13_cycle_k1 (p := 7) rfl (by decide +kernel)
theorem dmX13_cycle_32 : decode cX13_cycle 32 = .ok (.iload 4, 2) := dw_at cX13_cycle_k1 (p := 8) rfl (by decide +kernel)
theorem dmX13_cycle_34 : decode cX13_cycle 34 = .ok (.invokevirtual 773, 3) := dw_at cX13_cycle_k1 (p := 10) rfl (by decide +kernel)
theorem dmX13_cycle_37 : decode cX13_cycle 37 = .ok (.invokevirtual 757, 3) := dw_at cX13_cycle_k1 (p := 13) rfl (by decide +kernel)
theorem dmX13_cycle_40 : decode cX13_cycle 40 = .ok (.iload_n 2, 1) := dw_at cX13_cycle_k1 (p := 16) rfl (by decide +kernel)
theorem dmX13_cycle_41 : decode cX13_cycle 41 = .ok (.ifCond .eq 7, 3) := dw_at cX13_cycle_k1 (p := 17) rfl (by decide +kernel)
theorem dmX13_cycle_44 : decode cX13_cycle 44 = .ok (.iconst 0, 1) := dw_at cX13_cycle_k1 (p := 20) rfl (by decide +kernel)
theorem dmX13_cycle_45 : decode cX13_cycle 45 = .ok (.goto 4, 3) := dw_at cX13_cycle_k1 (p := 21) rfl (by decide +kernel)
theorem dmX13_cycle_48 : decode cX13_cycle 48 = .ok (.iconst 1, 1) := dw_at cX13_cycle_k2 (p := 0) rfl (by decide +kernel)
theorem dmX13_cycle_49 : decode cX13_cycle 49 = .ok (.istore 5, 2) := dw_at cX13_cycle_k2 (p := 1) rfl (by decide +kernel)
theorem dmX13_cycle_51 : decode cX13_cycle 51 = .ok (.iload 5, 2) := dw_at cX13_cycle_k2 (p := 3) rfl (by decide +kernel)
theorem dmX13_cycle_53 : decode cX13_cycle 53 = .ok (.iload_n 2, 1) := dw_at cX13_cycle_k2 (p := 5) rfl (by decide +kernel)
theorem dmX13_cycle_54 : decode cX13_cycle 54 = .ok (.ifCond .eq 9, 3) := dw_at cX13_cycle_k2 (p := 6) rfl (by decide +kernel)
theorem dmX13_cycle_57 : decode cX13_cycle 57 = .ok (.iload_n 3, 1) := dw_at cX13_cycle_k2 (p := 9) rfl (by decide +kernel)
theorem dmX13_cycle_58 : decode cX13_cycle 58 = .ok (.iconst 1, 1) := dw_at cX13_cycle_k2 (p := 10) rfl (by decide +kernel)
theorem dmX13_cycle_59 : decode cX13_cycle 59 = .ok (.isub, 1) := dw_at cX13_cycle_k2 (p := 11) rfl (by decide +kernel)
theorem dmX13_cycle_60 : decode cX13_cycle 60 = .ok (.goto 4, 3) := dw_at cX13_cycle_k2 (p := 12) rfl (by decide +kernel)
theorem dmX13_cycle_63 : decode cX13_cycle 63 = .ok (.iload_n 3, 1) := dw_at cX13_cycle_k2 (p := 15) rfl (by decide +kernel)
theorem dmX13_cycle_64 : decode cX13_cycle 64 = .ok (.if_icmp .ge 21, 3) := dw_at cX13_cycle_k2 (p := 16) rfl (by decide +kernel)
theorem dmX13_cycle_67 : decode cX13_cycle 67 = .ok (.aload_n 0, 1) := dw_at cX13_cycle_k2 (p := 19) rfl (by decide +kernel)
theorem dmX13_cycle_68 : decode cX13_cycle 68 = .ok (.iload_n 1, 1) := dw_at cX13_cycle_k2 (p := 20) rfl (by decide +kernel)
theorem dmX13_cycle_69 : decode cX13_cycle 69 = .ok (.aload_n 0, 1) := dw_at cX13_cycle_k2 (p := 21) rfl (by decide +kernel)
theorem dmX13_cycle_70 : decode cX13_cycle 70 = .ok (.getfield 368, 3) := dw_at cX13_cycle_k2 (p := 22) rfl (by decide +kernel)
theorem dmX13_cycle_73 : decode cX13_cycle 73 = .ok (.iload 5, 2) := dw_at cX13_cycle_k3 (p := 0) rfl (by decide +kernel)
theorem dmX13_cycle_75 : decode cX13_cycle 75 = .ok (.iaload, 1) := dw_at cX13_cycle_k3 (p := 2) rfl (by decide +kernel)
theorem dmX13_cycle_76 : decode cX13_cycle 76 = .ok (.invokevirtual 757, 3) := dw_at cX13_cycle_k3 (p := 3) rfl (by decide +kernel)
theorem dmX13_cycle_79 : decode cX13_cycle 79 = .ok (.iinc 5 1, 3) := dw_at cX13_cycle_k3 (p := 6) rfl (by decide +kernel)
theorem dmX13_cycle_82 : decode cX13_cycle 82 = .ok (.goto (-31), 3) := dw_at cX13_cycle_k3 (p := 9) rfl (by decide +kernel)
theorem dmX13_cycle_85 : decode cX13_cycle 85 = .ok (.iload_n 2, 1) := dw_at cX13_cycle_k3 (p := 12) rfl (by decide +kernel)
theorem dmX13_cycle_86 : decode cX13_cycle 86 = .ok (.ifCond .ne 21, 3) := dw_at cX13_cycle_k3 (p := 13) rfl (by decide +kernel)
theorem dmX13_cycle_89 : decode cX13_cycle 89 = .ok (.aload_n 0, 1) := dw_at cX13_cycle_k3 (p := 16) rfl (by decide +kernel)
theorem dmX13_cycle_90 : decode cX13_cycle 90 = .ok (.iload_n 1, 1) := dw_at cX13_cycle_k3 (p := 17) rfl (by decide +kernel)
theorem dmX13_cycle_91 : decode cX13_cycle 91 = .ok (.aload_n 0, 1) := dw_at cX13_cycle_k3 (p := 18) rfl (by decide +kernel)
theorem dmX13_cycle_92 : decode cX13_cycle 92 = .ok (.iload_n 1, 1) := dw_at cX13_cycle_k3 (p := 19) rfl (by decide +kernel)
theorem dmX13_cycle_93 : decode cX13_cycle 93 = .ok (.aload_n 0, 1) := dw_at cX13_cycle_k3 (p := 20) rfl (by decide +kernel)
theorem dmX13_cycle_94 : decode cX13_cycle 94 = .ok (.getfield 368, 3) := dw_at cX13_cycle_k3 (p := 21) rfl (by decide +kernel)
theorem dmX13_cycle_97 : decode cX13_cycle 97 = .ok (.iconst 0, 1) := dw_at cX13_cycle_k4 (p := 0) rfl (by decide +kernel)
theorem dmX13_cycle_98 : decode cX13_cycle 98 = .ok (.iaload, 1) := dw_at cX13_cycle_k4 (p := 1) rfl (by decide +kernel)
theorem dmX13_cycle_99 : decode cX13_cycle 99 = .ok (.iload 4, 2) := dw_at cX13_cycle_k4 (p := 2) rfl (by decide +kernel)
theorem dmX13_cycle_101 : decode cX13_cycle 101 = .ok (.invokevirtual 773, 3) := dw_at cX13_cycle_k4 (p := 4) rfl (by decide +kernel)
theorem dmX13_cycle_104 : decode cX13_cycle 104 = .ok (.invokevirtual 757, 3) := dw_at cX13_cycle_k4 (p := 7) rfl (by decide +kernel)
theorem dmX13_cycle_107 : decode cX13_cycle 107 = .ok (.aload_n 0, 1) := dw_at cX13_cycle_k4 (p := 10) rfl (by decide +kernel)
theorem dmX13_cycle_108 : decode cX13_cycle 108 = .ok (.iload_n 1, 1) := dw_at cX13_cycle_k4 (p := 11) rfl (by decide +kernel)
theorem dmX13_cycle_109 : decode cX13_cycle 109 = .ok (.iload 4, 2) := dw_at cX13_cycle_k4 (p := 12) rfl (by decide +kernel)
theorem dmX13_cycle_111 : decode cX13_cycle 111 = .ok (.invokevirtual 760, 3) := dw_at cX13_cycle_k4 (p := 14) rfl (by decide +kernel)
theorem dmX13_cycle_114 : decode cX13_cycle 114 = .ok (.return_, 1) := dw_at cX13_cycle_k4 (p := 17) rfl (by decide +kernel)
def qm_X13_cycle_0 (K : Nat) (go : Nat → Int32 → Int32 → Int32 → Int32 → Int32 → Int32 → Int32 → ow_MS → Option ow_MS) (x1 : Int32) (x2 : Int32) (x3 : Int32) (x4 : Int32) (x5 : Int32) (t0 : Int32) (t1 : Int32) (z : ow_MS) : Option ow_MS :=
 rdF z 113 fun v1 => rdF z 112 fun v2 => wrF z 109 0 fun z3 => (if x2 = 0 then go 1 x1 x2 v1 v2 0 0 0 z3
 else rdI mX z3 114 (v1 - 1) fun v4 => cs1 (qe_X13_turned K x1 v4 v2 z3) fun v6 z5 => cs0 (qe_X13_append K x1 v6 z5) fun z7 => go 1 x1 x2 v1 v2 0 0 0 z7)
def qm_X13_cycle_1 (K : Nat) (go : Nat → Int32 → Int32 → Int32 → Int32 → Int32 → Int32 → Int32 → ow_MS → Option ow_MS) (x1 : Int32) (x2 : Int32) (x3 : Int32) (x4 : Int32) (x5 : Int32) (t0 : Int32) (t1 : Int32) (z : ow_MS) : Option ow_MS :=
 (if x2 = 0 then go 2 x1 x2 x3 x4 0 1 0 z
 else go 2 x1 x2 x3 x4 0 0 0 z)
def qm_X13_cycle_2 (K : Nat) (go : Nat → Int32 → Int32 → Int32 → Int32 → Int32 → Int32 → Int32 → ow_MS → Option ow_MS) (x1 : Int32) (x2 : Int32) (x3 : Int32) (x4 : Int32) (x5 : Int32) (t0 : Int32) (t1 : Int32) (z : ow_MS) : Option ow_MS :=
 go 3 x1 x2 x3 x4 t0 0 0 z
def qm_X13_cycle_3 (K : Nat) (go : Nat → Int32 → Int32 → Int32 → Int32 → Int32 → Int32 → Int32 → ow_MS → Option ow_MS) (x1 : Int32) (x2 : Int32) (x3 : Int32) (x4 : Int32) (x5 : Int32) (t0 : Int32) (t1 : Int32) (z : ow_MS) : Option ow_MS :=
 (if x2 = 0 then go 4 x1 x2 x3 x4 x5 x3 x5 z
 else go 4 x1 x2 x3 x4 x5 (x3 - 1) x5 z)
def qm_X13_cycle_4 (K : Nat) (go : Nat → Int32 → Int32 → Int32 → Int32 → Int32 → Int32 → Int32 → ow_MS → Option ow_MS) (x1 : Int32) (x2 : Int32) (x3 : Int32) (x4 : Int32) (x5 : Int32) (t0 : Int32) (t1 : Int32) (z : ow_MS) : Option ow_MS :=
 (if t0 ≤ t1 then (if x2 = 0 then rdI mX z 114 0 fun v8 => cs1 (qe_X13_turned K x1 v8 x4 z) fun v10 z9 => cs0 (qe_X13_append K x1 v10 z9) fun z11 => go 5 x1 x2 x3 x4 x5 0 0 z11
 else go 5 x1 x2 x3 x4 x5 0 0 z)
 else rdI mX z 114 x5 fun v12 => cs0 (qe_X13_append K x1 v12 z) fun z13 => go 3 x1 x2 x3 x4 (x5 + 1) 0 0 z13)
def qm_X13_cycle_5 (K : Nat) (go : Nat → Int32 → Int32 → Int32 → Int32 → Int32 → Int32 → Int32 → ow_MS → Option ow_MS) (x1 : Int32) (x2 : Int32) (x3 : Int32) (x4 : Int32) (x5 : Int32) (t0 : Int32) (t1 : Int32) (z : ow_MS) : Option ow_MS :=
 cs0 (qe_X13_normalise K x1 x4 z) fun z14 => some z14
def qb_X13_cycle (K : Nat) (go : Nat → Int32 → Int32 → Int32 → Int32 → Int32 → Int32 → Int32 → ow_MS → Option ow_MS) (L : Nat) (x1 : Int32) (x2 : Int32) (x3 : Int32) (x4 : Int32) (x5 : Int32) (t0 : Int32) (t1 : Int32) (z : ow_MS) : Option ow_MS := match L with
  | 0 => qm_X13_cycle_0 K go x1 x2 x3 x4 x5 t0 t1 z
  | 1 => qm_X13_cycle_1 K go x1 x2 x3 x4 x5 t0 t1 z
  | 2 => qm_X13_cycle_2 K go x1 x2 x3 x4 x5 t0 t1 z
  | 3 => qm_X13_cycle_3 K go x1 x2 x3 x4 x5 t0 t1 z
  | 4 => qm_X13_cycle_4 K go x1 x2 x3 x4 x5 t0 t1 z
  | 5 => qm_X13_cycle_5 K go x1 x2 x3 x4 x5 t0 t1 z
  | _ => none
def q_X13_cycle (K : Nat) : Nat → Nat → Int32 → Int32 → Int32 → Int32 → Int32 → Int32 → Int32 → ow_MS → Option ow_MS
  | 0 => fun _ _ _ _ _ _ _ _ _ => none
  | k + 1 => qb_X13_cycle K (q_X13_cycle K k)
def qe_X13_cycle (K : Nat) (x1 : Int32) (x2 : Int32) (z : ow_MS) : Option ow_MS := q_X13_cycle K K 0 x1 x2 0 0 0 0 0 z
abbrev wm_X13_cycle : List Cond := .code yX13_cycle cX13_cycle 6 none :: wM
theorem cd_X13_cycle : yX13_cycle.cls = RX13 ∧ yX13_cycle.cls ≠ "java/lang/invoke/MethodHandle" ∧ yX13_cycle.cls ≠ "java/lang/invoke/VarHandle" ∧ (parseMethodDescriptor yX13_cycle.desc).map (fun d => d.parameters.length) = some 2 := by decide +kernel
set_option maxHeartbeats 4000000 in
set_option maxRecDepth 100000 in
theorem km_X13_cycle (l : Launch) (D : va_G) (q : ow_Q5) (u : Nat → Nat) (hU : tw_inj mX u) (K : Nat) (x1 : Int32) (x2 : Int32)  (z z1 : ow_MS) (hq : qe_X13_cycle K x1 x2 z = some z1) : Met l yX13_cycle wm_X13_cycle ({ frames := 2, cells := 0, slots := 0, locals := 55 } : Room) (va_Pc [.ref (u 0), .int x1, .int x2] (mw_pre D q u z)) (va_Qv (fun (_ : Unit) => True) (fun _ t => va_P D vwCl (tw mX q u z1) t.heap) (tw_A mX u)) 0 0 (tw_A mX u) := by
  refine Met.ofW (cc := cX13_cycle) (maxL := 6) (ret := none) (by decide) rfl ?_
  intro p e s m args below meth c s₁ B hml hv
  obtain ⟨rfl, hP, hK, hN⟩ := hv
  have hx := B.exec
  have hb := B.bytes
  have hr := B.returns
  have hts := atoms_spec (ws := wm_X13_cycle) B.pre
  have hT : ∀ w ∈ wM, w.before ([.ref (u 0), .int x1, .int x2] : List Value).toArray s = true := fun w h => hts w (List.mem_cons_of_mem _ h)
  have hown : s.vm.findClass RX13 = some m.cls := findClass_of_methodNamed B.named
  have hlocks := B.notSynchronized
  have hM : tw_M D vwCl mX q s.heap u z s.heap [] := ⟨hP, va_S.rf⟩
  have hl := lv_entry ([.ref (u 0), .int x1, .int x2]) (n := 6) (Nat.le_of_ble_eq_true rfl)
  rw [lg_entry_eq]
  generalize (lg_sl ([.ref (u 0), .int x1, .int x2]) ++ List.replicate (6 - (lg_sl ([.ref (u 0), .int x1, .int x2])).length) Slot.unset).toArray = ls at hl ⊢
  have hl : lv_has ls 6 [(0, .ref (u 0)), (1, .int x1), (2, .int x2)] := hl
  refine ow_named (fun QQ hQQ => ?_)
  generalize ([.ref (u 0), .int x1, .int x2] : List Value).toArray = args at hts hT hQQ ⊢
  have key : ∀ k : Nat, (∀ (x1 : Int32) (x2 : Int32) (x3 : Int32) (x4 : Int32) (x5 : Int32) (t0 : Int32) (t1 : Int32) (z : ow_MS) (H : Heap) (locs : List Loc) (ls : Array Slot), tw_M D vwCl mX q s.heap u z H locs → lv_has ls 6 [(0, .ref (u 0)), (1, .int x1), (2, .int x2)] → q_X13_cycle K k 0 x1 x2 x3 x4 x5 t0 t1 z = some z1 → W p l e ({ frames := 2, cells := 0, slots := 0, locals := 55 } : Room) s m args below meth c H locs 0 0 QQ (F0 m 0 ls [])) ∧ (∀ (x1 : Int32) (x2 : Int32) (x3 : Int32) (x4 : Int32) (x5 : Int32) (t0 : Int32) (t1 : Int32) (z : ow_MS) (H : Heap) (locs : List Loc) (ls : Array Slot), tw_M D vwCl mX q s.heap u z H locs → lv_has ls 6 [(0, .ref (u 0)), (1, .int x1), (2, .int x2), (3, .int x3), (4, .int x4)] → q_X13_cycle K k 1 x1 x2 x3 x4 x5 t0 t1 z = some z1 → W p l e ({ frames := 2, cells := 0, slots := 0, locals := 55 } : Room) s m args below meth c H locs 0 0 QQ (F0 m 40 ls [])) ∧ (∀ (x1 : Int32) (x2 : Int32) (x3 : Int32) (x4 : Int32) (x5 : Int32) (t0 : Int32) (t1 : Int32) (z : ow_MS) (H : Heap) (locs : List Loc) (ls : Array Slot), tw_M D vwCl mX q s.heap u z H locs → lv_has ls 6 [(0, .ref (u 0)), (1, .int x1), (2, .int x2), (3, .int x3), (4, .int x4)] → q_X13_cycle K k 2 x1 x2 x3 x4 x5 t0 t1 z = some z1 → W p l e ({ frames := 2, cells := 0, slots := 0, locals := 55 } : Room) s m args below meth c H locs 0 0 QQ (F0 m 49 ls [.int t0])) ∧ (∀ (x1 : Int32) (x2 : Int32) (x3 : Int32) (x4 : Int32) (x5 : Int32) (t0 : Int32) (t1 : Int32) (z : ow_MS) (H : Heap) (locs : List Loc) (ls : Array Slot), tw_M D vwCl mX q s.heap u z H locs → lv_has ls 6 [(0, .ref (u 0)), (1, .int x1), (2, .int x2), (3, .int x3), (4, .int x4), (5, .int x5)] → q_X13_cycle K k 3 x1 x2 x3 x4 x5 t0 t1 z = some z1 → W p l e ({ frames := 2, cells := 0, slots := 0, locals := 55 } : Room) s m args below meth c H locs 0 0 QQ (F0 m 51 ls [])) ∧ (∀ (x1 : Int32) (x2 : Int32) (x3 : Int32) (x4 : Int32) (x5 : Int32) (t0 : Int32) (t1 : Int32) (z : ow_MS) (H : Heap) (locs : List Loc) (ls : Array Slot), tw_M D vwCl mX q s.heap u z H locs → lv_has ls 6 [(0, .ref (u 0)), (1, .int x1), (2, .int x2), (3, .int x3), (4, .int x4), (5, .int x5)] → q_X13_cycle K k 4 x1 x2 x3 x4 x5 t0 t1 z = some z1 → W p l e ({ frames := 2, cells := 0, slots := 0, locals := 55 } : Room) s m args below meth c H locs 0 0 QQ (F0 m 64 ls [.int t0, .int t1])) ∧ (∀ (x1 : Int32) (x2 : Int32) (x3 : Int32) (x4 : Int32) (x5 : Int32) (t0 : Int32) (t1 : Int32) (z : ow_MS) (H : Heap) (locs : List Loc) (ls : Array Slot), tw_M D vwCl mX q s.heap u z H locs → lv_has ls 6 [(0, .ref (u 0)), (1, .int x1), (2, .int x2), (3, .int x3), (4, .int x4), (5, .int x5)] → q_X13_cycle K k 5 x1 x2 x3 x4 x5 t0 t1 z = some z1 → W p l e ({ frames := 2, cells := 0, slots := 0, locals := 55 } : Room) s m args below meth c H locs 0 0 QQ (F0 m 107 ls [])) := by
    intro k
    induction k with
    | zero => exact ⟨fun _ _ _ _ _ _ _ _ _ _ _  _ _ hq => tw_no hq, fun _ _ _ _ _ _ _ _ _ _ _  _ _ hq => tw_no hq, fun _ _ _ _ _ _ _ _ _ _ _  _ _ hq => tw_no hq, fun _ _ _ _ _ _ _ _ _ _ _  _ _ hq => tw_no hq, fun _ _ _ _ _ _ _ _ _ _ _  _ _ hq => tw_no hq, fun _ _ _ _ _ _ _ _ _ _ _  _ _ hq => tw_no hq⟩
    | succ k ih =>
      obtain ⟨ih_0, ih_1, ih_2, ih_3, ih_4, ih_5⟩ := ih
      refine ⟨?_, ?_, ?_, ?_, ?_, ?_⟩
      · intro x1 x2 x3 x4 x5 t0 t1 z H locs ls  hM hl hq
        have hq : qm_X13_cycle_0 K (q_X13_cycle K k) x1 x2 x3 x4 x5 t0 t1 z = some z1 := hq
        unfold qm_X13_cycle_0 at hq
        refine lv_aload_n hx hb dmX13_cycle_0 rfl (lv_at hl 0 rfl) ?_
        refine mg13_751 hx hb hT hown hK hM hq dmX13_cycle_1 (fun v1 hq => ?_)
        refine lv_istore_n (lv' := [(3, .int v1), (0, .ref (u 0)), (1, .int x1), (2, .int x2)]) hx hb dmX13_cycle_4 rfl hl (by decide) rfl (fun ls hl => ?_)
        refine lv_aload_n hx hb dmX13_cycle_5 rfl (lv_at hl 1 rfl) ?_
        refine mg13_748 hx hb hT hown hK hM hq dmX13_cycle_6 (fun v2 hq => ?_)
        refine lv_istore (lv' := [(4, .int v2), (3, .int v1), (0, .ref (u 0)), (1, .int x1), (2, .int x2)]) hx hb dmX13_cycle_9 hl (by decide) rfl (fun ls hl => ?_)
        refine lv_aload_n hx hb dmX13_cycle_11 rfl (lv_at hl 2 rfl) ?_
        refine lv_iconst (v := 0) hx hb dmX13_cycle_12 (by decide) ?_
        refine mp13_742 hx hb hT hown hK hM hU hq dmX13_cycle_13 (fun z3 H locs hM hq => ?_)
        refine lv_iload_n hx hb dmX13_cycle_16 rfl (lv_at hl 4 rfl) ?_
        refine lv_if_eq (tgt := 40) hx hb dmX13_cycle_17 (by decide) (fun hc => ?_) (fun hc => ?_)
        · have hq := tw_it hq hc
          exact ih_1 x1 x2 v1 v2 0 0 0 z3 H locs ls hM (lv_sub hl [2, 3, 4, 1, 0] rfl) hq
        · have hq := tw_if hq hc
          refine lv_aload_n hx hb dmX13_cycle_20 rfl (lv_at hl 2 rfl) ?_
          refine lv_iload_n hx hb dmX13_cycle_21 rfl (lv_at hl 3 rfl) ?_
          refine lv_aload_n hx hb dmX13_cycle_22 rfl (lv_at hl 2 rfl) ?_
          refine lv_iload_n hx hb dmX13_cycle_23 rfl (lv_at hl 3 rfl) ?_
          refine lv_aload_n hx hb dmX13_cycle_24 rfl (lv_at hl 2 rfl) ?_
          refine mg13_368 hx hb hT hown hK hM dmX13_cycle_25 ?_
          refine lv_iload_n hx hb dmX13_cycle_28 rfl (lv_at hl 1 rfl) ?_
          refine lv_iconst (v := 1) hx hb dmX13_cycle_29 (by decide) ?_
          refine lv_isub hx hb dmX13_cycle_30 ?_
          refine tw_iald mX_ok hx hb hK hM mr_114 hq dmX13_cycle_31 (fun v4 hq => ?_)
          refine lv_iload hx hb dmX13_cycle_32 (lv_at hl 0 rfl) ?_
          obtain ⟨v6, z5, hcq, hq⟩ := tw_cl1 hq
          refine tw_cali hM (va_runV (As := [.int x1, .int v4, .int v2]) (rest := [.int x1, .ref (u 0)]) ⟨hx, hb, hml, hown, hts⟩ (km_X13_turned l D q u hU K x1 v4 v2 z3 z5 v6 hcq) (cwV 3 hts (tw_gV wM_good wq_539 wq_540 wq_541 wq_61 wq_538) rfl rfl rfl cd_X13_turned ⟨(Nat.le_of_ble_eq_true rfl), (Nat.le_of_ble_eq_true rfl)⟩) (mw_preV hK hN hM mo_0 rfl) rfl rfl hl.1 rfl (lv_room (Nat.le_of_ble_eq_true rfl)) dmX13_cycle_34 ⟨(Nat.le_of_ble_eq_true rfl), (Nat.le_of_ble_eq_true rfl)⟩) (fun H locs hM => ?_)
          obtain ⟨z7, hcq, hq⟩ := tw_cl0 hq
          refine tw_calv hM (va_runV (As := [.int x1, .int v6]) (rest := []) ⟨hx, hb, hml, hown, hts⟩ (km_X13_append l D q u hU K x1 v6 z5 z7 hcq) (cwV 2 hts (tw_gV wM_good wq_515 wq_516 wq_517 wq_61 wq_500) rfl rfl rfl cd_X13_append ⟨(Nat.le_of_ble_eq_true rfl), (Nat.le_of_ble_eq_true rfl)⟩) (mw_preV hK hN hM mo_0 rfl) rfl rfl hl.1 rfl (lv_room (Nat.le_of_ble_eq_true rfl)) dmX13_cycle_37 ⟨(Nat.le_of_ble_eq_true rfl), (Nat.le_of_ble_eq_true rfl)⟩) (fun H locs hM => ?_)
          exact ih_1 x1 x2 v1 v2 0 0 0 z7 H locs ls hM (lv_sub hl [2, 3, 4, 1, 0] rfl) hq
      · intro x1 x2 x3 x4 x5 t0 t1 z H locs ls  hM hl hq
        have hq : qm_X13_cycle_1 K (q_X13_cycle K k) x1 x2 x3 x4 x5 t0 t1 z = some z1 := hq
        unfold qm_X13_cycle_1 at hq
        refine lv_iload_n hx hb dmX13_cycle_40 rfl (lv_at hl 2 rfl) ?_
        refine lv_if_eq (tgt := 48) hx hb dmX13_cycle_41 (by decide) (fun hc => ?_) (fun hc => ?_)
        · have hq := tw_it hq hc
          refine lv_iconst (v := 1) hx hb dmX13_cycle_48 (by decide) ?_
          exact ih_2 x1 x2 x3 x4 0 1 0 z H locs ls hM (lv_sub hl [0, 1, 2, 3, 4] rfl) hq
        · have hq := tw_if hq hc
          refine lv_iconst (v := 0) hx hb dmX13_cycle_44 (by decide) ?_
          refine lv_goto (tgt := 49) hx hb dmX13_cycle_45 (by decide) ?_
          exact ih_2 x1 x2 x3 x4 0 0 0 z H locs ls hM (lv_sub hl [0, 1, 2, 3, 4] rfl) hq
      · intro x1 x2 x3 x4 x5 t0 t1 z H locs ls  hM hl hq
        have hq : qm_X13_cycle_2 K (q_X13_cycle K k) x1 x2 x3 x4 x5 t0 t1 z = some z1 := hq
        unfold qm_X13_cycle_2 at hq
        refine lv_istore (lv' := [(5, .int t0), (0, .ref (u 0)), (1, .int x1), (2, .int x2), (3, .int x3), (4, .int x4)]) hx hb dmX13_cycle_49 hl (by decide) rfl (fun ls hl => ?_)
        exact ih_3 x1 x2 x3 x4 t0 0 0 z H locs ls hM (lv_sub hl [1, 2, 3, 4, 5, 0] rfl) hq
      · intro x1 x2 x3 x4 x5 t0 t1 z H locs ls  hM hl hq
        have hq : qm_X13_cycle_3 K (q_X13_cycle K k) x1 x2 x3 x4 x5 t0 t1 z = some z1 := hq
        unfold qm_X13_cycle_3 at hq
        refine lv_iload hx hb dmX13_cycle_51 (lv_at hl 5 rfl) ?_
        refine lv_iload_n hx hb dmX13_cycle_53 rfl (lv_at hl 2 rfl) ?_
        refine lv_if_eq (tgt := 63) hx hb dmX13_cycle_54 (by decide) (fun hc => ?_) (fun hc => ?_)
        · have hq := tw_it hq hc
          refine lv_iload_n hx hb dmX13_cycle_63 rfl (lv_at hl 3 rfl) ?_
          exact ih_4 x1 x2 x3 x4 x5 x3 x5 z H locs ls hM (lv_sub hl [0, 1, 2, 3, 4, 5] rfl) hq
        · have hq := tw_if hq hc
          refine lv_iload_n hx hb dmX13_cycle_57 rfl (lv_at hl 3 rfl) ?_
          refine lv_iconst (v := 1) hx hb dmX13_cycle_58 (by decide) ?_
          refine lv_isub hx hb dmX13_cycle_59 ?_
          refine lv_goto (tgt := 64) hx hb dmX13_cycle_60 (by decide) ?_
          exact ih_4 x1 x2 x3 x4 x5 (x3 - 1) x5 z H locs ls hM (lv_sub hl [0, 1, 2, 3, 4, 5] rfl) hq
      · intro x1 x2 x3 x4 x5 t0 t1 z H locs ls  hM hl hq
        have hq : qm_X13_cycle_4 K (q_X13_cycle K k) x1 x2 x3 x4 x5 t0 t1 z = some z1 := hq
        unfold qm_X13_cycle_4 at hq
        refine lv_icmp_ge (tgt := 85) hx hb dmX13_cycle_64 (by decide) (fun hc => ?_) (fun hc => ?_)
        · have hq := tw_it hq hc
          refine lv_iload_n hx hb dmX13_cycle_85 rfl (lv_at hl 2 rfl) ?_
          refine lv_if_ne (tgt := 107) hx hb dmX13_cycle_86 (by decide) (fun hc => ?_) (fun hc => ?_)
          · have hq := tw_if hq hc
            exact ih_5 x1 x2 x3 x4 x5 0 0 z H locs ls hM (lv_sub hl [0, 1, 2, 3, 4, 5] rfl) hq
          · have hq := tw_it hq hc
            refine lv_aload_n hx hb dmX13_cycle_89 rfl (lv_at hl 0 rfl) ?_
            refine lv_iload_n hx hb dmX13_cycle_90 rfl (lv_at hl 1 rfl) ?_
            refine lv_aload_n hx hb dmX13_cycle_91 rfl (lv_at hl 0 rfl) ?_
            refine lv_iload_n hx hb dmX13_cycle_92 rfl (lv_at hl 1 rfl) ?_
            refine lv_aload_n hx hb dmX13_cycle_93 rfl (lv_at hl 0 rfl) ?_
            refine mg13_368 hx hb hT hown hK hM dmX13_cycle_94 ?_
            refine lv_iconst (v := 0) hx hb dmX13_cycle_97 (by decide) ?_
            refine tw_iald mX_ok hx hb hK hM mr_114 hq dmX13_cycle_98 (fun v8 hq => ?_)
            refine lv_iload hx hb dmX13_cycle_99 (lv_at hl 4 rfl) ?_
            obtain ⟨v10, z9, hcq, hq⟩ := tw_cl1 hq
            refine tw_cali hM (va_runV (As := [.int x1, .int v8, .int x4]) (rest := [.int x1, .ref (u 0)]) ⟨hx, hb, hml, hown, hts⟩ (km_X13_turned l D q u hU K x1 v8 x4 z z9 v10 hcq) (cwV 3 hts (tw_gV wM_good wq_539 wq_540 wq_541 wq_61 wq_538) rfl rfl rfl cd_X13_turned ⟨(Nat.le_of_ble_eq_true rfl), (Nat.le_of_ble_eq_true rfl)⟩) (mw_preV hK hN hM mo_0 rfl) rfl rfl hl.1 rfl (lv_room (Nat.le_of_ble_eq_true rfl)) dmX13_cycle_101 ⟨(Nat.le_of_ble_eq_true rfl), (Nat.le_of_ble_eq_true rfl)⟩) (fun H locs hM => ?_)
            obtain ⟨z11, hcq, hq⟩ := tw_cl0 hq
            refine tw_calv hM (va_runV (As := [.int x1, .int v10]) (rest := []) ⟨hx, hb, hml, hown, hts⟩ (km_X13_append l D q u hU K x1 v10 z9 z11 hcq) (cwV 2 hts (tw_gV wM_good wq_515 wq_516 wq_517 wq_61 wq_500) rfl rfl rfl cd_X13_append ⟨(Nat.le_of_ble_eq_true rfl), (Nat.le_of_ble_eq_true rfl)⟩) (mw_preV hK hN hM mo_0 rfl) rfl rfl hl.1 rfl (lv_room (Nat.le_of_ble_eq_true rfl)) dmX13_cycle_104 ⟨(Nat.le_of_ble_eq_true rfl), (Nat.le_of_ble_eq_true rfl)⟩) (fun H locs hM => ?_)
            exact ih_5 x1 x2 x3 x4 x5 0 0 z11 H locs ls hM (lv_sub hl [0, 1, 2, 3, 4, 5] rfl) hq
        · have hq := tw_if hq hc
          refine lv_aload_n hx hb dmX13_cycle_67 rfl (lv_at hl 0 rfl) ?_
          refine lv_iload_n hx hb dmX13_cycle_68 rfl (lv_at hl 1 rfl) ?_
          refine lv_aload_n hx hb dmX13_cycle_69 rfl (lv_at hl 0 rfl) ?_
          refine mg13_368 hx hb hT hown hK hM dmX13_cycle_70 ?_
          refine lv_iload hx hb dmX13_cycle_73 (lv_at hl 5 rfl) ?_
          refine tw_iald mX_ok hx hb hK hM mr_114 hq dmX13_cycle_75 (fun v12 hq => ?_)
          obtain ⟨z13, hcq, hq⟩ := tw_cl0 hq
          refine tw_calv hM (va_runV (As := [.int x1, .int v12]) (rest := []) ⟨hx, hb, hml, hown, hts⟩ (km_X13_append l D q u hU K x1 v12 z z13 hcq) (cwV 2 hts (tw_gV wM_good wq_515 wq_516 wq_517 wq_61 wq_500) rfl rfl rfl cd_X13_append ⟨(Nat.le_of_ble_eq_true rfl), (Nat.le_of_ble_eq_true rfl)⟩) (mw_preV hK hN hM mo_0 rfl) rfl rfl hl.1 rfl (lv_room (Nat.le_of_ble_eq_true rfl)) dmX13_cycle_76 ⟨(Nat.le_of_ble_eq_true rfl), (Nat.le_of_ble_eq_true rfl)⟩) (fun H locs hM => ?_)
          refine lv_iinc (v := (x5 + 1)) (lv' := [(5, .int (x5 + 1)), (0, .ref (u 0)), (1, .int x1), (2, .int x2), (3, .int x3), (4, .int x4)]) hx hb dmX13_cycle_79 hl (k := 5) rfl rfl (by decide) rfl (fun ls hl => ?_)
          refine lv_goto (tgt := 51) hx hb dmX13_cycle_82 (by decide) ?_
          exact ih_3 x1 x2 x3 x4 (x5 + 1) 0 0 z13 H locs ls hM (lv_sub hl [1, 2, 3, 4, 5, 0] rfl) hq
      · intro x1 x2 x3 x4 x5 t0 t1 z H locs ls  hM hl hq
        have hq : qm_X13_cycle_5 K (q_X13_cycle K k) x1 x2 x3 x4 x5 t0 t1 z = some z1 := hq
        unfold qm_X13_cycle_5 at hq
        refine lv_aload_n hx hb dmX13_cycle_107 rfl (lv_at hl 0 rfl) ?_
        refine lv_iload_n hx hb dmX13_cycle_108 rfl (lv_at hl 1 rfl) ?_
        refine lv_iload hx hb dmX13_cycle_109 (lv_at hl 4 rfl) ?_
        obtain ⟨z14, hcq, hq⟩ := tw_cl0 hq
        refine tw_calv hM (va_runV (As := [.int x1, .int x4]) (rest := []) ⟨hx, hb, hml, hown, hts⟩ (km_X13_normalise l D q u hU K x1 x4 z z14 hcq) (cwV 2 hts (tw_gV wM_good wq_518 wq_519 wq_520 wq_61 wq_513) rfl rfl rfl cd_X13_normalise ⟨(Nat.le_of_ble_eq_true rfl), (Nat.le_of_ble_eq_true rfl)⟩) (mw_preV hK hN hM mo_0 rfl) rfl rfl hl.1 rfl (lv_room (Nat.le_of_ble_eq_true rfl)) dmX13_cycle_111 ⟨(Nat.le_of_ble_eq_true rfl), (Nat.le_of_ble_eq_true rfl)⟩) (fun H locs hM => ?_)
        exact mw_vret hx hb hr hlocks hM hq hQQ dmX13_cycle_114
  exact (key K).1 x1 x2 0 0 0 0 0 z s.heap [] ls  hM (lv_sub hl [0, 1, 2] rfl) hq
theorem dmX13_summitOf_0 : decode cX13_summitOf 0 = .ok (.aload_n 0, 1) := dw_at cX13_summitOf_k0 (p := 0) rfl (by decide +kernel)
theorem dmX13_summitOf_1 : decode cX13_summitOf 1 = .ok (.iload_n 1, 1) := dw_at cX13_summitOf_k0 (p := 1) rfl (by decide +kernel)
theorem dmX13_summitOf_2 : decode cX13_summitOf 2 = .ok (.invokevirtual 763, 3) := dw_at cX13_summitOf_k0 (p := 2) rfl (by decide +kernel)
theorem dmX13_summitOf_5 : decode cX13_summitOf 5 = .ok (.aload_n 0, 1) := dw_at cX13_summitOf_k0 (p := 5) rfl (by decide +kernel)
theorem dmX13_summitOf_6 : decode cX13_summitOf 6 = .ok (.getfield 326, 3) := dw_at cX13_summitOf_k0 (p := 6) rfl (by decide +kernel)
theorem dmX13_summitOf_9 : decode cX13_summitOf 9 = .ok (.iload_n 1, 1) := dw_at cX13_summitOf_k0 (p := 9) rfl (by decide +kernel)
theorem dmX13_summitOf_10 : decode cX13_summitOf 10 = .ok (.iaload, 1) := dw_at cX13_summitOf_k0 (p := 10) rfl (by decide +kernel)
theorem dmX13_summitOf_11 : decode cX13_summitOf 11 = .ok (.istore_n 2, 1) := dw_at cX13_summitOf_k0 (p := 11) rfl (by decide +kernel)
theorem dmX13_summitOf_12 : decode cX13_summitOf 12 = .ok (.aload_n 0, 1) := dw_at cX13_summitOf_k0 (p := 12) rfl (by decide +kernel)
theorem dmX13_summitOf_13 : decode cX13_summitOf 13 = .ok (.getfield 338, 3) := dw_at cX13_summitOf_k0 (p := 13) rfl (by decide +kernel)
theorem dmX13_summitOf_16 : decode cX13_summitOf 16 = .ok (.bipush 120, 2) := dw_at cX13_summitOf_k0 (p := 16) rfl (by decide +kernel)
theorem dmX13_summitOf_18 : decode cX13_summitOf 18 = .ok (.iload_n 2, 1) := dw_at cX13_summitOf_k0 (p := 18) rfl (by decide +kernel)
theorem dmX13_summitOf_19 : decode cX13_summitOf 19 = .ok (.imul, 1) := dw_at cX13_summitOf_k0 (p := 19) rfl (by decide +kernel)
theorem dmX13_summitOf_20 : decode cX13_summitOf 20 = .ok (.aload_n 0, 1) := dw_at cX13_summitOf_k0 (p := 20) rfl (by decide +kernel)
theorem dmX13_summitOf_21 : decode cX13_summitOf 21 = .ok (.getfield 329, 3) := dw_at cX13_summitOf_k0 (p := 21) rfl (by decide +kernel)
theorem dmX13_summitOf_24 : decode cX13_summitOf 24 = .ok (.iload_n 2, 1) := dw_at cX13_summitOf_k1 (p := 0) rfl (by decide +kernel)
theorem dmX13_summitOf_25 : decode cX13_summitOf 25 = .ok (.iaload, 1) := dw_at cX13_summitOf_k1 (p := 1) rfl (by decide +kernel)
theorem dmX13_summitOf_26 : decode cX13_summitOf 26 = .ok (.iadd, 1) := dw_at cX13_summitOf_k1 (p := 2) rfl (by decide +kernel)
theorem dmX13_summitOf_27 : decode cX13_summitOf 27 = .ok (.iconst 1, 1) := dw_at cX13_summitOf_k1 (p := 3) rfl (by decide +kernel)
theorem dmX13_summitOf_28 : decode cX13_summitOf 28 = .ok (.isub, 1) := dw_at cX13_summitOf_k1 (p := 4) rfl (by decide +kernel)
theorem dmX13_summitOf_29 : decode cX13_summitOf 29 = .ok (.iaload, 1) := dw_at cX13_summitOf_k1 (p := 5) rfl (by decide +kernel)
theorem dmX13_summitOf_30 : decode cX13_summitOf 30 = .ok (.istore_n 3, 1) := dw_at cX13_summitOf_k1 (p := 6) rfl (by decide +kernel)
theorem dmX13_summitOf_31 : decode cX13_summitOf 31 = .ok (.iconst 0, 1) := dw_at cX13_summitOf_k1 (p := 7) rfl (by decide +kernel)
theorem dmX13_summitOf_32 : decode cX13_summitOf 32 = .ok (.istore 4, 2) := dw_at cX13_summitOf_k1 (p := 8) rfl (by decide +kernel)
theorem dmX13_summitOf_34 : decode cX13_summitOf 34 = .ok (.iload 4, 2) := dw_at cX13_summitOf_k1 (p := 10) rfl (by decide +kernel)
theorem dmX13_summitOf_36 : decode cX13_summitOf 36 = .ok (.iload_n 3, 1) := dw_at cX13_summitOf_k1 (p := 12) rfl (by decide +kernel)
theorem dmX13_summitOf_37 : decode cX13_summitOf 37 = .ok (.if_icmp .ge 45, 3) := dw_at cX13_summitOf_k1 (p := 13) rfl (by decide +kernel)
theorem dmX13_summitOf_40 : decode cX13_summitOf 40 = .ok (.aload_n 0, 1) := dw_at cX13_summitOf_k1 (p := 16) rfl (by decide +kernel)
theorem dmX13_summitOf_41 : decode cX13_summitOf 41 = .ok (.getfield 751, 3) := dw_at cX13_summitOf_k1 (p := 17) rfl (by decide +kernel)
theorem dmX13_summitOf_44 : decode cX13_summitOf 44 = .ok (.ifCond .le 38, 3) := dw_at cX13_summitOf_k1 (p := 20) rfl (by decide +kernel)
theorem dmX13_summitOf_47 : decode cX13_summitOf 47 = .ok (.aload_n 0, 1) := dw_at cX13_summitOf_k1 (p := 23) rfl (by decide +kernel)
theorem dmX13_summitOf_48 : decode cX13_summitOf 48 = .ok (.getfield 748, 3) := dw_at cX13_summitOf_k2 (p := 0) rfl (by decide +kernel)
theorem dmX13_summitOf_51 : decode cX13_summitOf 51 = .ok (.istore 5, 2) := dw_at cX13_summitOf_k2 (p := 3) rfl (by decide +kernel)
theorem dmX13_summitOf_53 : decode cX13_summitOf 53 = .ok (.aload_n 0, 1) := dw_at cX13_summitOf_k2 (p := 5) rfl (by decide +kernel)
theorem dmX13_summitOf_54 : decode cX13_summitOf 54 = .ok (.iload_n 2, 1) := dw_at cX13_summitOf_k2 (p := 6) rfl (by decide +kernel)
theorem dmX13_summitOf_55 : decode cX13_summitOf 55 = .ok (.iconst 0, 1) := dw_at cX13_summitOf_k2 (p := 7) rfl (by decide +kernel)
theorem dmX13_summitOf_56 : decode cX13_summitOf 56 = .ok (.invokevirtual 776, 3) := dw_at cX13_summitOf_k2 (p := 8) rfl (by decide +kernel)
theorem dmX13_summitOf_59 : decode cX13_summitOf 59 = .ok (.aload_n 0, 1) := dw_at cX13_summitOf_k2 (p := 11) rfl (by decide +kernel)
theorem dmX13_summitOf_60 : decode cX13_summitOf 60 = .ok (.getfield 748, 3) := dw_at cX13_summitOf_k2 (p := 12) rfl (by decide +kernel)
theorem dmX13_summitOf_63 : decode cX13_summitOf 63 = .ok (.iload 5, 2) := dw_at cX13_summitOf_k2 (p := 15) rfl (by decide +kernel)
theorem dmX13_summitOf_65 : decode cX13_summitOf 65 = .ok (.if_icmp .le 7, 3) := dw_at cX13_summitOf_k2 (p := 17) rfl (by decide +kernel)
theorem dmX13_summitOf_68 : decode cX13_summitOf 68 = .ok (.iconst (-1), 1) := dw_at cX13_summitOf_k2 (p := 20) rfl (by decide +kernel)
theorem dmX13_summitOf_69 : decode cX13_summitOf 69 = .ok (.goto 5, 3) := dw_at cX13_summitOf_k2 (p := 21) rfl (by decide +kernel)
theorem dmX13_summitOf_72 : decode cX13_summitOf 72 = .ok (.iload 4, 2) := dw_at cX13_summitOf_k3 (p := 0) rfl (by decide +kernel)
theorem dmX13_summitOf_74 : decode cX13_summitOf 74 = .ok (.istore 4, 2) := dw_at cX13_summitOf_k3 (p := 2) rfl (by decide +kernel)
theorem dmX13_summitOf_76 : decode cX13_summitOf 76 = .ok (.iinc 4 1, 3) := dw_at cX13_summitOf_k3 (p := 4) rfl (by decide +kernel)
theorem dmX13_summitOf_79 : decode cX13_summitOf 79 = .ok (.goto (-45), 3) := dw_at cX13_summitOf_k3 (p := 7) rfl (by decide +kernel)
theorem dmX13_summitOf_82 : decode cX13_summitOf 82 = .ok (.iconst 0, 1) := dw_at cX13_summitOf_k3 (p := 10) rfl (by decide +kernel)
theorem dmX13_summitOf_83 : decode cX13_summitOf 83 = .ok (.istore 4, 2) := dw_at cX13_summitOf_k3 (p := 11) rfl (by decide +kernel)
theorem dmX13_summitOf_85 : decode cX13_summitOf 85 = .ok (.iload 4, 2) := dw_at cX13_summitOf_k3 (p := 13) rfl (by decide +kernel)
theorem dmX13_summitOf_87 : decode cX13_summitOf 87 = .ok (.iload_n 3, 1) := dw_at cX13_summitOf_k3 (p := 15) rfl (by decide +kernel)
theorem dmX13_summitOf_88 : decode cX13_summitOf 88 = .ok (.if_icmp .ge 55, 3) := dw_at cX13_summitOf_k3 (p := 16) rfl (by decide +kernel)
theorem dmX13_summitOf_91 : decode cX13_summitOf 91 = .ok (.aload_n 0, 1) := dw_at cX13_summitOf_k3 (p := 19) rfl (by decide +kernel)
theorem dmX13_summitOf_92 : decode cX13_summitOf 92 = .ok (.getfield 751, 3) := dw_at cX13_summitOf_k3 (p := 20) rfl (by decide +kernel)
theorem dmX13_summitOf_95 : decode cX13_summitOf 95 = .ok (.ifCond .le 48, 3) := dw_at cX13_summitOf_k3 (p := 23) rfl (by decide +kernel)
theorem dmX13_summitOf_98 : decode cX13_summitOf 98 = .ok (.aload_n 0, 1) := dw_at cX13_summitOf_k4 (p := 0) rfl (by decide +kernel)
theorem dmX13_summitOf_99 : decode cX13_summitOf 99 = .ok (.getfield 748, 3) := dw_at cX13_summitOf_k4 (p := 1) rfl (by decide +kernel)
theorem dmX13_summitOf_102 : decode cX13_summitOf 102 = .ok (.aload_n 0, 1) := dw_at cX13_summitOf_k4 (p := 4) rfl (by decide +kernel)
theorem dmX13_summitOf_103 : decode cX13_summitOf 103 = .ok (.getfield 751, 3) := dw_at cX13_summitOf_k4 (p := 5) rfl (by decide +kernel)
theorem dmX13_summitOf_106 : decode cX13_summitOf 106 = .ok (.iadd, 1) := dw_at cX13_summitOf_k4 (p := 8) rfl (by decide +kernel)
theorem dmX13_summitOf_107 : decode cX13_summitOf 107 = .ok (.istore 5, 2) := dw_at cX13_summitOf_k4 (p := 9) rfl (by decide +kernel)
theorem dmX13_summitOf_109 : decode cX13_summitOf 109 = .ok (.aload_n 0, 1) := dw_at cX13_summitOf_k4 (p := 11) rfl (by decide +kernel)
theorem dmX13_summitOf_110 : decode cX13_summitOf 110 = .ok (.iload_n 2, 1) := dw_at cX13_summitOf_k4 (p := 12) rfl (by decide +kernel)
theorem dmX13_summitOf_111 : decode cX13_summitOf 111 = .ok (.iconst 1, 1) := dw_at cX13_summitOf_k4 (p := 13) rfl (by decide +kernel)
theorem dmX13_summitOf_112 : decode cX13_summitOf 112 = .ok (.invokevirtual 776, 3) := dw_at cX13_summitOf_k4 (p := 14) rfl (by decide +kernel)
theorem dmX13_summitOf_115 : decode cX13_summitOf 115 = .ok (.aload_n 0, 1) := dw_at cX13_summitOf_k4 (p := 17) rfl (by decide +kernel)
theorem dmX13_summitOf_116 : decode cX13_summitOf 116 = .ok (.getfield 748, 3) := dw_at cX13_summitOf_k4 (p := 18) rfl (by decide +kernel)
theorem dmX13_summitOf_119 : decode cX13_summitOf 119 = .ok (.aload_n 0, 1) := dw_at cX13_summitOf_k4 (p := 21) rfl (by decide +kernel)
theorem dmX13_summitOf_120 : decode cX13_summitOf 120 = .ok (.getfield 751, 3) := dw_at cX13_summitOf_k4 (p := 22) rfl (by decide +kernel)
theorem dmX13_summitOf_123 : decode cX13_summitOf 123 = .ok (.iadd, 1) := dw_at cX13_summitOf_k5 (p := 0) rfl (by decide +kernel)
theorem dmX13_summitOf_124 : decode cX13_summitOf 124 = .ok (.iload 5, 2) := dw_at cX13_summitOf_k5 (p := 1) rfl (by decide +kernel)
theorem dmX13_summitOf_126 : decode cX13_summitOf 126 = .ok (.if_icmp .ge 7, 3) := dw_at cX13_summitOf_k5 (p := 3) rfl (by decide +kernel)
theorem dmX13_summitOf_129 : decode cX13_summitOf 129 = .ok (.iconst (-1), 1) := dw_at cX13_summitOf_k5 (p := 6) rfl (by decide +kernel)
theorem dmX13_summitOf_130 : decode cX13_summitOf 130 = .ok (.goto 5, 3) := dw_at cX13_summitOf_k5 (p := 7) rfl (by decide +kernel)
theorem dmX13_summitOf_133 : decode cX13_summitOf 133 = .ok (.iload 4, 2) := dw_at cX13_summitOf_k5 (p := 10) rfl (by decide +kernel)
theorem dmX13_summitOf_135 : decode cX13_summitOf 135 = .ok (.istore 4, 2) := dw_at cX13_summitOf_k5 (p := 12) rfl (by decide +kernel)
theorem dmX13_summitOf_137 : decode cX13_summitOf 137 = .ok (.iinc 4 1, 3) := dw_at cX13_summitOf_k5 (p := 14) rfl (by decide +kernel)
theorem dmX13_summitOf_140 : decode cX13_summitOf 140 = .ok (.goto (-55), 3) := dw_at cX13_summitOf_k5 (p := 17) rfl (by decide +kernel)
theorem dmX13_summitOf_143 : decode cX13_summitOf 143 = .ok (.return_, 1) := dw_at cX13_summitOf_k5 (p := 20) rfl (by decide +kernel)
def qm_X13_summitOf_0 (K : Nat) (go : Nat → Int32 → Int32 → Int32 → Int32 → Int32 → Int32 → ow_MS → Option ow_MS) (x1 : Int32) (x2 : Int32) (x3 : Int32) (x4 : Int32) (x5 : Int32) (t0 : Int32) (z : ow_MS) : Option ow_MS :=
 cs0 (qe_X13_formOf K x1 z) fun z1 => rdI mX z1 96 x1 fun v2 => rdI mX z1 97 v2 fun v3 => rdI mX z1 100 (((120 * v2) + v3) - 1) fun v4 => go 1 x1 v2 v4 0 0 0 z1
def qm_X13_summitOf_1 (K : Nat) (go : Nat → Int32 → Int32 → Int32 → Int32 → Int32 → Int32 → ow_MS → Option ow_MS) (x1 : Int32) (x2 : Int32) (x3 : Int32) (x4 : Int32) (x5 : Int32) (t0 : Int32) (z : ow_MS) : Option ow_MS :=
 (if x3 ≤ x4 then go 3 x1 x2 x3 x4 0 0 z
 else rdF z 113 fun v5 => (if v5 ≤ 0 then go 3 x1 x2 x3 x4 0 0 z
 else rdF z 112 fun v6 => cs0 (qe_X13_cycle K x2 0 z) fun z7 => rdF z7 112 fun v8 => (if v8 ≤ v6 then go 2 x1 x2 x3 x4 v6 x4 z7
 else go 2 x1 x2 x3 x4 v6 (-1) z7)))
def qm_X13_summitOf_2 (K : Nat) (go : Nat → Int32 → Int32 → Int32 → Int32 → Int32 → Int32 → ow_MS → Option ow_MS) (x1 : Int32) (x2 : Int32) (x3 : Int32) (x4 : Int32) (x5 : Int32) (t0 : Int32) (z : ow_MS) : Option ow_MS :=
 go 1 x1 x2 x3 (t0 + 1) 0 0 z
def qm_X13_summitOf_3 (K : Nat) (go : Nat → Int32 → Int32 → Int32 → Int32 → Int32 → Int32 → ow_MS → Option ow_MS) (x1 : Int32) (x2 : Int32) (x3 : Int32) (x4 : Int32) (x5 : Int32) (t0 : Int32) (z : ow_MS) : Option ow_MS :=
 go 4 x1 x2 x3 0 0 0 z
def qm_X13_summitOf_4 (K : Nat) (go : Nat → Int32 → Int32 → Int32 → Int32 → Int32 → Int32 → ow_MS → Option ow_MS) (x1 : Int32) (x2 : Int32) (x3 : Int32) (x4 : Int32) (x5 : Int32) (t0 : Int32) (z : ow_MS) : Option ow_MS :=
 (if x3 ≤ x4 then some z
 else rdF z 113 fun v9 => (if v9 ≤ 0 then some z
 else rdF z 112 fun v10 => rdF z 113 fun v11 => cs0 (qe_X13_cycle K x2 1 z) fun z12 => rdF z12 112 fun v13 => rdF z12 113 fun v14 => (if (v10 + v11) ≤ (v13 + v14) then go 5 x1 x2 x3 x4 (v10 + v11) x4 z12
 else go 5 x1 x2 x3 x4 (v10 + v11) (-1) z12)))
def qm_X13_summitOf_5 (K : Nat) (go : Nat → Int32 → Int32 → Int32 → Int32 → Int32 → Int32 → ow_MS → Option ow_MS) (x1 : Int32) (x2 : Int32) (x3 : Int32) (x4 : Int32) (x5 : Int32) (t0 : Int32) (z : ow_MS) : Option ow_MS :=
 go 4 x1 x2 x3 (t0 + 1) 0 0 z
def qb_X13_summitOf (K : Nat) (go : Nat → Int32 → Int32 → Int32 → Int32 → Int32 → Int32 → ow_MS → Option ow_MS) (L : Nat) (x1 : Int32) (x2 : Int32) (x3 : Int32) (x4 : Int32) (x5 : Int32) (t0 : Int32) (z : ow_MS) : Option ow_MS := match L with
  | 0 => qm_X13_summitOf_0 K go x1 x2 x3 x4 x5 t0 z
  | 1 => qm_X13_summitOf_1 K go x1 x2 x3 x4 x5 t0 z
  | 2 => qm_X13_summitOf_2 K go x1 x2 x3 x4 x5 t0 z
  | 3 => qm_X13_summitOf_3 K go x1 x2 x3 x4 x5 t0 z
  | 4 => qm_X13_summitOf_4 K go x1 x2 x3 x4 x5 t0 z
  | 5 => qm_X13_summitOf_5 K go x1 x2 x3 x4 x5 t0 z
  | _ => none
def q_X13_summitOf (K : Nat) : Nat → Nat → Int32 → Int32 → Int32 → Int32 → Int32 → Int32 → ow_MS → Option ow_MS
  | 0 => fun _ _ _ _ _ _ _ _ => none
  | k + 1 => qb_X13_summitOf K (q_X13_summitOf K k)
def qe_X13_summitOf (K : Nat) (x1 : Int32) (z : ow_MS) : Option ow_MS := q_X13_summitOf K K 0 x1 0 0 0 0 0 z
abbrev wm_X13_summitOf : List Cond := .code yX13_summitOf cX13_summitOf 6 none :: wM
theorem cd_X13_summitOf : yX13_summitOf.cls = RX13 ∧ yX13_summitOf.cls ≠ "java/lang/invoke/MethodHandle" ∧ yX13_summitOf.cls ≠ "java/lang/invoke/VarHandle" ∧ (parseMethodDescriptor yX13_summitOf.desc).map (fun d => d.parameters.length) = some 1 := by decide +kernel
set_option maxHeartbeats 4000000 in
set_option maxRecDepth 100000 in
theorem km_X13_summitOf (l : Launch) (D : va_G) (q : ow_Q5) (u : Nat → Nat) (hU : tw_inj mX u) (K : Nat) (x1 : Int32)  (z z1 : ow_MS) (hq : qe_X13_summitOf K x1 z = some z1) : Met l yX13_summitOf wm_X13_summitOf ({ frames := 3, cells := 0, slots := 0, locals := 81 } : Room) (va_Pc [.ref (u 0), .int x1] (mw_pre D q u z)) (va_Qv (fun (_ : Unit) => True) (fun _ t => va_P D vwCl (tw mX q u z1) t.heap) (tw_A mX u)) 0 0 (tw_A mX u) := by
  refine Met.ofW (cc := cX13_summitOf) (maxL := 6) (ret := none) (by decide) rfl ?_
  intro p e s m args below meth c s₁ B hml hv
  obtain ⟨rfl, hP, hK, hN⟩ := hv
  have hx := B.exec
  have hb := B.bytes
  have hr := B.returns
  have hts := atoms_spec (ws := wm_X13_summitOf) B.pre
  have hT : ∀ w ∈ wM, w.before ([.ref (u 0), .int x1] : List Value).toArray s = true := fun w h => hts w (List.mem_cons_of_mem _ h)
  have hown : s.vm.findClass RX13 = some m.cls := findClass_of_methodNamed B.named
  have hlocks := B.notSynchronized
  have hM : tw_M D vwCl mX q s.heap u z s.heap [] := ⟨hP, va_S.rf⟩
  have hl := lv_entry ([.ref (u 0), .int x1]) (n := 6) (Nat.le_of_ble_eq_true rfl)
  rw [lg_entry_eq]
  generalize (lg_sl ([.ref (u 0), .int x1]) ++ List.replicate (6 - (lg_sl ([.ref (u 0), .int x1])).length) Slot.unset).toArray = ls at hl ⊢
  have hl : lv_has ls 6 [(0, .ref (u 0)), (1, .int x1)] := hl
  refine ow_named (fun QQ hQQ => ?_)
  generalize ([.ref (u 0), .int x1] : List Value).toArray = args at hts hT hQQ ⊢
  have key : ∀ k : Nat, (∀ (x1 : Int32) (x2 : Int32) (x3 : Int32) (x4 : Int32) (x5 : Int32) (t0 : Int32) (z : ow_MS) (H : Heap) (locs : List Loc) (ls : Array Slot), tw_M D vwCl mX q s.heap u z H locs → lv_has ls 6 [(0, .ref (u 0)), (1, .int x1)] → q_X13_summitOf K k 0 x1 x2 x3 x4 x5 t0 z = some z1 → W p l e ({ frames := 3, cells := 0, slots := 0, locals := 81 } : Room) s m args below meth c H locs 0 0 QQ (F0 m 0 ls [])) ∧ (∀ (x1 : Int32) (x2 : Int32) (x3 : Int32) (x4 : Int32) (x5 : Int32) (t0 : Int32) (z : ow_MS) (H : Heap) (locs : List Loc) (ls : Array Slot), tw_M D vwCl mX q s.heap u z H locs → lv_has ls 6 [(0, .ref (u 0)), (1, .int x1), (2, .int x2), (3, .int x3), (4, .int x4)] → q_X13_summitOf K k 1 x1 x2 x3 x4 x5 t0 z = some z1 → W p l e ({ frames := 3, cells := 0, slots := 0, locals := 81 } : Room) s m args below meth c H locs 0 0 QQ (F0 m 34 ls [])) ∧ (∀ (x1 : Int32) (x2 : Int32) (x3 : Int32) (x4 : Int32) (x5 : Int32) (t0 : Int32) (z : ow_MS) (H : Heap) (locs : List Loc) (ls : Array Slot), tw_M D vwCl mX q s.heap u z H locs → lv_has ls 6 [(0, .ref (u 0)), (1, .int x1), (2, .int x2), (3, .int x3), (4, .int x4), (5, .int x5)] → q_X13_summitOf K k 2 x1 x2 x3 x4 x5 t0 z = some z1 → W p l e ({ frames := 3, cells := 0, slots := 0, locals := 81 } : Room) s m args below meth c H locs 0 0 QQ (F0 m 74 ls [.int t0])) ∧ (∀ (x1 : Int32) (x2 : Int32) (x3 : Int32) (x4 : Int32) (x5 : Int32) (t0 : Int32) (z : ow_MS) (H : Heap) (locs : List Loc) (ls : Array Slot), tw_M D vwCl mX q s.heap u z H locs → lv_has ls 6 [(0, .ref (u 0)), (1, .int x1), (2, .int x2), (3, .int x3), (4, .int x4)] → q_X13_summitOf K k 3 x1 x2 x3 x4 x5 t0 z = some z1 → W p l e ({ frames := 3, cells := 0, slots := 0, locals := 81 } : Room) s m args below meth c H locs 0 0 QQ (F0 m 82 ls [])) ∧ (∀ (x1 : Int32) (x2 : Int32) (x3 : Int32) (x4 : Int32) (x5 : Int32) (t0 : Int32) (z : ow_MS) (H : Heap) (locs : List Loc) (ls : Array Slot), tw_M D vwCl mX q s.heap u z H locs → lv_has ls 6 [(0, .ref (u 0)), (1, .int x1), (2, .int x2), (3, .int x3), (4, .int x4)] → q_X13_summitOf K k 4 x1 x2 x3 x4 x5 t0 z = some z1 → W p l e ({ frames := 3, cells := 0, slots := 0, locals := 81 } : Room) s m args below meth c H locs 0 0 QQ (F0 m 85 ls [])) ∧ (∀ (x1 : Int32) (x2 : Int32) (x3 : Int32) (x4 : Int32) (x5 : Int32) (t0 : Int32) (z : ow_MS) (H : Heap) (locs : List Loc) (ls : Array Slot), tw_M D vwCl mX q s.heap u z H locs → lv_has ls 6 [(0, .ref (u 0)), (1, .int x1), (2, .int x2), (3, .int x3), (4, .int x4), (5, .int x5)] → q_X13_summitOf K k 5 x1 x2 x3 x4 x5 t0 z = some z1 → W p l e ({ frames := 3, cells := 0, slots := 0, locals := 81 } : Room) s m args below meth c H locs 0 0 QQ (F0 m 135 ls [.int t0])) := by
    intro k
    induction k with
    | zero => exact ⟨fun _ _ _ _ _ _ _ _ _ _  _ _ hq => tw_no hq, fun _ _ _ _ _ _ _ _ _ _  _ _ hq => tw_no hq, fun _ _ _ _ _ _ _ _ _ _  _ _ hq => tw_no hq, fun _ _ _ _ _ _ _ _ _ _  _ _ hq => tw_no hq, fun _ _ _ _ _ _ _ _ _ _  _ _ hq => tw_no hq, fun _ _ _ _ _ _ _ _ _ _  _ _ hq => tw_no hq⟩
    | succ k ih =>
      obtain ⟨ih_0, ih_1, ih_2, ih_3, ih_4, ih_5⟩ := ih
      refine ⟨?_, ?_, ?_, ?_, ?_, ?_⟩
      · intro x1 x2 x3 x4 x5 t0 z H locs ls  hM hl hq
        have hq : qm_X13_summitOf_0 K (q_X13_summitOf K k) x1 x2 x3 x4 x5 t0 z = some z1 := hq
        unfold qm_X13_summitOf_0 at hq
        refine lv_aload_n hx hb dmX13_summitOf_0 rfl (lv_at hl 0 rfl) ?_
        refine lv_iload_n hx hb dmX13_summitOf_1 rfl (lv_at hl 1 rfl) ?_
        obtain ⟨z1, hcq, hq⟩ := tw_cl0 hq
        refine tw_calv hM (va_runV (As := [.int x1]) (rest := []) ⟨hx, hb, hml, hown, hts⟩ (km_X13_formOf l D q u hU K x1 z z1 hcq) (cwV 1 hts (tw_gV wM_good wq_522 wq_523 wq_524 wq_61 wq_521) rfl rfl rfl cd_X13_formOf ⟨(Nat.le_of_ble_eq_true rfl), (Nat.le_of_ble_eq_true rfl)⟩) (mw_preV hK hN hM mo_0 rfl) rfl rfl hl.1 rfl (lv_room (Nat.le_of_ble_eq_true rfl)) dmX13_summitOf_2 ⟨(Nat.le_of_ble_eq_true rfl), (Nat.le_of_ble_eq_true rfl)⟩) (fun H locs hM => ?_)
        refine lv_aload_n hx hb dmX13_summitOf_5 rfl (lv_at hl 0 rfl) ?_
        refine mg13_326 hx hb hT hown hK hM dmX13_summitOf_6 ?_
        refine lv_iload_n hx hb dmX13_summitOf_9 rfl (lv_at hl 1 rfl) ?_
        refine tw_iald mX_ok hx hb hK hM mr_96 hq dmX13_summitOf_10 (fun v2 hq => ?_)
        refine lv_istore_n (lv' := [(2, .int v2), (0, .ref (u 0)), (1, .int x1)]) hx hb dmX13_summitOf_11 rfl hl (by decide) rfl (fun ls hl => ?_)
        refine lv_aload_n hx hb dmX13_summitOf_12 rfl (lv_at hl 1 rfl) ?_
        refine mg13_338 hx hb hT hown hK hM dmX13_summitOf_13 ?_
        refine lv_bipush (v := 120) hx hb dmX13_summitOf_16 (by decide) ?_
        refine lv_iload_n hx hb dmX13_summitOf_18 rfl (lv_at hl 0 rfl) ?_
        refine lv_imul hx hb dmX13_summitOf_19 ?_
        refine lv_aload_n hx hb dmX13_summitOf_20 rfl (lv_at hl 1 rfl) ?_
        refine mg13_329 hx hb hT hown hK hM dmX13_summitOf_21 ?_
        refine lv_iload_n hx hb dmX13_summitOf_24 rfl (lv_at hl 0 rfl) ?_
        refine tw_iald mX_ok hx hb hK hM mr_97 hq dmX13_summitOf_25 (fun v3 hq => ?_)
        refine lv_iadd hx hb dmX13_summitOf_26 ?_
        refine lv_iconst (v := 1) hx hb dmX13_summitOf_27 (by decide) ?_
        refine lv_isub hx hb dmX13_summitOf_28 ?_
        refine tw_iald mX_ok hx hb hK hM mr_100 hq dmX13_summitOf_29 (fun v4 hq => ?_)
        refine lv_istore_n (lv' := [(3, .int v4), (2, .int v2), (0, .ref (u 0)), (1, .int x1)]) hx hb dmX13_summitOf_30 rfl hl (by decide) rfl (fun ls hl => ?_)
        refine lv_iconst (v := 0) hx hb dmX13_summitOf_31 (by decide) ?_
        refine lv_istore (lv' := [(4, .int 0), (3, .int v4), (2, .int v2), (0, .ref (u 0)), (1, .int x1)]) hx hb dmX13_summitOf_32 hl (by decide) rfl (fun ls hl => ?_)
        exact ih_1 x1 v2 v4 0 0 0 z1 H locs ls hM (lv_sub hl [3, 4, 2, 1, 0] rfl) hq
      · intro x1 x2 x3 x4 x5 t0 z H locs ls  hM hl hq
        have hq : qm_X13_summitOf_1 K (q_X13_summitOf K k) x1 x2 x3 x4 x5 t0 z = some z1 := hq
        unfold qm_X13_summitOf_1 at hq
        refine lv_iload hx hb dmX13_summitOf_34 (lv_at hl 4 rfl) ?_
        refine lv_iload_n hx hb dmX13_summitOf_36 rfl (lv_at hl 3 rfl) ?_
        refine lv_icmp_ge (tgt := 82) hx hb dmX13_summitOf_37 (by decide) (fun hc => ?_) (fun hc => ?_)
        · have hq := tw_it hq hc
          exact ih_3 x1 x2 x3 x4 0 0 z H locs ls hM (lv_sub hl [0, 1, 2, 3, 4] rfl) hq
        · have hq := tw_if hq hc
          refine lv_aload_n hx hb dmX13_summitOf_40 rfl (lv_at hl 0 rfl) ?_
          refine mg13_751 hx hb hT hown hK hM hq dmX13_summitOf_41 (fun v5 hq => ?_)
          refine lv_if_le (tgt := 82) hx hb dmX13_summitOf_44 (by decide) (fun hc => ?_) (fun hc => ?_)
          · have hq := tw_it hq hc
            exact ih_3 x1 x2 x3 x4 0 0 z H locs ls hM (lv_sub hl [0, 1, 2, 3, 4] rfl) hq
          · have hq := tw_if hq hc
            refine lv_aload_n hx hb dmX13_summitOf_47 rfl (lv_at hl 0 rfl) ?_
            refine mg13_748 hx hb hT hown hK hM hq dmX13_summitOf_48 (fun v6 hq => ?_)
            refine lv_istore (lv' := [(5, .int v6), (0, .ref (u 0)), (1, .int x1), (2, .int x2), (3, .int x3), (4, .int x4)]) hx hb dmX13_summitOf_51 hl (by decide) rfl (fun ls hl => ?_)
            refine lv_aload_n hx hb dmX13_summitOf_53 rfl (lv_at hl 1 rfl) ?_
            refine lv_iload_n hx hb dmX13_summitOf_54 rfl (lv_at hl 3 rfl) ?_
            refine lv_iconst (v := 0) hx hb dmX13_summitOf_55 (by decide) ?_
            obtain ⟨z7, hcq, hq⟩ := tw_cl0 hq
            refine tw_calv hM (va_runV (As := [.int x2, .int 0]) (rest := []) ⟨hx, hb, hml, hown, hts⟩ (km_X13_cycle l D q u hU K x2 0 z z7 hcq) (cwV 2 hts (tw_gV wM_good wq_543 wq_544 wq_545 wq_61 wq_542) rfl rfl rfl cd_X13_cycle ⟨(Nat.le_of_ble_eq_true rfl), (Nat.le_of_ble_eq_true rfl)⟩) (mw_preV hK hN hM mo_0 rfl) rfl rfl hl.1 rfl (lv_room (Nat.le_of_ble_eq_true rfl)) dmX13_summitOf_56 ⟨(Nat.le_of_ble_eq_true rfl), (Nat.le_of_ble_eq_true rfl)⟩) (fun H locs hM => ?_)
            refine lv_aload_n hx hb dmX13_summitOf_59 rfl (lv_at hl 1 rfl) ?_
            refine mg13_748 hx hb hT hown hK hM hq dmX13_summitOf_60 (fun v8 hq => ?_)
            refine lv_iload hx hb dmX13_summitOf_63 (lv_at hl 0 rfl) ?_
            refine lv_icmp_le (tgt := 72) hx hb dmX13_summitOf_65 (by decide) (fun hc => ?_) (fun hc => ?_)
            · have hq := tw_it hq hc
              refine lv_iload hx hb dmX13_summitOf_72 (lv_at hl 5 rfl) ?_
              exact ih_2 x1 x2 x3 x4 v6 x4 z7 H locs ls hM (lv_sub hl [1, 2, 3, 4, 5, 0] rfl) hq
            · have hq := tw_if hq hc
              refine lv_iconst (v := (-1)) hx hb dmX13_summitOf_68 (by decide) ?_
              refine lv_goto (tgt := 74) hx hb dmX13_summitOf_69 (by decide) ?_
              exact ih_2 x1 x2 x3 x4 v6 (-1) z7 H locs ls hM (lv_sub hl [1, 2, 3, 4, 5, 0] rfl) hq
      · intro x1 x2 x3 x4 x5 t0 z H locs ls  hM hl hq
        have hq : qm_X13_summitOf_2 K (q_X13_summitOf K k) x1 x2 x3 x4 x5 t0 z = some z1 := hq
        unfold qm_X13_summitOf_2 at hq
        refine lv_istore (lv' := [(4, .int t0), (0, .ref (u 0)), (1, .int x1), (2, .int x2), (3, .int x3), (5, .int x5)]) hx hb dmX13_summitOf_74 hl (by decide) rfl (fun ls hl => ?_)
        refine lv_iinc (v := (t0 + 1)) (lv' := [(4, .int (t0 + 1)), (0, .ref (u 0)), (1, .int x1), (2, .int x2), (3, .int x3), (5, .int x5)]) hx hb dmX13_summitOf_76 hl (k := 0) rfl rfl (by decide) rfl (fun ls hl => ?_)
        refine lv_goto (tgt := 34) hx hb dmX13_summitOf_79 (by decide) ?_
        exact ih_1 x1 x2 x3 (t0 + 1) 0 0 z H locs ls hM (lv_sub hl [1, 2, 3, 4, 0] rfl) hq
      · intro x1 x2 x3 x4 x5 t0 z H locs ls  hM hl hq
        have hq : qm_X13_summitOf_3 K (q_X13_summitOf K k) x1 x2 x3 x4 x5 t0 z = some z1 := hq
        unfold qm_X13_summitOf_3 at hq
        refine lv_iconst (v := 0) hx hb dmX13_summitOf_82 (by decide) ?_
        refine lv_istore (lv' := [(4, .int 0), (0, .ref (u 0)), (1, .int x1), (2, .int x2), (3, .int x3)]) hx hb dmX13_summitOf_83 hl (by decide) rfl (fun ls hl => ?_)
        exact ih_4 x1 x2 x3 0 0 0 z H locs ls hM (lv_sub hl [1, 2, 3, 4, 0] rfl) hq
      · intro x1 x2 x3 x4 x5 t0 z H locs ls  hM hl hq
        have hq : qm_X13_summitOf_4 K (q_X13_summitOf K k) x1 x2 x3 x4 x5 t0 z = some z1 := hq
        unfold qm_X13_summitOf_4 at hq
        refine lv_iload hx hb dmX13_summitOf_85 (lv_at hl 4 rfl) ?_
        refine lv_iload_n hx hb dmX13_summitOf_87 rfl (lv_at hl 3 rfl) ?_
        refine lv_icmp_ge (tgt := 143) hx hb dmX13_summitOf_88 (by decide) (fun hc => ?_) (fun hc => ?_)
        · have hq := tw_it hq hc
          exact mw_vret hx hb hr hlocks hM hq hQQ dmX13_summitOf_143
        · have hq := tw_if hq hc
          refine lv_aload_n hx hb dmX13_summitOf_91 rfl (lv_at hl 0 rfl) ?_
          refine mg13_751 hx hb hT hown hK hM hq dmX13_summitOf_92 (fun v9 hq => ?_)
          refine lv_if_le (tgt := 143) hx hb dmX13_summitOf_95 (by decide) (fun hc => ?_) (fun hc => ?_)
          · have hq := tw_it hq hc
            exact mw_vret hx hb hr hlocks hM hq hQQ dmX13_summitOf_143
          · have hq := tw_if hq hc
            refine lv_aload_n hx hb dmX13_summitOf_98 rfl (lv_at hl 0 rfl) ?_
            refine mg13_748 hx hb hT hown hK hM hq dmX13_summitOf_99 (fun v10 hq => ?_)
            refine lv_aload_n hx hb dmX13_summitOf_102 rfl (lv_at hl 0 rfl) ?_
            refine mg13_751 hx hb hT hown hK hM hq dmX13_summitOf_103 (fun v11 hq => ?_)
            refine lv_iadd hx hb dmX13_summitOf_106 ?_
            refine lv_istore (lv' := [(5, .int (v10 + v11)), (0, .ref (u 0)), (1, .int x1), (2, .int x2), (3, .int x3), (4, .int x4)]) hx hb dmX13_summitOf_107 hl (by decide) rfl (fun ls hl => ?_)
            refine lv_aload_n hx hb dmX13_summitOf_109 rfl (lv_at hl 1 rfl) ?_
            refine lv_iload_n hx hb dmX13_summitOf_110 rfl (lv_at hl 3 rfl) ?_
            refine lv_iconst (v := 1) hx hb dmX13_summitOf_111 (by decide) ?_
            obtain ⟨z12, hcq, hq⟩ := tw_cl0 hq
            refine tw_calv hM (va_runV (As := [.int x2, .int 1]) (rest := []) ⟨hx, hb, hml, hown, hts⟩ (km_X13_cycle l D q u hU K x2 1 z z12 hcq) (cwV 2 hts (tw_gV wM_good wq_543 wq_544 wq_545 wq_61 wq_542) rfl rfl rfl cd_X13_cycle ⟨(Nat.le_of_ble_eq_true rfl), (Nat.le_of_ble_eq_true rfl)⟩) (mw_preV hK hN hM mo_0 rfl) rfl rfl hl.1 rfl (lv_room (Nat.le_of_ble_eq_true rfl)) dmX13_summitOf_112 ⟨(Nat.le_of_ble_eq_true rfl), (Nat.le_of_ble_eq_true rfl)⟩) (fun H locs hM => ?_)
            refine lv_aload_n hx hb dmX13_summitOf_115 rfl (lv_at hl 1 rfl) ?_
            refine mg13_748 hx hb hT hown hK hM hq dmX13_summitOf_116 (fun v13 hq => ?_)
            refine lv_aload_n hx hb dmX13_summitOf_119 rfl (lv_at hl 1 rfl) ?_
            refine mg13_751 hx hb hT hown hK hM hq dmX13_summitOf_120 (fun v14 hq => ?_)
            refine lv_iadd hx hb dmX13_summitOf_123 ?_
            refine lv_iload hx hb dmX13_summitOf_124 (lv_at hl 0 rfl) ?_
            refine lv_icmp_ge (tgt := 133) hx hb dmX13_summitOf_126 (by decide) (fun hc => ?_) (fun hc => ?_)
            · have hq := tw_it hq hc
              refine lv_iload hx hb dmX13_summitOf_133 (lv_at hl 5 rfl) ?_
              exact ih_5 x1 x2 x3 x4 (v10 + v11) x4 z12 H locs ls hM (lv_sub hl [1, 2, 3, 4, 5, 0] rfl) hq
            · have hq := tw_if hq hc
              refine lv_iconst (v := (-1)) hx hb dmX13_summitOf_129 (by decide) ?_
              refine lv_goto (tgt := 135) hx hb dmX13_summitOf_130 (by decide) ?_
              exact ih_5 x1 x2 x3 x4 (v10 + v11) (-1) z12 H locs ls hM (lv_sub hl [1, 2, 3, 4, 5, 0] rfl) hq
      · intro x1 x2 x3 x4 x5 t0 z H locs ls  hM hl hq
        have hq : qm_X13_summitOf_5 K (q_X13_summitOf K k) x1 x2 x3 x4 x5 t0 z = some z1 := hq
        unfold qm_X13_summitOf_5 at hq
        refine lv_istore (lv' := [(4, .int t0), (0, .ref (u 0)), (1, .int x1), (2, .int x2), (3, .int x3), (5, .int x5)]) hx hb dmX13_summitOf_135 hl (by decide) rfl (fun ls hl => ?_)
        refine lv_iinc (v := (t0 + 1)) (lv' := [(4, .int (t0 + 1)), (0, .ref (u 0)), (1, .int x1), (2, .int x2), (3, .int x3), (5, .int x5)]) hx hb dmX13_summitOf_137 hl (k := 0) rfl rfl (by decide) rfl (fun ls hl => ?_)
        refine lv_goto (tgt := 85) hx hb dmX13_summitOf_140 (by decide) ?_
        exact ih_4 x1 x2 x3 (t0 + 1) 0 0 z H locs ls hM (lv_sub hl [1, 2, 3, 4, 0] rfl) hq
  exact (key K).1 x1 0 0 0 0 0 z s.heap [] ls  hM (lv_sub hl [0, 1] rfl) hq
theorem dmX13_isThere_0 : decode cX13_isThere 0 = .ok (.iconst 0, 1) := by decide +kernel
theorem dmX13_isThere_1 : decode cX13_isThere 1 = .ok (.istore_n 2, 1) := by decide +kernel
theorem dmX13_isThere_2 : decode cX13_isThere 2 = .ok (.iconst 0, 1) := by decide +kernel
theorem dmX13_isThere_3 : decode cX13_isThere 3 = .ok (.istore_n 3, 1) := by decide +kernel
theorem dmX13_isThere_4 : decode cX13_isThere 4 = .ok (.iload_n 3, 1) := by decide +kernel
theorem dmX13_isThere_5 : decode cX13_isThere 5 = .ok (.aload_n 0, 1) := by decide +kernel
theorem dmX13_isThere_6 : decode cX13_isThere 6 = .ok (.getfield 780, 3) := by decide +kernel
theorem dmX13_isThere_9 : decode cX13_isThere 9 = .ok (.if_icmp .ge 27, 3) := by decide +kernel
theorem dmX13_isThere_12 : decode cX13_isThere 12 = .ok (.iload_n 2, 1) := by decide +kernel
theorem dmX13_isThere_13 : decode cX13_isThere 13 = .ok (.ifCond .ne 23, 3) := by decide +kernel
theorem dmX13_isThere_16 : decode cX13_isThere 16 = .ok (.aload_n 1, 1) := by decide +kernel
theorem dmX13_isThere_17 : decode cX13_isThere 17 = .ok (.iconst 0, 1) := by decide +kernel
theorem dmX13_isThere_18 : decode cX13_isThere 18 = .ok (.aload_n 0, 1) := by decide +kernel
theorem dmX13_isThere_19 : decode cX13_isThere 19 = .ok (.getfield 371, 3) := by decide +kernel
theorem dmX13_isThere_22 : decode cX13_isThere 22 = .ok (.bipush 40, 2) := by decide +kernel
theorem dmX13_isThere_24 : decode cX13_isThere 24 = .ok (.iload_n 3, 1) := by decide +kernel
theorem dmX13_isThere_25 : decode cX13_isThere 25 = .ok (.imul, 1) := by decide +kernel
theorem dmX13_isThere_26 : decode cX13_isThere 26 = .ok (.invokestatic 770, 3) := by decide +kernel
theorem dmX13_isThere_29 : decode cX13_isThere 29 = .ok (.istore_n 2, 1) := by decide +kernel
theorem dmX13_isThere_30 : decode cX13_isThere 30 = .ok (.iinc 3 1, 3) := by decide +kernel
theorem dmX13_isThere_33 : decode cX13_isThere 33 = .ok (.goto (-29), 3) := by decide +kernel
theorem dmX13_isThere_36 : decode cX13_isThere 36 = .ok (.iload_n 2, 1) := by decide +kernel
theorem dmX13_isThere_37 : decode cX13_isThere 37 = .ok (.ireturn, 1) := by decide +kernel
def qm_X13_isThere_0 (K : Nat) (go : Nat → Int32 → Int32 → Nat → ow_MS → Option (Int32 × ow_MS)) (x2 : Int32) (x3 : Int32) (r1 : Nat) (z : ow_MS) : Option (Int32 × ow_MS) :=
 go 1 0 0 r1 z
def qm_X13_isThere_1 (K : Nat) (go : Nat → Int32 → Int32 → Nat → ow_MS → Option (Int32 × ow_MS)) (x2 : Int32) (x3 : Int32) (r1 : Nat) (z : ow_MS) : Option (Int32 × ow_MS) :=
 rdF z 116 fun v1 => (if v1 ≤ x3 then okZ x2 (some (x2, z))
 else (if x2 = 0 then cs1 (qe_X13_isForm K r1 0 115 (40 * x3) z) fun v3 z2 => go 1 v3 (x3 + 1) r1 z2
 else okZ x2 (some (x2, z))))
def qb_X13_isThere (K : Nat) (go : Nat → Int32 → Int32 → Nat → ow_MS → Option (Int32 × ow_MS)) (L : Nat) (x2 : Int32) (x3 : Int32) (r1 : Nat) (z : ow_MS) : Option (Int32 × ow_MS) := match L with
  | 0 => qm_X13_isThere_0 K go x2 x3 r1 z
  | 1 => qm_X13_isThere_1 K go x2 x3 r1 z
  | _ => none
def q_X13_isThere (K : Nat) : Nat → Nat → Int32 → Int32 → Nat → ow_MS → Option (Int32 × ow_MS)
  | 0 => fun _ _ _ _ _ => none
  | k + 1 => qb_X13_isThere K (q_X13_isThere K k)
def qe_X13_isThere (K : Nat) (r1 : Nat) (z : ow_MS) : Option (Int32 × ow_MS) := q_X13_isThere K K 0 0 0 r1 z
abbrev wm_X13_isThere : List Cond := .code yX13_isThere cX13_isThere 4 (some .boolean) :: wM
theorem cd_X13_isThere : yX13_isThere.cls = RX13 ∧ yX13_isThere.cls ≠ "java/lang/invoke/MethodHandle" ∧ yX13_isThere.cls ≠ "java/lang/invoke/VarHandle" ∧ (parseMethodDescriptor yX13_isThere.desc).map (fun d => d.parameters.length) = some 1 := by decide +kernel
set_option maxHeartbeats 4000000 in
set_option maxRecDepth 100000 in
theorem km_X13_isThere (l : Launch) (D : va_G) (q : ow_Q5) (u : Nat → Nat) (hU : tw_inj mX u) (K : Nat) (r1 : Nat) (hr1 : tw_in mX r1 0) (z z1 : ow_MS) (r : Int32) (hq : qe_X13_isThere K r1 z = some (r, z1)) : Met l yX13_isThere wm_X13_isThere ({ frames := 1, cells := 0, slots := 0, locals := 25 } : Room) (va_Pc [.ref (u 0), .ref (u r1)] (mw_pre D q u z)) (va_Qi (fun x (_ : Unit) => x = r) (fun _ t => va_P D vwCl (tw mX q u z1) t.heap) (tw_A mX u)) 0 0 (tw_A mX u) := by
  refine Met.ofW (cc := cX13_isThere) (maxL := 4) (ret := (some .boolean)) (by decide) rfl ?_
  intro p e s m args below meth c s₁ B hml hv
  obtain ⟨rfl, hP, hK, hN⟩ := hv
  have hx := B.exec
  have hb := B.bytes
  have hr := B.returns
  have hts := atoms_spec (ws := wm_X13_isThere) B.pre
  have hT : ∀ w ∈ wM, w.before ([.ref (u 0), .ref (u r1)] : List Value).toArray s = true := fun w h => hts w (List.mem_cons_of_mem _ h)
  have hown : s.vm.findClass RX13 = some m.cls := findClass_of_methodNamed B.named
  have hlocks := B.notSynchronized
  have hM : tw_M D vwCl mX q s.heap u z s.heap [] := ⟨hP, va_S.rf⟩
  have hl := lv_entry ([.ref (u 0), .ref (u r1)]) (n := 4) (Nat.le_of_ble_eq_true rfl)
  rw [lg_entry_eq]
  generalize (lg_sl ([.ref (u 0), .ref (u r1)]) ++ List.replicate (4 - (lg_sl ([.ref (u 0), .ref (u r1)])).length) Slot.unset).toArray = ls at hl ⊢
  have hl : lv_has ls 4 [(0, .ref (u 0)), (1, .ref (u r1))] := hl
  refine ow_named (fun QQ hQQ => ?_)
  generalize ([.ref (u 0), .ref (u r1)] : List Value).toArray = args at hts hT hQQ ⊢
  have key : ∀ k : Nat, (∀ (x2 : Int32) (x3 : Int32) (r1 : Nat) (z : ow_MS) (H : Heap) (locs : List Loc) (ls : Array Slot), tw_in mX r1 0 → tw_M D vwCl mX q s.heap u z H locs → lv_has ls 4 [(0, .ref (u 0)), (1, .ref (u r1))] → q_X13_isThere K k 0 x2 x3 r1 z = some (r, z1) → W p l e ({ frames := 1, cells := 0, slots := 0, locals := 25 } : Room) s m args below meth c H locs 0 0 QQ (F0 m 0 ls [])) ∧ (∀ (x2 : Int32) (x3 : Int32) (r1 : Nat) (z : ow_MS) (H : Heap) (locs : List Loc) (ls : Array Slot), tw_in mX r1 0 → tw_M D vwCl mX q s.heap u z H locs → lv_has ls 4 [(0, .ref (u 0)), (1, .ref (u r1)), (2, .int x2), (3, .int x3)] → q_X13_isThere K k 1 x2 x3 r1 z = some (r, z1) → W p l e ({ frames := 1, cells := 0, slots := 0, locals := 25 } : Room) s m args below meth c H locs 0 0 QQ (F0 m 4 ls [])) := by
    intro k
    induction k with
    | zero => exact ⟨fun _ _ _ _ _ _ _ _ _ _ hq => tw_no hq, fun _ _ _ _ _ _ _ _ _ _ hq => tw_no hq⟩
    | succ k ih =>
      obtain ⟨ih_0, ih_1⟩ := ih
      refine ⟨?_, ?_⟩
      · intro x2 x3 r1 z H locs ls hr1 hM hl hq
        have hq : qm_X13_isThere_0 K (q_X13_isThere K k) x2 x3 r1 z = some (r, z1) := hq
        unfold qm_X13_isThere_0 at hq
        refine lv_iconst (v := 0) hx hb dmX13_isThere_0 (by decide) ?_
        refine lv_istore_n (lv' := [(2, .int 0), (0, .ref (u 0)), (1, .ref (u r1))]) hx hb dmX13_isThere_1 rfl hl (by decide) rfl (fun ls hl => ?_)
        refine lv_iconst (v := 0) hx hb dmX13_isThere_2 (by decide) ?_
        refine lv_istore_n (lv' := [(3, .int 0), (2, .int 0), (0, .ref (u 0)), (1, .ref (u r1))]) hx hb dmX13_isThere_3 rfl hl (by decide) rfl (fun ls hl => ?_)
        exact ih_1 0 0 r1 z H locs ls hr1 hM (lv_sub hl [2, 3, 1, 0] rfl) hq
      · intro x2 x3 r1 z H locs ls hr1 hM hl hq
        have hq : qm_X13_isThere_1 K (q_X13_isThere K k) x2 x3 r1 z = some (r, z1) := hq
        unfold qm_X13_isThere_1 at hq
        refine lv_iload_n hx hb dmX13_isThere_4 rfl (lv_at hl 3 rfl) ?_
        refine lv_aload_n hx hb dmX13_isThere_5 rfl (lv_at hl 0 rfl) ?_
        refine mg13_780 hx hb hT hown hK hM hq dmX13_isThere_6 (fun v1 hq => ?_)
        refine lv_icmp_ge (tgt := 36) hx hb dmX13_isThere_9 (by decide) (fun hc => ?_) (fun hc => ?_)
        · have hq := tw_it hq hc
          refine lv_iload_n hx hb dmX13_isThere_36 rfl (lv_at hl 2 rfl) ?_
          obtain ⟨hz, hq⟩ := tw_gZ hq
          exact mw_zret hx hb hr hlocks hM hz hq hQQ dmX13_isThere_37
        · have hq := tw_if hq hc
          refine lv_iload_n hx hb dmX13_isThere_12 rfl (lv_at hl 2 rfl) ?_
          refine lv_if_ne (tgt := 36) hx hb dmX13_isThere_13 (by decide) (fun hc => ?_) (fun hc => ?_)
          · have hq := tw_if hq hc
            refine lv_iload_n hx hb dmX13_isThere_36 rfl (lv_at hl 2 rfl) ?_
            obtain ⟨hz, hq⟩ := tw_gZ hq
            exact mw_zret hx hb hr hlocks hM hz hq hQQ dmX13_isThere_37
          · have hq := tw_it hq hc
            refine lv_aload_n hx hb dmX13_isThere_16 rfl (lv_at hl 1 rfl) ?_
            refine lv_iconst (v := 0) hx hb dmX13_isThere_17 (by decide) ?_
            refine lv_aload_n hx hb dmX13_isThere_18 rfl (lv_at hl 0 rfl) ?_
            refine mg13_371 hx hb hT hown hK hM dmX13_isThere_19 ?_
            refine lv_bipush (v := 40) hx hb dmX13_isThere_22 (by decide) ?_
            refine lv_iload_n hx hb dmX13_isThere_24 rfl (lv_at hl 3 rfl) ?_
            refine lv_imul hx hb dmX13_isThere_25 ?_
            obtain ⟨v3, z2, hcq, hq⟩ := tw_cl1 hq
            refine tw_cali hM (va_runS (As := [.ref (u r1), .int 0, .ref (u 115), .int (40 * x3)]) (rest := []) ⟨hx, hb, hml, hown, hts⟩ (km_X13_isForm l D q u hU K r1 0 115 (40 * x3) hr1 mr_115 z z2 v3 hcq) (va_cwS 4 hts (tw_gS wM_good wq_534 wq_535 wq_61 wq_528) rfl rfl rfl cd_X13_isForm ⟨(Nat.le_of_ble_eq_true rfl), (Nat.le_of_ble_eq_true rfl)⟩) (mw_preS hK hN hM) rfl rfl hl.1 rfl (lv_room (Nat.le_of_ble_eq_true rfl)) dmX13_isThere_26 ⟨(Nat.le_of_ble_eq_true rfl), (Nat.le_of_ble_eq_true rfl)⟩) (fun H locs hM => ?_)
            refine lv_istore_n (lv' := [(2, .int v3), (0, .ref (u 0)), (1, .ref (u r1)), (3, .int x3)]) hx hb dmX13_isThere_29 rfl hl (by decide) rfl (fun ls hl => ?_)
            refine lv_iinc (v := (x3 + 1)) (lv' := [(3, .int (x3 + 1)), (2, .int v3), (0, .ref (u 0)), (1, .ref (u r1))]) hx hb dmX13_isThere_30 hl (k := 3) rfl rfl (by decide) rfl (fun ls hl => ?_)
            refine lv_goto (tgt := 4) hx hb dmX13_isThere_33 (by decide) ?_
            exact ih_1 v3 (x3 + 1) r1 z2 H locs ls hr1 hM (lv_sub hl [2, 3, 1, 0] rfl) hq
  exact (key K).1 0 0 r1 z s.heap [] ls hr1 hM (lv_sub hl [0, 1] rfl) hq
theorem dmX13_allForms_0 : decode cX13_allForms 0 = .ok (.aload_n 0, 1) := dw_at cX13_allForms_k0 (p := 0) rfl (by decide +kernel)
theorem dmX13_allForms_1 : decode cX13_allForms 1 = .ok (.aload_n 0, 1) := dw_at cX13_allForms_k0 (p := 1) rfl (by decide +kernel)
theorem dmX13_allForms_2 : decode cX13_allForms 2 = .ok (.getfield 371, 3) := dw_at cX13_allForms_k0 (p := 2) rfl (by decide +kernel)
theorem dmX13_allForms_5 : decode cX13_allForms 5 = .ok (.iconst 0, 1) := dw_at cX13_allForms_k0 (p := 5) rfl (by decide +kernel)
theorem dmX13_allForms_6 : decode cX13_allForms 6 = .ok (.invokevirtual 766, 3) := dw_at cX13_allForms_k0 (p := 6) rfl (by decide +kernel)
theorem dmX13_allForms_9 : decode cX13_allForms 9 = .ok (.aload_n 0, 1) := dw_at cX13_allForms_k0 (p := 9) rfl (by decide +kernel)
theorem dmX13_allForms_10 : decode cX13_allForms 10 = .ok (.iconst 1, 1) := dw_at cX13_allForms_k0 (p := 10) rfl (by decide +kernel)
theorem dmX13_allForms_11 : decode cX13_allForms 11 = .ok (.putfield 780, 3) := dw_at cX13_allForms_k0 (p := 11) rfl (by decide +kernel)
theorem dmX13_allForms_14 : decode cX13_allForms 14 = .ok (.iconst 0, 1) := dw_at cX13_allForms_k0 (p := 14) rfl (by decide +kernel)
theorem dmX13_allForms_15 : decode cX13_allForms 15 = .ok (.istore_n 2, 1) := dw_at cX13_allForms_k0 (p := 15) rfl (by decide +kernel)
theorem dmX13_allForms_16 : decode cX13_allForms 16 = .ok (.iload_n 2, 1) := dw_at cX13_allForms_k0 (p := 16) rfl (by decide +kernel)
theorem dmX13_allForms_17 : decode cX13_allForms 17 = .ok (.aload_n 0, 1) := dw_at cX13_allForms_k0 (p := 17) rfl (by decide +kernel)
theorem dmX13_allForms_18 : decode cX13_allForms 18 = .ok (.getfield 780, 3) := dw_at cX13_allForms_k0 (p := 18) rfl (by decide +kernel)
theorem dmX13_allForms_21 : decode cX13_allForms 21 = .ok (.if_icmp .ge 208, 3) := dw_at cX13_allForms_k0 (p := 21) rfl (by decide +kernel)
theorem dmX13_allForms_24 : decode cX13_allForms 24 = .ok (.iconst 1, 1) := dw_at cX13_allForms_k1 (p := 0) rfl (by decide +kernel)
theorem dmX13_allForms_25 : decode cX13_allForms 25 = .ok (.istore_n 3, 1) := dw_at cX13_allForms_k1 (p := 1) rfl (by decide +kernel)
theorem dmX13_allForms_26 : decode cX13_allForms 26 = .ok (.iload_n 3, 1) := dw_at cX13_allForms_k1 (p := 2) rfl (by decide +kernel)
theorem dmX13_allForms_27 : decode cX13_allForms 27 = .ok (.aload_n 0, 1) := dw_at cX13_allForms_k1 (p := 3) rfl (by decide +kernel)
theorem dmX13_allForms_28 : decode cX13_allForms 28 = .ok (.getfield 329, 3) := dw_at cX13_allForms_k1 (p := 4) rfl (by decide +kernel)
theorem dmX13_allForms_31 : decode cX13_allForms 31 = .ok (.iload_n 1, 1) := dw_at cX13_allForms_k1 (p := 7) rfl (by decide +kernel)
theorem dmX13_allForms_32 : decode cX13_allForms 32 = .ok (.iaload, 1) := dw_at cX13_allForms_k1 (p := 8) rfl (by decide +kernel)
theorem dmX13_allForms_33 : decode cX13_allForms 33 = .ok (.if_icmp .ge 190, 3) := dw_at cX13_allForms_k1 (p := 9) rfl (by decide +kernel)
theorem dmX13_allForms_36 : decode cX13_allForms 36 = .ok (.aload_n 0, 1) := dw_at cX13_allForms_k1 (p := 12) rfl (by decide +kernel)
theorem dmX13_allForms_37 : decode cX13_allForms 37 = .ok (.getfield 371, 3) := dw_at cX13_allForms_k1 (p := 13) rfl (by decide +kernel)
theorem dmX13_allForms_40 : decode cX13_allForms 40 = .ok (.bipush 40, 2) := dw_at cX13_allForms_k1 (p := 16) rfl (by decide +kernel)
theorem dmX13_allForms_42 : decode cX13_allForms 42 = .ok (.iload_n 2, 1) := dw_at cX13_allForms_k1 (p := 18) rfl (by decide +kernel)
theorem dmX13_allForms_43 : decode cX13_allForms 43 = .ok (.imul, 1) := dw_at cX13_allForms_k1 (p := 19) rfl (by decide +kernel)
theorem dmX13_allForms_44 : decode cX13_allForms 44 = .ok (.iaload, 1) := dw_at cX13_allForms_k1 (p := 20) rfl (by decide +kernel)
theorem dmX13_allForms_45 : decode cX13_allForms 45 = .ok (.istore 4, 2) := dw_at cX13_allForms_k1 (p := 21) rfl (by decide +kernel)
theorem dmX13_allForms_47 : decode cX13_allForms 47 = .ok (.aload_n 0, 1) := dw_at cX13_allForms_k1 (p := 23) rfl (by decide +kernel)
theorem dmX13_allForms_48 : decode cX13_allForms 48 = .ok (.iconst 0, 1) := dw_at cX13_allForms_k2 (p := 0) rfl (by decide +kernel)
theorem dmX13_allForms_49 : decode cX13_allForms 49 = .ok (.putfield 742, 3) := dw_at cX13_allForms_k2 (p := 1) rfl (by decide +kernel)
theorem dmX13_allForms_52 : decode cX13_allForms 52 = .ok (.aload_n 0, 1) := dw_at cX13_allForms_k2 (p := 4) rfl (by decide +kernel)
theorem dmX13_allForms_53 : decode cX13_allForms 53 = .ok (.iload_n 1, 1) := dw_at cX13_allForms_k2 (p := 5) rfl (by decide +kernel)
theorem dmX13_allForms_54 : decode cX13_allForms 54 = .ok (.aload_n 0, 1) := dw_at cX13_allForms_k2 (p := 6) rfl (by decide +kernel)
theorem dmX13_allForms_55 : decode cX13_allForms 55 = .ok (.iload_n 1, 1) := dw_at cX13_allForms_k2 (p := 7) rfl (by decide +kernel)
theorem dmX13_allForms_56 : decode cX13_allForms 56 = .ok (.aload_n 0, 1) := dw_at cX13_allForms_k2 (p := 8) rfl (by decide +kernel)
theorem dmX13_allForms_57 : decode cX13_allForms 57 = .ok (.getfield 344, 3) := dw_at cX13_allForms_k2 (p := 9) rfl (by decide +kernel)
theorem dmX13_allForms_60 : decode cX13_allForms 60 = .ok (.bipush 120, 2) := dw_at cX13_allForms_k2 (p := 12) rfl (by decide +kernel)
theorem dmX13_allForms_62 : decode cX13_allForms 62 = .ok (.iload_n 1, 1) := dw_at cX13_allForms_k2 (p := 14) rfl (by decide +kernel)
theorem dmX13_allForms_63 : decode cX13_allForms 63 = .ok (.imul, 1) := dw_at cX13_allForms_k2 (p := 15) rfl (by decide +kernel)
theorem dmX13_allForms_64 : decode cX13_allForms 64 = .ok (.iload_n 3, 1) := dw_at cX13_allForms_k2 (p := 16) rfl (by decide +kernel)
theorem dmX13_allForms_65 : decode cX13_allForms 65 = .ok (.iadd, 1) := dw_at cX13_allForms_k2 (p := 17) rfl (by decide +kernel)
theorem dmX13_allForms_66 : decode cX13_allForms 66 = .ok (.iaload, 1) := dw_at cX13_allForms_k2 (p := 18) rfl (by decide +kernel)
theorem dmX13_allForms_67 : decode cX13_allForms 67 = .ok (.iload 4, 2) := dw_at cX13_allForms_k2 (p := 19) rfl (by decide +kernel)
theorem dmX13_allForms_69 : decode cX13_allForms 69 = .ok (.invokevirtual 773, 3) := dw_at cX13_allForms_k2 (p := 21) rfl (by decide +kernel)
theorem dmX13_allForms_72 : decode cX13_allForms 72 = .ok (.invokevirtual 757, 3) := dw_at cX13_allForms_k3 (p := 0) rfl (by decide +kernel)
theorem dmX13_allForms_75 : decode cX13_allForms 75 = .ok (.iconst 0, 1) := dw_at cX13_allForms_k3 (p := 3) rfl (by decide +kernel)
theorem dmX13_allForms_76 : decode cX13_allForms 76 = .ok (.istore 5, 2) := dw_at cX13_allForms_k3 (p := 4) rfl (by decide +kernel)
theorem dmX13_allForms_78 : decode cX13_allForms 78 = .ok (.iload 5, 2) := dw_at cX13_allForms_k3 (p := 6) rfl (by decide +kernel)
theorem dmX13_allForms_80 : decode cX13_allForms 80 = .ok (.aload_n 0, 1) := dw_at cX13_allForms_k3 (p := 8) rfl (by decide +kernel)
theorem dmX13_allForms_81 : decode cX13_allForms 81 = .ok (.getfield 371, 3) := dw_at cX13_allForms_k3 (p := 9) rfl (by decide +kernel)
theorem dmX13_allForms_84 : decode cX13_allForms 84 = .ok (.bipush 40, 2) := dw_at cX13_allForms_k3 (p := 12) rfl (by decide +kernel)
theorem dmX13_allForms_86 : decode cX13_allForms 86 = .ok (.iload_n 2, 1) := dw_at cX13_allForms_k3 (p := 14) rfl (by decide +kernel)
theorem dmX13_allForms_87 : decode cX13_allForms 87 = .ok (.imul, 1) := dw_at cX13_allForms_k3 (p := 15) rfl (by decide +kernel)
theorem dmX13_allForms_88 : decode cX13_allForms 88 = .ok (.iconst 1, 1) := dw_at cX13_allForms_k3 (p := 16) rfl (by decide +kernel)
theorem dmX13_allForms_89 : decode cX13_allForms 89 = .ok (.iadd, 1) := dw_at cX13_allForms_k3 (p := 17) rfl (by decide +kernel)
theorem dmX13_allForms_90 : decode cX13_allForms 90 = .ok (.iaload, 1) := dw_at cX13_allForms_k3 (p := 18) rfl (by decide +kernel)
theorem dmX13_allForms_91 : decode cX13_allForms 91 = .ok (.if_icmp .ge 28, 3) := dw_at cX13_allForms_k3 (p := 19) rfl (by decide +kernel)
theorem dmX13_allForms_94 : decode cX13_allForms 94 = .ok (.aload_n 0, 1) := dw_at cX13_allForms_k3 (p := 22) rfl (by decide +kernel)
theorem dmX13_allForms_95 : decode cX13_allForms 95 = .ok (.iload_n 1, 1) := dw_at cX13_allForms_k3 (p := 23) rfl (by decide +kernel)
theorem dmX13_allForms_96 : decode cX13_allForms 96 = .ok (.aload_n 0, 1) := dw_at cX13_allForms_k4 (p := 0) rfl (by decide +kernel)
theorem dmX13_allForms_97 : decode cX13_allForms 97 = .ok (.getfield 371, 3) := dw_at cX13_allForms_k4 (p := 1) rfl (by decide +kernel)
theorem dmX13_allForms_100 : decode cX13_allForms 100 = .ok (.bipush 40, 2) := dw_at cX13_allForms_k4 (p := 4) rfl (by decide +kernel)
theorem dmX13_allForms_102 : decode cX13_allForms 102 = .ok (.iload_n 2, 1) := dw_at cX13_allForms_k4 (p := 6) rfl (by decide +kernel)
theorem dmX13_allForms_103 : decode cX13_allForms 103 = .ok (.imul, 1) := dw_at cX13_allForms_k4 (p := 7) rfl (by decide +kernel)
theorem dmX13_allForms_104 : decode cX13_allForms 104 = .ok (.iconst 2, 1) := dw_at cX13_allForms_k4 (p := 8) rfl (by decide +kernel)
theorem dmX13_allForms_105 : decode cX13_allForms 105 = .ok (.iadd, 1) := dw_at cX13_allForms_k4 (p := 9) rfl (by decide +kernel)
theorem dmX13_allForms_106 : decode cX13_allForms 106 = .ok (.iload 5, 2) := dw_at cX13_allForms_k4 (p := 10) rfl (by decide +kernel)
theorem dmX13_allForms_108 : decode cX13_allForms 108 = .ok (.iadd, 1) := dw_at cX13_allForms_k4 (p := 12) rfl (by decide +kernel)
theorem dmX13_allForms_109 : decode cX13_allForms 109 = .ok (.iaload, 1) := dw_at cX13_allForms_k4 (p := 13) rfl (by decide +kernel)
theorem dmX13_allForms_110 : decode cX13_allForms 110 = .ok (.invokevirtual 757, 3) := dw_at cX13_allForms_k4 (p := 14) rfl (by decide +kernel)
theorem dmX13_allForms_113 : decode cX13_allForms 113 = .ok (.iinc 5 1, 3) := dw_at cX13_allForms_k4 (p := 17) rfl (by decide +kernel)
theorem dmX13_allForms_116 : decode cX13_allForms 116 = .ok (.goto (-38), 3) := dw_at cX13_allForms_k4 (p := 20) rfl (by decide +kernel)
theorem dmX13_allForms_119 : decode cX13_allForms 119 = .ok (.aload_n 0, 1) := dw_at cX13_allForms_k4 (p := 23) rfl (by decide +kernel)
theorem dmX13_allForms_120 : decode cX13_allForms 120 = .ok (.iload_n 1, 1) := dw_at cX13_allForms_k5 (p := 0) rfl (by decide +kernel)
theorem dmX13_allForms_121 : decode cX13_allForms 121 = .ok (.iload_n 3, 1) := dw_at cX13_allForms_k5 (p := 1) rfl (by decide +kernel)
theorem dmX13_allForms_122 : decode cX13_allForms 122 = .ok (.invokevirtual 757, 3) := dw_at cX13_allForms_k5 (p := 2) rfl (by decide +kernel)
theorem dmX13_allForms_125 : decode cX13_allForms 125 = .ok (.aload_n 0, 1) := dw_at cX13_allForms_k5 (p := 5) rfl (by decide +kernel)
theorem dmX13_allForms_126 : decode cX13_allForms 126 = .ok (.iload_n 1, 1) := dw_at cX13_allForms_k5 (p := 6) rfl (by decide +kernel)
theorem dmX13_allForms_127 : decode cX13_allForms 127 = .ok (.iload 4, 2) := dw_at cX13_allForms_k5 (p := 7) rfl (by decide +kernel)
theorem dmX13_allForms_129 : decode cX13_allForms 129 = .ok (.iconst 1, 1) := dw_at cX13_allForms_k5 (p := 9) rfl (by decide +kernel)
theorem dmX13_allForms_130 : decode cX13_allForms 130 = .ok (.isub, 1) := dw_at cX13_allForms_k5 (p := 10) rfl (by decide +kernel)
theorem dmX13_allForms_131 : decode cX13_allForms 131 = .ok (.invokevirtual 760, 3) := dw_at cX13_allForms_k5 (p := 11) rfl (by decide +kernel)
theorem dmX13_allForms_134 : decode cX13_allForms 134 = .ok (.aload_n 0, 1) := dw_at cX13_allForms_k5 (p := 14) rfl (by decide +kernel)
theorem dmX13_allForms_135 : decode cX13_allForms 135 = .ok (.getfield 748, 3) := dw_at cX13_allForms_k5 (p := 15) rfl (by decide +kernel)
theorem dmX13_allForms_138 : decode cX13_allForms 138 = .ok (.aload_n 0, 1) := dw_at cX13_allForms_k5 (p := 18) rfl (by decide +kernel)
theorem dmX13_allForms_139 : decode cX13_allForms 139 = .ok (.getfield 371, 3) := dw_at cX13_allForms_k5 (p := 19) rfl (by decide +kernel)
theorem dmX13_allForms_142 : decode cX13_allForms 142 = .ok (.iconst 0, 1) := dw_at cX13_allForms_k5 (p := 22) rfl (by decide +kernel)
theorem dmX13_allForms_143 : decode cX13_allForms 143 = .ok (.iaload, 1) := dw_at cX13_allForms_k5 (p := 23) rfl (by decide +kernel)
theorem dmX13_allForms_144 : decode cX13_allForms 144 = .ok (.if_icmp .ne 73, 3) := dw_at cX13_allForms_k6 (p := 0) rfl (by decide +kernel)
theorem dmX13_allForms_147 : decode cX13_allForms 147 = .ok (.aload_n 0, 1) := dw_at cX13_allForms_k6 (p := 3) rfl (by decide +kernel)
theorem dmX13_allForms_148 : decode cX13_allForms 148 = .ok (.getfield 751, 3) := dw_at cX13_allForms_k6 (p := 4) rfl (by decide +kernel)
theorem dmX13_allForms_151 : decode cX13_allForms 151 = .ok (.aload_n 0, 1) := dw_at cX13_allForms_k6 (p := 7) rfl (by decide +kernel)
theorem dmX13_allForms_152 : decode cX13_allForms 152 = .ok (.getfield 371, 3) := dw_at cX13_allForms_k6 (p := 8) rfl (by decide +kernel)
theorem dmX13_allForms_155 : decode cX13_allForms 155 = .ok (.iconst 1, 1) := dw_at cX13_allForms_k6 (p := 11) rfl (by decide +kernel)
theorem dmX13_allForms_156 : decode cX13_allForms 156 = .ok (.iaload, 1) := dw_at cX13_allForms_k6 (p := 12) rfl (by decide +kernel)
theorem dmX13_allForms_157 : decode cX13_allForms 157 = .ok (.if_icmp .ne 60, 3) := dw_at cX13_allForms_k6 (p := 13) rfl (by decide +kernel)
theorem dmX13_allForms_160 : decode cX13_allForms 160 = .ok (.aload_n 0, 1) := dw_at cX13_allForms_k6 (p := 16) rfl (by decide +kernel)
theorem dmX13_allForms_161 : decode cX13_allForms 161 = .ok (.aload_n 0, 1) := dw_at cX13_allForms_k6 (p := 17) rfl (by decide +kernel)
theorem dmX13_allForms_162 : decode cX13_allForms 162 = .ok (.getfield 374, 3) := dw_at cX13_allForms_k6 (p := 18) rfl (by decide +kernel)
theorem dmX13_allForms_165 : decode cX13_allForms 165 = .ok (.iconst 0, 1) := dw_at cX13_allForms_k6 (p := 21) rfl (by decide +kernel)
theorem dmX13_allForms_166 : decode cX13_allForms 166 = .ok (.invokevirtual 766, 3) := dw_at cX13_allForms_k6 (p := 22) rfl (by decide +kernel)
theorem dmX13_allForms_169 : decode cX13_allForms 169 = .ok (.aload_n 0, 1) := dw_at cX13_allForms_k7 (p := 0) rfl (by decide +kernel)
theorem dmX13_allForms_170 : decode cX13_allForms 170 = .ok (.aload_n 0, 1) := dw_at cX13_allForms_k7 (p := 1) rfl (by decide +kernel)
theorem dmX13_allForms_171 : decode cX13_allForms 171 = .ok (.getfield 374, 3) := dw_at cX13_allForms_k7 (p := 2) rfl (by decide +kernel)
theorem dmX13_allForms_174 : decode cX13_allForms 174 = .ok (.invokevirtual 783, 3) := dw_at cX13_allForms_k7 (p := 5) rfl (by decide +kernel)
theorem dmX13_allForms_177 : decode cX13_allForms 177 = .ok (.ifCond .ne 40, 3) := dw_at cX13_allForms_k7 (p := 8) rfl (by decide +kernel)
theorem dmX13_allForms_180 : decode cX13_allForms 180 = .ok (.aload_n 0, 1) := dw_at cX13_allForms_k7 (p := 11) rfl (by decide +kernel)
theorem dmX13_allForms_181 : decode cX13_allForms 181 = .ok (.getfield 780, 3) := dw_at cX13_allForms_k7 (p := 12) rfl (by decide +kernel)
theorem dmX13_allForms_184 : decode cX13_allForms 184 = .ok (.sipush 200, 3) := dw_at cX13_allForms_k7 (p := 15) rfl (by decide +kernel)
theorem dmX13_allForms_187 : decode cX13_allForms 187 = .ok (.if_icmp .ne 5, 3) := dw_at cX13_allForms_k7 (p := 18) rfl (by decide +kernel)
theorem dmX13_allForms_190 : decode cX13_allForms 190 = .ok (.iconst 0, 1) := dw_at cX13_allForms_k7 (p := 21) rfl (by decide +kernel)
theorem dmX13_allForms_191 : decode cX13_allForms 191 = .ok (.ireturn, 1) := dw_at cX13_allForms_k7 (p := 22) rfl (by decide +kernel)
theorem dmX13_allForms_192 : decode cX13_allForms 192 = .ok (.aload_n 0, 1) := dw_at cX13_allForms_k7 (p := 23) rfl (by decide +kernel)
theorem dmX13_allForms_193 : decode cX13_allForms 193 = .ok (.aload_n 0, 1) := dw_at cX13_allForms_k8 (p := 0) rfl (by decide +kernel)
theorem dmX13_allForms_194 : decode cX13_allForms 194 = .ok (.getfield 371, 3) := dw_at cX13_allForms_k8 (p := 1) rfl (by decide +kernel)
theorem dmX13_allForms_197 : decode cX13_allForms 197 = .ok (.bipush 40, 2) := dw_at cX13_allForms_k8 (p := 4) rfl (by decide +kernel)
theorem dmX13_allForms_199 : decode cX13_allForms 199 = .ok (.aload_n 0, 1) := dw_at cX13_allForms_k8 (p := 6) rfl (by decide +kernel)
theorem dmX13_allForms_200 : decode cX13_allForms 200 = .ok (.getfield 780, 3) := dw_at cX13_allForms_k8 (p := 7) rfl (by decide +kernel)
theorem dmX13_allForms_203 : decode cX13_allForms 203 = .ok (.imul, 1) := dw_at cX13_allForms_k8 (p := 10) rfl (by decide +kernel)
theorem dmX13_allForms_204 : decode cX13_allForms 204 = .ok (.invokevirtual 766, 3) := dw_at cX13_allForms_k8 (p := 11) rfl (by decide +kernel)
theorem dmX13_allForms_207 : decode cX13_allForms 207 = .ok (.aload_n 0, 1) := dw_at cX13_allForms_k8 (p := 14) rfl (by decide +kernel)
theorem dmX13_allForms_208 : decode cX13_allForms 208 = .ok (.dup, 1) := dw_at cX13_allForms_k8 (p := 15) rfl (by decide +kernel)
theorem dmX13_allForms_209 : decode cX13_allForms 209 = .ok (.getfield 780, 3) := dw_at cX13_allForms_k8 (p := 16) rfl (by decide +kernel)
theorem dmX13_allForms_212 : decode cX13_allForms 212 = .ok (.iconst 1, 1) := dw_at cX13_allForms_k8 (p := 19) rfl (by decide +kernel)
theorem dmX13_allForms_213 : decode cX13_allForms 213 = .ok (.iadd, 1) := dw_at cX13_allForms_k8 (p := 20) rfl (by decide +kernel)
theorem dmX13_allForms_214 : decode cX13_allForms 214 = .ok (.putfield 780, 3) := dw_at cX13_allForms_k8 (p := 21) rfl (by decide +kernel)
theorem dmX13_allForms_217 : decode cX13_allForms 217 = .ok (.iinc 3 1, 3) := dw_at cX13_allForms_k9 (p := 0) rfl (by decide +kernel)
theorem dmX13_allForms_220 : decode cX13_allForms 220 = .ok (.goto (-194), 3) := dw_at cX13_allForms_k9 (p := 3) rfl (by decide +kernel)
theorem dmX13_allForms_223 : decode cX13_allForms 223 = .ok (.iinc 2 1, 3) := dw_at cX13_allForms_k9 (p := 6) rfl (by decide +kernel)
theorem dmX13_allForms_226 : decode cX13_allForms 226 = .ok (.goto (-210), 3) := dw_at cX13_allForms_k9 (p := 9) rfl (by decide +kernel)
theorem dmX13_allForms_229 : decode cX13_allForms 229 = .ok (.iconst 1, 1) := dw_at cX13_allForms_k9 (p := 12) rfl (by decide +kernel)
theorem dmX13_allForms_230 : decode cX13_allForms 230 = .ok (.ireturn, 1) := dw_at cX13_allForms_k9 (p := 13) rfl (by decide +kernel)
def qm_X13_allForms_0 (K : Nat) (go : Nat → Int32 → Int32 → Int32 → Int32 → Int32 → ow_MS → Option (Int32 × ow_MS)) (x1 : Int32) (x2 : Int32) (x3 : Int32) (x4 : Int32) (x5 : Int32) (z : ow_MS) : Option (Int32 × ow_MS) :=
 cs0 (qe_X13_formTo K 115 0 z) fun z1 => wrF z1 116 1 fun z2 => go 1 x1 0 0 0 0 z2
def qm_X13_allForms_1 (K : Nat) (go : Nat → Int32 → Int32 → Int32 → Int32 → Int32 → ow_MS → Option (Int32 × ow_MS)) (x1 : Int32) (x2 : Int32) (x3 : Int32) (x4 : Int32) (x5 : Int32) (z : ow_MS) : Option (Int32 × ow_MS) :=
 rdF z 116 fun v3 => (if v3 ≤ x2 then okZ 1 (some (1, z))
 else go 2 x1 x2 1 0 0 z)
def qm_X13_allForms_2 (K : Nat) (go : Nat → Int32 → Int32 → Int32 → Int32 → Int32 → ow_MS → Option (Int32 × ow_MS)) (x1 : Int32) (x2 : Int32) (x3 : Int32) (x4 : Int32) (x5 : Int32) (z : ow_MS) : Option (Int32 × ow_MS) :=
 rdI mX z 97 x1 fun v4 => (if v4 ≤ x3 then go 1 x1 (x2 + 1) 0 0 0 z
 else rdI mX z 115 (40 * x2) fun v5 => wrF z 109 0 fun z6 => rdI mX z6 102 ((120 * x1) + x3) fun v7 => cs1 (qe_X13_turned K x1 v7 v5 z6) fun v9 z8 => cs0 (qe_X13_append K x1 v9 z8) fun z10 => go 3 x1 x2 x3 v5 0 z10)
def qm_X13_allForms_3 (K : Nat) (go : Nat → Int32 → Int32 → Int32 → Int32 → Int32 → ow_MS → Option (Int32 × ow_MS)) (x1 : Int32) (x2 : Int32) (x3 : Int32) (x4 : Int32) (x5 : Int32) (z : ow_MS) : Option (Int32 × ow_MS) :=
 rdI mX z 115 ((40 * x2) + 1) fun v11 => (if v11 ≤ x5 then cs0 (qe_X13_append K x1 x3 z) fun z12 => cs0 (qe_X13_normalise K x1 (x4 - 1) z12) fun z13 => rdF z13 112 fun v14 => rdI mX z13 115 0 fun v15 => (if v14 = v15 then rdF z13 113 fun v16 => rdI mX z13 115 1 fun v17 => (if v16 = v17 then cs0 (qe_X13_formTo K 117 0 z13) fun z18 => cs1 (qe_X13_isThere K 117 z18) fun v20 z19 => (if v20 = 0 then rdF z19 116 fun v21 => (if v21 = 200 then okZ 0 (some (0, z19))
 else rdF z19 116 fun v22 => cs0 (qe_X13_formTo K 115 (40 * v22) z19) fun z23 => rdF z23 116 fun v24 => wrF z23 116 (v24 + 1) fun z25 => go 4 x1 x2 x3 x4 x5 z25)
 else go 4 x1 x2 x3 x4 x5 z19)
 else go 4 x1 x2 x3 x4 x5 z13)
 else go 4 x1 x2 x3 x4 x5 z13)
 else rdI mX z 115 (((40 * x2) + 2) + x5) fun v26 => cs0 (qe_X13_append K x1 v26 z) fun z27 => go 3 x1 x2 x3 x4 (x5 + 1) z27)
def qm_X13_allForms_4 (K : Nat) (go : Nat → Int32 → Int32 → Int32 → Int32 → Int32 → ow_MS → Option (Int32 × ow_MS)) (x1 : Int32) (x2 : Int32) (x3 : Int32) (x4 : Int32) (x5 : Int32) (z : ow_MS) : Option (Int32 × ow_MS) :=
 go 2 x1 x2 (x3 + 1) 0 0 z
def qb_X13_allForms (K : Nat) (go : Nat → Int32 → Int32 → Int32 → Int32 → Int32 → ow_MS → Option (Int32 × ow_MS)) (L : Nat) (x1 : Int32) (x2 : Int32) (x3 : Int32) (x4 : Int32) (x5 : Int32) (z : ow_MS) : Option (Int32 × ow_MS) := match L with
  | 0 => qm_X13_allForms_0 K go x1 x2 x3 x4 x5 z
  | 1 => qm_X13_allForms_1 K go x1 x2 x3 x4 x5 z
  | 2 => qm_X13_allForms_2 K go x1 x2 x3 x4 x5 z
  | 3 => qm_X13_allForms_3 K go x1 x2 x3 x4 x5 z
  | 4 => qm_X13_allForms_4 K go x1 x2 x3 x4 x5 z
  | _ => none
def q_X13_allForms (K : Nat) : Nat → Nat → Int32 → Int32 → Int32 → Int32 → Int32 → ow_MS → Option (Int32 × ow_MS)
  | 0 => fun _ _ _ _ _ _ _ => none
  | k + 1 => qb_X13_allForms K (q_X13_allForms K k)
def qe_X13_allForms (K : Nat) (x1 : Int32) (z : ow_MS) : Option (Int32 × ow_MS) := q_X13_allForms K K 0 x1 0 0 0 0 z
abbrev wm_X13_allForms : List Cond := .code yX13_allForms cX13_allForms 6 (some .boolean) :: wM
theorem cd_X13_allForms : yX13_allForms.cls = RX13 ∧ yX13_allForms.cls ≠ "java/lang/invoke/MethodHandle" ∧ yX13_allForms.cls ≠ "java/lang/invoke/VarHandle" ∧ (parseMethodDescriptor yX13_allForms.desc).map (fun d => d.parameters.length) = some 1 := by decide +kernel
set_option maxHeartbeats 4000000 in
set_option maxRecDepth 100000 in
theorem km_X13_allForms (l : Launch) (D : va_G) (q : ow_Q5) (u : Nat → Nat) (hU : tw_inj mX u) (K : Nat) (x1 : Int32)  (z z1 : ow_MS) (r : Int32) (hq : qe_X13_allForms K x1 z = some (r, z1)) : Met l yX13_allForms wm_X13_allForms ({ frames := 2, cells := 0, slots := 0, locals := 55 } : Room) (va_Pc [.ref (u 0), .int x1] (mw_pre D q u z)) (va_Qi (fun x (_ : Unit) => x = r) (fun _ t => va_P D vwCl (tw mX q u z1) t.heap) (tw_A mX u)) 0 0 (tw_A mX u) := by
  refine Met.ofW (cc := cX13_allForms) (maxL := 6) (ret := (some .boolean)) (by decide) rfl ?_
  intro p e s m args below meth c s₁ B hml hv
  obtain ⟨rfl, hP, hK, hN⟩ := hv
  have hx := B.exec
  have hb := B.bytes
  have hr := B.returns
  have hts := atoms_spec (ws := wm_X13_allForms) B.pre
  have hT : ∀ w ∈ wM, w.before ([.ref (u 0), .int x1] : List Value).toArray s = true := fun w h => hts w (List.mem_cons_of_mem _ h)
  have hown : s.vm.findClass RX13 = some m.cls := findClass_of_methodNamed B.named
  have hlocks := B.notSynchronized
  have hM : tw_M D vwCl mX q s.heap u z s.heap [] := ⟨hP, va_S.rf⟩
  have hl := lv_entry ([.ref (u 0), .int x1]) (n := 6) (Nat.le_of_ble_eq_true rfl)
  rw [lg_entry_eq]
  generalize (lg_sl ([.ref (u 0), .int x1]) ++ List.replicate (6 - (lg_sl ([.ref (u 0), .int x1])).length) Slot.unset).toArray = ls at hl ⊢
  have hl : lv_has ls 6 [(0, .ref (u 0)), (1, .int x1)] := hl
  refine ow_named (fun QQ hQQ => ?_)
  generalize ([.ref (u 0), .int x1] : List Value).toArray = args at hts hT hQQ ⊢
  have key : ∀ k : Nat, (∀ (x1 : Int32) (x2 : Int32) (x3 : Int32) (x4 : Int32) (x5 : Int32) (z : ow_MS) (H : Heap) (locs : List Loc) (ls : Array Slot), tw_M D vwCl mX q s.heap u z H locs → lv_has ls 6 [(0, .ref (u 0)), (1, .int x1)] → q_X13_allForms K k 0 x1 x2 x3 x4 x5 z = some (r, z1) → W p l e ({ frames := 2, cells := 0, slots := 0, locals := 55 } : Room) s m args below meth c H locs 0 0 QQ (F0 m 0 ls [])) ∧ (∀ (x1 : Int32) (x2 : Int32) (x3 : Int32) (x4 : Int32) (x5 : Int32) (z : ow_MS) (H : Heap) (locs : List Loc) (ls : Array Slot), tw_M D vwCl mX q s.heap u z H locs → lv_has ls 6 [(0, .ref (u 0)), (1, .int x1), (2, .int x2)] → q_X13_allForms K k 1 x1 x2 x3 x4 x5 z = some (r, z1) → W p l e ({ frames := 2, cells := 0, slots := 0, locals := 55 } : Room) s m args below meth c H locs 0 0 QQ (F0 m 16 ls [])) ∧ (∀ (x1 : Int32) (x2 : Int32) (x3 : Int32) (x4 : Int32) (x5 : Int32) (z : ow_MS) (H : Heap) (locs : List Loc) (ls : Array Slot), tw_M D vwCl mX q s.heap u z H locs → lv_has ls 6 [(0, .ref (u 0)), (1, .int x1), (2, .int x2), (3, .int x3)] → q_X13_allForms K k 2 x1 x2 x3 x4 x5 z = some (r, z1) → W p l e ({ frames := 2, cells := 0, slots := 0, locals := 55 } : Room) s m args below meth c H locs 0 0 QQ (F0 m 26 ls [])) ∧ (∀ (x1 : Int32) (x2 : Int32) (x3 : Int32) (x4 : Int32) (x5 : Int32) (z : ow_MS) (H : Heap) (locs : List Loc) (ls : Array Slot), tw_M D vwCl mX q s.heap u z H locs → lv_has ls 6 [(0, .ref (u 0)), (1, .int x1), (2, .int x2), (3, .int x3), (4, .int x4), (5, .int x5)] → q_X13_allForms K k 3 x1 x2 x3 x4 x5 z = some (r, z1) → W p l e ({ frames := 2, cells := 0, slots := 0, locals := 55 } : Room) s m args below meth c H locs 0 0 QQ (F0 m 78 ls [])) ∧ (∀ (x1 : Int32) (x2 : Int32) (x3 : Int32) (x4 : Int32) (x5 : Int32) (z : ow_MS) (H : Heap) (locs : List Loc) (ls : Array Slot), tw_M D vwCl mX q s.heap u z H locs → lv_has ls 6 [(0, .ref (u 0)), (1, .int x1), (2, .int x2), (3, .int x3), (4, .int x4), (5, .int x5)] → q_X13_allForms K k 4 x1 x2 x3 x4 x5 z = some (r, z1) → W p l e ({ frames := 2, cells := 0, slots := 0, locals := 55 } : Room) s m args below meth c H locs 0 0 QQ (F0 m 217 ls [])) := by
    intro k
    induction k with
    | zero => exact ⟨fun _ _ _ _ _ _ _ _ _  _ _ hq => tw_no hq, fun _ _ _ _ _ _ _ _ _  _ _ hq => tw_no hq, fun _ _ _ _ _ _ _ _ _  _ _ hq => tw_no hq, fun _ _ _ _ _ _ _ _ _  _ _ hq => tw_no hq, fun _ _ _ _ _ _ _ _ _  _ _ hq => tw_no hq⟩
    | succ k ih =>
      obtain ⟨ih_0, ih_1, ih_2, ih_3, ih_4⟩ := ih
      refine ⟨?_, ?_, ?_, ?_, ?_⟩
      · intro x1 x2 x3 x4 x5 z H locs ls  hM hl hq
        have hq : qm_X13_allForms_0 K (q_X13_allForms K k) x1 x2 x3 x4 x5 z = some (r, z1) := hq
        unfold qm_X13_allForms_0 at hq
        refine lv_aload_n hx hb dmX13_allForms_0 rfl (lv_at hl 0 rfl) ?_
        refine lv_aload_n hx hb dmX13_allForms_1 rfl (lv_at hl 0 rfl) ?_
        refine mg13_371 hx hb hT hown hK hM dmX13_allForms_2 ?_
        refine lv_iconst (v := 0) hx hb dmX13_allForms_5 (by decide) ?_
        obtain ⟨z1, hcq, hq⟩ := tw_cl0 hq
        refine tw_calv hM (va_runV (As := [.ref (u 115), .int 0]) (rest := []) ⟨hx, hb, hml, hown, hts⟩ (km_X13_formTo l D q u hU K 115 0 mr_115 z z1 hcq) (cwV 2 hts (tw_gV wM_good wq_531 wq_532 wq_533 wq_61 wq_527) rfl rfl rfl cd_X13_formTo ⟨(Nat.le_of_ble_eq_true rfl), (Nat.le_of_ble_eq_true rfl)⟩) (mw_preV hK hN hM mo_0 rfl) rfl rfl hl.1 rfl (lv_room (Nat.le_of_ble_eq_true rfl)) dmX13_allForms_6 ⟨(Nat.le_of_ble_eq_true rfl), (Nat.le_of_ble_eq_true rfl)⟩) (fun H locs hM => ?_)
        refine lv_aload_n hx hb dmX13_allForms_9 rfl (lv_at hl 0 rfl) ?_
        refine lv_iconst (v := 1) hx hb dmX13_allForms_10 (by decide) ?_
        refine mp13_780 hx hb hT hown hK hM hU hq dmX13_allForms_11 (fun z2 H locs hM hq => ?_)
        refine lv_iconst (v := 0) hx hb dmX13_allForms_14 (by decide) ?_
        refine lv_istore_n (lv' := [(2, .int 0), (0, .ref (u 0)), (1, .int x1)]) hx hb dmX13_allForms_15 rfl hl (by decide) rfl (fun ls hl => ?_)
        exact ih_1 x1 0 0 0 0 z2 H locs ls hM (lv_sub hl [1, 2, 0] rfl) hq
      · intro x1 x2 x3 x4 x5 z H locs ls  hM hl hq
        have hq : qm_X13_allForms_1 K (q_X13_allForms K k) x1 x2 x3 x4 x5 z = some (r, z1) := hq
        unfold qm_X13_allForms_1 at hq
        refine lv_iload_n hx hb dmX13_allForms_16 rfl (lv_at hl 2 rfl) ?_
        refine lv_aload_n hx hb dmX13_allForms_17 rfl (lv_at hl 0 rfl) ?_
        refine mg13_780 hx hb hT hown hK hM hq dmX13_allForms_18 (fun v3 hq => ?_)
        refine lv_icmp_ge (tgt := 229) hx hb dmX13_allForms_21 (by decide) (fun hc => ?_) (fun hc => ?_)
        · have hq := tw_it hq hc
          refine lv_iconst (v := 1) hx hb dmX13_allForms_229 (by decide) ?_
          obtain ⟨hz, hq⟩ := tw_gZ hq
          exact mw_zret hx hb hr hlocks hM hz hq hQQ dmX13_allForms_230
        · have hq := tw_if hq hc
          refine lv_iconst (v := 1) hx hb dmX13_allForms_24 (by decide) ?_
          refine lv_istore_n (lv' := [(3, .int 1), (0, .ref (u 0)), (1, .int x1), (2, .int x2)]) hx hb dmX13_allForms_25 rfl hl (by decide) rfl (fun ls hl => ?_)
          exact ih_2 x1 x2 1 0 0 z H locs ls hM (lv_sub hl [1, 2, 3, 0] rfl) hq
      · intro x1 x2 x3 x4 x5 z H locs ls  hM hl hq
        have hq : qm_X13_allForms_2 K (q_X13_allForms K k) x1 x2 x3 x4 x5 z = some (r, z1) := hq
        unfold qm_X13_allForms_2 at hq
        refine lv_iload_n hx hb dmX13_allForms_26 rfl (lv_at hl 3 rfl) ?_
        refine lv_aload_n hx hb dmX13_allForms_27 rfl (lv_at hl 0 rfl) ?_
        refine mg13_329 hx hb hT hown hK hM dmX13_allForms_28 ?_
        refine lv_iload_n hx hb dmX13_allForms_31 rfl (lv_at hl 1 rfl) ?_
        refine tw_iald mX_ok hx hb hK hM mr_97 hq dmX13_allForms_32 (fun v4 hq => ?_)
        refine lv_icmp_ge (tgt := 223) hx hb dmX13_allForms_33 (by decide) (fun hc => ?_) (fun hc => ?_)
        · have hq := tw_it hq hc
          refine lv_iinc (v := (x2 + 1)) (lv' := [(2, .int (x2 + 1)), (0, .ref (u 0)), (1, .int x1), (3, .int x3)]) hx hb dmX13_allForms_223 hl (k := 2) rfl rfl (by decide) rfl (fun ls hl => ?_)
          refine lv_goto (tgt := 16) hx hb dmX13_allForms_226 (by decide) ?_
          exact ih_1 x1 (x2 + 1) 0 0 0 z H locs ls hM (lv_sub hl [1, 2, 0] rfl) hq
        · have hq := tw_if hq hc
          refine lv_aload_n hx hb dmX13_allForms_36 rfl (lv_at hl 0 rfl) ?_
          refine mg13_371 hx hb hT hown hK hM dmX13_allForms_37 ?_
          refine lv_bipush (v := 40) hx hb dmX13_allForms_40 (by decide) ?_
          refine lv_iload_n hx hb dmX13_allForms_42 rfl (lv_at hl 2 rfl) ?_
          refine lv_imul hx hb dmX13_allForms_43 ?_
          refine tw_iald mX_ok hx hb hK hM mr_115 hq dmX13_allForms_44 (fun v5 hq => ?_)
          refine lv_istore (lv' := [(4, .int v5), (0, .ref (u 0)), (1, .int x1), (2, .int x2), (3, .int x3)]) hx hb dmX13_allForms_45 hl (by decide) rfl (fun ls hl => ?_)
          refine lv_aload_n hx hb dmX13_allForms_47 rfl (lv_at hl 1 rfl) ?_
          refine lv_iconst (v := 0) hx hb dmX13_allForms_48 (by decide) ?_
          refine mp13_742 hx hb hT hown hK hM hU hq dmX13_allForms_49 (fun z6 H locs hM hq => ?_)
          refine lv_aload_n hx hb dmX13_allForms_52 rfl (lv_at hl 1 rfl) ?_
          refine lv_iload_n hx hb dmX13_allForms_53 rfl (lv_at hl 2 rfl) ?_
          refine lv_aload_n hx hb dmX13_allForms_54 rfl (lv_at hl 1 rfl) ?_
          refine lv_iload_n hx hb dmX13_allForms_55 rfl (lv_at hl 2 rfl) ?_
          refine lv_aload_n hx hb dmX13_allForms_56 rfl (lv_at hl 1 rfl) ?_
          refine mg13_344 hx hb hT hown hK hM dmX13_allForms_57 ?_
          refine lv_bipush (v := 120) hx hb dmX13_allForms_60 (by decide) ?_
          refine lv_iload_n hx hb dmX13_allForms_62 rfl (lv_at hl 2 rfl) ?_
          refine lv_imul hx hb dmX13_allForms_63 ?_
          refine lv_iload_n hx hb dmX13_allForms_64 rfl (lv_at hl 4 rfl) ?_
          refine lv_iadd hx hb dmX13_allForms_65 ?_
          refine tw_iald mX_ok hx hb hK hM mr_102 hq dmX13_allForms_66 (fun v7 hq => ?_)
          refine lv_iload hx hb dmX13_allForms_67 (lv_at hl 0 rfl) ?_
          obtain ⟨v9, z8, hcq, hq⟩ := tw_cl1 hq
          refine tw_cali hM (va_runV (As := [.int x1, .int v7, .int v5]) (rest := [.int x1, .ref (u 0)]) ⟨hx, hb, hml, hown, hts⟩ (km_X13_turned l D q u hU K x1 v7 v5 z6 z8 v9 hcq) (cwV 3 hts (tw_gV wM_good wq_539 wq_540 wq_541 wq_61 wq_538) rfl rfl rfl cd_X13_turned ⟨(Nat.le_of_ble_eq_true rfl), (Nat.le_of_ble_eq_true rfl)⟩) (mw_preV hK hN hM mo_0 rfl) rfl rfl hl.1 rfl (lv_room (Nat.le_of_ble_eq_true rfl)) dmX13_allForms_69 ⟨(Nat.le_of_ble_eq_true rfl), (Nat.le_of_ble_eq_true rfl)⟩) (fun H locs hM => ?_)
          obtain ⟨z10, hcq, hq⟩ := tw_cl0 hq
          refine tw_calv hM (va_runV (As := [.int x1, .int v9]) (rest := []) ⟨hx, hb, hml, hown, hts⟩ (km_X13_append l D q u hU K x1 v9 z8 z10 hcq) (cwV 2 hts (tw_gV wM_good wq_515 wq_516 wq_517 wq_61 wq_500) rfl rfl rfl cd_X13_append ⟨(Nat.le_of_ble_eq_true rfl), (Nat.le_of_ble_eq_true rfl)⟩) (mw_preV hK hN hM mo_0 rfl) rfl rfl hl.1 rfl (lv_room (Nat.le_of_ble_eq_true rfl)) dmX13_allForms_72 ⟨(Nat.le_of_ble_eq_true rfl), (Nat.le_of_ble_eq_true rfl)⟩) (fun H locs hM => ?_)
          refine lv_iconst (v := 0) hx hb dmX13_allForms_75 (by decide) ?_
          refine lv_istore (lv' := [(5, .int 0), (4, .int v5), (0, .ref (u 0)), (1, .int x1), (2, .int x2), (3, .int x3)]) hx hb dmX13_allForms_76 hl (by decide) rfl (fun ls hl => ?_)
          exact ih_3 x1 x2 x3 v5 0 z10 H locs ls hM (lv_sub hl [2, 3, 4, 5, 1, 0] rfl) hq
      · intro x1 x2 x3 x4 x5 z H locs ls  hM hl hq
        have hq : qm_X13_allForms_3 K (q_X13_allForms K k) x1 x2 x3 x4 x5 z = some (r, z1) := hq
        unfold qm_X13_allForms_3 at hq
        refine lv_iload hx hb dmX13_allForms_78 (lv_at hl 5 rfl) ?_
        refine lv_aload_n hx hb dmX13_allForms_80 rfl (lv_at hl 0 rfl) ?_
        refine mg13_371 hx hb hT hown hK hM dmX13_allForms_81 ?_
        refine lv_bipush (v := 40) hx hb dmX13_allForms_84 (by decide) ?_
        refine lv_iload_n hx hb dmX13_allForms_86 rfl (lv_at hl 2 rfl) ?_
        refine lv_imul hx hb dmX13_allForms_87 ?_
        refine lv_iconst (v := 1) hx hb dmX13_allForms_88 (by decide) ?_
        refine lv_iadd hx hb dmX13_allForms_89 ?_
        refine tw_iald mX_ok hx hb hK hM mr_115 hq dmX13_allForms_90 (fun v11 hq => ?_)
        refine lv_icmp_ge (tgt := 119) hx hb dmX13_allForms_91 (by decide) (fun hc => ?_) (fun hc => ?_)
        · have hq := tw_it hq hc
          refine lv_aload_n hx hb dmX13_allForms_119 rfl (lv_at hl 0 rfl) ?_
          refine lv_iload_n hx hb dmX13_allForms_120 rfl (lv_at hl 1 rfl) ?_
          refine lv_iload_n hx hb dmX13_allForms_121 rfl (lv_at hl 3 rfl) ?_
          obtain ⟨z12, hcq, hq⟩ := tw_cl0 hq
          refine tw_calv hM (va_runV (As := [.int x1, .int x3]) (rest := []) ⟨hx, hb, hml, hown, hts⟩ (km_X13_append l D q u hU K x1 x3 z z12 hcq) (cwV 2 hts (tw_gV wM_good wq_515 wq_516 wq_517 wq_61 wq_500) rfl rfl rfl cd_X13_append ⟨(Nat.le_of_ble_eq_true rfl), (Nat.le_of_ble_eq_true rfl)⟩) (mw_preV hK hN hM mo_0 rfl) rfl rfl hl.1 rfl (lv_room (Nat.le_of_ble_eq_true rfl)) dmX13_allForms_122 ⟨(Nat.le_of_ble_eq_true rfl), (Nat.le_of_ble_eq_true rfl)⟩) (fun H locs hM => ?_)
          refine lv_aload_n hx hb dmX13_allForms_125 rfl (lv_at hl 0 rfl) ?_
          refine lv_iload_n hx hb dmX13_allForms_126 rfl (lv_at hl 1 rfl) ?_
          refine lv_iload hx hb dmX13_allForms_127 (lv_at hl 4 rfl) ?_
          refine lv_iconst (v := 1) hx hb dmX13_allForms_129 (by decide) ?_
          refine lv_isub hx hb dmX13_allForms_130 ?_
          obtain ⟨z13, hcq, hq⟩ := tw_cl0 hq
          refine tw_calv hM (va_runV (As := [.int x1, .int (x4 - 1)]) (rest := []) ⟨hx, hb, hml, hown, hts⟩ (km_X13_normalise l D q u hU K x1 (x4 - 1) z12 z13 hcq) (cwV 2 hts (tw_gV wM_good wq_518 wq_519 wq_520 wq_61 wq_513) rfl rfl rfl cd_X13_normalise ⟨(Nat.le_of_ble_eq_true rfl), (Nat.le_of_ble_eq_true rfl)⟩) (mw_preV hK hN hM mo_0 rfl) rfl rfl hl.1 rfl (lv_room (Nat.le_of_ble_eq_true rfl)) dmX13_allForms_131 ⟨(Nat.le_of_ble_eq_true rfl), (Nat.le_of_ble_eq_true rfl)⟩) (fun H locs hM => ?_)
          refine lv_aload_n hx hb dmX13_allForms_134 rfl (lv_at hl 0 rfl) ?_
          refine mg13_748 hx hb hT hown hK hM hq dmX13_allForms_135 (fun v14 hq => ?_)
          refine lv_aload_n hx hb dmX13_allForms_138 rfl (lv_at hl 0 rfl) ?_
          refine mg13_371 hx hb hT hown hK hM dmX13_allForms_139 ?_
          refine lv_iconst (v := 0) hx hb dmX13_allForms_142 (by decide) ?_
          refine tw_iald mX_ok hx hb hK hM mr_115 hq dmX13_allForms_143 (fun v15 hq => ?_)
          refine lv_icmp_ne (tgt := 217) hx hb dmX13_allForms_144 (by decide) (fun hc => ?_) (fun hc => ?_)
          · have hq := tw_if hq hc
            exact ih_4 x1 x2 x3 x4 x5 z13 H locs ls hM (lv_sub hl [0, 1, 2, 3, 4, 5] rfl) hq
          · have hq := tw_it hq hc
            refine lv_aload_n hx hb dmX13_allForms_147 rfl (lv_at hl 0 rfl) ?_
            refine mg13_751 hx hb hT hown hK hM hq dmX13_allForms_148 (fun v16 hq => ?_)
            refine lv_aload_n hx hb dmX13_allForms_151 rfl (lv_at hl 0 rfl) ?_
            refine mg13_371 hx hb hT hown hK hM dmX13_allForms_152 ?_
            refine lv_iconst (v := 1) hx hb dmX13_allForms_155 (by decide) ?_
            refine tw_iald mX_ok hx hb hK hM mr_115 hq dmX13_allForms_156 (fun v17 hq => ?_)
            refine lv_icmp_ne (tgt := 217) hx hb dmX13_allForms_157 (by decide) (fun hc => ?_) (fun hc => ?_)
            · have hq := tw_if hq hc
              exact ih_4 x1 x2 x3 x4 x5 z13 H locs ls hM (lv_sub hl [0, 1, 2, 3, 4, 5] rfl) hq
            · have hq := tw_it hq hc
              refine lv_aload_n hx hb dmX13_allForms_160 rfl (lv_at hl 0 rfl) ?_
              refine lv_aload_n hx hb dmX13_allForms_161 rfl (lv_at hl 0 rfl) ?_
              refine mg13_374 hx hb hT hown hK hM dmX13_allForms_162 ?_
              refine lv_iconst (v := 0) hx hb dmX13_allForms_165 (by decide) ?_
              obtain ⟨z18, hcq, hq⟩ := tw_cl0 hq
              refine tw_calv hM (va_runV (As := [.ref (u 117), .int 0]) (rest := []) ⟨hx, hb, hml, hown, hts⟩ (km_X13_formTo l D q u hU K 117 0 mr_117 z13 z18 hcq) (cwV 2 hts (tw_gV wM_good wq_531 wq_532 wq_533 wq_61 wq_527) rfl rfl rfl cd_X13_formTo ⟨(Nat.le_of_ble_eq_true rfl), (Nat.le_of_ble_eq_true rfl)⟩) (mw_preV hK hN hM mo_0 rfl) rfl rfl hl.1 rfl (lv_room (Nat.le_of_ble_eq_true rfl)) dmX13_allForms_166 ⟨(Nat.le_of_ble_eq_true rfl), (Nat.le_of_ble_eq_true rfl)⟩) (fun H locs hM => ?_)
              refine lv_aload_n hx hb dmX13_allForms_169 rfl (lv_at hl 0 rfl) ?_
              refine lv_aload_n hx hb dmX13_allForms_170 rfl (lv_at hl 0 rfl) ?_
              refine mg13_374 hx hb hT hown hK hM dmX13_allForms_171 ?_
              obtain ⟨v20, z19, hcq, hq⟩ := tw_cl1 hq
              refine tw_cali hM (va_runV (As := [.ref (u 117)]) (rest := []) ⟨hx, hb, hml, hown, hts⟩ (km_X13_isThere l D q u hU K 117 mr_117 z18 z19 v20 hcq) (cwV 1 hts (tw_gV wM_good wq_549 wq_550 wq_551 wq_61 wq_552) rfl rfl rfl cd_X13_isThere ⟨(Nat.le_of_ble_eq_true rfl), (Nat.le_of_ble_eq_true rfl)⟩) (mw_preV hK hN hM mo_0 rfl) rfl rfl hl.1 rfl (lv_room (Nat.le_of_ble_eq_true rfl)) dmX13_allForms_174 ⟨(Nat.le_of_ble_eq_true rfl), (Nat.le_of_ble_eq_true rfl)⟩) (fun H locs hM => ?_)
              refine lv_if_ne (tgt := 217) hx hb dmX13_allForms_177 (by decide) (fun hc => ?_) (fun hc => ?_)
              · have hq := tw_if hq hc
                exact ih_4 x1 x2 x3 x4 x5 z19 H locs ls hM (lv_sub hl [0, 1, 2, 3, 4, 5] rfl) hq
              · have hq := tw_it hq hc
                refine lv_aload_n hx hb dmX13_allForms_180 rfl (lv_at hl 0 rfl) ?_
                refine mg13_780 hx hb hT hown hK hM hq dmX13_allForms_181 (fun v21 hq => ?_)
                refine lv_sipush (v := 200) hx hb dmX13_allForms_184 (by decide) ?_
                refine lv_icmp_ne (tgt := 192) hx hb dmX13_allForms_187 (by decide) (fun hc => ?_) (fun hc => ?_)
                · have hq := tw_if hq hc
                  refine lv_aload_n hx hb dmX13_allForms_192 rfl (lv_at hl 0 rfl) ?_
                  refine lv_aload_n hx hb dmX13_allForms_193 rfl (lv_at hl 0 rfl) ?_
                  refine mg13_371 hx hb hT hown hK hM dmX13_allForms_194 ?_
                  refine lv_bipush (v := 40) hx hb dmX13_allForms_197 (by decide) ?_
                  refine lv_aload_n hx hb dmX13_allForms_199 rfl (lv_at hl 0 rfl) ?_
                  refine mg13_780 hx hb hT hown hK hM hq dmX13_allForms_200 (fun v22 hq => ?_)
                  refine lv_imul hx hb dmX13_allForms_203 ?_
                  obtain ⟨z23, hcq, hq⟩ := tw_cl0 hq
                  refine tw_calv hM (va_runV (As := [.ref (u 115), .int (40 * v22)]) (rest := []) ⟨hx, hb, hml, hown, hts⟩ (km_X13_formTo l D q u hU K 115 (40 * v22) mr_115 z19 z23 hcq) (cwV 2 hts (tw_gV wM_good wq_531 wq_532 wq_533 wq_61 wq_527) rfl rfl rfl cd_X13_formTo ⟨(Nat.le_of_ble_eq_true rfl), (Nat.le_of_ble_eq_true rfl)⟩) (mw_preV hK hN hM mo_0 rfl) rfl rfl hl.1 rfl (lv_room (Nat.le_of_ble_eq_true rfl)) dmX13_allForms_204 ⟨(Nat.le_of_ble_eq_true rfl), (Nat.le_of_ble_eq_true rfl)⟩) (fun H locs hM => ?_)
                  refine lv_aload_n hx hb dmX13_allForms_207 rfl (lv_at hl 0 rfl) ?_
                  refine lv_dup hx hb dmX13_allForms_208 rfl ?_
                  refine mg13_780 hx hb hT hown hK hM hq dmX13_allForms_209 (fun v24 hq => ?_)
                  refine lv_iconst (v := 1) hx hb dmX13_allForms_212 (by decide) ?_
                  refine lv_iadd hx hb dmX13_allForms_213 ?_
                  refine mp13_780 hx hb hT hown hK hM hU hq dmX13_allForms_214 (fun z25 H locs hM hq => ?_)
                  exact ih_4 x1 x2 x3 x4 x5 z25 H locs ls hM (lv_sub hl [0, 1, 2, 3, 4, 5] rfl) hq
                · have hq := tw_it hq hc
                  refine lv_iconst (v := 0) hx hb dmX13_allForms_190 (by decide) ?_
                  obtain ⟨hz, hq⟩ := tw_gZ hq
                  exact mw_zret hx hb hr hlocks hM hz hq hQQ dmX13_allForms_191
        · have hq := tw_if hq hc
          refine lv_aload_n hx hb dmX13_allForms_94 rfl (lv_at hl 0 rfl) ?_
          refine lv_iload_n hx hb dmX13_allForms_95 rfl (lv_at hl 1 rfl) ?_
          refine lv_aload_n hx hb dmX13_allForms_96 rfl (lv_at hl 0 rfl) ?_
          refine mg13_371 hx hb hT hown hK hM dmX13_allForms_97 ?_
          refine lv_bipush (v := 40) hx hb dmX13_allForms_100 (by decide) ?_
          refine lv_iload_n hx hb dmX13_allForms_102 rfl (lv_at hl 2 rfl) ?_
          refine lv_imul hx hb dmX13_allForms_103 ?_
          refine lv_iconst (v := 2) hx hb dmX13_allForms_104 (by decide) ?_
          refine lv_iadd hx hb dmX13_allForms_105 ?_
          refine lv_iload hx hb dmX13_allForms_106 (lv_at hl 5 rfl) ?_
          refine lv_iadd hx hb dmX13_allForms_108 ?_
          refine tw_iald mX_ok hx hb hK hM mr_115 hq dmX13_allForms_109 (fun v26 hq => ?_)
          obtain ⟨z27, hcq, hq⟩ := tw_cl0 hq
          refine tw_calv hM (va_runV (As := [.int x1, .int v26]) (rest := []) ⟨hx, hb, hml, hown, hts⟩ (km_X13_append l D q u hU K x1 v26 z z27 hcq) (cwV 2 hts (tw_gV wM_good wq_515 wq_516 wq_517 wq_61 wq_500) rfl rfl rfl cd_X13_append ⟨(Nat.le_of_ble_eq_true rfl), (Nat.le_of_ble_eq_true rfl)⟩) (mw_preV hK hN hM mo_0 rfl) rfl rfl hl.1 rfl (lv_room (Nat.le_of_ble_eq_true rfl)) dmX13_allForms_110 ⟨(Nat.le_of_ble_eq_true rfl), (Nat.le_of_ble_eq_true rfl)⟩) (fun H locs hM => ?_)
          refine lv_iinc (v := (x5 + 1)) (lv' := [(5, .int (x5 + 1)), (0, .ref (u 0)), (1, .int x1), (2, .int x2), (3, .int x3), (4, .int x4)]) hx hb dmX13_allForms_113 hl (k := 5) rfl rfl (by decide) rfl (fun ls hl => ?_)
          refine lv_goto (tgt := 78) hx hb dmX13_allForms_116 (by decide) ?_
          exact ih_3 x1 x2 x3 x4 (x5 + 1) z27 H locs ls hM (lv_sub hl [1, 2, 3, 4, 5, 0] rfl) hq
      · intro x1 x2 x3 x4 x5 z H locs ls  hM hl hq
        have hq : qm_X13_allForms_4 K (q_X13_allForms K k) x1 x2 x3 x4 x5 z = some (r, z1) := hq
        unfold qm_X13_allForms_4 at hq
        refine lv_iinc (v := (x3 + 1)) (lv' := [(3, .int (x3 + 1)), (0, .ref (u 0)), (1, .int x1), (2, .int x2), (4, .int x4), (5, .int x5)]) hx hb dmX13_allForms_217 hl (k := 3) rfl rfl (by decide) rfl (fun ls hl => ?_)
        refine lv_goto (tgt := 26) hx hb dmX13_allForms_220 (by decide) ?_
        exact ih_2 x1 x2 (x3 + 1) 0 0 z H locs ls hM (lv_sub hl [1, 2, 3, 0] rfl) hq
  exact (key K).1 x1 0 0 0 0 z s.heap [] ls  hM (lv_sub hl [0, 1] rfl) hq
