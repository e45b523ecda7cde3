theorem dmX13_qOf_0 : decode cX13_qOf 0 = .ok (.iconst 2, 1) := by decide +kernel
theorem dmX13_qOf_1 : decode cX13_qOf 1 = .ok (.iload_n 2, 1) := by decide +kernel
theorem dmX13_qOf_2 : decode cX13_qOf 2 = .ok (.invokestatic 590, 3) := by decide +kernel
theorem dmX13_qOf_5 : decode cX13_qOf 5 = .ok (.imul, 1) := by decide +kernel
theorem dmX13_qOf_6 : decode cX13_qOf 6 = .ok (.aload_n 0, 1) := by decide +kernel
theorem dmX13_qOf_7 : decode cX13_qOf 7 = .ok (.getfield 289, 3) := by decide +kernel
theorem dmX13_qOf_10 : decode cX13_qOf 10 = .ok (.iload_n 1, 1) := by decide +kernel
theorem dmX13_qOf_11 : decode cX13_qOf 11 = .ok (.iaload, 1) := by decide +kernel
theorem dmX13_qOf_12 : decode cX13_qOf 12 = .ok (.isub, 1) := by decide +kernel
theorem dmX13_qOf_13 : decode cX13_qOf 13 = .ok (.iload_n 1, 1) := by decide +kernel
theorem dmX13_qOf_14 : decode cX13_qOf 14 = .ok (.invokestatic 590, 3) := by decide +kernel
theorem dmX13_qOf_17 : decode cX13_qOf 17 = .ok (.iadd, 1) := by decide +kernel
theorem dmX13_qOf_18 : decode cX13_qOf 18 = .ok (.iload_n 3, 1) := by decide +kernel
theorem dmX13_qOf_19 : decode cX13_qOf 19 = .ok (.iadd, 1) := by decide +kernel
theorem dmX13_qOf_20 : decode cX13_qOf 20 = .ok (.iconst 2, 1) := by decide +kernel
theorem dmX13_qOf_21 : decode cX13_qOf 21 = .ok (.aload_n 0, 1) := by decide +kernel
theorem dmX13_qOf_22 : decode cX13_qOf 22 = .ok (.getfield 690, 3) := by decide +kernel
theorem dmX13_qOf_25 : decode cX13_qOf 25 = .ok (.imul, 1) := by decide +kernel
theorem dmX13_qOf_26 : decode cX13_qOf 26 = .ok (.isub, 1) := by decide +kernel
theorem dmX13_qOf_27 : decode cX13_qOf 27 = .ok (.bipush 40, 2) := by decide +kernel
theorem dmX13_qOf_29 : decode cX13_qOf 29 = .ok (.iadd, 1) := by decide +kernel
theorem dmX13_qOf_30 : decode cX13_qOf 30 = .ok (.ireturn, 1) := by decide +kernel
def qm_X13_qOf_0 (K : Nat) (x1 : Int32) (x2 : Int32) (x3 : Int32) (z : ow_MS) : Option (Int32 × ow_MS) :=
 rdI mX z 82 x1 fun v2 => rdF z 88 fun v4 => some (((((((2 * (ow_bc x2)) - v2) + (ow_bc x1)) + x3) - (2 * v4)) + 40), z)
def qe_X13_qOf (K : Nat) (x1 : Int32) (x2 : Int32) (x3 : Int32) (z : ow_MS) : Option (Int32 × ow_MS) := qm_X13_qOf_0 K x1 x2 x3 z
abbrev wm_X13_qOf : List Cond := .code yX13_qOf cX13_qOf 4 (some .int) :: wM
theorem cd_X13_qOf : yX13_qOf.cls = RX13 ∧ yX13_qOf.cls ≠ "java/lang/invoke/MethodHandle" ∧ yX13_qOf.cls ≠ "java/lang/invoke/VarHandle" ∧ (parseMethodDescriptor yX13_qOf.desc).map (fun d => d.parameters.length) = some 3 := by decide +kernel
set_option maxHeartbeats 4000000 in
set_option maxRecDepth 100000 in
theorem km_X13_qOf (l : Launch) (D : va_G) (q : ow_Q5) (u : Nat → Nat) (hU : tw_inj mX u) (K : Nat) (x1 : Int32) (x2 : Int32) (x3 : Int32)  (z z1 : ow_MS) (r : Int32) (hq : qe_X13_qOf K x1 x2 x3 z = some (r, z1)) : Met l yX13_qOf wm_X13_qOf ({ frames := 1, cells := 0, slots := 0, locals := 20 } : Room) (va_Pc [.ref (u 0), .int x1, .int x2, .int x3] (mw_pre D q u z)) (va_Qi (fun x (_ : Unit) => x = r) (fun _ t => va_P D vwCl (tw mX q u z1) t.heap) (tw_A mX u)) 0 0 (tw_A mX u) := by
  refine Met.ofW (cc := cX13_qOf) (maxL := 4) (ret := (some .int)) (by decide) rfl ?_
  intro p e s m args below meth c s₁ B hml hv
  obtain ⟨rfl, hP, hK, hN⟩ := hv
  have hx := B.exec
  have hb := B.bytes
  have hr := B.returns
  have hts := atoms_spec (ws := wm_X13_qOf) B.pre
  have hT : ∀ w ∈ wM, w.before ([.ref (u 0), .int x1, .int x2, .int x3] : List Value).toArray s = true := fun w h => hts w (List.mem_cons_of_mem _ h)
  have hown : s.vm.findClass RX13 = some m.cls := findClass_of_methodNamed B.named
  have hlocks := B.notSynchronized
  have hM : tw_M D vwCl mX q s.heap u z s.heap [] := ⟨hP, va_S.rf⟩
  have hl := lv_entry ([.ref (u 0), .int x1, .int x2, .int x3]) (n := 4) (Nat.le_of_ble_eq_true rfl)
  rw [lg_entry_eq]
  generalize (lg_sl ([.ref (u 0), .int x1, .int x2, .int x3]) ++ List.replicate (4 - (lg_sl ([.ref (u 0), .int x1, .int x2, .int x3])).length) Slot.unset).toArray = ls at hl ⊢
  have hl : lv_has ls 4 [(0, .ref (u 0)), (1, .int x1), (2, .int x2), (3, .int x3)] := hl
  refine ow_named (fun QQ hQQ => ?_)
  generalize ([.ref (u 0), .int x1, .int x2, .int x3] : List Value).toArray = args at hts hT hQQ ⊢
  have hq : qm_X13_qOf_0 K x1 x2 x3 z = some (r, z1) := hq
  unfold qm_X13_qOf_0 at hq
  suffices key : ∀ (H : Heap) (locs : List Loc), tw_M D vwCl mX q s.heap u z H locs → W p l e ({ frames := 1, cells := 0, slots := 0, locals := 20 } : Room) s m args below meth c H locs 0 0 QQ (F0 m 0 ls []) from key s.heap [] hM
  intro H locs hM
  refine lv_iconst (v := 2) hx hb dmX13_qOf_0 (by decide) ?_
  refine lv_iload_n hx hb dmX13_qOf_1 rfl (lv_at hl 2 rfl) ?_
  refine mw_pure hM (va_runS (As := [.int x2]) (rest := [.int 2]) ⟨hx, hb, hml, hown, hts⟩ (k_J6_bitCount_0f7a4 l x2) (va_cwS 1 hts (mw_gbc wq_307) rfl rfl rfl (by decide +kernel) ⟨(Nat.le_of_ble_eq_true rfl), (Nat.le_of_ble_eq_true rfl)⟩) ⟨fun a U g mk q => q, fun U hU hW => ⟨rfl, trivial⟩⟩ rfl rfl hl.1 rfl (lv_room (Nat.le_of_ble_eq_true rfl)) dmX13_qOf_2 ⟨(Nat.le_of_ble_eq_true rfl), (Nat.le_of_ble_eq_true rfl)⟩) (fun H locs hM => ?_)
  refine lv_imul hx hb dmX13_qOf_5 ?_
  refine lv_aload_n hx hb dmX13_qOf_6 rfl (lv_at hl 0 rfl) ?_
  refine mg13_289 hx hb hT hown hK hM dmX13_qOf_7 ?_
  refine lv_iload_n hx hb dmX13_qOf_10 rfl (lv_at hl 1 rfl) ?_
  refine tw_iald mX_ok hx hb hK hM mr_82 hq dmX13_qOf_11 (fun v2 hq => ?_)
  refine lv_isub hx hb dmX13_qOf_12 ?_
  refine lv_iload_n hx hb dmX13_qOf_13 rfl (lv_at hl 1 rfl) ?_
  refine mw_pure hM (va_runS (As := [.int x1]) (rest := [.int ((2 * (ow_bc x2)) - v2)]) ⟨hx, hb, hml, hown, hts⟩ (k_J6_bitCount_0f7a4 l x1) (va_cwS 1 hts (mw_gbc wq_307) rfl rfl rfl (by decide +kernel) ⟨(Nat.le_of_ble_eq_true rfl), (Nat.le_of_ble_eq_true rfl)⟩) ⟨fun a U g mk q => q, fun U hU hW => ⟨rfl, trivial⟩⟩ rfl rfl hl.1 rfl (lv_room (Nat.le_of_ble_eq_true rfl)) dmX13_qOf_14 ⟨(Nat.le_of_ble_eq_true rfl), (Nat.le_of_ble_eq_true rfl)⟩) (fun H locs hM => ?_)
  refine lv_iadd hx hb dmX13_qOf_17 ?_
  refine lv_iload_n hx hb dmX13_qOf_18 rfl (lv_at hl 3 rfl) ?_
  refine lv_iadd hx hb dmX13_qOf_19 ?_
  refine lv_iconst (v := 2) hx hb dmX13_qOf_20 (by decide) ?_
  refine lv_aload_n hx hb dmX13_qOf_21 rfl (lv_at hl 0 rfl) ?_
  refine mg13_690 hx hb hT hown hK hM hq dmX13_qOf_22 (fun v4 hq => ?_)
  refine lv_imul hx hb dmX13_qOf_25 ?_
  refine lv_isub hx hb dmX13_qOf_26 ?_
  refine lv_bipush (v := 40) hx hb dmX13_qOf_27 (by decide) ?_
  refine lv_iadd hx hb dmX13_qOf_29 ?_
  exact mw_iret hx hb hr hlocks hM hq hQQ dmX13_qOf_30
theorem dmX13_placeAll_0 : decode cX13_placeAll 0 = .ok (.iconst 0, 1) := dw_at cX13_placeAll_k0 (p := 0) rfl (by decide +kernel)
theorem dmX13_placeAll_1 : decode cX13_placeAll 1 = .ok (.istore_n 2, 1) := dw_at cX13_placeAll_k0 (p := 1) rfl (by decide +kernel)
theorem dmX13_placeAll_2 : decode cX13_placeAll 2 = .ok (.iload_n 2, 1) := dw_at cX13_placeAll_k0 (p := 2) rfl (by decide +kernel)
theorem dmX13_placeAll_3 : decode cX13_placeAll 3 = .ok (.aload_n 0, 1) := dw_at cX13_placeAll_k0 (p := 3) rfl (by decide +kernel)
theorem dmX13_placeAll_4 : decode cX13_placeAll 4 = .ok (.getfield 298, 3) := dw_at cX13_placeAll_k0 (p := 4) rfl (by decide +kernel)
theorem dmX13_placeAll_7 : decode cX13_placeAll 7 = .ok (.arraylength, 1) := dw_at cX13_placeAll_k0 (p := 7) rfl (by decide +kernel)
theorem dmX13_placeAll_8 : decode cX13_placeAll 8 = .ok (.if_icmp .ge 30, 3) := dw_at cX13_placeAll_k0 (p := 8) rfl (by decide +kernel)
theorem dmX13_placeAll_11 : decode cX13_placeAll 11 = .ok (.aload_n 0, 1) := dw_at cX13_placeAll_k0 (p := 11) rfl (by decide +kernel)
theorem dmX13_placeAll_12 : decode cX13_placeAll 12 = .ok (.getfield 298, 3) := dw_at cX13_placeAll_k0 (p := 12) rfl (by decide +kernel)
theorem dmX13_placeAll_15 : decode cX13_placeAll 15 = .ok (.iload_n 2, 1) := dw_at cX13_placeAll_k0 (p := 15) rfl (by decide +kernel)
theorem dmX13_placeAll_16 : decode cX13_placeAll 16 = .ok (.iconst 0, 1) := dw_at cX13_placeAll_k0 (p := 16) rfl (by decide +kernel)
theorem dmX13_placeAll_17 : decode cX13_placeAll 17 = .ok (.iastore, 1) := dw_at cX13_placeAll_k0 (p := 17) rfl (by decide +kernel)
theorem dmX13_placeAll_18 : decode cX13_placeAll 18 = .ok (.aload_n 0, 1) := dw_at cX13_placeAll_k0 (p := 18) rfl (by decide +kernel)
theorem dmX13_placeAll_19 : decode cX13_placeAll 19 = .ok (.getfield 301, 3) := dw_at cX13_placeAll_k0 (p := 19) rfl (by decide +kernel)
theorem dmX13_placeAll_22 : decode cX13_placeAll 22 = .ok (.iload_n 2, 1) := dw_at cX13_placeAll_k0 (p := 22) rfl (by decide +kernel)
theorem dmX13_placeAll_23 : decode cX13_placeAll 23 = .ok (.iconst 0, 1) := dw_at cX13_placeAll_k0 (p := 23) rfl (by decide +kernel)
theorem dmX13_placeAll_24 : decode cX13_placeAll 24 = .ok (.iastore, 1) := dw_at cX13_placeAll_k1 (p := 0) rfl (by decide +kernel)
theorem dmX13_placeAll_25 : decode cX13_placeAll 25 = .ok (.aload_n 0, 1) := dw_at cX13_placeAll_k1 (p := 1) rfl (by decide +kernel)
theorem dmX13_placeAll_26 : decode cX13_placeAll 26 = .ok (.getfield 304, 3) := dw_at cX13_placeAll_k1 (p := 2) rfl (by decide +kernel)
theorem dmX13_placeAll_29 : decode cX13_placeAll 29 = .ok (.iload_n 2, 1) := dw_at cX13_placeAll_k1 (p := 5) rfl (by decide +kernel)
theorem dmX13_placeAll_30 : decode cX13_placeAll 30 = .ok (.iconst 0, 1) := dw_at cX13_placeAll_k1 (p := 6) rfl (by decide +kernel)
theorem dmX13_placeAll_31 : decode cX13_placeAll 31 = .ok (.iastore, 1) := dw_at cX13_placeAll_k1 (p := 7) rfl (by decide +kernel)
theorem dmX13_placeAll_32 : decode cX13_placeAll 32 = .ok (.iinc 2 1, 3) := dw_at cX13_placeAll_k1 (p := 8) rfl (by decide +kernel)
theorem dmX13_placeAll_35 : decode cX13_placeAll 35 = .ok (.goto (-33), 3) := dw_at cX13_placeAll_k1 (p := 11) rfl (by decide +kernel)
theorem dmX13_placeAll_38 : decode cX13_placeAll 38 = .ok (.iconst 0, 1) := dw_at cX13_placeAll_k1 (p := 14) rfl (by decide +kernel)
theorem dmX13_placeAll_39 : decode cX13_placeAll 39 = .ok (.istore_n 2, 1) := dw_at cX13_placeAll_k1 (p := 15) rfl (by decide +kernel)
theorem dmX13_placeAll_40 : decode cX13_placeAll 40 = .ok (.iload_n 2, 1) := dw_at cX13_placeAll_k1 (p := 16) rfl (by decide +kernel)
theorem dmX13_placeAll_41 : decode cX13_placeAll 41 = .ok (.iconst 1, 1) := dw_at cX13_placeAll_k1 (p := 17) rfl (by decide +kernel)
theorem dmX13_placeAll_42 : decode cX13_placeAll 42 = .ok (.iload_n 1, 1) := dw_at cX13_placeAll_k1 (p := 18) rfl (by decide +kernel)
theorem dmX13_placeAll_43 : decode cX13_placeAll 43 = .ok (.ishl, 1) := dw_at cX13_placeAll_k1 (p := 19) rfl (by decide +kernel)
theorem dmX13_placeAll_44 : decode cX13_placeAll 44 = .ok (.if_icmp .ge 82, 3) := dw_at cX13_placeAll_k1 (p := 20) rfl (by decide +kernel)
theorem dmX13_placeAll_47 : decode cX13_placeAll 47 = .ok (.iconst 0, 1) := dw_at cX13_placeAll_k1 (p := 23) rfl (by decide +kernel)
theorem dmX13_placeAll_48 : decode cX13_placeAll 48 = .ok (.istore_n 3, 1) := dw_at cX13_placeAll_k2 (p := 0) rfl (by decide +kernel)
theorem dmX13_placeAll_49 : decode cX13_placeAll 49 = .ok (.iload_n 3, 1) := dw_at cX13_placeAll_k2 (p := 1) rfl (by decide +kernel)
theorem dmX13_placeAll_50 : decode cX13_placeAll 50 = .ok (.iconst 1, 1) := dw_at cX13_placeAll_k2 (p := 2) rfl (by decide +kernel)
theorem dmX13_placeAll_51 : decode cX13_placeAll 51 = .ok (.aload_n 0, 1) := dw_at cX13_placeAll_k2 (p := 3) rfl (by decide +kernel)
theorem dmX13_placeAll_52 : decode cX13_placeAll 52 = .ok (.getfield 289, 3) := dw_at cX13_placeAll_k2 (p := 4) rfl (by decide +kernel)
theorem dmX13_placeAll_55 : decode cX13_placeAll 55 = .ok (.iload_n 2, 1) := dw_at cX13_placeAll_k2 (p := 7) rfl (by decide +kernel)
theorem dmX13_placeAll_56 : decode cX13_placeAll 56 = .ok (.iaload, 1) := dw_at cX13_placeAll_k2 (p := 8) rfl (by decide +kernel)
theorem dmX13_placeAll_57 : decode cX13_placeAll 57 = .ok (.ishl, 1) := dw_at cX13_placeAll_k2 (p := 9) rfl (by decide +kernel)
theorem dmX13_placeAll_58 : decode cX13_placeAll 58 = .ok (.if_icmp .ge 62, 3) := dw_at cX13_placeAll_k2 (p := 10) rfl (by decide +kernel)
theorem dmX13_placeAll_61 : decode cX13_placeAll 61 = .ok (.bipush 80, 2) := dw_at cX13_placeAll_k2 (p := 13) rfl (by decide +kernel)
theorem dmX13_placeAll_63 : decode cX13_placeAll 63 = .ok (.iload_n 2, 1) := dw_at cX13_placeAll_k2 (p := 15) rfl (by decide +kernel)
theorem dmX13_placeAll_64 : decode cX13_placeAll 64 = .ok (.invokestatic 590, 3) := dw_at cX13_placeAll_k2 (p := 16) rfl (by decide +kernel)
theorem dmX13_placeAll_67 : decode cX13_placeAll 67 = .ok (.imul, 1) := dw_at cX13_placeAll_k2 (p := 19) rfl (by decide +kernel)
theorem dmX13_placeAll_68 : decode cX13_placeAll 68 = .ok (.aload_n 0, 1) := dw_at cX13_placeAll_k2 (p := 20) rfl (by decide +kernel)
theorem dmX13_placeAll_69 : decode cX13_placeAll 69 = .ok (.iload_n 2, 1) := dw_at cX13_placeAll_k2 (p := 21) rfl (by decide +kernel)
theorem dmX13_placeAll_70 : decode cX13_placeAll 70 = .ok (.iload_n 3, 1) := dw_at cX13_placeAll_k2 (p := 22) rfl (by decide +kernel)
theorem dmX13_placeAll_71 : decode cX13_placeAll 71 = .ok (.iload_n 1, 1) := dw_at cX13_placeAll_k2 (p := 23) rfl (by decide +kernel)
theorem dmX13_placeAll_72 : decode cX13_placeAll 72 = .ok (.aload_n 0, 1) := dw_at cX13_placeAll_k3 (p := 0) rfl (by decide +kernel)
theorem dmX13_placeAll_73 : decode cX13_placeAll 73 = .ok (.getfield 690, 3) := dw_at cX13_placeAll_k3 (p := 1) rfl (by decide +kernel)
theorem dmX13_placeAll_76 : decode cX13_placeAll 76 = .ok (.isub, 1) := dw_at cX13_placeAll_k3 (p := 4) rfl (by decide +kernel)
theorem dmX13_placeAll_77 : decode cX13_placeAll 77 = .ok (.invokevirtual 693, 3) := dw_at cX13_placeAll_k3 (p := 5) rfl (by decide +kernel)
theorem dmX13_placeAll_80 : decode cX13_placeAll 80 = .ok (.iadd, 1) := dw_at cX13_placeAll_k3 (p := 8) rfl (by decide +kernel)
theorem dmX13_placeAll_81 : decode cX13_placeAll 81 = .ok (.istore 4, 2) := dw_at cX13_placeAll_k3 (p := 9) rfl (by decide +kernel)
theorem dmX13_placeAll_83 : decode cX13_placeAll 83 = .ok (.aload_n 0, 1) := dw_at cX13_placeAll_k3 (p := 11) rfl (by decide +kernel)
theorem dmX13_placeAll_84 : decode cX13_placeAll 84 = .ok (.getfield 295, 3) := dw_at cX13_placeAll_k3 (p := 12) rfl (by decide +kernel)
theorem dmX13_placeAll_87 : decode cX13_placeAll 87 = .ok (.aload_n 0, 1) := dw_at cX13_placeAll_k3 (p := 15) rfl (by decide +kernel)
theorem dmX13_placeAll_88 : decode cX13_placeAll 88 = .ok (.getfield 292, 3) := dw_at cX13_placeAll_k3 (p := 16) rfl (by decide +kernel)
theorem dmX13_placeAll_91 : decode cX13_placeAll 91 = .ok (.iload_n 2, 1) := dw_at cX13_placeAll_k3 (p := 19) rfl (by decide +kernel)
theorem dmX13_placeAll_92 : decode cX13_placeAll 92 = .ok (.iaload, 1) := dw_at cX13_placeAll_k3 (p := 20) rfl (by decide +kernel)
theorem dmX13_placeAll_93 : decode cX13_placeAll 93 = .ok (.iload_n 3, 1) := dw_at cX13_placeAll_k3 (p := 21) rfl (by decide +kernel)
theorem dmX13_placeAll_94 : decode cX13_placeAll 94 = .ok (.iadd, 1) := dw_at cX13_placeAll_k3 (p := 22) rfl (by decide +kernel)
theorem dmX13_placeAll_95 : decode cX13_placeAll 95 = .ok (.aload_n 0, 1) := dw_at cX13_placeAll_k3 (p := 23) rfl (by decide +kernel)
theorem dmX13_placeAll_96 : decode cX13_placeAll 96 = .ok (.getfield 298, 3) := dw_at cX13_placeAll_k4 (p := 0) rfl (by decide +kernel)
theorem dmX13_placeAll_99 : decode cX13_placeAll 99 = .ok (.iload 4, 2) := dw_at cX13_placeAll_k4 (p := 3) rfl (by decide +kernel)
theorem dmX13_placeAll_101 : decode cX13_placeAll 101 = .ok (.iaload, 1) := dw_at cX13_placeAll_k4 (p := 5) rfl (by decide +kernel)
theorem dmX13_placeAll_102 : decode cX13_placeAll 102 = .ok (.iastore, 1) := dw_at cX13_placeAll_k4 (p := 6) rfl (by decide +kernel)
theorem dmX13_placeAll_103 : decode cX13_placeAll 103 = .ok (.aload_n 0, 1) := dw_at cX13_placeAll_k4 (p := 7) rfl (by decide +kernel)
theorem dmX13_placeAll_104 : decode cX13_placeAll 104 = .ok (.getfield 298, 3) := dw_at cX13_placeAll_k4 (p := 8) rfl (by decide +kernel)
theorem dmX13_placeAll_107 : decode cX13_placeAll 107 = .ok (.iload 4, 2) := dw_at cX13_placeAll_k4 (p := 11) rfl (by decide +kernel)
theorem dmX13_placeAll_109 : decode cX13_placeAll 109 = .ok (.dup2, 1) := dw_at cX13_placeAll_k4 (p := 13) rfl (by decide +kernel)
theorem dmX13_placeAll_110 : decode cX13_placeAll 110 = .ok (.iaload, 1) := dw_at cX13_placeAll_k4 (p := 14) rfl (by decide +kernel)
theorem dmX13_placeAll_111 : decode cX13_placeAll 111 = .ok (.iconst 1, 1) := dw_at cX13_placeAll_k4 (p := 15) rfl (by decide +kernel)
theorem dmX13_placeAll_112 : decode cX13_placeAll 112 = .ok (.iadd, 1) := dw_at cX13_placeAll_k4 (p := 16) rfl (by decide +kernel)
theorem dmX13_placeAll_113 : decode cX13_placeAll 113 = .ok (.iastore, 1) := dw_at cX13_placeAll_k4 (p := 17) rfl (by decide +kernel)
theorem dmX13_placeAll_114 : decode cX13_placeAll 114 = .ok (.iinc 3 1, 3) := dw_at cX13_placeAll_k4 (p := 18) rfl (by decide +kernel)
theorem dmX13_placeAll_117 : decode cX13_placeAll 117 = .ok (.goto (-68), 3) := dw_at cX13_placeAll_k4 (p := 21) rfl (by decide +kernel)
theorem dmX13_placeAll_120 : decode cX13_placeAll 120 = .ok (.iinc 2 1, 3) := dw_at cX13_placeAll_k4 (p := 24) rfl (by decide +kernel)
theorem dmX13_placeAll_123 : decode cX13_placeAll 123 = .ok (.goto (-83), 3) := dw_at cX13_placeAll_k4 (p := 27) rfl (by decide +kernel)
theorem dmX13_placeAll_126 : decode cX13_placeAll 126 = .ok (.return_, 1) := dw_at cX13_placeAll_k4 (p := 30) rfl (by decide +kernel)
def qm_X13_placeAll_0 (K : Nat) (go : Nat → Int32 → Int32 → Int32 → ow_MS → Option ow_MS) (x1 : Int32) (x2 : Int32) (x3 : Int32) (z : ow_MS) : Option ow_MS :=
 go 1 x1 0 0 z
def qm_X13_placeAll_1 (K : Nat) (go : Nat → Int32 → Int32 → Int32 → ow_MS → Option ow_MS) (x1 : Int32) (x2 : Int32) (x3 : Int32) (z : ow_MS) : Option ow_MS :=
 (if (Int32.ofNat (mX.2 85).2.1) ≤ x2 then go 2 x1 0 0 z
 else wrI mX z 85 x2 0 fun z1 => wrI mX z1 86 x2 0 fun z2 => wrI mX z2 87 x2 0 fun z3 => go 1 x1 (x2 + 1) 0 z3)
def qm_X13_placeAll_2 (K : Nat) (go : Nat → Int32 → Int32 → Int32 → ow_MS → Option ow_MS) (x1 : Int32) (x2 : Int32) (x3 : Int32) (z : ow_MS) : Option ow_MS :=
 (if ((1 : Int32) <<< ((x1 : Int32) &&& 31)) ≤ x2 then some z
 else go 3 x1 x2 0 z)
def qm_X13_placeAll_3 (K : Nat) (go : Nat → Int32 → Int32 → Int32 → ow_MS → Option ow_MS) (x1 : Int32) (x2 : Int32) (x3 : Int32) (z : ow_MS) : Option ow_MS :=
 rdI mX z 82 x2 fun v4 => (if ((1 : Int32) <<< ((v4 : Int32) &&& 31)) ≤ x3 then go 2 x1 (x2 + 1) 0 z
 else rdF z 88 fun v6 => cs1 (qe_X13_qOf K x2 x3 (x1 - v6) z) fun v8 z7 => rdI mX z7 83 x2 fun v9 => rdI mX z7 85 ((80 * (ow_bc x2)) + v8) fun v10 => wrI mX z7 84 (v9 + x3) v10 fun z11 => rdI mX z11 85 ((80 * (ow_bc x2)) + v8) fun v12 => wrI mX z11 85 ((80 * (ow_bc x2)) + v8) (v12 + 1) fun z13 => go 3 x1 x2 (x3 + 1) z13)
def qb_X13_placeAll (K : Nat) (go : Nat → Int32 → Int32 → Int32 → ow_MS → Option ow_MS) (L : Nat) (x1 : Int32) (x2 : Int32) (x3 : Int32) (z : ow_MS) : Option ow_MS := match L with
  | 0 => qm_X13_placeAll_0 K go x1 x2 x3 z
  | 1 => qm_X13_placeAll_1 K go x1 x2 x3 z
  | 2 => qm_X13_placeAll_2 K go x1 x2 x3 z
  | 3 => qm_X13_placeAll_3 K go x1 x2 x3 z
  | _ => none
def q_X13_placeAll (K : Nat) : Nat → Nat → Int32 → Int32 → Int32 → ow_MS → Option ow_MS
  | 0 => fun _ _ _ _ _ => none
  | k + 1 => qb_X13_placeAll K (q_X13_placeAll K k)
def qe_X13_placeAll (K : Nat) (x1 : Int32) (z : ow_MS) : Option ow_MS := q_X13_placeAll K K 0 x1 0 0 z
abbrev wm_X13_placeAll : List Cond := .code yX13_placeAll cX13_placeAll 5 none :: wM
theorem cd_X13_placeAll : yX13_placeAll.cls = RX13 ∧ yX13_placeAll.cls ≠ "java/lang/invoke/MethodHandle" ∧ yX13_placeAll.cls ≠ "java/lang/invoke/VarHandle" ∧ (parseMethodDescriptor yX13_placeAll.desc).map (fun d => d.parameters.length) = some 1 := by decide +kernel
set_option maxHeartbeats 4000000 in
set_option maxRecDepth 100000 in
theorem km_X13_placeAll (l : Launch) (D : va_G) (q : ow_Q5) (u : Nat → Nat) (hU : tw_inj mX u) (K : Nat) (x1 : Int32)  (z z1 : ow_MS) (hq : qe_X13_placeAll K x1 z = some z1) : Met l yX13_placeAll wm_X13_placeAll ({ frames := 2, cells := 0, slots := 0, locals := 43 } : Room) (va_Pc [.ref (u 0), .int x1] (mw_pre D q u z)) (va_Qv (fun (_ : Unit) => True) (fun _ t => va_P D vwCl (tw mX q u z1) t.heap) (tw_A mX u)) 0 0 (tw_A mX u) := by
  refine Met.ofW (cc := cX13_placeAll) (maxL := 5) (ret := none) (by decide) rfl ?_
  intro p e s m args below meth c s₁ B hml hv
  obtain ⟨rfl, hP, hK, hN⟩ := hv
  have hx := B.exec
  have hb := B.bytes
  have hr := B.returns
  have hts := atoms_spec (ws := wm_X13_placeAll) B.pre
  have hT : ∀ w ∈ wM, w.before ([.ref (u 0), .int x1] : List Value).toArray s = true := fun w h => hts w (List.mem_cons_of_mem _ h)
  have hown : s.vm.findClass RX13 = some m.cls := findClass_of_methodNamed B.named
  have hlocks := B.notSynchronized
  have hM : tw_M D vwCl mX q s.heap u z s.heap [] := ⟨hP, va_S.rf⟩
  have hl := lv_entry ([.ref (u 0), .int x1]) (n := 5) (Nat.le_of_ble_eq_true rfl)
  rw [lg_entry_eq]
  generalize (lg_sl ([.ref (u 0), .int x1]) ++ List.replicate (5 - (lg_sl ([.ref (u 0), .int x1])).length) Slot.unset).toArray = ls at hl ⊢
  have hl : lv_has ls 5 [(0, .ref (u 0)), (1, .int x1)] := hl
  refine ow_named (fun QQ hQQ => ?_)
  generalize ([.ref (u 0), .int x1] : List Value).toArray = args at hts hT hQQ ⊢
  have key : ∀ k : Nat, (∀ (x1 : Int32) (x2 : Int32) (x3 : Int32) (z : ow_MS) (H : Heap) (locs : List Loc) (ls : Array Slot), tw_M D vwCl mX q s.heap u z H locs → lv_has ls 5 [(0, .ref (u 0)), (1, .int x1)] → q_X13_placeAll K k 0 x1 x2 x3 z = some z1 → W p l e ({ frames := 2, cells := 0, slots := 0, locals := 43 } : Room) s m args below meth c H locs 0 0 QQ (F0 m 0 ls [])) ∧ (∀ (x1 : Int32) (x2 : Int32) (x3 : Int32) (z : ow_MS) (H : Heap) (locs : List Loc) (ls : Array Slot), tw_M D vwCl mX q s.heap u z H locs → lv_has ls 5 [(0, .ref (u 0)), (1, .int x1), (2, .int x2)] → q_X13_placeAll K k 1 x1 x2 x3 z = some z1 → W p l e ({ frames := 2, cells := 0, slots := 0, locals := 43 } : Room) s m args below meth c H locs 0 0 QQ (F0 m 2 ls [])) ∧ (∀ (x1 : Int32) (x2 : Int32) (x3 : Int32) (z : ow_MS) (H : Heap) (locs : List Loc) (ls : Array Slot), tw_M D vwCl mX q s.heap u z H locs → lv_has ls 5 [(0, .ref (u 0)), (1, .int x1), (2, .int x2)] → q_X13_placeAll K k 2 x1 x2 x3 z = some z1 → W p l e ({ frames := 2, cells := 0, slots := 0, locals := 43 } : Room) s m args below meth c H locs 0 0 QQ (F0 m 40 ls [])) ∧ (∀ (x1 : Int32) (x2 : Int32) (x3 : Int32) (z : ow_MS) (H : Heap) (locs : List Loc) (ls : Array Slot), tw_M D vwCl mX q s.heap u z H locs → lv_has ls 5 [(0, .ref (u 0)), (1, .int x1), (2, .int x2), (3, .int x3)] → q_X13_placeAll K k 3 x1 x2 x3 z = some z1 → W p l e ({ frames := 2, cells := 0, slots := 0, locals := 43 } : Room) s m args below meth c H locs 0 0 QQ (F0 m 49 ls [])) := by
    intro k
    induction k with
    | zero => exact ⟨fun _ _ _ _ _ _ _  _ _ hq => tw_no hq, fun _ _ _ _ _ _ _  _ _ hq => tw_no hq, fun _ _ _ _ _ _ _  _ _ hq => tw_no hq, fun _ _ _ _ _ _ _  _ _ hq => tw_no hq⟩
    | succ k ih =>
      obtain ⟨ih_0, ih_1, ih_2, ih_3⟩ := ih
      refine ⟨?_, ?_, ?_, ?_⟩
      · intro x1 x2 x3 z H locs ls  hM hl hq
        have hq : qm_X13_placeAll_0 K (q_X13_placeAll K k) x1 x2 x3 z = some z1 := hq
        unfold qm_X13_placeAll_0 at hq
        refine lv_iconst (v := 0) hx hb dmX13_placeAll_0 (by decide) ?_
        refine lv_istore_n (lv' := [(2, .int 0), (0, .ref (u 0)), (1, .int x1)]) hx hb dmX13_placeAll_1 rfl hl (by decide) rfl (fun ls hl => ?_)
        exact ih_1 x1 0 0 z H locs ls hM (lv_sub hl [1, 2, 0] rfl) hq
      · intro x1 x2 x3 z H locs ls  hM hl hq
        have hq : qm_X13_placeAll_1 K (q_X13_placeAll K k) x1 x2 x3 z = some z1 := hq
        unfold qm_X13_placeAll_1 at hq
        refine lv_iload_n hx hb dmX13_placeAll_2 rfl (lv_at hl 2 rfl) ?_
        refine lv_aload_n hx hb dmX13_placeAll_3 rfl (lv_at hl 0 rfl) ?_
        refine mg13_298 hx hb hT hown hK hM dmX13_placeAll_4 ?_
        refine tw_alen mX_ok hx hb hK hM mr_85 dmX13_placeAll_7 ?_
        refine lv_icmp_ge (tgt := 38) hx hb dmX13_placeAll_8 (by decide) (fun hc => ?_) (fun hc => ?_)
        · have hq := tw_it hq hc
          refine lv_iconst (v := 0) hx hb dmX13_placeAll_38 (by decide) ?_
          refine lv_istore_n (lv' := [(2, .int 0), (0, .ref (u 0)), (1, .int x1)]) hx hb dmX13_placeAll_39 rfl hl (by decide) rfl (fun ls hl => ?_)
          exact ih_2 x1 0 0 z H locs ls hM (lv_sub hl [1, 2, 0] rfl) hq
        · have hq := tw_if hq hc
          refine lv_aload_n hx hb dmX13_placeAll_11 rfl (lv_at hl 0 rfl) ?_
          refine mg13_298 hx hb hT hown hK hM dmX13_placeAll_12 ?_
          refine lv_iload_n hx hb dmX13_placeAll_15 rfl (lv_at hl 2 rfl) ?_
          refine lv_iconst (v := 0) hx hb dmX13_placeAll_16 (by decide) ?_
          refine tw_iast mX_ok hU hx hb hK hM mr_85 hq dmX13_placeAll_17 (fun z1 H locs hM hq => ?_)
          refine lv_aload_n hx hb dmX13_placeAll_18 rfl (lv_at hl 0 rfl) ?_
          refine mg13_301 hx hb hT hown hK hM dmX13_placeAll_19 ?_
          refine lv_iload_n hx hb dmX13_placeAll_22 rfl (lv_at hl 2 rfl) ?_
          refine lv_iconst (v := 0) hx hb dmX13_placeAll_23 (by decide) ?_
          refine tw_iast mX_ok hU hx hb hK hM mr_86 hq dmX13_placeAll_24 (fun z2 H locs hM hq => ?_)
          refine lv_aload_n hx hb dmX13_placeAll_25 rfl (lv_at hl 0 rfl) ?_
          refine mg13_304 hx hb hT hown hK hM dmX13_placeAll_26 ?_
          refine lv_iload_n hx hb dmX13_placeAll_29 rfl (lv_at hl 2 rfl) ?_
          refine lv_iconst (v := 0) hx hb dmX13_placeAll_30 (by decide) ?_
          refine tw_iast mX_ok hU hx hb hK hM mr_87 hq dmX13_placeAll_31 (fun z3 H locs hM hq => ?_)
          refine lv_iinc (v := (x2 + 1)) (lv' := [(2, .int (x2 + 1)), (0, .ref (u 0)), (1, .int x1)]) hx hb dmX13_placeAll_32 hl (k := 2) rfl rfl (by decide) rfl (fun ls hl => ?_)
          refine lv_goto (tgt := 2) hx hb dmX13_placeAll_35 (by decide) ?_
          exact ih_1 x1 (x2 + 1) 0 z3 H locs ls hM (lv_sub hl [1, 2, 0] rfl) hq
      · intro x1 x2 x3 z H locs ls  hM hl hq
        have hq : qm_X13_placeAll_2 K (q_X13_placeAll K k) x1 x2 x3 z = some z1 := hq
        unfold qm_X13_placeAll_2 at hq
        refine lv_iload_n hx hb dmX13_placeAll_40 rfl (lv_at hl 2 rfl) ?_
        refine lv_iconst (v := 1) hx hb dmX13_placeAll_41 (by decide) ?_
        refine lv_iload_n hx hb dmX13_placeAll_42 rfl (lv_at hl 1 rfl) ?_
        refine lv_ishl hx hb dmX13_placeAll_43 ?_
        refine lv_icmp_ge (tgt := 126) hx hb dmX13_placeAll_44 (by decide) (fun hc => ?_) (fun hc => ?_)
        · have hq := tw_it hq hc
          exact mw_vret hx hb hr hlocks hM hq hQQ dmX13_placeAll_126
        · have hq := tw_if hq hc
          refine lv_iconst (v := 0) hx hb dmX13_placeAll_47 (by decide) ?_
          refine lv_istore_n (lv' := [(3, .int 0), (0, .ref (u 0)), (1, .int x1), (2, .int x2)]) hx hb dmX13_placeAll_48 rfl hl (by decide) rfl (fun ls hl => ?_)
          exact ih_3 x1 x2 0 z H locs ls hM (lv_sub hl [1, 2, 3, 0] rfl) hq
      · intro x1 x2 x3 z H locs ls  hM hl hq
        have hq : qm_X13_placeAll_3 K (q_X13_placeAll K k) x1 x2 x3 z = some z1 := hq
        unfold qm_X13_placeAll_3 at hq
        refine lv_iload_n hx hb dmX13_placeAll_49 rfl (lv_at hl 3 rfl) ?_
        refine lv_iconst (v := 1) hx hb dmX13_placeAll_50 (by decide) ?_
        refine lv_aload_n hx hb dmX13_placeAll_51 rfl (lv_at hl 0 rfl) ?_
        refine mg13_289 hx hb hT hown hK hM dmX13_placeAll_52 ?_
        refine lv_iload_n hx hb dmX13_placeAll_55 rfl (lv_at hl 2 rfl) ?_
        refine tw_iald mX_ok hx hb hK hM mr_82 hq dmX13_placeAll_56 (fun v4 hq => ?_)
        refine lv_ishl hx hb dmX13_placeAll_57 ?_
        refine lv_icmp_ge (tgt := 120) hx hb dmX13_placeAll_58 (by decide) (fun hc => ?_) (fun hc => ?_)
        · have hq := tw_it hq hc
          refine lv_iinc (v := (x2 + 1)) (lv' := [(2, .int (x2 + 1)), (0, .ref (u 0)), (1, .int x1), (3, .int x3)]) hx hb dmX13_placeAll_120 hl (k := 2) rfl rfl (by decide) rfl (fun ls hl => ?_)
          refine lv_goto (tgt := 40) hx hb dmX13_placeAll_123 (by decide) ?_
          exact ih_2 x1 (x2 + 1) 0 z H locs ls hM (lv_sub hl [1, 2, 0] rfl) hq
        · have hq := tw_if hq hc
          refine lv_bipush (v := 80) hx hb dmX13_placeAll_61 (by decide) ?_
          refine lv_iload_n hx hb dmX13_placeAll_63 rfl (lv_at hl 2 rfl) ?_
          refine mw_pure hM (va_runS (As := [.int x2]) (rest := [.int 80]) ⟨hx, hb, hml, hown, hts⟩ (k_J6_bitCount_0f7a4 l x2) (va_cwS 1 hts (mw_gbc wq_307) rfl rfl rfl (by decide +kernel) ⟨(Nat.le_of_ble_eq_true rfl), (Nat.le_of_ble_eq_true rfl)⟩) ⟨fun a U g mk q => q, fun U hU hW => ⟨rfl, trivial⟩⟩ rfl rfl hl.1 rfl (lv_room (Nat.le_of_ble_eq_true rfl)) dmX13_placeAll_64 ⟨(Nat.le_of_ble_eq_true rfl), (Nat.le_of_ble_eq_true rfl)⟩) (fun H locs hM => ?_)
          refine lv_imul hx hb dmX13_placeAll_67 ?_
          refine lv_aload_n hx hb dmX13_placeAll_68 rfl (lv_at hl 0 rfl) ?_
          refine lv_iload_n hx hb dmX13_placeAll_69 rfl (lv_at hl 2 rfl) ?_
          refine lv_iload_n hx hb dmX13_placeAll_70 rfl (lv_at hl 3 rfl) ?_
          refine lv_iload_n hx hb dmX13_placeAll_71 rfl (lv_at hl 1 rfl) ?_
          refine lv_aload_n hx hb dmX13_placeAll_72 rfl (lv_at hl 0 rfl) ?_
          refine mg13_690 hx hb hT hown hK hM hq dmX13_placeAll_73 (fun v6 hq => ?_)
          refine lv_isub hx hb dmX13_placeAll_76 ?_
          obtain ⟨v8, z7, hcq, hq⟩ := tw_cl1 hq
          refine tw_cali hM (va_runV (As := [.int x2, .int x3, .int (x1 - v6)]) (rest := [.int (80 * (ow_bc x2))]) ⟨hx, hb, hml, hown, hts⟩ (km_X13_qOf l D q u hU K x2 x3 (x1 - v6) z z7 v8 hcq) (cwV 3 hts (tw_gV wM_good wq_442 wq_443 wq_444 wq_61 wq_437) rfl rfl rfl cd_X13_qOf ⟨(Nat.le_of_ble_eq_true rfl), (Nat.le_of_ble_eq_true rfl)⟩) (mw_preV hK hN hM mo_0 rfl) rfl rfl hl.1 rfl (lv_room (Nat.le_of_ble_eq_true rfl)) dmX13_placeAll_77 ⟨(Nat.le_of_ble_eq_true rfl), (Nat.le_of_ble_eq_true rfl)⟩) (fun H locs hM => ?_)
          refine lv_iadd hx hb dmX13_placeAll_80 ?_
          refine lv_istore (lv' := [(4, .int ((80 * (ow_bc x2)) + v8)), (0, .ref (u 0)), (1, .int x1), (2, .int x2), (3, .int x3)]) hx hb dmX13_placeAll_81 hl (by decide) rfl (fun ls hl => ?_)
          refine lv_aload_n hx hb dmX13_placeAll_83 rfl (lv_at hl 1 rfl) ?_
          refine mg13_295 hx hb hT hown hK hM dmX13_placeAll_84 ?_
          refine lv_aload_n hx hb dmX13_placeAll_87 rfl (lv_at hl 1 rfl) ?_
          refine mg13_292 hx hb hT hown hK hM dmX13_placeAll_88 ?_
          refine lv_iload_n hx hb dmX13_placeAll_91 rfl (lv_at hl 3 rfl) ?_
          refine tw_iald mX_ok hx hb hK hM mr_83 hq dmX13_placeAll_92 (fun v9 hq => ?_)
          refine lv_iload_n hx hb dmX13_placeAll_93 rfl (lv_at hl 4 rfl) ?_
          refine lv_iadd hx hb dmX13_placeAll_94 ?_
          refine lv_aload_n hx hb dmX13_placeAll_95 rfl (lv_at hl 1 rfl) ?_
          refine mg13_298 hx hb hT hown hK hM dmX13_placeAll_96 ?_
          refine lv_iload hx hb dmX13_placeAll_99 (lv_at hl 0 rfl) ?_
          refine tw_iald mX_ok hx hb hK hM mr_85 hq dmX13_placeAll_101 (fun v10 hq => ?_)
          refine tw_iast mX_ok hU hx hb hK hM mr_84 hq dmX13_placeAll_102 (fun z11 H locs hM hq => ?_)
          refine lv_aload_n hx hb dmX13_placeAll_103 rfl (lv_at hl 1 rfl) ?_
          refine mg13_298 hx hb hT hown hK hM dmX13_placeAll_104 ?_
          refine lv_iload hx hb dmX13_placeAll_107 (lv_at hl 0 rfl) ?_
          refine lv_dup2_11 hx hb dmX13_placeAll_109 rfl rfl ?_
          refine tw_iald mX_ok hx hb hK hM mr_85 hq dmX13_placeAll_110 (fun v12 hq => ?_)
          refine lv_iconst (v := 1) hx hb dmX13_placeAll_111 (by decide) ?_
          refine lv_iadd hx hb dmX13_placeAll_112 ?_
          refine tw_iast mX_ok hU hx hb hK hM mr_85 hq dmX13_placeAll_113 (fun z13 H locs hM hq => ?_)
          refine lv_iinc (v := (x3 + 1)) (lv' := [(3, .int (x3 + 1)), (4, .int ((80 * (ow_bc x2)) + v8)), (0, .ref (u 0)), (1, .int x1), (2, .int x2)]) hx hb dmX13_placeAll_114 hl (k := 4) rfl rfl (by decide) rfl (fun ls hl => ?_)
          refine lv_goto (tgt := 49) hx hb dmX13_placeAll_117 (by decide) ?_
          exact ih_3 x1 x2 (x3 + 1) z13 H locs ls hM (lv_sub hl [2, 3, 4, 0] rfl) hq
  exact (key K).1 x1 0 0 z s.heap [] ls  hM (lv_sub hl [0, 1] rfl) hq
theorem dmX13_step_0 : decode cX13_step 0 = .ok (.iconst 0, 1) := dw_at cX13_step_k0 (p := 0) rfl (by decide +kernel)
theorem dmX13_step_1 : decode cX13_step 1 = .ok (.istore 6, 2) := dw_at cX13_step_k0 (p := 1) rfl (by decide +kernel)
theorem dmX13_step_3 : decode cX13_step 3 = .ok (.aload_n 1, 1) := dw_at cX13_step_k0 (p := 3) rfl (by decide +kernel)
theorem dmX13_step_4 : decode cX13_step 4 = .ok (.getfield 23, 3) := dw_at cX13_step_k0 (p := 4) rfl (by decide +kernel)
theorem dmX13_step_7 : decode cX13_step 7 = .ok (.iload 6, 2) := dw_at cX13_step_k0 (p := 7) rfl (by decide +kernel)
theorem dmX13_step_9 : decode cX13_step 9 = .ok (.iaload, 1) := dw_at cX13_step_k0 (p := 9) rfl (by decide +kernel)
theorem dmX13_step_10 : decode cX13_step 10 = .ok (.iload 4, 2) := dw_at cX13_step_k0 (p := 10) rfl (by decide +kernel)
theorem dmX13_step_12 : decode cX13_step 12 = .ok (.if_icmp .eq 9, 3) := dw_at cX13_step_k0 (p := 12) rfl (by decide +kernel)
theorem dmX13_step_15 : decode cX13_step 15 = .ok (.iinc 6 1, 3) := dw_at cX13_step_k0 (p := 15) rfl (by decide +kernel)
theorem dmX13_step_18 : decode cX13_step 18 = .ok (.goto (-15), 3) := dw_at cX13_step_k0 (p := 18) rfl (by decide +kernel)
theorem dmX13_step_21 : decode cX13_step 21 = .ok (.aload_n 1, 1) := dw_at cX13_step_k0 (p := 21) rfl (by decide +kernel)
theorem dmX13_step_22 : decode cX13_step 22 = .ok (.getfield 41, 3) := dw_at cX13_step_k0 (p := 22) rfl (by decide +kernel)
theorem dmX13_step_25 : decode cX13_step 25 = .ok (.iload 6, 2) := dw_at cX13_step_k1 (p := 0) rfl (by decide +kernel)
theorem dmX13_step_27 : decode cX13_step 27 = .ok (.iaload, 1) := dw_at cX13_step_k1 (p := 2) rfl (by decide +kernel)
theorem dmX13_step_28 : decode cX13_step 28 = .ok (.istore 7, 2) := dw_at cX13_step_k1 (p := 3) rfl (by decide +kernel)
theorem dmX13_step_30 : decode cX13_step 30 = .ok (.iload_n 2, 1) := dw_at cX13_step_k1 (p := 5) rfl (by decide +kernel)
theorem dmX13_step_31 : decode cX13_step 31 = .ok (.iconst 1, 1) := dw_at cX13_step_k1 (p := 6) rfl (by decide +kernel)
theorem dmX13_step_32 : decode cX13_step 32 = .ok (.iload 4, 2) := dw_at cX13_step_k1 (p := 7) rfl (by decide +kernel)
theorem dmX13_step_34 : decode cX13_step 34 = .ok (.ishl, 1) := dw_at cX13_step_k1 (p := 9) rfl (by decide +kernel)
theorem dmX13_step_35 : decode cX13_step 35 = .ok (.ior, 1) := dw_at cX13_step_k1 (p := 10) rfl (by decide +kernel)
theorem dmX13_step_36 : decode cX13_step 36 = .ok (.istore 8, 2) := dw_at cX13_step_k1 (p := 11) rfl (by decide +kernel)
theorem dmX13_step_38 : decode cX13_step 38 = .ok (.iload_n 2, 1) := dw_at cX13_step_k1 (p := 13) rfl (by decide +kernel)
theorem dmX13_step_39 : decode cX13_step 39 = .ok (.iconst 1, 1) := dw_at cX13_step_k1 (p := 14) rfl (by decide +kernel)
theorem dmX13_step_40 : decode cX13_step 40 = .ok (.iload 4, 2) := dw_at cX13_step_k1 (p := 15) rfl (by decide +kernel)
theorem dmX13_step_42 : decode cX13_step 42 = .ok (.ishl, 1) := dw_at cX13_step_k1 (p := 17) rfl (by decide +kernel)
theorem dmX13_step_43 : decode cX13_step 43 = .ok (.iconst 1, 1) := dw_at cX13_step_k1 (p := 18) rfl (by decide +kernel)
theorem dmX13_step_44 : decode cX13_step 44 = .ok (.isub, 1) := dw_at cX13_step_k1 (p := 19) rfl (by decide +kernel)
theorem dmX13_step_45 : decode cX13_step 45 = .ok (.iand, 1) := dw_at cX13_step_k1 (p := 20) rfl (by decide +kernel)
theorem dmX13_step_46 : decode cX13_step 46 = .ok (.invokestatic 590, 3) := dw_at cX13_step_k1 (p := 21) rfl (by decide +kernel)
theorem dmX13_step_49 : decode cX13_step 49 = .ok (.iconst 1, 1) := dw_at cX13_step_k2 (p := 0) rfl (by decide +kernel)
theorem dmX13_step_50 : decode cX13_step 50 = .ok (.iand, 1) := dw_at cX13_step_k2 (p := 1) rfl (by decide +kernel)
theorem dmX13_step_51 : decode cX13_step 51 = .ok (.ifCond .ne 7, 3) := dw_at cX13_step_k2 (p := 2) rfl (by decide +kernel)
theorem dmX13_step_54 : decode cX13_step 54 = .ok (.iconst 1, 1) := dw_at cX13_step_k2 (p := 5) rfl (by decide +kernel)
theorem dmX13_step_55 : decode cX13_step 55 = .ok (.goto 7, 3) := dw_at cX13_step_k2 (p := 6) rfl (by decide +kernel)
theorem dmX13_step_58 : decode cX13_step 58 = .ok (.iload 5, 2) := dw_at cX13_step_k2 (p := 9) rfl (by decide +kernel)
theorem dmX13_step_60 : decode cX13_step 60 = .ok (.iconst 1, 1) := dw_at cX13_step_k2 (p := 11) rfl (by decide +kernel)
theorem dmX13_step_61 : decode cX13_step 61 = .ok (.isub, 1) := dw_at cX13_step_k2 (p := 12) rfl (by decide +kernel)
theorem dmX13_step_62 : decode cX13_step 62 = .ok (.istore 9, 2) := dw_at cX13_step_k2 (p := 13) rfl (by decide +kernel)
theorem dmX13_step_64 : decode cX13_step 64 = .ok (.aload_n 0, 1) := dw_at cX13_step_k2 (p := 15) rfl (by decide +kernel)
theorem dmX13_step_65 : decode cX13_step 65 = .ok (.getfield 286, 3) := dw_at cX13_step_k2 (p := 16) rfl (by decide +kernel)
theorem dmX13_step_68 : decode cX13_step 68 = .ok (.bipush 32, 2) := dw_at cX13_step_k2 (p := 19) rfl (by decide +kernel)
theorem dmX13_step_70 : decode cX13_step 70 = .ok (.iload_n 2, 1) := dw_at cX13_step_k2 (p := 21) rfl (by decide +kernel)
theorem dmX13_step_71 : decode cX13_step 71 = .ok (.imul, 1) := dw_at cX13_step_k2 (p := 22) rfl (by decide +kernel)
theorem dmX13_step_72 : decode cX13_step 72 = .ok (.iload 6, 2) := dw_at cX13_step_k2 (p := 23) rfl (by decide +kernel)
theorem dmX13_step_74 : decode cX13_step 74 = .ok (.iadd, 1) := dw_at cX13_step_k3 (p := 0) rfl (by decide +kernel)
theorem dmX13_step_75 : decode cX13_step 75 = .ok (.baload, 1) := dw_at cX13_step_k3 (p := 1) rfl (by decide +kernel)
theorem dmX13_step_76 : decode cX13_step 76 = .ok (.istore 10, 2) := dw_at cX13_step_k3 (p := 2) rfl (by decide +kernel)
theorem dmX13_step_78 : decode cX13_step 78 = .ok (.aload_n 0, 1) := dw_at cX13_step_k3 (p := 4) rfl (by decide +kernel)
theorem dmX13_step_79 : decode cX13_step 79 = .ok (.getfield 286, 3) := dw_at cX13_step_k3 (p := 5) rfl (by decide +kernel)
theorem dmX13_step_82 : decode cX13_step 82 = .ok (.bipush 32, 2) := dw_at cX13_step_k3 (p := 8) rfl (by decide +kernel)
theorem dmX13_step_84 : decode cX13_step 84 = .ok (.iload_n 2, 1) := dw_at cX13_step_k3 (p := 10) rfl (by decide +kernel)
theorem dmX13_step_85 : decode cX13_step 85 = .ok (.imul, 1) := dw_at cX13_step_k3 (p := 11) rfl (by decide +kernel)
theorem dmX13_step_86 : decode cX13_step 86 = .ok (.aload_n 1, 1) := dw_at cX13_step_k3 (p := 12) rfl (by decide +kernel)
theorem dmX13_step_87 : decode cX13_step 87 = .ok (.getfield 581, 3) := dw_at cX13_step_k3 (p := 13) rfl (by decide +kernel)
theorem dmX13_step_90 : decode cX13_step 90 = .ok (.iload 6, 2) := dw_at cX13_step_k3 (p := 16) rfl (by decide +kernel)
theorem dmX13_step_92 : decode cX13_step 92 = .ok (.iaload, 1) := dw_at cX13_step_k3 (p := 18) rfl (by decide +kernel)
theorem dmX13_step_93 : decode cX13_step 93 = .ok (.iadd, 1) := dw_at cX13_step_k3 (p := 19) rfl (by decide +kernel)
theorem dmX13_step_94 : decode cX13_step 94 = .ok (.baload, 1) := dw_at cX13_step_k3 (p := 20) rfl (by decide +kernel)
theorem dmX13_step_95 : decode cX13_step 95 = .ok (.iload 10, 2) := dw_at cX13_step_k3 (p := 21) rfl (by decide +kernel)
theorem dmX13_step_97 : decode cX13_step 97 = .ok (.if_icmp .eq 23, 3) := dw_at cX13_step_k3 (p := 23) rfl (by decide +kernel)
theorem dmX13_step_100 : decode cX13_step 100 = .ok (.aload_n 0, 1) := dw_at cX13_step_k4 (p := 0) rfl (by decide +kernel)
theorem dmX13_step_101 : decode cX13_step 101 = .ok (.getfield 286, 3) := dw_at cX13_step_k4 (p := 1) rfl (by decide +kernel)
theorem dmX13_step_104 : decode cX13_step 104 = .ok (.bipush 32, 2) := dw_at cX13_step_k4 (p := 4) rfl (by decide +kernel)
theorem dmX13_step_106 : decode cX13_step 106 = .ok (.iload_n 2, 1) := dw_at cX13_step_k4 (p := 6) rfl (by decide +kernel)
theorem dmX13_step_107 : decode cX13_step 107 = .ok (.imul, 1) := dw_at cX13_step_k4 (p := 7) rfl (by decide +kernel)
theorem dmX13_step_108 : decode cX13_step 108 = .ok (.aload_n 1, 1) := dw_at cX13_step_k4 (p := 8) rfl (by decide +kernel)
theorem dmX13_step_109 : decode cX13_step 109 = .ok (.getfield 581, 3) := dw_at cX13_step_k4 (p := 9) rfl (by decide +kernel)
theorem dmX13_step_112 : decode cX13_step 112 = .ok (.iload 6, 2) := dw_at cX13_step_k4 (p := 12) rfl (by decide +kernel)
theorem dmX13_step_114 : decode cX13_step 114 = .ok (.iaload, 1) := dw_at cX13_step_k4 (p := 14) rfl (by decide +kernel)
theorem dmX13_step_115 : decode cX13_step 115 = .ok (.iadd, 1) := dw_at cX13_step_k4 (p := 15) rfl (by decide +kernel)
theorem dmX13_step_116 : decode cX13_step 116 = .ok (.baload, 1) := dw_at cX13_step_k4 (p := 16) rfl (by decide +kernel)
theorem dmX13_step_117 : decode cX13_step 117 = .ok (.goto 52, 3) := dw_at cX13_step_k4 (p := 17) rfl (by decide +kernel)
theorem dmX13_step_120 : decode cX13_step 120 = .ok (.aload_n 0, 1) := dw_at cX13_step_k4 (p := 20) rfl (by decide +kernel)
theorem dmX13_step_121 : decode cX13_step 121 = .ok (.getfield 286, 3) := dw_at cX13_step_k4 (p := 21) rfl (by decide +kernel)
theorem dmX13_step_124 : decode cX13_step 124 = .ok (.bipush 32, 2) := dw_at cX13_step_k5 (p := 0) rfl (by decide +kernel)
theorem dmX13_step_126 : decode cX13_step 126 = .ok (.iload_n 2, 1) := dw_at cX13_step_k5 (p := 2) rfl (by decide +kernel)
theorem dmX13_step_127 : decode cX13_step 127 = .ok (.imul, 1) := dw_at cX13_step_k5 (p := 3) rfl (by decide +kernel)
theorem dmX13_step_128 : decode cX13_step 128 = .ok (.iload 7, 2) := dw_at cX13_step_k5 (p := 4) rfl (by decide +kernel)
theorem dmX13_step_130 : decode cX13_step 130 = .ok (.iadd, 1) := dw_at cX13_step_k5 (p := 6) rfl (by decide +kernel)
theorem dmX13_step_131 : decode cX13_step 131 = .ok (.baload, 1) := dw_at cX13_step_k5 (p := 7) rfl (by decide +kernel)
theorem dmX13_step_132 : decode cX13_step 132 = .ok (.iload 10, 2) := dw_at cX13_step_k5 (p := 8) rfl (by decide +kernel)
theorem dmX13_step_134 : decode cX13_step 134 = .ok (.if_icmp .eq 18, 3) := dw_at cX13_step_k5 (p := 10) rfl (by decide +kernel)
theorem dmX13_step_137 : decode cX13_step 137 = .ok (.aload_n 0, 1) := dw_at cX13_step_k5 (p := 13) rfl (by decide +kernel)
theorem dmX13_step_138 : decode cX13_step 138 = .ok (.getfield 286, 3) := dw_at cX13_step_k5 (p := 14) rfl (by decide +kernel)
theorem dmX13_step_141 : decode cX13_step 141 = .ok (.bipush 32, 2) := dw_at cX13_step_k5 (p := 17) rfl (by decide +kernel)
theorem dmX13_step_143 : decode cX13_step 143 = .ok (.iload_n 2, 1) := dw_at cX13_step_k5 (p := 19) rfl (by decide +kernel)
theorem dmX13_step_144 : decode cX13_step 144 = .ok (.imul, 1) := dw_at cX13_step_k5 (p := 20) rfl (by decide +kernel)
theorem dmX13_step_145 : decode cX13_step 145 = .ok (.iload 7, 2) := dw_at cX13_step_k5 (p := 21) rfl (by decide +kernel)
theorem dmX13_step_147 : decode cX13_step 147 = .ok (.iadd, 1) := dw_at cX13_step_k5 (p := 23) rfl (by decide +kernel)
theorem dmX13_step_148 : decode cX13_step 148 = .ok (.baload, 1) := dw_at cX13_step_k6 (p := 0) rfl (by decide +kernel)
theorem dmX13_step_149 : decode cX13_step 149 = .ok (.goto 20, 3) := dw_at cX13_step_k6 (p := 1) rfl (by decide +kernel)
theorem dmX13_step_152 : decode cX13_step 152 = .ok (.aload_n 0, 1) := dw_at cX13_step_k6 (p := 4) rfl (by decide +kernel)
theorem dmX13_step_153 : decode cX13_step 153 = .ok (.getfield 286, 3) := dw_at cX13_step_k6 (p := 5) rfl (by decide +kernel)
theorem dmX13_step_156 : decode cX13_step 156 = .ok (.bipush 32, 2) := dw_at cX13_step_k6 (p := 8) rfl (by decide +kernel)
theorem dmX13_step_158 : decode cX13_step 158 = .ok (.iload_n 2, 1) := dw_at cX13_step_k6 (p := 10) rfl (by decide +kernel)
theorem dmX13_step_159 : decode cX13_step 159 = .ok (.imul, 1) := dw_at cX13_step_k6 (p := 11) rfl (by decide +kernel)
theorem dmX13_step_160 : decode cX13_step 160 = .ok (.aload_n 1, 1) := dw_at cX13_step_k6 (p := 12) rfl (by decide +kernel)
theorem dmX13_step_161 : decode cX13_step 161 = .ok (.getfield 581, 3) := dw_at cX13_step_k6 (p := 13) rfl (by decide +kernel)
theorem dmX13_step_164 : decode cX13_step 164 = .ok (.iload 7, 2) := dw_at cX13_step_k6 (p := 16) rfl (by decide +kernel)
theorem dmX13_step_166 : decode cX13_step 166 = .ok (.iaload, 1) := dw_at cX13_step_k6 (p := 18) rfl (by decide +kernel)
theorem dmX13_step_167 : decode cX13_step 167 = .ok (.iadd, 1) := dw_at cX13_step_k6 (p := 19) rfl (by decide +kernel)
theorem dmX13_step_168 : decode cX13_step 168 = .ok (.baload, 1) := dw_at cX13_step_k6 (p := 20) rfl (by decide +kernel)
theorem dmX13_step_169 : decode cX13_step 169 = .ok (.istore 11, 2) := dw_at cX13_step_k6 (p := 21) rfl (by decide +kernel)
theorem dmX13_step_171 : decode cX13_step 171 = .ok (.aload_n 0, 1) := dw_at cX13_step_k6 (p := 23) rfl (by decide +kernel)
theorem dmX13_step_172 : decode cX13_step 172 = .ok (.getfield 286, 3) := dw_at cX13_step_k7 (p := 0) rfl (by decide +kernel)
theorem dmX13_step_175 : decode cX13_step 175 = .ok (.bipush 32, 2) := dw_at cX13_step_k7 (p := 3) rfl (by decide +kernel)
theorem dmX13_step_177 : decode cX13_step 177 = .ok (.iload 8, 2) := dw_at cX13_step_k7 (p := 5) rfl (by decide +kernel)
theorem dmX13_step_179 : decode cX13_step 179 = .ok (.imul, 1) := dw_at cX13_step_k7 (p := 7) rfl (by decide +kernel)
theorem dmX13_step_180 : decode cX13_step 180 = .ok (.iload 6, 2) := dw_at cX13_step_k7 (p := 8) rfl (by decide +kernel)
theorem dmX13_step_182 : decode cX13_step 182 = .ok (.iadd, 1) := dw_at cX13_step_k7 (p := 10) rfl (by decide +kernel)
theorem dmX13_step_183 : decode cX13_step 183 = .ok (.baload, 1) := dw_at cX13_step_k7 (p := 11) rfl (by decide +kernel)
theorem dmX13_step_184 : decode cX13_step 184 = .ok (.istore 12, 2) := dw_at cX13_step_k7 (p := 12) rfl (by decide +kernel)
theorem dmX13_step_186 : decode cX13_step 186 = .ok (.aload_n 0, 1) := dw_at cX13_step_k7 (p := 14) rfl (by decide +kernel)
theorem dmX13_step_187 : decode cX13_step 187 = .ok (.getfield 286, 3) := dw_at cX13_step_k7 (p := 15) rfl (by decide +kernel)
theorem dmX13_step_190 : decode cX13_step 190 = .ok (.bipush 32, 2) := dw_at cX13_step_k7 (p := 18) rfl (by decide +kernel)
theorem dmX13_step_192 : decode cX13_step 192 = .ok (.iload 8, 2) := dw_at cX13_step_k7 (p := 20) rfl (by decide +kernel)
theorem dmX13_step_194 : decode cX13_step 194 = .ok (.imul, 1) := dw_at cX13_step_k7 (p := 22) rfl (by decide +kernel)
theorem dmX13_step_195 : decode cX13_step 195 = .ok (.aload_n 1, 1) := dw_at cX13_step_k7 (p := 23) rfl (by decide +kernel)
theorem dmX13_step_196 : decode cX13_step 196 = .ok (.getfield 581, 3) := dw_at cX13_step_k8 (p := 0) rfl (by decide +kernel)
theorem dmX13_step_199 : decode cX13_step 199 = .ok (.iload 6, 2) := dw_at cX13_step_k8 (p := 3) rfl (by decide +kernel)
theorem dmX13_step_201 : decode cX13_step 201 = .ok (.iaload, 1) := dw_at cX13_step_k8 (p := 5) rfl (by decide +kernel)
theorem dmX13_step_202 : decode cX13_step 202 = .ok (.iadd, 1) := dw_at cX13_step_k8 (p := 6) rfl (by decide +kernel)
theorem dmX13_step_203 : decode cX13_step 203 = .ok (.baload, 1) := dw_at cX13_step_k8 (p := 7) rfl (by decide +kernel)
theorem dmX13_step_204 : decode cX13_step 204 = .ok (.iload 12, 2) := dw_at cX13_step_k8 (p := 8) rfl (by decide +kernel)
theorem dmX13_step_206 : decode cX13_step 206 = .ok (.if_icmp .eq 24, 3) := dw_at cX13_step_k8 (p := 10) rfl (by decide +kernel)
theorem dmX13_step_209 : decode cX13_step 209 = .ok (.aload_n 0, 1) := dw_at cX13_step_k8 (p := 13) rfl (by decide +kernel)
theorem dmX13_step_210 : decode cX13_step 210 = .ok (.getfield 286, 3) := dw_at cX13_step_k8 (p := 14) rfl (by decide +kernel)
theorem dmX13_step_213 : decode cX13_step 213 = .ok (.bipush 32, 2) := dw_at cX13_step_k8 (p := 17) rfl (by decide +kernel)
theorem dmX13_step_215 : decode cX13_step 215 = .ok (.iload 8, 2) := dw_at cX13_step_k8 (p := 19) rfl (by decide +kernel)
theorem dmX13_step_217 : decode cX13_step 217 = .ok (.imul, 1) := dw_at cX13_step_k8 (p := 21) rfl (by decide +kernel)
theorem dmX13_step_218 : decode cX13_step 218 = .ok (.aload_n 1, 1) := dw_at cX13_step_k8 (p := 22) rfl (by decide +kernel)
theorem dmX13_step_219 : decode cX13_step 219 = .ok (.getfield 581, 3) := dw_at cX13_step_k8 (p := 23) rfl (by decide +kernel)
theorem dmX13_step_222 : decode cX13_step 222 = .ok (.iload 6, 2) := dw_at cX13_step_k9 (p := 0) rfl (by decide +kernel)
theorem dmX13_step_224 : decode cX13_step 224 = .ok (.iaload, 1) := dw_at cX13_step_k9 (p := 2) rfl (by decide +kernel)
theorem dmX13_step_225 : decode cX13_step 225 = .ok (.iadd, 1) := dw_at cX13_step_k9 (p := 3) rfl (by decide +kernel)
theorem dmX13_step_226 : decode cX13_step 226 = .ok (.baload, 1) := dw_at cX13_step_k9 (p := 4) rfl (by decide +kernel)
theorem dmX13_step_227 : decode cX13_step 227 = .ok (.goto 55, 3) := dw_at cX13_step_k9 (p := 5) rfl (by decide +kernel)
theorem dmX13_step_230 : decode cX13_step 230 = .ok (.aload_n 0, 1) := dw_at cX13_step_k9 (p := 8) rfl (by decide +kernel)
theorem dmX13_step_231 : decode cX13_step 231 = .ok (.getfield 286, 3) := dw_at cX13_step_k9 (p := 9) rfl (by decide +kernel)
theorem dmX13_step_234 : decode cX13_step 234 = .ok (.bipush 32, 2) := dw_at cX13_step_k9 (p := 12) rfl (by decide +kernel)
theorem dmX13_step_236 : decode cX13_step 236 = .ok (.iload 8, 2) := dw_at cX13_step_k9 (p := 14) rfl (by decide +kernel)
theorem dmX13_step_238 : decode cX13_step 238 = .ok (.imul, 1) := dw_at cX13_step_k9 (p := 16) rfl (by decide +kernel)
theorem dmX13_step_239 : decode cX13_step 239 = .ok (.iload 7, 2) := dw_at cX13_step_k9 (p := 17) rfl (by decide +kernel)
theorem dmX13_step_241 : decode cX13_step 241 = .ok (.iadd, 1) := dw_at cX13_step_k9 (p := 19) rfl (by decide +kernel)
theorem dmX13_step_242 : decode cX13_step 242 = .ok (.baload, 1) := dw_at cX13_step_k9 (p := 20) rfl (by decide +kernel)
theorem dmX13_step_243 : decode cX13_step 243 = .ok (.iload 12, 2) := dw_at cX13_step_k9 (p := 21) rfl (by decide +kernel)
theorem dmX13_step_245 : decode cX13_step 245 = .ok (.if_icmp .eq 19, 3) := dw_at cX13_step_k9 (p := 23) rfl (by decide +kernel)
theorem dmX13_step_248 : decode cX13_step 248 = .ok (.aload_n 0, 1) := dw_at cX13_step_k10 (p := 0) rfl (by decide +kernel)
theorem dmX13_step_249 : decode cX13_step 249 = .ok (.getfield 286, 3) := dw_at cX13_step_k10 (p := 1) rfl (by decide +kernel)
theorem dmX13_step_252 : decode cX13_step 252 = .ok (.bipush 32, 2) := dw_at cX13_step_k10 (p := 4) rfl (by decide +kernel)
theorem dmX13_step_254 : decode cX13_step 254 = .ok (.iload 8, 2) := dw_at cX13_step_k10 (p := 6) rfl (by decide +kernel)
theorem dmX13_step_256 : decode cX13_step 256 = .ok (.imul, 1) := dw_at cX13_step_k10 (p := 8) rfl (by decide +kernel)
theorem dmX13_step_257 : decode cX13_step 257 = .ok (.iload 7, 2) := dw_at cX13_step_k10 (p := 9) rfl (by decide +kernel)
theorem dmX13_step_259 : decode cX13_step 259 = .ok (.iadd, 1) := dw_at cX13_step_k10 (p := 11) rfl (by decide +kernel)
theorem dmX13_step_260 : decode cX13_step 260 = .ok (.baload, 1) := dw_at cX13_step_k10 (p := 12) rfl (by decide +kernel)
theorem dmX13_step_261 : decode cX13_step 261 = .ok (.goto 21, 3) := dw_at cX13_step_k10 (p := 13) rfl (by decide +kernel)
theorem dmX13_step_264 : decode cX13_step 264 = .ok (.aload_n 0, 1) := dw_at cX13_step_k10 (p := 16) rfl (by decide +kernel)
theorem dmX13_step_265 : decode cX13_step 265 = .ok (.getfield 286, 3) := dw_at cX13_step_k10 (p := 17) rfl (by decide +kernel)
theorem dmX13_step_268 : decode cX13_step 268 = .ok (.bipush 32, 2) := dw_at cX13_step_k10 (p := 20) rfl (by decide +kernel)
theorem dmX13_step_270 : decode cX13_step 270 = .ok (.iload 8, 2) := dw_at cX13_step_k10 (p := 22) rfl (by decide +kernel)
theorem dmX13_step_272 : decode cX13_step 272 = .ok (.imul, 1) := dw_at cX13_step_k11 (p := 0) rfl (by decide +kernel)
theorem dmX13_step_273 : decode cX13_step 273 = .ok (.aload_n 1, 1) := dw_at cX13_step_k11 (p := 1) rfl (by decide +kernel)
theorem dmX13_step_274 : decode cX13_step 274 = .ok (.getfield 581, 3) := dw_at cX13_step_k11 (p := 2) rfl (by decide +kernel)
theorem dmX13_step_277 : decode cX13_step 277 = .ok (.iload 7, 2) := dw_at cX13_step_k11 (p := 5) rfl (by decide +kernel)
theorem dmX13_step_279 : decode cX13_step 279 = .ok (.iaload, 1) := dw_at cX13_step_k11 (p := 7) rfl (by decide +kernel)
theorem dmX13_step_280 : decode cX13_step 280 = .ok (.iadd, 1) := dw_at cX13_step_k11 (p := 8) rfl (by decide +kernel)
theorem dmX13_step_281 : decode cX13_step 281 = .ok (.baload, 1) := dw_at cX13_step_k11 (p := 9) rfl (by decide +kernel)
theorem dmX13_step_282 : decode cX13_step 282 = .ok (.istore 13, 2) := dw_at cX13_step_k11 (p := 10) rfl (by decide +kernel)
theorem dmX13_step_284 : decode cX13_step 284 = .ok (.iconst 0, 1) := dw_at cX13_step_k11 (p := 12) rfl (by decide +kernel)
theorem dmX13_step_285 : decode cX13_step 285 = .ok (.istore 14, 2) := dw_at cX13_step_k11 (p := 13) rfl (by decide +kernel)
theorem dmX13_step_287 : decode cX13_step 287 = .ok (.iconst 0, 1) := dw_at cX13_step_k11 (p := 15) rfl (by decide +kernel)
theorem dmX13_step_288 : decode cX13_step 288 = .ok (.istore 15, 2) := dw_at cX13_step_k11 (p := 16) rfl (by decide +kernel)
theorem dmX13_step_290 : decode cX13_step 290 = .ok (.iload 15, 2) := dw_at cX13_step_k11 (p := 18) rfl (by decide +kernel)
theorem dmX13_step_292 : decode cX13_step 292 = .ok (.aload_n 1, 1) := dw_at cX13_step_k11 (p := 20) rfl (by decide +kernel)
theorem dmX13_step_293 : decode cX13_step 293 = .ok (.getfield 44, 3) := dw_at cX13_step_k11 (p := 21) rfl (by decide +kernel)
theorem dmX13_step_296 : decode cX13_step 296 = .ok (.if_icmp .ge 67, 3) := dw_at cX13_step_k12 (p := 0) rfl (by decide +kernel)
theorem dmX13_step_299 : decode cX13_step 299 = .ok (.aload_n 0, 1) := dw_at cX13_step_k12 (p := 3) rfl (by decide +kernel)
theorem dmX13_step_300 : decode cX13_step 300 = .ok (.getfield 286, 3) := dw_at cX13_step_k12 (p := 4) rfl (by decide +kernel)
theorem dmX13_step_303 : decode cX13_step 303 = .ok (.bipush 32, 2) := dw_at cX13_step_k12 (p := 7) rfl (by decide +kernel)
theorem dmX13_step_305 : decode cX13_step 305 = .ok (.iload_n 2, 1) := dw_at cX13_step_k12 (p := 9) rfl (by decide +kernel)
theorem dmX13_step_306 : decode cX13_step 306 = .ok (.imul, 1) := dw_at cX13_step_k12 (p := 10) rfl (by decide +kernel)
theorem dmX13_step_307 : decode cX13_step 307 = .ok (.iload 15, 2) := dw_at cX13_step_k12 (p := 11) rfl (by decide +kernel)
theorem dmX13_step_309 : decode cX13_step 309 = .ok (.iadd, 1) := dw_at cX13_step_k12 (p := 13) rfl (by decide +kernel)
theorem dmX13_step_310 : decode cX13_step 310 = .ok (.baload, 1) := dw_at cX13_step_k12 (p := 14) rfl (by decide +kernel)
theorem dmX13_step_311 : decode cX13_step 311 = .ok (.istore 16, 2) := dw_at cX13_step_k12 (p := 15) rfl (by decide +kernel)
theorem dmX13_step_313 : decode cX13_step 313 = .ok (.iload 16, 2) := dw_at cX13_step_k12 (p := 17) rfl (by decide +kernel)
theorem dmX13_step_315 : decode cX13_step 315 = .ok (.iload 10, 2) := dw_at cX13_step_k12 (p := 19) rfl (by decide +kernel)
theorem dmX13_step_317 : decode cX13_step 317 = .ok (.if_icmp .eq 40, 3) := dw_at cX13_step_k12 (p := 21) rfl (by decide +kernel)
theorem dmX13_step_320 : decode cX13_step 320 = .ok (.iload 16, 2) := dw_at cX13_step_k13 (p := 0) rfl (by decide +kernel)
theorem dmX13_step_322 : decode cX13_step 322 = .ok (.iload 11, 2) := dw_at cX13_step_k13 (p := 2) rfl (by decide +kernel)
theorem dmX13_step_324 : decode cX13_step 324 = .ok (.if_icmp .eq 33, 3) := dw_at cX13_step_k13 (p := 4) rfl (by decide +kernel)
theorem dmX13_step_327 : decode cX13_step 327 = .ok (.iload_n 3, 1) := dw_at cX13_step_k13 (p := 7) rfl (by decide +kernel)
theorem dmX13_step_328 : decode cX13_step 328 = .ok (.iload 16, 2) := dw_at cX13_step_k13 (p := 8) rfl (by decide +kernel)
theorem dmX13_step_330 : decode cX13_step 330 = .ok (.ishr, 1) := dw_at cX13_step_k13 (p := 10) rfl (by decide +kernel)
theorem dmX13_step_331 : decode cX13_step 331 = .ok (.iconst 1, 1) := dw_at cX13_step_k13 (p := 11) rfl (by decide +kernel)
theorem dmX13_step_332 : decode cX13_step 332 = .ok (.iand, 1) := dw_at cX13_step_k13 (p := 12) rfl (by decide +kernel)
theorem dmX13_step_333 : decode cX13_step 333 = .ok (.iconst 1, 1) := dw_at cX13_step_k13 (p := 13) rfl (by decide +kernel)
theorem dmX13_step_334 : decode cX13_step 334 = .ok (.if_icmp .ne 23, 3) := dw_at cX13_step_k13 (p := 14) rfl (by decide +kernel)
theorem dmX13_step_337 : decode cX13_step 337 = .ok (.iload 14, 2) := dw_at cX13_step_k13 (p := 17) rfl (by decide +kernel)
theorem dmX13_step_339 : decode cX13_step 339 = .ok (.iconst 1, 1) := dw_at cX13_step_k13 (p := 19) rfl (by decide +kernel)
theorem dmX13_step_340 : decode cX13_step 340 = .ok (.aload_n 0, 1) := dw_at cX13_step_k13 (p := 20) rfl (by decide +kernel)
theorem dmX13_step_341 : decode cX13_step 341 = .ok (.getfield 286, 3) := dw_at cX13_step_k13 (p := 21) rfl (by decide +kernel)
theorem dmX13_step_344 : decode cX13_step 344 = .ok (.bipush 32, 2) := dw_at cX13_step_k14 (p := 0) rfl (by decide +kernel)
theorem dmX13_step_346 : decode cX13_step 346 = .ok (.iload 8, 2) := dw_at cX13_step_k14 (p := 2) rfl (by decide +kernel)
theorem dmX13_step_348 : decode cX13_step 348 = .ok (.imul, 1) := dw_at cX13_step_k14 (p := 4) rfl (by decide +kernel)
theorem dmX13_step_349 : decode cX13_step 349 = .ok (.iload 15, 2) := dw_at cX13_step_k14 (p := 5) rfl (by decide +kernel)
theorem dmX13_step_351 : decode cX13_step 351 = .ok (.iadd, 1) := dw_at cX13_step_k14 (p := 7) rfl (by decide +kernel)
theorem dmX13_step_352 : decode cX13_step 352 = .ok (.baload, 1) := dw_at cX13_step_k14 (p := 8) rfl (by decide +kernel)
theorem dmX13_step_353 : decode cX13_step 353 = .ok (.ishl, 1) := dw_at cX13_step_k14 (p := 9) rfl (by decide +kernel)
theorem dmX13_step_354 : decode cX13_step 354 = .ok (.ior, 1) := dw_at cX13_step_k14 (p := 10) rfl (by decide +kernel)
theorem dmX13_step_355 : decode cX13_step 355 = .ok (.istore 14, 2) := dw_at cX13_step_k14 (p := 11) rfl (by decide +kernel)
theorem dmX13_step_357 : decode cX13_step 357 = .ok (.iinc 15 1, 3) := dw_at cX13_step_k14 (p := 13) rfl (by decide +kernel)
theorem dmX13_step_360 : decode cX13_step 360 = .ok (.goto (-70), 3) := dw_at cX13_step_k14 (p := 16) rfl (by decide +kernel)
theorem dmX13_step_363 : decode cX13_step 363 = .ok (.aload_n 0, 1) := dw_at cX13_step_k14 (p := 19) rfl (by decide +kernel)
theorem dmX13_step_364 : decode cX13_step 364 = .ok (.aload_n 1, 1) := dw_at cX13_step_k14 (p := 20) rfl (by decide +kernel)
theorem dmX13_step_365 : decode cX13_step 365 = .ok (.invokevirtual 438, 3) := dw_at cX13_step_k14 (p := 21) rfl (by decide +kernel)
theorem dmX13_step_368 : decode cX13_step 368 = .ok (.istore 15, 2) := dw_at cX13_step_k15 (p := 0) rfl (by decide +kernel)
theorem dmX13_step_370 : decode cX13_step 370 = .ok (.iconst 1, 1) := dw_at cX13_step_k15 (p := 2) rfl (by decide +kernel)
theorem dmX13_step_371 : decode cX13_step 371 = .ok (.istore 16, 2) := dw_at cX13_step_k15 (p := 3) rfl (by decide +kernel)
theorem dmX13_step_373 : decode cX13_step 373 = .ok (.iload 16, 2) := dw_at cX13_step_k15 (p := 5) rfl (by decide +kernel)
theorem dmX13_step_375 : decode cX13_step 375 = .ok (.iload 15, 2) := dw_at cX13_step_k15 (p := 7) rfl (by decide +kernel)
theorem dmX13_step_377 : decode cX13_step 377 = .ok (.if_icmp .gt 43, 3) := dw_at cX13_step_k15 (p := 9) rfl (by decide +kernel)
theorem dmX13_step_380 : decode cX13_step 380 = .ok (.iload_n 3, 1) := dw_at cX13_step_k15 (p := 12) rfl (by decide +kernel)
theorem dmX13_step_381 : decode cX13_step 381 = .ok (.aload_n 0, 1) := dw_at cX13_step_k15 (p := 13) rfl (by decide +kernel)
theorem dmX13_step_382 : decode cX13_step 382 = .ok (.getfield 289, 3) := dw_at cX13_step_k15 (p := 14) rfl (by decide +kernel)
theorem dmX13_step_385 : decode cX13_step 385 = .ok (.iload_n 2, 1) := dw_at cX13_step_k15 (p := 17) rfl (by decide +kernel)
theorem dmX13_step_386 : decode cX13_step 386 = .ok (.iaload, 1) := dw_at cX13_step_k15 (p := 18) rfl (by decide +kernel)
theorem dmX13_step_387 : decode cX13_step 387 = .ok (.iload 16, 2) := dw_at cX13_step_k15 (p := 19) rfl (by decide +kernel)
theorem dmX13_step_389 : decode cX13_step 389 = .ok (.isub, 1) := dw_at cX13_step_k15 (p := 21) rfl (by decide +kernel)
theorem dmX13_step_390 : decode cX13_step 390 = .ok (.ishr, 1) := dw_at cX13_step_k15 (p := 22) rfl (by decide +kernel)
theorem dmX13_step_391 : decode cX13_step 391 = .ok (.iconst 1, 1) := dw_at cX13_step_k15 (p := 23) rfl (by decide +kernel)
theorem dmX13_step_392 : decode cX13_step 392 = .ok (.iand, 1) := dw_at cX13_step_k16 (p := 0) rfl (by decide +kernel)
theorem dmX13_step_393 : decode cX13_step 393 = .ok (.iconst 1, 1) := dw_at cX13_step_k16 (p := 1) rfl (by decide +kernel)
theorem dmX13_step_394 : decode cX13_step 394 = .ok (.if_icmp .ne 20, 3) := dw_at cX13_step_k16 (p := 2) rfl (by decide +kernel)
theorem dmX13_step_397 : decode cX13_step 397 = .ok (.iload 14, 2) := dw_at cX13_step_k16 (p := 5) rfl (by decide +kernel)
theorem dmX13_step_399 : decode cX13_step 399 = .ok (.iconst 1, 1) := dw_at cX13_step_k16 (p := 7) rfl (by decide +kernel)
theorem dmX13_step_400 : decode cX13_step 400 = .ok (.aload_n 0, 1) := dw_at cX13_step_k16 (p := 8) rfl (by decide +kernel)
theorem dmX13_step_401 : decode cX13_step 401 = .ok (.getfield 289, 3) := dw_at cX13_step_k16 (p := 9) rfl (by decide +kernel)
theorem dmX13_step_404 : decode cX13_step 404 = .ok (.iload 8, 2) := dw_at cX13_step_k16 (p := 12) rfl (by decide +kernel)
theorem dmX13_step_406 : decode cX13_step 406 = .ok (.iaload, 1) := dw_at cX13_step_k16 (p := 14) rfl (by decide +kernel)
theorem dmX13_step_407 : decode cX13_step 407 = .ok (.iload 16, 2) := dw_at cX13_step_k16 (p := 15) rfl (by decide +kernel)
theorem dmX13_step_409 : decode cX13_step 409 = .ok (.isub, 1) := dw_at cX13_step_k16 (p := 17) rfl (by decide +kernel)
theorem dmX13_step_410 : decode cX13_step 410 = .ok (.ishl, 1) := dw_at cX13_step_k16 (p := 18) rfl (by decide +kernel)
theorem dmX13_step_411 : decode cX13_step 411 = .ok (.ior, 1) := dw_at cX13_step_k16 (p := 19) rfl (by decide +kernel)
theorem dmX13_step_412 : decode cX13_step 412 = .ok (.istore 14, 2) := dw_at cX13_step_k16 (p := 20) rfl (by decide +kernel)
theorem dmX13_step_414 : decode cX13_step 414 = .ok (.iinc 16 1, 3) := dw_at cX13_step_k16 (p := 22) rfl (by decide +kernel)
theorem dmX13_step_417 : decode cX13_step 417 = .ok (.goto (-44), 3) := dw_at cX13_step_k17 (p := 0) rfl (by decide +kernel)
theorem dmX13_step_420 : decode cX13_step 420 = .ok (.iload_n 3, 1) := dw_at cX13_step_k17 (p := 3) rfl (by decide +kernel)
theorem dmX13_step_421 : decode cX13_step 421 = .ok (.iload 10, 2) := dw_at cX13_step_k17 (p := 4) rfl (by decide +kernel)
theorem dmX13_step_423 : decode cX13_step 423 = .ok (.ishr, 1) := dw_at cX13_step_k17 (p := 6) rfl (by decide +kernel)
theorem dmX13_step_424 : decode cX13_step 424 = .ok (.iconst 1, 1) := dw_at cX13_step_k17 (p := 7) rfl (by decide +kernel)
theorem dmX13_step_425 : decode cX13_step 425 = .ok (.iand, 1) := dw_at cX13_step_k17 (p := 8) rfl (by decide +kernel)
theorem dmX13_step_426 : decode cX13_step 426 = .ok (.iconst 1, 1) := dw_at cX13_step_k17 (p := 9) rfl (by decide +kernel)
theorem dmX13_step_427 : decode cX13_step 427 = .ok (.if_icmp .ne 7, 3) := dw_at cX13_step_k17 (p := 10) rfl (by decide +kernel)
theorem dmX13_step_430 : decode cX13_step 430 = .ok (.iconst 1, 1) := dw_at cX13_step_k17 (p := 13) rfl (by decide +kernel)
theorem dmX13_step_431 : decode cX13_step 431 = .ok (.goto 4, 3) := dw_at cX13_step_k17 (p := 14) rfl (by decide +kernel)
theorem dmX13_step_434 : decode cX13_step 434 = .ok (.iconst 0, 1) := dw_at cX13_step_k17 (p := 17) rfl (by decide +kernel)
theorem dmX13_step_435 : decode cX13_step 435 = .ok (.istore 16, 2) := dw_at cX13_step_k17 (p := 18) rfl (by decide +kernel)
theorem dmX13_step_437 : decode cX13_step 437 = .ok (.iload 10, 2) := dw_at cX13_step_k17 (p := 20) rfl (by decide +kernel)
theorem dmX13_step_439 : decode cX13_step 439 = .ok (.iload 11, 2) := dw_at cX13_step_k17 (p := 22) rfl (by decide +kernel)
theorem dmX13_step_441 : decode cX13_step 441 = .ok (.if_icmp .eq 101, 3) := dw_at cX13_step_k18 (p := 0) rfl (by decide +kernel)
theorem dmX13_step_444 : decode cX13_step 444 = .ok (.iload_n 3, 1) := dw_at cX13_step_k18 (p := 3) rfl (by decide +kernel)
theorem dmX13_step_445 : decode cX13_step 445 = .ok (.iload 11, 2) := dw_at cX13_step_k18 (p := 4) rfl (by decide +kernel)
theorem dmX13_step_447 : decode cX13_step 447 = .ok (.ishr, 1) := dw_at cX13_step_k18 (p := 6) rfl (by decide +kernel)
theorem dmX13_step_448 : decode cX13_step 448 = .ok (.iconst 1, 1) := dw_at cX13_step_k18 (p := 7) rfl (by decide +kernel)
theorem dmX13_step_449 : decode cX13_step 449 = .ok (.iand, 1) := dw_at cX13_step_k18 (p := 8) rfl (by decide +kernel)
theorem dmX13_step_450 : decode cX13_step 450 = .ok (.iconst 1, 1) := dw_at cX13_step_k18 (p := 9) rfl (by decide +kernel)
theorem dmX13_step_451 : decode cX13_step 451 = .ok (.if_icmp .ne 7, 3) := dw_at cX13_step_k18 (p := 10) rfl (by decide +kernel)
theorem dmX13_step_454 : decode cX13_step 454 = .ok (.iconst 1, 1) := dw_at cX13_step_k18 (p := 13) rfl (by decide +kernel)
theorem dmX13_step_455 : decode cX13_step 455 = .ok (.goto 4, 3) := dw_at cX13_step_k18 (p := 14) rfl (by decide +kernel)
theorem dmX13_step_458 : decode cX13_step 458 = .ok (.iconst 0, 1) := dw_at cX13_step_k18 (p := 17) rfl (by decide +kernel)
theorem dmX13_step_459 : decode cX13_step 459 = .ok (.istore 17, 2) := dw_at cX13_step_k18 (p := 18) rfl (by decide +kernel)
theorem dmX13_step_461 : decode cX13_step 461 = .ok (.iload 16, 2) := dw_at cX13_step_k18 (p := 20) rfl (by decide +kernel)
theorem dmX13_step_463 : decode cX13_step 463 = .ok (.ifCond .eq 41, 3) := dw_at cX13_step_k18 (p := 22) rfl (by decide +kernel)
theorem dmX13_step_466 : decode cX13_step 466 = .ok (.iload 17, 2) := dw_at cX13_step_k19 (p := 0) rfl (by decide +kernel)
theorem dmX13_step_468 : decode cX13_step 468 = .ok (.ifCond .eq 36, 3) := dw_at cX13_step_k19 (p := 2) rfl (by decide +kernel)
theorem dmX13_step_471 : decode cX13_step 471 = .ok (.aload_n 0, 1) := dw_at cX13_step_k19 (p := 5) rfl (by decide +kernel)
theorem dmX13_step_472 : decode cX13_step 472 = .ok (.getfield 307, 3) := dw_at cX13_step_k19 (p := 6) rfl (by decide +kernel)
theorem dmX13_step_475 : decode cX13_step 475 = .ok (.aload_n 0, 1) := dw_at cX13_step_k19 (p := 9) rfl (by decide +kernel)
theorem dmX13_step_476 : decode cX13_step 476 = .ok (.getfield 295, 3) := dw_at cX13_step_k19 (p := 10) rfl (by decide +kernel)
theorem dmX13_step_479 : decode cX13_step 479 = .ok (.aload_n 0, 1) := dw_at cX13_step_k19 (p := 13) rfl (by decide +kernel)
theorem dmX13_step_480 : decode cX13_step 480 = .ok (.getfield 292, 3) := dw_at cX13_step_k19 (p := 14) rfl (by decide +kernel)
theorem dmX13_step_483 : decode cX13_step 483 = .ok (.iload 8, 2) := dw_at cX13_step_k19 (p := 17) rfl (by decide +kernel)
theorem dmX13_step_485 : decode cX13_step 485 = .ok (.iaload, 1) := dw_at cX13_step_k19 (p := 19) rfl (by decide +kernel)
theorem dmX13_step_486 : decode cX13_step 486 = .ok (.iload 14, 2) := dw_at cX13_step_k19 (p := 20) rfl (by decide +kernel)
theorem dmX13_step_488 : decode cX13_step 488 = .ok (.iconst 1, 1) := dw_at cX13_step_k19 (p := 22) rfl (by decide +kernel)
theorem dmX13_step_489 : decode cX13_step 489 = .ok (.iload 12, 2) := dw_at cX13_step_k19 (p := 23) rfl (by decide +kernel)
theorem dmX13_step_491 : decode cX13_step 491 = .ok (.ishl, 1) := dw_at cX13_step_k20 (p := 0) rfl (by decide +kernel)
theorem dmX13_step_492 : decode cX13_step 492 = .ok (.ior, 1) := dw_at cX13_step_k20 (p := 1) rfl (by decide +kernel)
theorem dmX13_step_493 : decode cX13_step 493 = .ok (.iadd, 1) := dw_at cX13_step_k20 (p := 2) rfl (by decide +kernel)
theorem dmX13_step_494 : decode cX13_step 494 = .ok (.iaload, 1) := dw_at cX13_step_k20 (p := 3) rfl (by decide +kernel)
theorem dmX13_step_495 : decode cX13_step 495 = .ok (.dup2, 1) := dw_at cX13_step_k20 (p := 4) rfl (by decide +kernel)
theorem dmX13_step_496 : decode cX13_step 496 = .ok (.iaload, 1) := dw_at cX13_step_k20 (p := 5) rfl (by decide +kernel)
theorem dmX13_step_497 : decode cX13_step 497 = .ok (.iload 9, 2) := dw_at cX13_step_k20 (p := 6) rfl (by decide +kernel)
theorem dmX13_step_499 : decode cX13_step 499 = .ok (.iadd, 1) := dw_at cX13_step_k20 (p := 8) rfl (by decide +kernel)
theorem dmX13_step_500 : decode cX13_step 500 = .ok (.iastore, 1) := dw_at cX13_step_k20 (p := 9) rfl (by decide +kernel)
theorem dmX13_step_501 : decode cX13_step 501 = .ok (.goto 38, 3) := dw_at cX13_step_k20 (p := 10) rfl (by decide +kernel)
theorem dmX13_step_504 : decode cX13_step 504 = .ok (.iload 16, 2) := dw_at cX13_step_k20 (p := 13) rfl (by decide +kernel)
theorem dmX13_step_506 : decode cX13_step 506 = .ok (.ifCond .ne 8, 3) := dw_at cX13_step_k20 (p := 15) rfl (by decide +kernel)
theorem dmX13_step_509 : decode cX13_step 509 = .ok (.iload 17, 2) := dw_at cX13_step_k20 (p := 18) rfl (by decide +kernel)
theorem dmX13_step_511 : decode cX13_step 511 = .ok (.ifCond .eq 28, 3) := dw_at cX13_step_k20 (p := 20) rfl (by decide +kernel)
theorem dmX13_step_514 : decode cX13_step 514 = .ok (.aload_n 0, 1) := dw_at cX13_step_k20 (p := 23) rfl (by decide +kernel)
theorem dmX13_step_515 : decode cX13_step 515 = .ok (.getfield 307, 3) := dw_at cX13_step_k21 (p := 0) rfl (by decide +kernel)
theorem dmX13_step_518 : decode cX13_step 518 = .ok (.aload_n 0, 1) := dw_at cX13_step_k21 (p := 3) rfl (by decide +kernel)
theorem dmX13_step_519 : decode cX13_step 519 = .ok (.getfield 295, 3) := dw_at cX13_step_k21 (p := 4) rfl (by decide +kernel)
theorem dmX13_step_522 : decode cX13_step 522 = .ok (.aload_n 0, 1) := dw_at cX13_step_k21 (p := 7) rfl (by decide +kernel)
theorem dmX13_step_523 : decode cX13_step 523 = .ok (.getfield 292, 3) := dw_at cX13_step_k21 (p := 8) rfl (by decide +kernel)
theorem dmX13_step_526 : decode cX13_step 526 = .ok (.iload 8, 2) := dw_at cX13_step_k21 (p := 11) rfl (by decide +kernel)
theorem dmX13_step_528 : decode cX13_step 528 = .ok (.iaload, 1) := dw_at cX13_step_k21 (p := 13) rfl (by decide +kernel)
theorem dmX13_step_529 : decode cX13_step 529 = .ok (.iload 14, 2) := dw_at cX13_step_k21 (p := 14) rfl (by decide +kernel)
theorem dmX13_step_531 : decode cX13_step 531 = .ok (.iadd, 1) := dw_at cX13_step_k21 (p := 16) rfl (by decide +kernel)
theorem dmX13_step_532 : decode cX13_step 532 = .ok (.iaload, 1) := dw_at cX13_step_k21 (p := 17) rfl (by decide +kernel)
theorem dmX13_step_533 : decode cX13_step 533 = .ok (.dup2, 1) := dw_at cX13_step_k21 (p := 18) rfl (by decide +kernel)
theorem dmX13_step_534 : decode cX13_step 534 = .ok (.iaload, 1) := dw_at cX13_step_k21 (p := 19) rfl (by decide +kernel)
theorem dmX13_step_535 : decode cX13_step 535 = .ok (.iload 9, 2) := dw_at cX13_step_k21 (p := 20) rfl (by decide +kernel)
theorem dmX13_step_537 : decode cX13_step 537 = .ok (.iadd, 1) := dw_at cX13_step_k21 (p := 22) rfl (by decide +kernel)
theorem dmX13_step_538 : decode cX13_step 538 = .ok (.iastore, 1) := dw_at cX13_step_k21 (p := 23) rfl (by decide +kernel)
theorem dmX13_step_539 : decode cX13_step 539 = .ok (.goto 96, 3) := dw_at cX13_step_k22 (p := 0) rfl (by decide +kernel)
theorem dmX13_step_542 : decode cX13_step 542 = .ok (.iload 16, 2) := dw_at cX13_step_k22 (p := 3) rfl (by decide +kernel)
theorem dmX13_step_544 : decode cX13_step 544 = .ok (.ifCond .eq 66, 3) := dw_at cX13_step_k22 (p := 5) rfl (by decide +kernel)
theorem dmX13_step_547 : decode cX13_step 547 = .ok (.aload_n 0, 1) := dw_at cX13_step_k22 (p := 8) rfl (by decide +kernel)
theorem dmX13_step_548 : decode cX13_step 548 = .ok (.getfield 307, 3) := dw_at cX13_step_k22 (p := 9) rfl (by decide +kernel)
theorem dmX13_step_551 : decode cX13_step 551 = .ok (.aload_n 0, 1) := dw_at cX13_step_k22 (p := 12) rfl (by decide +kernel)
theorem dmX13_step_552 : decode cX13_step 552 = .ok (.getfield 295, 3) := dw_at cX13_step_k22 (p := 13) rfl (by decide +kernel)
theorem dmX13_step_555 : decode cX13_step 555 = .ok (.aload_n 0, 1) := dw_at cX13_step_k22 (p := 16) rfl (by decide +kernel)
theorem dmX13_step_556 : decode cX13_step 556 = .ok (.getfield 292, 3) := dw_at cX13_step_k22 (p := 17) rfl (by decide +kernel)
theorem dmX13_step_559 : decode cX13_step 559 = .ok (.iload 8, 2) := dw_at cX13_step_k22 (p := 20) rfl (by decide +kernel)
theorem dmX13_step_561 : decode cX13_step 561 = .ok (.iaload, 1) := dw_at cX13_step_k22 (p := 22) rfl (by decide +kernel)
theorem dmX13_step_562 : decode cX13_step 562 = .ok (.iload 14, 2) := dw_at cX13_step_k22 (p := 23) rfl (by decide +kernel)
theorem dmX13_step_564 : decode cX13_step 564 = .ok (.iconst 1, 1) := dw_at cX13_step_k23 (p := 0) rfl (by decide +kernel)
theorem dmX13_step_565 : decode cX13_step 565 = .ok (.iload 12, 2) := dw_at cX13_step_k23 (p := 1) rfl (by decide +kernel)
theorem dmX13_step_567 : decode cX13_step 567 = .ok (.ishl, 1) := dw_at cX13_step_k23 (p := 3) rfl (by decide +kernel)
theorem dmX13_step_568 : decode cX13_step 568 = .ok (.ior, 1) := dw_at cX13_step_k23 (p := 4) rfl (by decide +kernel)
theorem dmX13_step_569 : decode cX13_step 569 = .ok (.iadd, 1) := dw_at cX13_step_k23 (p := 5) rfl (by decide +kernel)
theorem dmX13_step_570 : decode cX13_step 570 = .ok (.iaload, 1) := dw_at cX13_step_k23 (p := 6) rfl (by decide +kernel)
theorem dmX13_step_571 : decode cX13_step 571 = .ok (.dup2, 1) := dw_at cX13_step_k23 (p := 7) rfl (by decide +kernel)
theorem dmX13_step_572 : decode cX13_step 572 = .ok (.iaload, 1) := dw_at cX13_step_k23 (p := 8) rfl (by decide +kernel)
theorem dmX13_step_573 : decode cX13_step 573 = .ok (.iload 9, 2) := dw_at cX13_step_k23 (p := 9) rfl (by decide +kernel)
theorem dmX13_step_575 : decode cX13_step 575 = .ok (.iadd, 1) := dw_at cX13_step_k23 (p := 11) rfl (by decide +kernel)
theorem dmX13_step_576 : decode cX13_step 576 = .ok (.iastore, 1) := dw_at cX13_step_k23 (p := 12) rfl (by decide +kernel)
theorem dmX13_step_577 : decode cX13_step 577 = .ok (.aload_n 0, 1) := dw_at cX13_step_k23 (p := 13) rfl (by decide +kernel)
theorem dmX13_step_578 : decode cX13_step 578 = .ok (.getfield 307, 3) := dw_at cX13_step_k23 (p := 14) rfl (by decide +kernel)
theorem dmX13_step_581 : decode cX13_step 581 = .ok (.aload_n 0, 1) := dw_at cX13_step_k23 (p := 17) rfl (by decide +kernel)
theorem dmX13_step_582 : decode cX13_step 582 = .ok (.getfield 295, 3) := dw_at cX13_step_k23 (p := 18) rfl (by decide +kernel)
theorem dmX13_step_585 : decode cX13_step 585 = .ok (.aload_n 0, 1) := dw_at cX13_step_k23 (p := 21) rfl (by decide +kernel)
theorem dmX13_step_586 : decode cX13_step 586 = .ok (.getfield 292, 3) := dw_at cX13_step_k23 (p := 22) rfl (by decide +kernel)
theorem dmX13_step_589 : decode cX13_step 589 = .ok (.iload 8, 2) := dw_at cX13_step_k24 (p := 0) rfl (by decide +kernel)
theorem dmX13_step_591 : decode cX13_step 591 = .ok (.iaload, 1) := dw_at cX13_step_k24 (p := 2) rfl (by decide +kernel)
theorem dmX13_step_592 : decode cX13_step 592 = .ok (.iload 14, 2) := dw_at cX13_step_k24 (p := 3) rfl (by decide +kernel)
theorem dmX13_step_594 : decode cX13_step 594 = .ok (.iconst 1, 1) := dw_at cX13_step_k24 (p := 5) rfl (by decide +kernel)
theorem dmX13_step_595 : decode cX13_step 595 = .ok (.iload 13, 2) := dw_at cX13_step_k24 (p := 6) rfl (by decide +kernel)
theorem dmX13_step_597 : decode cX13_step 597 = .ok (.ishl, 1) := dw_at cX13_step_k24 (p := 8) rfl (by decide +kernel)
theorem dmX13_step_598 : decode cX13_step 598 = .ok (.ior, 1) := dw_at cX13_step_k24 (p := 9) rfl (by decide +kernel)
theorem dmX13_step_599 : decode cX13_step 599 = .ok (.iadd, 1) := dw_at cX13_step_k24 (p := 10) rfl (by decide +kernel)
theorem dmX13_step_600 : decode cX13_step 600 = .ok (.iaload, 1) := dw_at cX13_step_k24 (p := 11) rfl (by decide +kernel)
theorem dmX13_step_601 : decode cX13_step 601 = .ok (.dup2, 1) := dw_at cX13_step_k24 (p := 12) rfl (by decide +kernel)
theorem dmX13_step_602 : decode cX13_step 602 = .ok (.iaload, 1) := dw_at cX13_step_k24 (p := 13) rfl (by decide +kernel)
theorem dmX13_step_603 : decode cX13_step 603 = .ok (.iload 9, 2) := dw_at cX13_step_k24 (p := 14) rfl (by decide +kernel)
theorem dmX13_step_605 : decode cX13_step 605 = .ok (.iadd, 1) := dw_at cX13_step_k24 (p := 16) rfl (by decide +kernel)
theorem dmX13_step_606 : decode cX13_step 606 = .ok (.iastore, 1) := dw_at cX13_step_k24 (p := 17) rfl (by decide +kernel)
theorem dmX13_step_607 : decode cX13_step 607 = .ok (.goto 28, 3) := dw_at cX13_step_k24 (p := 18) rfl (by decide +kernel)
theorem dmX13_step_610 : decode cX13_step 610 = .ok (.aload_n 0, 1) := dw_at cX13_step_k24 (p := 21) rfl (by decide +kernel)
theorem dmX13_step_611 : decode cX13_step 611 = .ok (.getfield 307, 3) := dw_at cX13_step_k24 (p := 22) rfl (by decide +kernel)
theorem dmX13_step_614 : decode cX13_step 614 = .ok (.aload_n 0, 1) := dw_at cX13_step_k25 (p := 0) rfl (by decide +kernel)
theorem dmX13_step_615 : decode cX13_step 615 = .ok (.getfield 295, 3) := dw_at cX13_step_k25 (p := 1) rfl (by decide +kernel)
theorem dmX13_step_618 : decode cX13_step 618 = .ok (.aload_n 0, 1) := dw_at cX13_step_k25 (p := 4) rfl (by decide +kernel)
theorem dmX13_step_619 : decode cX13_step 619 = .ok (.getfield 292, 3) := dw_at cX13_step_k25 (p := 5) rfl (by decide +kernel)
theorem dmX13_step_622 : decode cX13_step 622 = .ok (.iload 8, 2) := dw_at cX13_step_k25 (p := 8) rfl (by decide +kernel)
theorem dmX13_step_624 : decode cX13_step 624 = .ok (.iaload, 1) := dw_at cX13_step_k25 (p := 10) rfl (by decide +kernel)
theorem dmX13_step_625 : decode cX13_step 625 = .ok (.iload 14, 2) := dw_at cX13_step_k25 (p := 11) rfl (by decide +kernel)
theorem dmX13_step_627 : decode cX13_step 627 = .ok (.iadd, 1) := dw_at cX13_step_k25 (p := 13) rfl (by decide +kernel)
theorem dmX13_step_628 : decode cX13_step 628 = .ok (.iaload, 1) := dw_at cX13_step_k25 (p := 14) rfl (by decide +kernel)
theorem dmX13_step_629 : decode cX13_step 629 = .ok (.dup2, 1) := dw_at cX13_step_k25 (p := 15) rfl (by decide +kernel)
theorem dmX13_step_630 : decode cX13_step 630 = .ok (.iaload, 1) := dw_at cX13_step_k25 (p := 16) rfl (by decide +kernel)
theorem dmX13_step_631 : decode cX13_step 631 = .ok (.iload 9, 2) := dw_at cX13_step_k25 (p := 17) rfl (by decide +kernel)
theorem dmX13_step_633 : decode cX13_step 633 = .ok (.iadd, 1) := dw_at cX13_step_k25 (p := 19) rfl (by decide +kernel)
theorem dmX13_step_634 : decode cX13_step 634 = .ok (.iastore, 1) := dw_at cX13_step_k25 (p := 20) rfl (by decide +kernel)
theorem dmX13_step_635 : decode cX13_step 635 = .ok (.return_, 1) := dw_at cX13_step_k25 (p := 21) rfl (by decide +kernel)
def qm_X13_step_0 (K : Nat) (go : Nat → Int32 → Int32 → Int32 → Int32 → Int32 → Int32 → Int32 → Int32 → Int32 → Int32 → Int32 → Int32 → Int32 → Int32 → Int32 → Int32 → Nat → Int32 → ow_MS → Option ow_MS) (x2 : Int32) (x3 : Int32) (x4 : Int32) (x5 : Int32) (x6 : Int32) (x7 : Int32) (x8 : Int32) (x9 : Int32) (x10 : Int32) (x11 : Int32) (x12 : Int32) (x13 : Int32) (x14 : Int32) (x15 : Int32) (x16 : Int32) (x17 : Int32) (r1 : Nat) (t0 : Int32) (z : ow_MS) : Option ow_MS :=
 go 1 x2 x3 x4 x5 0 0 0 0 0 0 0 0 0 0 0 0 r1 0 z
def qm_X13_step_1 (K : Nat) (go : Nat → Int32 → Int32 → Int32 → Int32 → Int32 → Int32 → Int32 → Int32 → Int32 → Int32 → Int32 → Int32 → Int32 → Int32 → Int32 → Int32 → Nat → Int32 → ow_MS → Option ow_MS) (x2 : Int32) (x3 : Int32) (x4 : Int32) (x5 : Int32) (x6 : Int32) (x7 : Int32) (x8 : Int32) (x9 : Int32) (x10 : Int32) (x11 : Int32) (x12 : Int32) (x13 : Int32) (x14 : Int32) (x15 : Int32) (x16 : Int32) (x17 : Int32) (r1 : Nat) (t0 : Int32) (z : ow_MS) : Option ow_MS :=
 rdI mX z (r1 + 4) x6 fun v1 => (if v1 = x4 then rdI mX z (r1 + 7) x6 fun v2 => (if ((ow_bc (x2 &&& (((1 : Int32) <<< ((x4 : Int32) &&& 31)) - 1))) &&& 1) = 0 then go 2 x2 x3 x4 x5 x6 v2 (x2 ||| ((1 : Int32) <<< ((x4 : Int32) &&& 31))) 0 0 0 0 0 0 0 0 0 r1 1 z
 else go 2 x2 x3 x4 x5 x6 v2 (x2 ||| ((1 : Int32) <<< ((x4 : Int32) &&& 31))) 0 0 0 0 0 0 0 0 0 r1 (x5 - 1) z)
 else go 1 x2 x3 x4 x5 (x6 + 1) 0 0 0 0 0 0 0 0 0 0 0 r1 0 z)
def qm_X13_step_2 (K : Nat) (go : Nat → Int32 → Int32 → Int32 → Int32 → Int32 → Int32 → Int32 → Int32 → Int32 → Int32 → Int32 → Int32 → Int32 → Int32 → Int32 → Int32 → Nat → Int32 → ow_MS → Option ow_MS) (x2 : Int32) (x3 : Int32) (x4 : Int32) (x5 : Int32) (x6 : Int32) (x7 : Int32) (x8 : Int32) (x9 : Int32) (x10 : Int32) (x11 : Int32) (x12 : Int32) (x13 : Int32) (x14 : Int32) (x15 : Int32) (x16 : Int32) (x17 : Int32) (r1 : Nat) (t0 : Int32) (z : ow_MS) : Option ow_MS :=
 rdI mX z 81 ((32 * x2) + x6) fun v4 => rdI mX z (r1 + 10) x6 fun v5 => rdI mX z 81 ((32 * x2) + v5) fun v6 => (if v6 = v4 then rdI mX z 81 ((32 * x2) + x7) fun v7 => (if v7 = v4 then rdI mX z (r1 + 10) x7 fun v8 => rdI mX z 81 ((32 * x2) + v8) fun v9 => go 3 x2 x3 x4 x5 x6 x7 x8 t0 v4 0 0 0 0 0 0 0 r1 v9 z
 else rdI mX z 81 ((32 * x2) + x7) fun v10 => go 3 x2 x3 x4 x5 x6 x7 x8 t0 v4 0 0 0 0 0 0 0 r1 v10 z)
 else rdI mX z (r1 + 10) x6 fun v11 => rdI mX z 81 ((32 * x2) + v11) fun v12 => go 3 x2 x3 x4 x5 x6 x7 x8 t0 v4 0 0 0 0 0 0 0 r1 v12 z)
def qm_X13_step_3 (K : Nat) (go : Nat → Int32 → Int32 → Int32 → Int32 → Int32 → Int32 → Int32 → Int32 → Int32 → Int32 → Int32 → Int32 → Int32 → Int32 → Int32 → Int32 → Nat → Int32 → ow_MS → Option ow_MS) (x2 : Int32) (x3 : Int32) (x4 : Int32) (x5 : Int32) (x6 : Int32) (x7 : Int32) (x8 : Int32) (x9 : Int32) (x10 : Int32) (x11 : Int32) (x12 : Int32) (x13 : Int32) (x14 : Int32) (x15 : Int32) (x16 : Int32) (x17 : Int32) (r1 : Nat) (t0 : Int32) (z : ow_MS) : Option ow_MS :=
 rdI mX z 81 ((32 * x8) + x6) fun v13 => rdI mX z (r1 + 10) x6 fun v14 => rdI mX z 81 ((32 * x8) + v14) fun v15 => (if v15 = v13 then rdI mX z 81 ((32 * x8) + x7) fun v16 => (if v16 = v13 then rdI mX z (r1 + 10) x7 fun v17 => rdI mX z 81 ((32 * x8) + v17) fun v18 => go 4 x2 x3 x4 x5 x6 x7 x8 x9 x10 t0 v13 0 0 0 0 0 r1 v18 z
 else rdI mX z 81 ((32 * x8) + x7) fun v19 => go 4 x2 x3 x4 x5 x6 x7 x8 x9 x10 t0 v13 0 0 0 0 0 r1 v19 z)
 else rdI mX z (r1 + 10) x6 fun v20 => rdI mX z 81 ((32 * x8) + v20) fun v21 => go 4 x2 x3 x4 x5 x6 x7 x8 x9 x10 t0 v13 0 0 0 0 0 r1 v21 z)
def qm_X13_step_4 (K : Nat) (go : Nat → Int32 → Int32 → Int32 → Int32 → Int32 → Int32 → Int32 → Int32 → Int32 → Int32 → Int32 → Int32 → Int32 → Int32 → Int32 → Int32 → Nat → Int32 → ow_MS → Option ow_MS) (x2 : Int32) (x3 : Int32) (x4 : Int32) (x5 : Int32) (x6 : Int32) (x7 : Int32) (x8 : Int32) (x9 : Int32) (x10 : Int32) (x11 : Int32) (x12 : Int32) (x13 : Int32) (x14 : Int32) (x15 : Int32) (x16 : Int32) (x17 : Int32) (r1 : Nat) (t0 : Int32) (z : ow_MS) : Option ow_MS :=
 go 5 x2 x3 x4 x5 x6 x7 x8 x9 x10 x11 x12 t0 0 0 0 0 r1 0 z
def qm_X13_step_5 (K : Nat) (go : Nat → Int32 → Int32 → Int32 → Int32 → Int32 → Int32 → Int32 → Int32 → Int32 → Int32 → Int32 → Int32 → Int32 → Int32 → Int32 → Int32 → Nat → Int32 → ow_MS → Option ow_MS) (x2 : Int32) (x3 : Int32) (x4 : Int32) (x5 : Int32) (x6 : Int32) (x7 : Int32) (x8 : Int32) (x9 : Int32) (x10 : Int32) (x11 : Int32) (x12 : Int32) (x13 : Int32) (x14 : Int32) (x15 : Int32) (x16 : Int32) (x17 : Int32) (r1 : Nat) (t0 : Int32) (z : ow_MS) : Option ow_MS :=
 rdF z (r1 + 1) fun v22 => (if v22 ≤ x15 then cs1 (qe_X13_circlesOf K r1 z) fun v24 z23 => go 7 x2 x3 x4 x5 x6 x7 x8 x9 x10 x11 x12 x13 x14 v24 1 0 r1 0 z23
 else rdI mX z 81 ((32 * x2) + x15) fun v25 => (if v25 = x10 then go 6 x2 x3 x4 x5 x6 x7 x8 x9 x10 x11 x12 x13 x14 x15 v25 0 r1 0 z
 else (if v25 = x11 then go 6 x2 x3 x4 x5 x6 x7 x8 x9 x10 x11 x12 x13 x14 x15 v25 0 r1 0 z
 else (if (((x3 : Int32) >>> ((v25 : Int32) &&& 31)) &&& 1) = 1 then rdI mX z 81 ((32 * x8) + x15) fun v26 => go 6 x2 x3 x4 x5 x6 x7 x8 x9 x10 x11 x12 x13 (x14 ||| ((1 : Int32) <<< ((v26 : Int32) &&& 31))) x15 v25 0 r1 0 z
 else go 6 x2 x3 x4 x5 x6 x7 x8 x9 x10 x11 x12 x13 x14 x15 v25 0 r1 0 z))))
def qm_X13_step_6 (K : Nat) (go : Nat → Int32 → Int32 → Int32 → Int32 → Int32 → Int32 → Int32 → Int32 → Int32 → Int32 → Int32 → Int32 → Int32 → Int32 → Int32 → Int32 → Nat → Int32 → ow_MS → Option ow_MS) (x2 : Int32) (x3 : Int32) (x4 : Int32) (x5 : Int32) (x6 : Int32) (x7 : Int32) (x8 : Int32) (x9 : Int32) (x10 : Int32) (x11 : Int32) (x12 : Int32) (x13 : Int32) (x14 : Int32) (x15 : Int32) (x16 : Int32) (x17 : Int32) (r1 : Nat) (t0 : Int32) (z : ow_MS) : Option ow_MS :=
 go 5 x2 x3 x4 x5 x6 x7 x8 x9 x10 x11 x12 x13 x14 (x15 + 1) 0 0 r1 0 z
def qm_X13_step_7 (K : Nat) (go : Nat → Int32 → Int32 → Int32 → Int32 → Int32 → Int32 → Int32 → Int32 → Int32 → Int32 → Int32 → Int32 → Int32 → Int32 → Int32 → Int32 → Nat → Int32 → ow_MS → Option ow_MS) (x2 : Int32) (x3 : Int32) (x4 : Int32) (x5 : Int32) (x6 : Int32) (x7 : Int32) (x8 : Int32) (x9 : Int32) (x10 : Int32) (x11 : Int32) (x12 : Int32) (x13 : Int32) (x14 : Int32) (x15 : Int32) (x16 : Int32) (x17 : Int32) (r1 : Nat) (t0 : Int32) (z : ow_MS) : Option ow_MS :=
 (if x15 < x16 then (if (((x3 : Int32) >>> ((x10 : Int32) &&& 31)) &&& 1) = 1 then go 9 x2 x3 x4 x5 x6 x7 x8 x9 x10 x11 x12 x13 x14 x15 x16 0 r1 1 z
 else go 9 x2 x3 x4 x5 x6 x7 x8 x9 x10 x11 x12 x13 x14 x15 x16 0 r1 0 z)
 else rdI mX z 82 x2 fun v27 => (if (((x3 : Int32) >>> (((v27 - x16) : Int32) &&& 31)) &&& 1) = 1 then rdI mX z 82 x8 fun v28 => go 8 x2 x3 x4 x5 x6 x7 x8 x9 x10 x11 x12 x13 (x14 ||| ((1 : Int32) <<< (((v28 - x16) : Int32) &&& 31))) x15 x16 0 r1 0 z
 else go 8 x2 x3 x4 x5 x6 x7 x8 x9 x10 x11 x12 x13 x14 x15 x16 0 r1 0 z))
def qm_X13_step_8 (K : Nat) (go : Nat → Int32 → Int32 → Int32 → Int32 → Int32 → Int32 → Int32 → Int32 → Int32 → Int32 → Int32 → Int32 → Int32 → Int32 → Int32 → Int32 → Nat → Int32 → ow_MS → Option ow_MS) (x2 : Int32) (x3 : Int32) (x4 : Int32) (x5 : Int32) (x6 : Int32) (x7 : Int32) (x8 : Int32) (x9 : Int32) (x10 : Int32) (x11 : Int32) (x12 : Int32) (x13 : Int32) (x14 : Int32) (x15 : Int32) (x16 : Int32) (x17 : Int32) (r1 : Nat) (t0 : Int32) (z : ow_MS) : Option ow_MS :=
 go 7 x2 x3 x4 x5 x6 x7 x8 x9 x10 x11 x12 x13 x14 x15 (x16 + 1) 0 r1 0 z
def qm_X13_step_9 (K : Nat) (go : Nat → Int32 → Int32 → Int32 → Int32 → Int32 → Int32 → Int32 → Int32 → Int32 → Int32 → Int32 → Int32 → Int32 → Int32 → Int32 → Int32 → Nat → Int32 → ow_MS → Option ow_MS) (x2 : Int32) (x3 : Int32) (x4 : Int32) (x5 : Int32) (x6 : Int32) (x7 : Int32) (x8 : Int32) (x9 : Int32) (x10 : Int32) (x11 : Int32) (x12 : Int32) (x13 : Int32) (x14 : Int32) (x15 : Int32) (x16 : Int32) (x17 : Int32) (r1 : Nat) (t0 : Int32) (z : ow_MS) : Option ow_MS :=
 (if x10 = x11 then (if t0 = 0 then rdI mX z 83 x8 fun v29 => rdI mX z 84 (v29 + x14) fun v30 => rdI mX z 89 v30 fun v31 => wrI mX z 89 v30 (v31 + x9) fun z32 => some z32
 else rdI mX z 83 x8 fun v33 => rdI mX z 84 (v33 + (x14 ||| ((1 : Int32) <<< ((x12 : Int32) &&& 31)))) fun v34 => rdI mX z 89 v34 fun v35 => wrI mX z 89 v34 (v35 + x9) fun z36 => rdI mX z36 83 x8 fun v37 => rdI mX z36 84 (v37 + (x14 ||| ((1 : Int32) <<< ((x13 : Int32) &&& 31)))) fun v38 => rdI mX z36 89 v38 fun v39 => wrI mX z36 89 v38 (v39 + x9) fun z40 => some z40)
 else (if (((x3 : Int32) >>> ((x11 : Int32) &&& 31)) &&& 1) = 1 then go 10 x2 x3 x4 x5 x6 x7 x8 x9 x10 x11 x12 x13 x14 x15 t0 0 r1 1 z
 else go 10 x2 x3 x4 x5 x6 x7 x8 x9 x10 x11 x12 x13 x14 x15 t0 0 r1 0 z))
def qm_X13_step_10 (K : Nat) (go : Nat → Int32 → Int32 → Int32 → Int32 → Int32 → Int32 → Int32 → Int32 → Int32 → Int32 → Int32 → Int32 → Int32 → Int32 → Int32 → Int32 → Nat → Int32 → ow_MS → Option ow_MS) (x2 : Int32) (x3 : Int32) (x4 : Int32) (x5 : Int32) (x6 : Int32) (x7 : Int32) (x8 : Int32) (x9 : Int32) (x10 : Int32) (x11 : Int32) (x12 : Int32) (x13 : Int32) (x14 : Int32) (x15 : Int32) (x16 : Int32) (x17 : Int32) (r1 : Nat) (t0 : Int32) (z : ow_MS) : Option ow_MS :=
 (if x16 = 0 then go 11 x2 x3 x4 x5 x6 x7 x8 x9 x10 x11 x12 x13 x14 x15 x16 t0 r1 0 z
 else (if t0 = 0 then go 11 x2 x3 x4 x5 x6 x7 x8 x9 x10 x11 x12 x13 x14 x15 x16 t0 r1 0 z
 else rdI mX z 83 x8 fun v41 => rdI mX z 84 (v41 + (x14 ||| ((1 : Int32) <<< ((x12 : Int32) &&& 31)))) fun v42 => rdI mX z 89 v42 fun v43 => wrI mX z 89 v42 (v43 + x9) fun z44 => go 13 x2 x3 x4 x5 x6 x7 x8 x9 x10 x11 x12 x13 x14 x15 x16 t0 r1 0 z44))
def qm_X13_step_11 (K : Nat) (go : Nat → Int32 → Int32 → Int32 → Int32 → Int32 → Int32 → Int32 → Int32 → Int32 → Int32 → Int32 → Int32 → Int32 → Int32 → Int32 → Int32 → Nat → Int32 → ow_MS → Option ow_MS) (x2 : Int32) (x3 : Int32) (x4 : Int32) (x5 : Int32) (x6 : Int32) (x7 : Int32) (x8 : Int32) (x9 : Int32) (x10 : Int32) (x11 : Int32) (x12 : Int32) (x13 : Int32) (x14 : Int32) (x15 : Int32) (x16 : Int32) (x17 : Int32) (r1 : Nat) (t0 : Int32) (z : ow_MS) : Option ow_MS :=
 (if x16 = 0 then (if x17 = 0 then go 13 x2 x3 x4 x5 x6 x7 x8 x9 x10 x11 x12 x13 x14 x15 x16 x17 r1 0 z
 else go 12 x2 x3 x4 x5 x6 x7 x8 x9 x10 x11 x12 x13 x14 x15 x16 x17 r1 0 z)
 else go 12 x2 x3 x4 x5 x6 x7 x8 x9 x10 x11 x12 x13 x14 x15 x16 x17 r1 0 z)
def qm_X13_step_12 (K : Nat) (go : Nat → Int32 → Int32 → Int32 → Int32 → Int32 → Int32 → Int32 → Int32 → Int32 → Int32 → Int32 → Int32 → Int32 → Int32 → Int32 → Int32 → Nat → Int32 → ow_MS → Option ow_MS) (x2 : Int32) (x3 : Int32) (x4 : Int32) (x5 : Int32) (x6 : Int32) (x7 : Int32) (x8 : Int32) (x9 : Int32) (x10 : Int32) (x11 : Int32) (x12 : Int32) (x13 : Int32) (x14 : Int32) (x15 : Int32) (x16 : Int32) (x17 : Int32) (r1 : Nat) (t0 : Int32) (z : ow_MS) : Option ow_MS :=
 rdI mX z 83 x8 fun v45 => rdI mX z 84 (v45 + x14) fun v46 => rdI mX z 89 v46 fun v47 => wrI mX z 89 v46 (v47 + x9) fun z48 => go 13 x2 x3 x4 x5 x6 x7 x8 x9 x10 x11 x12 x13 x14 x15 x16 x17 r1 0 z48
def qm_X13_step_13 (K : Nat) (go : Nat → Int32 → Int32 → Int32 → Int32 → Int32 → Int32 → Int32 → Int32 → Int32 → Int32 → Int32 → Int32 → Int32 → Int32 → Int32 → Int32 → Nat → Int32 → ow_MS → Option ow_MS) (x2 : Int32) (x3 : Int32) (x4 : Int32) (x5 : Int32) (x6 : Int32) (x7 : Int32) (x8 : Int32) (x9 : Int32) (x10 : Int32) (x11 : Int32) (x12 : Int32) (x13 : Int32) (x14 : Int32) (x15 : Int32) (x16 : Int32) (x17 : Int32) (r1 : Nat) (t0 : Int32) (z : ow_MS) : Option ow_MS :=
 some z
def qb_X13_step (K : Nat) (go : Nat → Int32 → Int32 → Int32 → Int32 → Int32 → Int32 → Int32 → Int32 → Int32 → Int32 → Int32 → Int32 → Int32 → Int32 → Int32 → Int32 → Nat → Int32 → ow_MS → Option ow_MS) (L : Nat) (x2 : Int32) (x3 : Int32) (x4 : Int32) (x5 : Int32) (x6 : Int32) (x7 : Int32) (x8 : Int32) (x9 : Int32) (x10 : Int32) (x11 : Int32) (x12 : Int32) (x13 : Int32) (x14 : Int32) (x15 : Int32) (x16 : Int32) (x17 : Int32) (r1 : Nat) (t0 : Int32) (z : ow_MS) : Option ow_MS := match L with
  | 0 => qm_X13_step_0 K go x2 x3 x4 x5 x6 x7 x8 x9 x10 x11 x12 x13 x14 x15 x16 x17 r1 t0 z
  | 1 => qm_X13_step_1 K go x2 x3 x4 x5 x6 x7 x8 x9 x10 x11 x12 x13 x14 x15 x16 x17 r1 t0 z
  | 2 => qm_X13_step_2 K go x2 x3 x4 x5 x6 x7 x8 x9 x10 x11 x12 x13 x14 x15 x16 x17 r1 t0 z
  | 3 => qm_X13_step_3 K go x2 x3 x4 x5 x6 x7 x8 x9 x10 x11 x12 x13 x14 x15 x16 x17 r1 t0 z
  | 4 => qm_X13_step_4 K go x2 x3 x4 x5 x6 x7 x8 x9 x10 x11 x12 x13 x14 x15 x16 x17 r1 t0 z
  | 5 => qm_X13_step_5 K go x2 x3 x4 x5 x6 x7 x8 x9 x10 x11 x12 x13 x14 x15 x16 x17 r1 t0 z
  | 6 => qm_X13_step_6 K go x2 x3 x4 x5 x6 x7 x8 x9 x10 x11 x12 x13 x14 x15 x16 x17 r1 t0 z
  | 7 => qm_X13_step_7 K go x2 x3 x4 x5 x6 x7 x8 x9 x10 x11 x12 x13 x14 x15 x16 x17 r1 t0 z
  | 8 => qm_X13_step_8 K go x2 x3 x4 x5 x6 x7 x8 x9 x10 x11 x12 x13 x14 x15 x16 x17 r1 t0 z
  | 9 => qm_X13_step_9 K go x2 x3 x4 x5 x6 x7 x8 x9 x10 x11 x12 x13 x14 x15 x16 x17 r1 t0 z
  | 10 => qm_X13_step_10 K go x2 x3 x4 x5 x6 x7 x8 x9 x10 x11 x12 x13 x14 x15 x16 x17 r1 t0 z
  | 11 => qm_X13_step_11 K go x2 x3 x4 x5 x6 x7 x8 x9 x10 x11 x12 x13 x14 x15 x16 x17 r1 t0 z
  | 12 => qm_X13_step_12 K go x2 x3 x4 x5 x6 x7 x8 x9 x10 x11 x12 x13 x14 x15 x16 x17 r1 t0 z
  | 13 => qm_X13_step_13 K go x2 x3 x4 x5 x6 x7 x8 x9 x10 x11 x12 x13 x14 x15 x16 x17 r1 t0 z
  | _ => none
def q_X13_step (K : Nat) : Nat → Nat → Int32 → Int32 → Int32 → Int32 → Int32 → Int32 → Int32 → Int32 → Int32 → Int32 → Int32 → Int32 → Int32 → Int32 → Int32 → Int32 → Nat → Int32 → ow_MS → Option ow_MS
  | 0 => fun _ _ _ _ _ _ _ _ _ _ _ _ _ _ _ _ _ _ _ _ => none
  | k + 1 => qb_X13_step K (q_X13_step K k)
def qe_X13_step (K : Nat) (r1 : Nat) (x2 : Int32) (x3 : Int32) (x4 : Int32) (x5 : Int32) (z : ow_MS) : Option ow_MS := q_X13_step K K 0 x2 x3 x4 x5 0 0 0 0 0 0 0 0 0 0 0 0 r1 0 z
abbrev wm_X13_step : List Cond := .code yX13_step cX13_step 18 none :: wM
theorem cd_X13_step : yX13_step.cls = RX13 ∧ yX13_step.cls ≠ "java/lang/invoke/MethodHandle" ∧ yX13_step.cls ≠ "java/lang/invoke/VarHandle" ∧ (parseMethodDescriptor yX13_step.desc).map (fun d => d.parameters.length) = some 5 := by decide +kernel
set_option maxHeartbeats 4000000 in
set_option maxRecDepth 100000 in
theorem km_X13_step (l : Launch) (D : va_G) (q : ow_Q5) (u : Nat → Nat) (hU : tw_inj mX u) (K : Nat) (r1 : Nat) (x2 : Int32) (x3 : Int32) (x4 : Int32) (x5 : Int32) (hr1 : mw_net r1) (z z1 : ow_MS) (hq : qe_X13_step K r1 x2 x3 x4 x5 z = some z1) : Met l yX13_step wm_X13_step ({ frames := 2, cells := 0, slots := 0, locals := 44 } : Room) (va_Pc [.ref (u 0), .ref (u r1), .int x2, .int x3, .int x4, .int x5] (mw_pre D q u z)) (va_Qv (fun (_ : Unit) => True) (fun _ t => va_P D vwCl (tw mX q u z1) t.heap) (tw_A mX u)) 0 0 (tw_A mX u) := by
  refine Met.ofW (cc := cX13_step) (maxL := 18) (ret := none) (by decide) rfl ?_
  intro p e s m args below meth c s₁ B hml hv
  obtain ⟨rfl, hP, hK, hN⟩ := hv
  have hx := B.exec
  have hb := B.bytes
  have hr := B.returns
  have hts := atoms_spec (ws := wm_X13_step) B.pre
  have hT : ∀ w ∈ wM, w.before ([.ref (u 0), .ref (u r1), .int x2, .int x3, .int x4, .int x5] : List Value).toArray s = true := fun w h => hts w (List.mem_cons_of_mem _ h)
  have hown : s.vm.findClass RX13 = some m.cls := findClass_of_methodNamed B.named
  have hlocks := B.notSynchronized
  have hM : tw_M D vwCl mX q s.heap u z s.heap [] := ⟨hP, va_S.rf⟩
  have hl := lv_entry ([.ref (u 0), .ref (u r1), .int x2, .int x3, .int x4, .int x5]) (n := 18) (Nat.le_of_ble_eq_true rfl)
  rw [lg_entry_eq]
  generalize (lg_sl ([.ref (u 0), .ref (u r1), .int x2, .int x3, .int x4, .int x5]) ++ List.replicate (18 - (lg_sl ([.ref (u 0), .ref (u r1), .int x2, .int x3, .int x4, .int x5])).length) Slot.unset).toArray = ls at hl ⊢
  have hl : lv_has ls 18 [(0, .ref (u 0)), (1, .ref (u r1)), (2, .int x2), (3, .int x3), (4, .int x4), (5, .int x5)] := hl
  refine ow_named (fun QQ hQQ => ?_)
  generalize ([.ref (u 0), .ref (u r1), .int x2, .int x3, .int x4, .int x5] : List Value).toArray = args at hts hT hQQ ⊢
  have key : ∀ k : Nat, (∀ (x2 : Int32) (x3 : Int32) (x4 : Int32) (x5 : Int32) (x6 : Int32) (x7 : Int32) (x8 : Int32) (x9 : Int32) (x10 : Int32) (x11 : Int32) (x12 : Int32) (x13 : Int32) (x14 : Int32) (x15 : Int32) (x16 : Int32) (x17 : Int32) (r1 : Nat) (t0 : Int32) (z : ow_MS) (H : Heap) (locs : List Loc) (ls : Array Slot), mw_net r1 → tw_M D vwCl mX q s.heap u z H locs → lv_has ls 18 [(0, .ref (u 0)), (1, .ref (u r1)), (2, .int x2), (3, .int x3), (4, .int x4), (5, .int x5)] → q_X13_step K k 0 x2 x3 x4 x5 x6 x7 x8 x9 x10 x11 x12 x13 x14 x15 x16 x17 r1 t0 z = some z1 → W p l e ({ frames := 2, cells := 0, slots := 0, locals := 44 } : Room) s m args below meth c H locs 0 0 QQ (F0 m 0 ls [])) ∧ (∀ (x2 : Int32) (x3 : Int32) (x4 : Int32) (x5 : Int32) (x6 : Int32) (x7 : Int32) (x8 : Int32) (x9 : Int32) (x10 : Int32) (x11 : Int32) (x12 : Int32) (x13 : Int32) (x14 : Int32) (x15 : Int32) (x16 : Int32) (x17 : Int32) (r1 : Nat) (t0 : Int32) (z : ow_MS) (H : Heap) (locs : List Loc) (ls : Array Slot), mw_net r1 → tw_M D vwCl mX q s.heap u z H locs → lv_has ls 18 [(0, .ref (u 0)), (1, .ref (u r1)), (2, .int x2), (3, .int x3), (4, .int x4), (5, .int x5), (6, .int x6)] → q_X13_step K k 1 x2 x3 x4 x5 x6 x7 x8 x9 x10 x11 x12 x13 x14 x15 x16 x17 r1 t0 z = some z1 → W p l e ({ frames := 2, cells := 0, slots := 0, locals := 44 } : Room) s m args below meth c H locs 0 0 QQ (F0 m 3 ls [])) ∧ (∀ (x2 : Int32) (x3 : Int32) (x4 : Int32) (x5 : Int32) (x6 : Int32) (x7 : Int32) (x8 : Int32) (x9 : Int32) (x10 : Int32) (x11 : Int32) (x12 : Int32) (x13 : Int32) (x14 : Int32) (x15 : Int32) (x16 : Int32) (x17 : Int32) (r1 : Nat) (t0 : Int32) (z : ow_MS) (H : Heap) (locs : List Loc) (ls : Array Slot), mw_net r1 → tw_M D vwCl mX q s.heap u z H locs → lv_has ls 18 [(0, .ref (u 0)), (1, .ref (u r1)), (2, .int x2), (3, .int x3), (4, .int x4), (5, .int x5), (6, .int x6), (7, .int x7), (8, .int x8)] → q_X13_step K k 2 x2 x3 x4 x5 x6 x7 x8 x9 x10 x11 x12 x13 x14 x15 x16 x17 r1 t0 z = some z1 → W p l e ({ frames := 2, cells := 0, slots := 0, locals := 44 } : Room) s m args below meth c H locs 0 0 QQ (F0 m 62 ls [.int t0])) ∧ (∀ (x2 : Int32) (x3 : Int32) (x4 : Int32) (x5 : Int32) (x6 : Int32) (x7 : Int32) (x8 : Int32) (x9 : Int32) (x10 : Int32) (x11 : Int32) (x12 : Int32) (x13 : Int32) (x14 : Int32) (x15 : Int32) (x16 : Int32) (x17 : Int32) (r1 : Nat) (t0 : Int32) (z : ow_MS) (H : Heap) (locs : List Loc) (ls : Array Slot), mw_net r1 → tw_M D vwCl mX q s.heap u z H locs → lv_has ls 18 [(0, .ref (u 0)), (1, .ref (u r1)), (2, .int x2), (3, .int x3), (4, .int x4), (5, .int x5), (6, .int x6), (7, .int x7), (8, .int x8), (9, .int x9), (10, .int x10)] → q_X13_step K k 3 x2 x3 x4 x5 x6 x7 x8 x9 x10 x11 x12 x13 x14 x15 x16 x17 r1 t0 z = some z1 → W p l e ({ frames := 2, cells := 0, slots := 0, locals := 44 } : Room) s m args below meth c H locs 0 0 QQ (F0 m 169 ls [.int t0])) ∧ (∀ (x2 : Int32) (x3 : Int32) (x4 : Int32) (x5 : Int32) (x6 : Int32) (x7 : Int32) (x8 : Int32) (x9 : Int32) (x10 : Int32) (x11 : Int32) (x12 : Int32) (x13 : Int32) (x14 : Int32) (x15 : Int32) (x16 : Int32) (x17 : Int32) (r1 : Nat) (t0 : Int32) (z : ow_MS) (H : Heap) (locs : List Loc) (ls : Array Slot), mw_net r1 → tw_M D vwCl mX q s.heap u z H locs → lv_has ls 18 [(0, .ref (u 0)), (1, .ref (u r1)), (2, .int x2), (3, .int x3), (4, .int x4), (5, .int x5), (6, .int x6), (7, .int x7), (8, .int x8), (9, .int x9), (10, .int x10), (11, .int x11), (12, .int x12)] → q_X13_step K k 4 x2 x3 x4 x5 x6 x7 x8 x9 x10 x11 x12 x13 x14 x15 x16 x17 r1 t0 z = some z1 → W p l e ({ frames := 2, cells := 0, slots := 0, locals := 44 } : Room) s m args below meth c H locs 0 0 QQ (F0 m 282 ls [.int t0])) ∧ (∀ (x2 : Int32) (x3 : Int32) (x4 : Int32) (x5 : Int32) (x6 : Int32) (x7 : Int32) (x8 : Int32) (x9 : Int32) (x10 : Int32) (x11 : Int32) (x12 : Int32) (x13 : Int32) (x14 : Int32) (x15 : Int32) (x16 : Int32) (x17 : Int32) (r1 : Nat) (t0 : Int32) (z : ow_MS) (H : Heap) (locs : List Loc) (ls : Array Slot), mw_net r1 → tw_M D vwCl mX q s.heap u z H locs → lv_has ls 18 [(0, .ref (u 0)), (1, .ref (u r1)), (2, .int x2), (3, .int x3), (4, .int x4), (5, .int x5), (6, .int x6), (7, .int x7), (8, .int x8), (9, .int x9), (10, .int x10), (11, .int x11), (12, .int x12), (13, .int x13), (14, .int x14), (15, .int x15)] → q_X13_step K k 5 x2 x3 x4 x5 x6 x7 x8 x9 x10 x11 x12 x13 x14 x15 x16 x17 r1 t0 z = some z1 → W p l e ({ frames := 2, cells := 0, slots := 0, locals := 44 } : Room) s m args below meth c H locs 0 0 QQ (F0 m 290 ls [])) ∧ (∀ (x2 : Int32) (x3 : Int32) (x4 : Int32) (x5 : Int32) (x6 : Int32) (x7 : Int32) (x8 : Int32) (x9 : Int32) (x10 : Int32) (x11 : Int32) (x12 : Int32) (x13 : Int32) (x14 : Int32) (x15 : Int32) (x16 : Int32) (x17 : Int32) (r1 : Nat) (t0 : Int32) (z : ow_MS) (H : Heap) (locs : List Loc) (ls : Array Slot), mw_net r1 → tw_M D vwCl mX q s.heap u z H locs → lv_has ls 18 [(0, .ref (u 0)), (1, .ref (u r1)), (2, .int x2), (3, .int x3), (4, .int x4), (5, .int x5), (6, .int x6), (7, .int x7), (8, .int x8), (9, .int x9), (10, .int x10), (11, .int x11), (12, .int x12), (13, .int x13), (14, .int x14), (15, .int x15), (16, .int x16)] → q_X13_step K k 6 x2 x3 x4 x5 x6 x7 x8 x9 x10 x11 x12 x13 x14 x15 x16 x17 r1 t0 z = some z1 → W p l e ({ frames := 2, cells := 0, slots := 0, locals := 44 } : Room) s m args below meth c H locs 0 0 QQ (F0 m 357 ls [])) ∧ (∀ (x2 : Int32) (x3 : Int32) (x4 : Int32) (x5 : Int32) (x6 : Int32) (x7 : Int32) (x8 : Int32) (x9 : Int32) (x10 : Int32) (x11 : Int32) (x12 : Int32) (x13 : Int32) (x14 : Int32) (x15 : Int32) (x16 : Int32) (x17 : Int32) (r1 : Nat) (t0 : Int32) (z : ow_MS) (H : Heap) (locs : List Loc) (ls : Array Slot), mw_net r1 → tw_M D vwCl mX q s.heap u z H locs → lv_has ls 18 [(0, .ref (u 0)), (1, .ref (u r1)), (2, .int x2), (3, .int x3), (4, .int x4), (5, .int x5), (6, .int x6), (7, .int x7), (8, .int x8), (9, .int x9), (10, .int x10), (11, .int x11), (12, .int x12), (13, .int x13), (14, .int x14), (15, .int x15), (16, .int x16)] → q_X13_step K k 7 x2 x3 x4 x5 x6 x7 x8 x9 x10 x11 x12 x13 x14 x15 x16 x17 r1 t0 z = some z1 → W p l e ({ frames := 2, cells := 0, slots := 0, locals := 44 } : Room) s m args below meth c H locs 0 0 QQ (F0 m 373 ls [])) ∧ (∀ (x2 : Int32) (x3 : Int32) (x4 : Int32) (x5 : Int32) (x6 : Int32) (x7 : Int32) (x8 : Int32) (x9 : Int32) (x10 : Int32) (x11 : Int32) (x12 : Int32) (x13 : Int32) (x14 : Int32) (x15 : Int32) (x16 : Int32) (x17 : Int32) (r1 : Nat) (t0 : Int32) (z : ow_MS) (H : Heap) (locs : List Loc) (ls : Array Slot), mw_net r1 → tw_M D vwCl mX q s.heap u z H locs → lv_has ls 18 [(0, .ref (u 0)), (1, .ref (u r1)), (2, .int x2), (3, .int x3), (4, .int x4), (5, .int x5), (6, .int x6), (7, .int x7), (8, .int x8), (9, .int x9), (10, .int x10), (11, .int x11), (12, .int x12), (13, .int x13), (14, .int x14), (15, .int x15), (16, .int x16)] → q_X13_step K k 8 x2 x3 x4 x5 x6 x7 x8 x9 x10 x11 x12 x13 x14 x15 x16 x17 r1 t0 z = some z1 → W p l e ({ frames := 2, cells := 0, slots := 0, locals := 44 } : Room) s m args below meth c H locs 0 0 QQ (F0 m 414 ls [])) ∧ (∀ (x2 : Int32) (x3 : Int32) (x4 : Int32) (x5 : Int32) (x6 : Int32) (x7 : Int32) (x8 : Int32) (x9 : Int32) (x10 : Int32) (x11 : Int32) (x12 : Int32) (x13 : Int32) (x14 : Int32) (x15 : Int32) (x16 : Int32) (x17 : Int32) (r1 : Nat) (t0 : Int32) (z : ow_MS) (H : Heap) (locs : List Loc) (ls : Array Slot), mw_net r1 → tw_M D vwCl mX q s.heap u z H locs → lv_has ls 18 [(0, .ref (u 0)), (1, .ref (u r1)), (2, .int x2), (3, .int x3), (4, .int x4), (5, .int x5), (6, .int x6), (7, .int x7), (8, .int x8), (9, .int x9), (10, .int x10), (11, .int x11), (12, .int x12), (13, .int x13), (14, .int x14), (15, .int x15), (16, .int x16)] → q_X13_step K k 9 x2 x3 x4 x5 x6 x7 x8 x9 x10 x11 x12 x13 x14 x15 x16 x17 r1 t0 z = some z1 → W p l e ({ frames := 2, cells := 0, slots := 0, locals := 44 } : Room) s m args below meth c H locs 0 0 QQ (F0 m 435 ls [.int t0])) ∧ (∀ (x2 : Int32) (x3 : Int32) (x4 : Int32) (x5 : Int32) (x6 : Int32) (x7 : Int32) (x8 : Int32) (x9 : Int32) (x10 : Int32) (x11 : Int32) (x12 : Int32) (x13 : Int32) (x14 : Int32) (x15 : Int32) (x16 : Int32) (x17 : Int32) (r1 : Nat) (t0 : Int32) (z : ow_MS) (H : Heap) (locs : List Loc) (ls : Array Slot), mw_net r1 → tw_M D vwCl mX q s.heap u z H locs → lv_has ls 18 [(0, .ref (u 0)), (1, .ref (u r1)), (2, .int x2), (3, .int x3), (4, .int x4), (5, .int x5), (6, .int x6), (7, .int x7), (8, .int x8), (9, .int x9), (10, .int x10), (11, .int x11), (12, .int x12), (13, .int x13), (14, .int x14), (15, .int x15), (16, .int x16)] → q_X13_step K k 10 x2 x3 x4 x5 x6 x7 x8 x9 x10 x11 x12 x13 x14 x15 x16 x17 r1 t0 z = some z1 → W p l e ({ frames := 2, cells := 0, slots := 0, locals := 44 } : Room) s m args below meth c H locs 0 0 QQ (F0 m 459 ls [.int t0])) ∧ (∀ (x2 : Int32) (x3 : Int32) (x4 : Int32) (x5 : Int32) (x6 : Int32) (x7 : Int32) (x8 : Int32) (x9 : Int32) (x10 : Int32) (x11 : Int32) (x12 : Int32) (x13 : Int32) (x14 : Int32) (x15 : Int32) (x16 : Int32) (x17 : Int32) (r1 : Nat) (t0 : Int32) (z : ow_MS) (H : Heap) (locs : List Loc) (ls : Array Slot), mw_net r1 → tw_M D vwCl mX q s.heap u z H locs → lv_has ls 18 [(0, .ref (u 0)), (1, .ref (u r1)), (2, .int x2), (3, .int x3), (4, .int x4), (5, .int x5), (6, .int x6), (7, .int x7), (8, .int x8), (9, .int x9), (10, .int x10), (11, .int x11), (12, .int x12), (13, .int x13), (14, .int x14), (15, .int x15), (16, .int x16), (17, .int x17)] → q_X13_step K k 11 x2 x3 x4 x5 x6 x7 x8 x9 x10 x11 x12 x13 x14 x15 x16 x17 r1 t0 z = some z1 → W p l e ({ frames := 2, cells := 0, slots := 0, locals := 44 } : Room) s m args below meth c H locs 0 0 QQ (F0 m 504 ls [])) ∧ (∀ (x2 : Int32) (x3 : Int32) (x4 : Int32) (x5 : Int32) (x6 : Int32) (x7 : Int32) (x8 : Int32) (x9 : Int32) (x10 : Int32) (x11 : Int32) (x12 : Int32) (x13 : Int32) (x14 : Int32) (x15 : Int32) (x16 : Int32) (x17 : Int32) (r1 : Nat) (t0 : Int32) (z : ow_MS) (H : Heap) (locs : List Loc) (ls : Array Slot), mw_net r1 → tw_M D vwCl mX q s.heap u z H locs → lv_has ls 18 [(0, .ref (u 0)), (1, .ref (u r1)), (2, .int x2), (3, .int x3), (4, .int x4), (5, .int x5), (6, .int x6), (7, .int x7), (8, .int x8), (9, .int x9), (10, .int x10), (11, .int x11), (12, .int x12), (13, .int x13), (14, .int x14), (15, .int x15), (16, .int x16), (17, .int x17)] → q_X13_step K k 12 x2 x3 x4 x5 x6 x7 x8 x9 x10 x11 x12 x13 x14 x15 x16 x17 r1 t0 z = some z1 → W p l e ({ frames := 2, cells := 0, slots := 0, locals := 44 } : Room) s m args below meth c H locs 0 0 QQ (F0 m 514 ls [])) ∧ (∀ (x2 : Int32) (x3 : Int32) (x4 : Int32) (x5 : Int32) (x6 : Int32) (x7 : Int32) (x8 : Int32) (x9 : Int32) (x10 : Int32) (x11 : Int32) (x12 : Int32) (x13 : Int32) (x14 : Int32) (x15 : Int32) (x16 : Int32) (x17 : Int32) (r1 : Nat) (t0 : Int32) (z : ow_MS) (H : Heap) (locs : List Loc) (ls : Array Slot), mw_net r1 → tw_M D vwCl mX q s.heap u z H locs → lv_has ls 18 [(0, .ref (u 0)), (1, .ref (u r1)), (2, .int x2), (3, .int x3), (4, .int x4), (5, .int x5), (6, .int x6), (7, .int x7), (8, .int x8), (9, .int x9), (10, .int x10), (11, .int x11), (12, .int x12), (13, .int x13), (14, .int x14), (15, .int x15), (16, .int x16), (17, .int x17)] → q_X13_step K k 13 x2 x3 x4 x5 x6 x7 x8 x9 x10 x11 x12 x13 x14 x15 x16 x17 r1 t0 z = some z1 → W p l e ({ frames := 2, cells := 0, slots := 0, locals := 44 } : Room) s m args below meth c H locs 0 0 QQ (F0 m 539 ls [])) := by
    intro k
    induction k with
    | zero => exact ⟨fun _ _ _ _ _ _ _ _ _ _ _ _ _ _ _ _ _ _ _ _ _ _ _ _ _ hq => tw_no hq, fun _ _ _ _ _ _ _ _ _ _ _ _ _ _ _ _ _ _ _ _ _ _ _ _ _ hq => tw_no hq, fun _ _ _ _ _ _ _ _ _ _ _ _ _ _ _ _ _ _ _ _ _ _ _ _ _ hq => tw_no hq, fun _ _ _ _ _ _ _ _ _ _ _ _ _ _ _ _ _ _ _ _ _ _ _ _ _ hq => tw_no hq, fun _ _ _ _ _ _ _ _ _ _ _ _ _ _ _ _ _ _ _ _ _ _ _ _ _ hq => tw_no hq, fun _ _ _ _ _ _ _ _ _ _ _ _ _ _ _ _ _ _ _ _ _ _ _ _ _ hq => tw_no hq, fun _ _ _ _ _ _ _ _ _ _ _ _ _ _ _ _ _ _ _ _ _ _ _ _ _ hq => tw_no hq, fun _ _ _ _ _ _ _ _ _ _ _ _ _ _ _ _ _ _ _ _ _ _ _ _ _ hq => tw_no hq, fun _ _ _ _ _ _ _ _ _ _ _ _ _ _ _ _ _ _ _ _ _ _ _ _ _ hq => tw_no hq, fun _ _ _ _ _ _ _ _ _ _ _ _ _ _ _ _ _ _ _ _ _ _ _ _ _ hq => tw_no hq, fun _ _ _ _ _ _ _ _ _ _ _ _ _ _ _ _ _ _ _ _ _ _ _ _ _ hq => tw_no hq, fun _ _ _ _ _ _ _ _ _ _ _ _ _ _ _ _ _ _ _ _ _ _ _ _ _ hq => tw_no hq, fun _ _ _ _ _ _ _ _ _ _ _ _ _ _ _ _ _ _ _ _ _ _ _ _ _ hq => tw_no hq, fun _ _ _ _ _ _ _ _ _ _ _ _ _ _ _ _ _ _ _ _ _ _ _ _ _ hq => tw_no hq⟩
    | succ k ih =>
      obtain ⟨ih_0, ih_1, ih_2, ih_3, ih_4, ih_5, ih_6, ih_7, ih_8, ih_9, ih_10, ih_11, ih_12, ih_13⟩ := ih
      refine ⟨?_, ?_, ?_, ?_, ?_, ?_, ?_, ?_, ?_, ?_, ?_, ?_, ?_, ?_⟩
      · intro x2 x3 x4 x5 x6 x7 x8 x9 x10 x11 x12 x13 x14 x15 x16 x17 r1 t0 z H locs ls hr1 hM hl hq
        have hq : qm_X13_step_0 K (q_X13_step K k) x2 x3 x4 x5 x6 x7 x8 x9 x10 x11 x12 x13 x14 x15 x16 x17 r1 t0 z = some z1 := hq
        unfold qm_X13_step_0 at hq
        refine lv_iconst (v := 0) hx hb dmX13_step_0 (by decide) ?_
        refine lv_istore (lv' := [(6, .int 0), (0, .ref (u 0)), (1, .ref (u r1)), (2, .int x2), (3, .int x3), (4, .int x4), (5, .int x5)]) hx hb dmX13_step_1 hl (by decide) rfl (fun ls hl => ?_)
        exact ih_1 x2 x3 x4 x5 0 0 0 0 0 0 0 0 0 0 0 0 r1 0 z H locs ls hr1 hM (lv_sub hl [1, 2, 3, 4, 5, 6, 0] rfl) hq
      · intro x2 x3 x4 x5 x6 x7 x8 x9 x10 x11 x12 x13 x14 x15 x16 x17 r1 t0 z H locs ls hr1 hM hl hq
        have hq : qm_X13_step_1 K (q_X13_step K k) x2 x3 x4 x5 x6 x7 x8 x9 x10 x11 x12 x13 x14 x15 x16 x17 r1 t0 z = some z1 := hq
        unfold qm_X13_step_1 at hq
        refine lv_aload_n hx hb dmX13_step_3 rfl (lv_at hl 1 rfl) ?_
        refine mg13_23 hx hb hT hown hK hM hN hr1 dmX13_step_4 ?_
        refine lv_iload hx hb dmX13_step_7 (lv_at hl 6 rfl) ?_
        refine tw_iald mX_ok hx hb hK hM (mrn_4 hr1) hq dmX13_step_9 (fun v1 hq => ?_)
        refine lv_iload hx hb dmX13_step_10 (lv_at hl 4 rfl) ?_
        refine lv_icmp_eq (tgt := 21) hx hb dmX13_step_12 (by decide) (fun hc => ?_) (fun hc => ?_)
        · have hq := tw_it hq hc
          refine lv_aload_n hx hb dmX13_step_21 rfl (lv_at hl 1 rfl) ?_
          refine mg13_41 hx hb hT hown hK hM hN hr1 dmX13_step_22 ?_
          refine lv_iload hx hb dmX13_step_25 (lv_at hl 6 rfl) ?_
          refine tw_iald mX_ok hx hb hK hM (mrn_7 hr1) hq dmX13_step_27 (fun v2 hq => ?_)
          refine lv_istore (lv' := [(7, .int v2), (0, .ref (u 0)), (1, .ref (u r1)), (2, .int x2), (3, .int x3), (4, .int x4), (5, .int x5), (6, .int x6)]) hx hb dmX13_step_28 hl (by decide) rfl (fun ls hl => ?_)
          refine lv_iload_n hx hb dmX13_step_30 rfl (lv_at hl 3 rfl) ?_
          refine lv_iconst (v := 1) hx hb dmX13_step_31 (by decide) ?_
          refine lv_iload hx hb dmX13_step_32 (lv_at hl 5 rfl) ?_
          refine lv_ishl hx hb dmX13_step_34 ?_
          refine lv_ior hx hb dmX13_step_35 ?_
          refine lv_istore (lv' := [(8, .int (x2 ||| ((1 : Int32) <<< ((x4 : Int32) &&& 31)))), (7, .int v2), (0, .ref (u 0)), (1, .ref (u r1)), (2, .int x2), (3, .int x3), (4, .int x4), (5, .int x5), (6, .int x6)]) hx hb dmX13_step_36 hl (by decide) rfl (fun ls hl => ?_)
          refine lv_iload_n hx hb dmX13_step_38 rfl (lv_at hl 4 rfl) ?_
          refine lv_iconst (v := 1) hx hb dmX13_step_39 (by decide) ?_
          refine lv_iload hx hb dmX13_step_40 (lv_at hl 6 rfl) ?_
          refine lv_ishl hx hb dmX13_step_42 ?_
          refine lv_iconst (v := 1) hx hb dmX13_step_43 (by decide) ?_
          refine lv_isub hx hb dmX13_step_44 ?_
          refine lv_iand hx hb dmX13_step_45 ?_
          refine mw_pure hM (va_runS (As := [.int (x2 &&& (((1 : Int32) <<< ((x4 : Int32) &&& 31)) - 1))]) (rest := []) ⟨hx, hb, hml, hown, hts⟩ (k_J6_bitCount_0f7a4 l (x2 &&& (((1 : Int32) <<< ((x4 : Int32) &&& 31)) - 1))) (va_cwS 1 hts (mw_gbc wq_307) rfl rfl rfl (by decide +kernel) ⟨(Nat.le_of_ble_eq_true rfl), (Nat.le_of_ble_eq_true rfl)⟩) ⟨fun a U g mk q => q, fun U hU hW => ⟨rfl, trivial⟩⟩ rfl rfl hl.1 rfl (lv_room (Nat.le_of_ble_eq_true rfl)) dmX13_step_46 ⟨(Nat.le_of_ble_eq_true rfl), (Nat.le_of_ble_eq_true rfl)⟩) (fun H locs hM => ?_)
          refine lv_iconst (v := 1) hx hb dmX13_step_49 (by decide) ?_
          refine lv_iand hx hb dmX13_step_50 ?_
          refine lv_if_ne (tgt := 58) hx hb dmX13_step_51 (by decide) (fun hc => ?_) (fun hc => ?_)
          · have hq := tw_if hq hc
            refine lv_iload hx hb dmX13_step_58 (lv_at hl 7 rfl) ?_
            refine lv_iconst (v := 1) hx hb dmX13_step_60 (by decide) ?_
            refine lv_isub hx hb dmX13_step_61 ?_
            exact ih_2 x2 x3 x4 x5 x6 v2 (x2 ||| ((1 : Int32) <<< ((x4 : Int32) &&& 31))) 0 0 0 0 0 0 0 0 0 r1 (x5 - 1) z H locs ls hr1 hM (lv_sub hl [2, 3, 4, 5, 6, 7, 8, 1, 0] rfl) hq
          · have hq := tw_it hq hc
            refine lv_iconst (v := 1) hx hb dmX13_step_54 (by decide) ?_
            refine lv_goto (tgt := 62) hx hb dmX13_step_55 (by decide) ?_
            exact ih_2 x2 x3 x4 x5 x6 v2 (x2 ||| ((1 : Int32) <<< ((x4 : Int32) &&& 31))) 0 0 0 0 0 0 0 0 0 r1 1 z H locs ls hr1 hM (lv_sub hl [2, 3, 4, 5, 6, 7, 8, 1, 0] rfl) hq
        · have hq := tw_if hq hc
          refine lv_iinc (v := (x6 + 1)) (lv' := [(6, .int (x6 + 1)), (0, .ref (u 0)), (1, .ref (u r1)), (2, .int x2), (3, .int x3), (4, .int x4), (5, .int x5)]) hx hb dmX13_step_15 hl (k := 6) rfl rfl (by decide) rfl (fun ls hl => ?_)
          refine lv_goto (tgt := 3) hx hb dmX13_step_18 (by decide) ?_
          exact ih_1 x2 x3 x4 x5 (x6 + 1) 0 0 0 0 0 0 0 0 0 0 0 r1 0 z H locs ls hr1 hM (lv_sub hl [1, 2, 3, 4, 5, 6, 0] rfl) hq
      · intro x2 x3 x4 x5 x6 x7 x8 x9 x10 x11 x12 x13 x14 x15 x16 x17 r1 t0 z H locs ls hr1 hM hl hq
        have hq : qm_X13_step_2 K (q_X13_step K k) x2 x3 x4 x5 x6 x7 x8 x9 x10 x11 x12 x13 x14 x15 x16 x17 r1 t0 z = some z1 := hq
        unfold qm_X13_step_2 at hq
        refine lv_istore (lv' := [(9, .int t0), (0, .ref (u 0)), (1, .ref (u r1)), (2, .int x2), (3, .int x3), (4, .int x4), (5, .int x5), (6, .int x6), (7, .int x7), (8, .int x8)]) hx hb dmX13_step_62 hl (by decide) rfl (fun ls hl => ?_)
        refine lv_aload_n hx hb dmX13_step_64 rfl (lv_at hl 1 rfl) ?_
        refine mg13_286 hx hb hT hown hK hM dmX13_step_65 ?_
        refine lv_bipush (v := 32) hx hb dmX13_step_68 (by decide) ?_
        refine lv_iload_n hx hb dmX13_step_70 rfl (lv_at hl 3 rfl) ?_
        refine lv_imul hx hb dmX13_step_71 ?_
        refine lv_iload hx hb dmX13_step_72 (lv_at hl 7 rfl) ?_
        refine lv_iadd hx hb dmX13_step_74 ?_
        refine tw_bald mX_ok hx hb hK hM mr_81 hq dmX13_step_75 (fun v4 hq => ?_)
        refine lv_istore (lv' := [(10, .int v4), (9, .int t0), (0, .ref (u 0)), (1, .ref (u r1)), (2, .int x2), (3, .int x3), (4, .int x4), (5, .int x5), (6, .int x6), (7, .int x7), (8, .int x8)]) hx hb dmX13_step_76 hl (by decide) rfl (fun ls hl => ?_)
        refine lv_aload_n hx hb dmX13_step_78 rfl (lv_at hl 2 rfl) ?_
        refine mg13_286 hx hb hT hown hK hM dmX13_step_79 ?_
        refine lv_bipush (v := 32) hx hb dmX13_step_82 (by decide) ?_
        refine lv_iload_n hx hb dmX13_step_84 rfl (lv_at hl 4 rfl) ?_
        refine lv_imul hx hb dmX13_step_85 ?_
        refine lv_aload_n hx hb dmX13_step_86 rfl (lv_at hl 3 rfl) ?_
        refine mg13_581 hx hb hT hown hK hM hN hr1 dmX13_step_87 ?_
        refine lv_iload hx hb dmX13_step_90 (lv_at hl 8 rfl) ?_
        refine tw_iald mX_ok hx hb hK hM (mrn_10 hr1) hq dmX13_step_92 (fun v5 hq => ?_)
        refine lv_iadd hx hb dmX13_step_93 ?_
        refine tw_bald mX_ok hx hb hK hM mr_81 hq dmX13_step_94 (fun v6 hq => ?_)
        refine lv_iload hx hb dmX13_step_95 (lv_at hl 0 rfl) ?_
        refine lv_icmp_eq (tgt := 120) hx hb dmX13_step_97 (by decide) (fun hc => ?_) (fun hc => ?_)
        · have hq := tw_it hq hc
          refine lv_aload_n hx hb dmX13_step_120 rfl (lv_at hl 2 rfl) ?_
          refine mg13_286 hx hb hT hown hK hM dmX13_step_121 ?_
          refine lv_bipush (v := 32) hx hb dmX13_step_124 (by decide) ?_
          refine lv_iload_n hx hb dmX13_step_126 rfl (lv_at hl 4 rfl) ?_
          refine lv_imul hx hb dmX13_step_127 ?_
          refine lv_iload hx hb dmX13_step_128 (lv_at hl 9 rfl) ?_
          refine lv_iadd hx hb dmX13_step_130 ?_
          refine tw_bald mX_ok hx hb hK hM mr_81 hq dmX13_step_131 (fun v7 hq => ?_)
          refine lv_iload hx hb dmX13_step_132 (lv_at hl 0 rfl) ?_
          refine lv_icmp_eq (tgt := 152) hx hb dmX13_step_134 (by decide) (fun hc => ?_) (fun hc => ?_)
          · have hq := tw_it hq hc
            refine lv_aload_n hx hb dmX13_step_152 rfl (lv_at hl 2 rfl) ?_
            refine mg13_286 hx hb hT hown hK hM dmX13_step_153 ?_
            refine lv_bipush (v := 32) hx hb dmX13_step_156 (by decide) ?_
            refine lv_iload_n hx hb dmX13_step_158 rfl (lv_at hl 4 rfl) ?_
            refine lv_imul hx hb dmX13_step_159 ?_
            refine lv_aload_n hx hb dmX13_step_160 rfl (lv_at hl 3 rfl) ?_
            refine mg13_581 hx hb hT hown hK hM hN hr1 dmX13_step_161 ?_
            refine lv_iload hx hb dmX13_step_164 (lv_at hl 9 rfl) ?_
            refine tw_iald mX_ok hx hb hK hM (mrn_10 hr1) hq dmX13_step_166 (fun v8 hq => ?_)
            refine lv_iadd hx hb dmX13_step_167 ?_
            refine tw_bald mX_ok hx hb hK hM mr_81 hq dmX13_step_168 (fun v9 hq => ?_)
            exact ih_3 x2 x3 x4 x5 x6 x7 x8 t0 v4 0 0 0 0 0 0 0 r1 v9 z H locs ls hr1 hM (lv_sub hl [2, 3, 4, 5, 6, 7, 8, 9, 10, 1, 0] rfl) hq
          · have hq := tw_if hq hc
            refine lv_aload_n hx hb dmX13_step_137 rfl (lv_at hl 2 rfl) ?_
            refine mg13_286 hx hb hT hown hK hM dmX13_step_138 ?_
            refine lv_bipush (v := 32) hx hb dmX13_step_141 (by decide) ?_
            refine lv_iload_n hx hb dmX13_step_143 rfl (lv_at hl 4 rfl) ?_
            refine lv_imul hx hb dmX13_step_144 ?_
            refine lv_iload hx hb dmX13_step_145 (lv_at hl 9 rfl) ?_
            refine lv_iadd hx hb dmX13_step_147 ?_
            refine tw_bald mX_ok hx hb hK hM mr_81 hq dmX13_step_148 (fun v10 hq => ?_)
            refine lv_goto (tgt := 169) hx hb dmX13_step_149 (by decide) ?_
            exact ih_3 x2 x3 x4 x5 x6 x7 x8 t0 v4 0 0 0 0 0 0 0 r1 v10 z H locs ls hr1 hM (lv_sub hl [2, 3, 4, 5, 6, 7, 8, 9, 10, 1, 0] rfl) hq
        · have hq := tw_if hq hc
          refine lv_aload_n hx hb dmX13_step_100 rfl (lv_at hl 2 rfl) ?_
          refine mg13_286 hx hb hT hown hK hM dmX13_step_101 ?_
          refine lv_bipush (v := 32) hx hb dmX13_step_104 (by decide) ?_
          refine lv_iload_n hx hb dmX13_step_106 rfl (lv_at hl 4 rfl) ?_
          refine lv_imul hx hb dmX13_step_107 ?_
          refine lv_aload_n hx hb dmX13_step_108 rfl (lv_at hl 3 rfl) ?_
          refine mg13_581 hx hb hT hown hK hM hN hr1 dmX13_step_109 ?_
          refine lv_iload hx hb dmX13_step_112 (lv_at hl 8 rfl) ?_
          refine tw_iald mX_ok hx hb hK hM (mrn_10 hr1) hq dmX13_step_114 (fun v11 hq => ?_)
          refine lv_iadd hx hb dmX13_step_115 ?_
          refine tw_bald mX_ok hx hb hK hM mr_81 hq dmX13_step_116 (fun v12 hq => ?_)
          refine lv_goto (tgt := 169) hx hb dmX13_step_117 (by decide) ?_
          exact ih_3 x2 x3 x4 x5 x6 x7 x8 t0 v4 0 0 0 0 0 0 0 r1 v12 z H locs ls hr1 hM (lv_sub hl [2, 3, 4, 5, 6, 7, 8, 9, 10, 1, 0] rfl) hq
      · intro x2 x3 x4 x5 x6 x7 x8 x9 x10 x11 x12 x13 x14 x15 x16 x17 r1 t0 z H locs ls hr1 hM hl hq
        have hq : qm_X13_step_3 K (q_X13_step K k) x2 x3 x4 x5 x6 x7 x8 x9 x10 x11 x12 x13 x14 x15 x16 x17 r1 t0 z = some z1 := hq
        unfold qm_X13_step_3 at hq
        refine lv_istore (lv' := [(11, .int t0), (0, .ref (u 0)), (1, .ref (u r1)), (2, .int x2), (3, .int x3), (4, .int x4), (5, .int x5), (6, .int x6), (7, .int x7), (8, .int x8), (9, .int x9), (10, .int x10)]) hx hb dmX13_step_169 hl (by decide) rfl (fun ls hl => ?_)
        refine lv_aload_n hx hb dmX13_step_171 rfl (lv_at hl 1 rfl) ?_
        refine mg13_286 hx hb hT hown hK hM dmX13_step_172 ?_
        refine lv_bipush (v := 32) hx hb dmX13_step_175 (by decide) ?_
        refine lv_iload hx hb dmX13_step_177 (lv_at hl 9 rfl) ?_
        refine lv_imul hx hb dmX13_step_179 ?_
        refine lv_iload hx hb dmX13_step_180 (lv_at hl 7 rfl) ?_
        refine lv_iadd hx hb dmX13_step_182 ?_
        refine tw_bald mX_ok hx hb hK hM mr_81 hq dmX13_step_183 (fun v13 hq => ?_)
        refine lv_istore (lv' := [(12, .int v13), (11, .int t0), (0, .ref (u 0)), (1, .ref (u r1)), (2, .int x2), (3, .int x3), (4, .int x4), (5, .int x5), (6, .int x6), (7, .int x7), (8, .int x8), (9, .int x9), (10, .int x10)]) hx hb dmX13_step_184 hl (by decide) rfl (fun ls hl => ?_)
        refine lv_aload_n hx hb dmX13_step_186 rfl (lv_at hl 2 rfl) ?_
        refine mg13_286 hx hb hT hown hK hM dmX13_step_187 ?_
        refine lv_bipush (v := 32) hx hb dmX13_step_190 (by decide) ?_
        refine lv_iload hx hb dmX13_step_192 (lv_at hl 10 rfl) ?_
        refine lv_imul hx hb dmX13_step_194 ?_
        refine lv_aload_n hx hb dmX13_step_195 rfl (lv_at hl 3 rfl) ?_
        refine mg13_581 hx hb hT hown hK hM hN hr1 dmX13_step_196 ?_
        refine lv_iload hx hb dmX13_step_199 (lv_at hl 8 rfl) ?_
        refine tw_iald mX_ok hx hb hK hM (mrn_10 hr1) hq dmX13_step_201 (fun v14 hq => ?_)
        refine lv_iadd hx hb dmX13_step_202 ?_
        refine tw_bald mX_ok hx hb hK hM mr_81 hq dmX13_step_203 (fun v15 hq => ?_)
        refine lv_iload hx hb dmX13_step_204 (lv_at hl 0 rfl) ?_
        refine lv_icmp_eq (tgt := 230) hx hb dmX13_step_206 (by decide) (fun hc => ?_) (fun hc => ?_)
        · have hq := tw_it hq hc
          refine lv_aload_n hx hb dmX13_step_230 rfl (lv_at hl 2 rfl) ?_
          refine mg13_286 hx hb hT hown hK hM dmX13_step_231 ?_
          refine lv_bipush (v := 32) hx hb dmX13_step_234 (by decide) ?_
          refine lv_iload hx hb dmX13_step_236 (lv_at hl 10 rfl) ?_
          refine lv_imul hx hb dmX13_step_238 ?_
          refine lv_iload hx hb dmX13_step_239 (lv_at hl 9 rfl) ?_
          refine lv_iadd hx hb dmX13_step_241 ?_
          refine tw_bald mX_ok hx hb hK hM mr_81 hq dmX13_step_242 (fun v16 hq => ?_)
          refine lv_iload hx hb dmX13_step_243 (lv_at hl 0 rfl) ?_
          refine lv_icmp_eq (tgt := 264) hx hb dmX13_step_245 (by decide) (fun hc => ?_) (fun hc => ?_)
          · have hq := tw_it hq hc
            refine lv_aload_n hx hb dmX13_step_264 rfl (lv_at hl 2 rfl) ?_
            refine mg13_286 hx hb hT hown hK hM dmX13_step_265 ?_
            refine lv_bipush (v := 32) hx hb dmX13_step_268 (by decide) ?_
            refine lv_iload hx hb dmX13_step_270 (lv_at hl 10 rfl) ?_
            refine lv_imul hx hb dmX13_step_272 ?_
            refine lv_aload_n hx hb dmX13_step_273 rfl (lv_at hl 3 rfl) ?_
            refine mg13_581 hx hb hT hown hK hM hN hr1 dmX13_step_274 ?_
            refine lv_iload hx hb dmX13_step_277 (lv_at hl 9 rfl) ?_
            refine tw_iald mX_ok hx hb hK hM (mrn_10 hr1) hq dmX13_step_279 (fun v17 hq => ?_)
            refine lv_iadd hx hb dmX13_step_280 ?_
            refine tw_bald mX_ok hx hb hK hM mr_81 hq dmX13_step_281 (fun v18 hq => ?_)
            exact ih_4 x2 x3 x4 x5 x6 x7 x8 x9 x10 t0 v13 0 0 0 0 0 r1 v18 z H locs ls hr1 hM (lv_sub hl [2, 3, 4, 5, 6, 7, 8, 9, 10, 11, 12, 1, 0] rfl) hq
          · have hq := tw_if hq hc
            refine lv_aload_n hx hb dmX13_step_248 rfl (lv_at hl 2 rfl) ?_
            refine mg13_286 hx hb hT hown hK hM dmX13_step_249 ?_
            refine lv_bipush (v := 32) hx hb dmX13_step_252 (by decide) ?_
            refine lv_iload hx hb dmX13_step_254 (lv_at hl 10 rfl) ?_
            refine lv_imul hx hb dmX13_step_256 ?_
            refine lv_iload hx hb dmX13_step_257 (lv_at hl 9 rfl) ?_
            refine lv_iadd hx hb dmX13_step_259 ?_
            refine tw_bald mX_ok hx hb hK hM mr_81 hq dmX13_step_260 (fun v19 hq => ?_)
            refine lv_goto (tgt := 282) hx hb dmX13_step_261 (by decide) ?_
            exact ih_4 x2 x3 x4 x5 x6 x7 x8 x9 x10 t0 v13 0 0 0 0 0 r1 v19 z H locs ls hr1 hM (lv_sub hl [2, 3, 4, 5, 6, 7, 8, 9, 10, 11, 12, 1, 0] rfl) hq
        · have hq := tw_if hq hc
          refine lv_aload_n hx hb dmX13_step_209 rfl (lv_at hl 2 rfl) ?_
          refine mg13_286 hx hb hT hown hK hM dmX13_step_210 ?_
          refine lv_bipush (v := 32) hx hb dmX13_step_213 (by decide) ?_
          refine lv_iload hx hb dmX13_step_215 (lv_at hl 10 rfl) ?_
          refine lv_imul hx hb dmX13_step_217 ?_
          refine lv_aload_n hx hb dmX13_step_218 rfl (lv_at hl 3 rfl) ?_
          refine mg13_581 hx hb hT hown hK hM hN hr1 dmX13_step_219 ?_
          refine lv_iload hx hb dmX13_step_222 (lv_at hl 8 rfl) ?_
          refine tw_iald mX_ok hx hb hK hM (mrn_10 hr1) hq dmX13_step_224 (fun v20 hq => ?_)
          refine lv_iadd hx hb dmX13_step_225 ?_
          refine tw_bald mX_ok hx hb hK hM mr_81 hq dmX13_step_226 (fun v21 hq => ?_)
          refine lv_goto (tgt := 282) hx hb dmX13_step_227 (by decide) ?_
          exact ih_4 x2 x3 x4 x5 x6 x7 x8 x9 x10 t0 v13 0 0 0 0 0 r1 v21 z H locs ls hr1 hM (lv_sub hl [2, 3, 4, 5, 6, 7, 8, 9, 10, 11, 12, 1, 0] rfl) hq
      · intro x2 x3 x4 x5 x6 x7 x8 x9 x10 x11 x12 x13 x14 x15 x16 x17 r1 t0 z H locs ls hr1 hM hl hq
        have hq : qm_X13_step_4 K (q_X13_step K k) x2 x3 x4 x5 x6 x7 x8 x9 x10 x11 x12 x13 x14 x15 x16 x17 r1 t0 z = some z1 := hq
        unfold qm_X13_step_4 at hq
        refine lv_istore (lv' := [(13, .int t0), (0, .ref (u 0)), (1, .ref (u r1)), (2, .int x2), (3, .int x3), (4, .int x4), (5, .int x5), (6, .int x6), (7, .int x7), (8, .int x8), (9, .int x9), (10, .int x10), (11, .int x11), (12, .int x12)]) hx hb dmX13_step_282 hl (by decide) rfl (fun ls hl => ?_)
        refine lv_iconst (v := 0) hx hb dmX13_step_284 (by decide) ?_
        refine lv_istore (lv' := [(14, .int 0), (13, .int t0), (0, .ref (u 0)), (1, .ref (u r1)), (2, .int x2), (3, .int x3), (4, .int x4), (5, .int x5), (6, .int x6), (7, .int x7), (8, .int x8), (9, .int x9), (10, .int x10), (11, .int x11), (12, .int x12)]) hx hb dmX13_step_285 hl (by decide) rfl (fun ls hl => ?_)
        refine lv_iconst (v := 0) hx hb dmX13_step_287 (by decide) ?_
        refine lv_istore (lv' := [(15, .int 0), (14, .int 0), (13, .int t0), (0, .ref (u 0)), (1, .ref (u r1)), (2, .int x2), (3, .int x3), (4, .int x4), (5, .int x5), (6, .int x6), (7, .int x7), (8, .int x8), (9, .int x9), (10, .int x10), (11, .int x11), (12, .int x12)]) hx hb dmX13_step_288 hl (by decide) rfl (fun ls hl => ?_)
        exact ih_5 x2 x3 x4 x5 x6 x7 x8 x9 x10 x11 x12 t0 0 0 0 0 r1 0 z H locs ls hr1 hM (lv_sub hl [3, 4, 5, 6, 7, 8, 9, 10, 11, 12, 13, 14, 15, 2, 1, 0] rfl) hq
      · intro x2 x3 x4 x5 x6 x7 x8 x9 x10 x11 x12 x13 x14 x15 x16 x17 r1 t0 z H locs ls hr1 hM hl hq
        have hq : qm_X13_step_5 K (q_X13_step K k) x2 x3 x4 x5 x6 x7 x8 x9 x10 x11 x12 x13 x14 x15 x16 x17 r1 t0 z = some z1 := hq
        unfold qm_X13_step_5 at hq
        refine lv_iload hx hb dmX13_step_290 (lv_at hl 15 rfl) ?_
        refine lv_aload_n hx hb dmX13_step_292 rfl (lv_at hl 1 rfl) ?_
        refine mg13_44 hx hb hT hown hK hM hN hr1 hq dmX13_step_293 (fun v22 hq => ?_)
        refine lv_icmp_ge (tgt := 363) hx hb dmX13_step_296 (by decide) (fun hc => ?_) (fun hc => ?_)
        · have hq := tw_it hq hc
          refine lv_aload_n hx hb dmX13_step_363 rfl (lv_at hl 0 rfl) ?_
          refine lv_aload_n hx hb dmX13_step_364 rfl (lv_at hl 1 rfl) ?_
          obtain ⟨v24, z23, hcq, hq⟩ := tw_cl1 hq
          refine tw_cali hM (va_runV (As := [.ref (u r1)]) (rest := []) ⟨hx, hb, hml, hown, hts⟩ (km_X13_circlesOf l D q u hU K r1 hr1 z z23 v24 hcq) (cwV 1 hts (tw_gV wM_good wq_141 wq_142 wq_143 wq_61 wq_132) rfl rfl rfl cd_X13_circlesOf ⟨(Nat.le_of_ble_eq_true rfl), (Nat.le_of_ble_eq_true rfl)⟩) (mw_preV hK hN hM mo_0 rfl) rfl rfl hl.1 rfl (lv_room (Nat.le_of_ble_eq_true rfl)) dmX13_step_365 ⟨(Nat.le_of_ble_eq_true rfl), (Nat.le_of_ble_eq_true rfl)⟩) (fun H locs hM => ?_)
          refine lv_istore (lv' := [(15, .int v24), (0, .ref (u 0)), (1, .ref (u r1)), (2, .int x2), (3, .int x3), (4, .int x4), (5, .int x5), (6, .int x6), (7, .int x7), (8, .int x8), (9, .int x9), (10, .int x10), (11, .int x11), (12, .int x12), (13, .int x13), (14, .int x14)]) hx hb dmX13_step_368 hl (by decide) rfl (fun ls hl => ?_)
          refine lv_iconst (v := 1) hx hb dmX13_step_370 (by decide) ?_
          refine lv_istore (lv' := [(16, .int 1), (15, .int v24), (0, .ref (u 0)), (1, .ref (u r1)), (2, .int x2), (3, .int x3), (4, .int x4), (5, .int x5), (6, .int x6), (7, .int x7), (8, .int x8), (9, .int x9), (10, .int x10), (11, .int x11), (12, .int x12), (13, .int x13), (14, .int x14)]) hx hb dmX13_step_371 hl (by decide) rfl (fun ls hl => ?_)
          exact ih_7 x2 x3 x4 x5 x6 x7 x8 x9 x10 x11 x12 x13 x14 v24 1 0 r1 0 z23 H locs ls hr1 hM (lv_sub hl [2, 3, 4, 5, 6, 7, 8, 9, 10, 11, 12, 13, 14, 15, 16, 1, 0] rfl) hq
        · have hq := tw_if hq hc
          refine lv_aload_n hx hb dmX13_step_299 rfl (lv_at hl 0 rfl) ?_
          refine mg13_286 hx hb hT hown hK hM dmX13_step_300 ?_
          refine lv_bipush (v := 32) hx hb dmX13_step_303 (by decide) ?_
          refine lv_iload_n hx hb dmX13_step_305 rfl (lv_at hl 2 rfl) ?_
          refine lv_imul hx hb dmX13_step_306 ?_
          refine lv_iload hx hb dmX13_step_307 (lv_at hl 15 rfl) ?_
          refine lv_iadd hx hb dmX13_step_309 ?_
          refine tw_bald mX_ok hx hb hK hM mr_81 hq dmX13_step_310 (fun v25 hq => ?_)
          refine lv_istore (lv' := [(16, .int v25), (0, .ref (u 0)), (1, .ref (u r1)), (2, .int x2), (3, .int x3), (4, .int x4), (5, .int x5), (6, .int x6), (7, .int x7), (8, .int x8), (9, .int x9), (10, .int x10), (11, .int x11), (12, .int x12), (13, .int x13), (14, .int x14), (15, .int x15)]) hx hb dmX13_step_311 hl (by decide) rfl (fun ls hl => ?_)
          refine lv_iload hx hb dmX13_step_313 (lv_at hl 0 rfl) ?_
          refine lv_iload hx hb dmX13_step_315 (lv_at hl 11 rfl) ?_
          refine lv_icmp_eq (tgt := 357) hx hb dmX13_step_317 (by decide) (fun hc => ?_) (fun hc => ?_)
          · have hq := tw_it hq hc
            exact ih_6 x2 x3 x4 x5 x6 x7 x8 x9 x10 x11 x12 x13 x14 x15 v25 0 r1 0 z H locs ls hr1 hM (lv_sub hl [1, 2, 3, 4, 5, 6, 7, 8, 9, 10, 11, 12, 13, 14, 15, 16, 0] rfl) hq
          · have hq := tw_if hq hc
            refine lv_iload hx hb dmX13_step_320 (lv_at hl 0 rfl) ?_
            refine lv_iload hx hb dmX13_step_322 (lv_at hl 12 rfl) ?_
            refine lv_icmp_eq (tgt := 357) hx hb dmX13_step_324 (by decide) (fun hc => ?_) (fun hc => ?_)
            · have hq := tw_it hq hc
              exact ih_6 x2 x3 x4 x5 x6 x7 x8 x9 x10 x11 x12 x13 x14 x15 v25 0 r1 0 z H locs ls hr1 hM (lv_sub hl [1, 2, 3, 4, 5, 6, 7, 8, 9, 10, 11, 12, 13, 14, 15, 16, 0] rfl) hq
            · have hq := tw_if hq hc
              refine lv_iload_n hx hb dmX13_step_327 rfl (lv_at hl 4 rfl) ?_
              refine lv_iload hx hb dmX13_step_328 (lv_at hl 0 rfl) ?_
              refine lv_ishr hx hb dmX13_step_330 ?_
              refine lv_iconst (v := 1) hx hb dmX13_step_331 (by decide) ?_
              refine lv_iand hx hb dmX13_step_332 ?_
              refine lv_iconst (v := 1) hx hb dmX13_step_333 (by decide) ?_
              refine lv_icmp_ne (tgt := 357) hx hb dmX13_step_334 (by decide) (fun hc => ?_) (fun hc => ?_)
              · have hq := tw_if hq hc
                exact ih_6 x2 x3 x4 x5 x6 x7 x8 x9 x10 x11 x12 x13 x14 x15 v25 0 r1 0 z H locs ls hr1 hM (lv_sub hl [1, 2, 3, 4, 5, 6, 7, 8, 9, 10, 11, 12, 13, 14, 15, 16, 0] rfl) hq
              · have hq := tw_it hq hc
                refine lv_iload hx hb dmX13_step_337 (lv_at hl 15 rfl) ?_
                refine lv_iconst (v := 1) hx hb dmX13_step_339 (by decide) ?_
                refine lv_aload_n hx hb dmX13_step_340 rfl (lv_at hl 1 rfl) ?_
                refine mg13_286 hx hb hT hown hK hM dmX13_step_341 ?_
                refine lv_bipush (v := 32) hx hb dmX13_step_344 (by decide) ?_
                refine lv_iload hx hb dmX13_step_346 (lv_at hl 9 rfl) ?_
                refine lv_imul hx hb dmX13_step_348 ?_
                refine lv_iload hx hb dmX13_step_349 (lv_at hl 16 rfl) ?_
                refine lv_iadd hx hb dmX13_step_351 ?_
                refine tw_bald mX_ok hx hb hK hM mr_81 hq dmX13_step_352 (fun v26 hq => ?_)
                refine lv_ishl hx hb dmX13_step_353 ?_
                refine lv_ior hx hb dmX13_step_354 ?_
                refine lv_istore (lv' := [(14, .int (x14 ||| ((1 : Int32) <<< ((v26 : Int32) &&& 31)))), (16, .int v25), (0, .ref (u 0)), (1, .ref (u r1)), (2, .int x2), (3, .int x3), (4, .int x4), (5, .int x5), (6, .int x6), (7, .int x7), (8, .int x8), (9, .int x9), (10, .int x10), (11, .int x11), (12, .int x12), (13, .int x13), (15, .int x15)]) hx hb dmX13_step_355 hl (by decide) rfl (fun ls hl => ?_)
                exact ih_6 x2 x3 x4 x5 x6 x7 x8 x9 x10 x11 x12 x13 (x14 ||| ((1 : Int32) <<< ((v26 : Int32) &&& 31))) x15 v25 0 r1 0 z H locs ls hr1 hM (lv_sub hl [2, 3, 4, 5, 6, 7, 8, 9, 10, 11, 12, 13, 14, 15, 0, 16, 1] rfl) hq
      · intro x2 x3 x4 x5 x6 x7 x8 x9 x10 x11 x12 x13 x14 x15 x16 x17 r1 t0 z H locs ls hr1 hM hl hq
        have hq : qm_X13_step_6 K (q_X13_step K k) x2 x3 x4 x5 x6 x7 x8 x9 x10 x11 x12 x13 x14 x15 x16 x17 r1 t0 z = some z1 := hq
        unfold qm_X13_step_6 at hq
        refine lv_iinc (v := (x15 + 1)) (lv' := [(15, .int (x15 + 1)), (0, .ref (u 0)), (1, .ref (u r1)), (2, .int x2), (3, .int x3), (4, .int x4), (5, .int x5), (6, .int x6), (7, .int x7), (8, .int x8), (9, .int x9), (10, .int x10), (11, .int x11), (12, .int x12), (13, .int x13), (14, .int x14), (16, .int x16)]) hx hb dmX13_step_357 hl (k := 15) rfl rfl (by decide) rfl (fun ls hl => ?_)
        refine lv_goto (tgt := 290) hx hb dmX13_step_360 (by decide) ?_
        exact ih_5 x2 x3 x4 x5 x6 x7 x8 x9 x10 x11 x12 x13 x14 (x15 + 1) 0 0 r1 0 z H locs ls hr1 hM (lv_sub hl [1, 2, 3, 4, 5, 6, 7, 8, 9, 10, 11, 12, 13, 14, 15, 0] rfl) hq
      · intro x2 x3 x4 x5 x6 x7 x8 x9 x10 x11 x12 x13 x14 x15 x16 x17 r1 t0 z H locs ls hr1 hM hl hq
        have hq : qm_X13_step_7 K (q_X13_step K k) x2 x3 x4 x5 x6 x7 x8 x9 x10 x11 x12 x13 x14 x15 x16 x17 r1 t0 z = some z1 := hq
        unfold qm_X13_step_7 at hq
        refine lv_iload hx hb dmX13_step_373 (lv_at hl 16 rfl) ?_
        refine lv_iload hx hb dmX13_step_375 (lv_at hl 15 rfl) ?_
        refine lv_icmp_gt (tgt := 420) hx hb dmX13_step_377 (by decide) (fun hc => ?_) (fun hc => ?_)
        · have hq := tw_it hq hc
          refine lv_iload_n hx hb dmX13_step_420 rfl (lv_at hl 3 rfl) ?_
          refine lv_iload hx hb dmX13_step_421 (lv_at hl 10 rfl) ?_
          refine lv_ishr hx hb dmX13_step_423 ?_
          refine lv_iconst (v := 1) hx hb dmX13_step_424 (by decide) ?_
          refine lv_iand hx hb dmX13_step_425 ?_
          refine lv_iconst (v := 1) hx hb dmX13_step_426 (by decide) ?_
          refine lv_icmp_ne (tgt := 434) hx hb dmX13_step_427 (by decide) (fun hc => ?_) (fun hc => ?_)
          · have hq := tw_if hq hc
            refine lv_iconst (v := 0) hx hb dmX13_step_434 (by decide) ?_
            exact ih_9 x2 x3 x4 x5 x6 x7 x8 x9 x10 x11 x12 x13 x14 x15 x16 0 r1 0 z H locs ls hr1 hM (lv_sub hl [0, 1, 2, 3, 4, 5, 6, 7, 8, 9, 10, 11, 12, 13, 14, 15, 16] rfl) hq
          · have hq := tw_it hq hc
            refine lv_iconst (v := 1) hx hb dmX13_step_430 (by decide) ?_
            refine lv_goto (tgt := 435) hx hb dmX13_step_431 (by decide) ?_
            exact ih_9 x2 x3 x4 x5 x6 x7 x8 x9 x10 x11 x12 x13 x14 x15 x16 0 r1 1 z H locs ls hr1 hM (lv_sub hl [0, 1, 2, 3, 4, 5, 6, 7, 8, 9, 10, 11, 12, 13, 14, 15, 16] rfl) hq
        · have hq := tw_if hq hc
          refine lv_iload_n hx hb dmX13_step_380 rfl (lv_at hl 3 rfl) ?_
          refine lv_aload_n hx hb dmX13_step_381 rfl (lv_at hl 0 rfl) ?_
          refine mg13_289 hx hb hT hown hK hM dmX13_step_382 ?_
          refine lv_iload_n hx hb dmX13_step_385 rfl (lv_at hl 2 rfl) ?_
          refine tw_iald mX_ok hx hb hK hM mr_82 hq dmX13_step_386 (fun v27 hq => ?_)
          refine lv_iload hx hb dmX13_step_387 (lv_at hl 16 rfl) ?_
          refine lv_isub hx hb dmX13_step_389 ?_
          refine lv_ishr hx hb dmX13_step_390 ?_
          refine lv_iconst (v := 1) hx hb dmX13_step_391 (by decide) ?_
          refine lv_iand hx hb dmX13_step_392 ?_
          refine lv_iconst (v := 1) hx hb dmX13_step_393 (by decide) ?_
          refine lv_icmp_ne (tgt := 414) hx hb dmX13_step_394 (by decide) (fun hc => ?_) (fun hc => ?_)
          · have hq := tw_if hq hc
            exact ih_8 x2 x3 x4 x5 x6 x7 x8 x9 x10 x11 x12 x13 x14 x15 x16 0 r1 0 z H locs ls hr1 hM (lv_sub hl [0, 1, 2, 3, 4, 5, 6, 7, 8, 9, 10, 11, 12, 13, 14, 15, 16] rfl) hq
          · have hq := tw_it hq hc
            refine lv_iload hx hb dmX13_step_397 (lv_at hl 14 rfl) ?_
            refine lv_iconst (v := 1) hx hb dmX13_step_399 (by decide) ?_
            refine lv_aload_n hx hb dmX13_step_400 rfl (lv_at hl 0 rfl) ?_
            refine mg13_289 hx hb hT hown hK hM dmX13_step_401 ?_
            refine lv_iload hx hb dmX13_step_404 (lv_at hl 8 rfl) ?_
            refine tw_iald mX_ok hx hb hK hM mr_82 hq dmX13_step_406 (fun v28 hq => ?_)
            refine lv_iload hx hb dmX13_step_407 (lv_at hl 16 rfl) ?_
            refine lv_isub hx hb dmX13_step_409 ?_
            refine lv_ishl hx hb dmX13_step_410 ?_
            refine lv_ior hx hb dmX13_step_411 ?_
            refine lv_istore (lv' := [(14, .int (x14 ||| ((1 : Int32) <<< (((v28 - x16) : Int32) &&& 31)))), (0, .ref (u 0)), (1, .ref (u r1)), (2, .int x2), (3, .int x3), (4, .int x4), (5, .int x5), (6, .int x6), (7, .int x7), (8, .int x8), (9, .int x9), (10, .int x10), (11, .int x11), (12, .int x12), (13, .int x13), (15, .int x15), (16, .int x16)]) hx hb dmX13_step_412 hl (by decide) rfl (fun ls hl => ?_)
            exact ih_8 x2 x3 x4 x5 x6 x7 x8 x9 x10 x11 x12 x13 (x14 ||| ((1 : Int32) <<< (((v28 - x16) : Int32) &&& 31))) x15 x16 0 r1 0 z H locs ls hr1 hM (lv_sub hl [1, 2, 3, 4, 5, 6, 7, 8, 9, 10, 11, 12, 13, 14, 0, 15, 16] rfl) hq
      · intro x2 x3 x4 x5 x6 x7 x8 x9 x10 x11 x12 x13 x14 x15 x16 x17 r1 t0 z H locs ls hr1 hM hl hq
        have hq : qm_X13_step_8 K (q_X13_step K k) x2 x3 x4 x5 x6 x7 x8 x9 x10 x11 x12 x13 x14 x15 x16 x17 r1 t0 z = some z1 := hq
        unfold qm_X13_step_8 at hq
        refine lv_iinc (v := (x16 + 1)) (lv' := [(16, .int (x16 + 1)), (0, .ref (u 0)), (1, .ref (u r1)), (2, .int x2), (3, .int x3), (4, .int x4), (5, .int x5), (6, .int x6), (7, .int x7), (8, .int x8), (9, .int x9), (10, .int x10), (11, .int x11), (12, .int x12), (13, .int x13), (14, .int x14), (15, .int x15)]) hx hb dmX13_step_414 hl (k := 16) rfl rfl (by decide) rfl (fun ls hl => ?_)
        refine lv_goto (tgt := 373) hx hb dmX13_step_417 (by decide) ?_
        exact ih_7 x2 x3 x4 x5 x6 x7 x8 x9 x10 x11 x12 x13 x14 x15 (x16 + 1) 0 r1 0 z H locs ls hr1 hM (lv_sub hl [1, 2, 3, 4, 5, 6, 7, 8, 9, 10, 11, 12, 13, 14, 15, 16, 0] rfl) hq
      · intro x2 x3 x4 x5 x6 x7 x8 x9 x10 x11 x12 x13 x14 x15 x16 x17 r1 t0 z H locs ls hr1 hM hl hq
        have hq : qm_X13_step_9 K (q_X13_step K k) x2 x3 x4 x5 x6 x7 x8 x9 x10 x11 x12 x13 x14 x15 x16 x17 r1 t0 z = some z1 := hq
        unfold qm_X13_step_9 at hq
        refine lv_istore (lv' := [(16, .int t0), (0, .ref (u 0)), (1, .ref (u r1)), (2, .int x2), (3, .int x3), (4, .int x4), (5, .int x5), (6, .int x6), (7, .int x7), (8, .int x8), (9, .int x9), (10, .int x10), (11, .int x11), (12, .int x12), (13, .int x13), (14, .int x14), (15, .int x15)]) hx hb dmX13_step_435 hl (by decide) rfl (fun ls hl => ?_)
        refine lv_iload hx hb dmX13_step_437 (lv_at hl 11 rfl) ?_
        refine lv_iload hx hb dmX13_step_439 (lv_at hl 12 rfl) ?_
        refine lv_icmp_eq (tgt := 542) hx hb dmX13_step_441 (by decide) (fun hc => ?_) (fun hc => ?_)
        · have hq := tw_it hq hc
          refine lv_iload hx hb dmX13_step_542 (lv_at hl 0 rfl) ?_
          refine lv_if_eq (tgt := 610) hx hb dmX13_step_544 (by decide) (fun hc => ?_) (fun hc => ?_)
          · have hq := tw_it hq hc
            refine lv_aload_n hx hb dmX13_step_610 rfl (lv_at hl 1 rfl) ?_
            refine mg13_307 hx hb hT hown hK hM dmX13_step_611 ?_
            refine lv_aload_n hx hb dmX13_step_614 rfl (lv_at hl 1 rfl) ?_
            refine mg13_295 hx hb hT hown hK hM dmX13_step_615 ?_
            refine lv_aload_n hx hb dmX13_step_618 rfl (lv_at hl 1 rfl) ?_
            refine mg13_292 hx hb hT hown hK hM dmX13_step_619 ?_
            refine lv_iload hx hb dmX13_step_622 (lv_at hl 9 rfl) ?_
            refine tw_iald mX_ok hx hb hK hM mr_83 hq dmX13_step_624 (fun v29 hq => ?_)
            refine lv_iload hx hb dmX13_step_625 (lv_at hl 15 rfl) ?_
            refine lv_iadd hx hb dmX13_step_627 ?_
            refine tw_iald mX_ok hx hb hK hM mr_84 hq dmX13_step_628 (fun v30 hq => ?_)
            refine lv_dup2_11 hx hb dmX13_step_629 rfl rfl ?_
            refine tw_iald mX_ok hx hb hK hM mr_89 hq dmX13_step_630 (fun v31 hq => ?_)
            refine lv_iload hx hb dmX13_step_631 (lv_at hl 10 rfl) ?_
            refine lv_iadd hx hb dmX13_step_633 ?_
            refine tw_iast mX_ok hU hx hb hK hM mr_89 hq dmX13_step_634 (fun z32 H locs hM hq => ?_)
            exact mw_vret hx hb hr hlocks hM hq hQQ dmX13_step_635
          · have hq := tw_if hq hc
            refine lv_aload_n hx hb dmX13_step_547 rfl (lv_at hl 1 rfl) ?_
            refine mg13_307 hx hb hT hown hK hM dmX13_step_548 ?_
            refine lv_aload_n hx hb dmX13_step_551 rfl (lv_at hl 1 rfl) ?_
            refine mg13_295 hx hb hT hown hK hM dmX13_step_552 ?_
            refine lv_aload_n hx hb dmX13_step_555 rfl (lv_at hl 1 rfl) ?_
            refine mg13_292 hx hb hT hown hK hM dmX13_step_556 ?_
            refine lv_iload hx hb dmX13_step_559 (lv_at hl 9 rfl) ?_
            refine tw_iald mX_ok hx hb hK hM mr_83 hq dmX13_step_561 (fun v33 hq => ?_)
            refine lv_iload hx hb dmX13_step_562 (lv_at hl 15 rfl) ?_
            refine lv_iconst (v := 1) hx hb dmX13_step_564 (by decide) ?_
            refine lv_iload hx hb dmX13_step_565 (lv_at hl 13 rfl) ?_
            refine lv_ishl hx hb dmX13_step_567 ?_
            refine lv_ior hx hb dmX13_step_568 ?_
            refine lv_iadd hx hb dmX13_step_569 ?_
            refine tw_iald mX_ok hx hb hK hM mr_84 hq dmX13_step_570 (fun v34 hq => ?_)
            refine lv_dup2_11 hx hb dmX13_step_571 rfl rfl ?_
            refine tw_iald mX_ok hx hb hK hM mr_89 hq dmX13_step_572 (fun v35 hq => ?_)
            refine lv_iload hx hb dmX13_step_573 (lv_at hl 10 rfl) ?_
            refine lv_iadd hx hb dmX13_step_575 ?_
            refine tw_iast mX_ok hU hx hb hK hM mr_89 hq dmX13_step_576 (fun z36 H locs hM hq => ?_)
            refine lv_aload_n hx hb dmX13_step_577 rfl (lv_at hl 1 rfl) ?_
            refine mg13_307 hx hb hT hown hK hM dmX13_step_578 ?_
            refine lv_aload_n hx hb dmX13_step_581 rfl (lv_at hl 1 rfl) ?_
            refine mg13_295 hx hb hT hown hK hM dmX13_step_582 ?_
            refine lv_aload_n hx hb dmX13_step_585 rfl (lv_at hl 1 rfl) ?_
            refine mg13_292 hx hb hT hown hK hM dmX13_step_586 ?_
            refine lv_iload hx hb dmX13_step_589 (lv_at hl 9 rfl) ?_
            refine tw_iald mX_ok hx hb hK hM mr_83 hq dmX13_step_591 (fun v37 hq => ?_)
            refine lv_iload hx hb dmX13_step_592 (lv_at hl 15 rfl) ?_
            refine lv_iconst (v := 1) hx hb dmX13_step_594 (by decide) ?_
            refine lv_iload hx hb dmX13_step_595 (lv_at hl 14 rfl) ?_
            refine lv_ishl hx hb dmX13_step_597 ?_
            refine lv_ior hx hb dmX13_step_598 ?_
            refine lv_iadd hx hb dmX13_step_599 ?_
            refine tw_iald mX_ok hx hb hK hM mr_84 hq dmX13_step_600 (fun v38 hq => ?_)
            refine lv_dup2_11 hx hb dmX13_step_601 rfl rfl ?_
            refine tw_iald mX_ok hx hb hK hM mr_89 hq dmX13_step_602 (fun v39 hq => ?_)
            refine lv_iload hx hb dmX13_step_603 (lv_at hl 10 rfl) ?_
            refine lv_iadd hx hb dmX13_step_605 ?_
            refine tw_iast mX_ok hU hx hb hK hM mr_89 hq dmX13_step_606 (fun z40 H locs hM hq => ?_)
            refine lv_goto (tgt := 635) hx hb dmX13_step_607 (by decide) ?_
            exact mw_vret hx hb hr hlocks hM hq hQQ dmX13_step_635
        · have hq := tw_if hq hc
          refine lv_iload_n hx hb dmX13_step_444 rfl (lv_at hl 4 rfl) ?_
          refine lv_iload hx hb dmX13_step_445 (lv_at hl 12 rfl) ?_
          refine lv_ishr hx hb dmX13_step_447 ?_
          refine lv_iconst (v := 1) hx hb dmX13_step_448 (by decide) ?_
          refine lv_iand hx hb dmX13_step_449 ?_
          refine lv_iconst (v := 1) hx hb dmX13_step_450 (by decide) ?_
          refine lv_icmp_ne (tgt := 458) hx hb dmX13_step_451 (by decide) (fun hc => ?_) (fun hc => ?_)
          · have hq := tw_if hq hc
            refine lv_iconst (v := 0) hx hb dmX13_step_458 (by decide) ?_
            exact ih_10 x2 x3 x4 x5 x6 x7 x8 x9 x10 x11 x12 x13 x14 x15 t0 0 r1 0 z H locs ls hr1 hM (lv_sub hl [1, 2, 3, 4, 5, 6, 7, 8, 9, 10, 11, 12, 13, 14, 15, 16, 0] rfl) hq
          · have hq := tw_it hq hc
            refine lv_iconst (v := 1) hx hb dmX13_step_454 (by decide) ?_
            refine lv_goto (tgt := 459) hx hb dmX13_step_455 (by decide) ?_
            exact ih_10 x2 x3 x4 x5 x6 x7 x8 x9 x10 x11 x12 x13 x14 x15 t0 0 r1 1 z H locs ls hr1 hM (lv_sub hl [1, 2, 3, 4, 5, 6, 7, 8, 9, 10, 11, 12, 13, 14, 15, 16, 0] rfl) hq
      · intro x2 x3 x4 x5 x6 x7 x8 x9 x10 x11 x12 x13 x14 x15 x16 x17 r1 t0 z H locs ls hr1 hM hl hq
        have hq : qm_X13_step_10 K (q_X13_step K k) x2 x3 x4 x5 x6 x7 x8 x9 x10 x11 x12 x13 x14 x15 x16 x17 r1 t0 z = some z1 := hq
        unfold qm_X13_step_10 at hq
        refine lv_istore (lv' := [(17, .int t0), (0, .ref (u 0)), (1, .ref (u r1)), (2, .int x2), (3, .int x3), (4, .int x4), (5, .int x5), (6, .int x6), (7, .int x7), (8, .int x8), (9, .int x9), (10, .int x10), (11, .int x11), (12, .int x12), (13, .int x13), (14, .int x14), (15, .int x15), (16, .int x16)]) hx hb dmX13_step_459 hl (by decide) rfl (fun ls hl => ?_)
        refine lv_iload hx hb dmX13_step_461 (lv_at hl 17 rfl) ?_
        refine lv_if_eq (tgt := 504) hx hb dmX13_step_463 (by decide) (fun hc => ?_) (fun hc => ?_)
        · have hq := tw_it hq hc
          exact ih_11 x2 x3 x4 x5 x6 x7 x8 x9 x10 x11 x12 x13 x14 x15 x16 t0 r1 0 z H locs ls hr1 hM (lv_sub hl [1, 2, 3, 4, 5, 6, 7, 8, 9, 10, 11, 12, 13, 14, 15, 16, 17, 0] rfl) hq
        · have hq := tw_if hq hc
          refine lv_iload hx hb dmX13_step_466 (lv_at hl 0 rfl) ?_
          refine lv_if_eq (tgt := 504) hx hb dmX13_step_468 (by decide) (fun hc => ?_) (fun hc => ?_)
          · have hq := tw_it hq hc
            exact ih_11 x2 x3 x4 x5 x6 x7 x8 x9 x10 x11 x12 x13 x14 x15 x16 t0 r1 0 z H locs ls hr1 hM (lv_sub hl [1, 2, 3, 4, 5, 6, 7, 8, 9, 10, 11, 12, 13, 14, 15, 16, 17, 0] rfl) hq
          · have hq := tw_if hq hc
            refine lv_aload_n hx hb dmX13_step_471 rfl (lv_at hl 1 rfl) ?_
            refine mg13_307 hx hb hT hown hK hM dmX13_step_472 ?_
            refine lv_aload_n hx hb dmX13_step_475 rfl (lv_at hl 1 rfl) ?_
            refine mg13_295 hx hb hT hown hK hM dmX13_step_476 ?_
            refine lv_aload_n hx hb dmX13_step_479 rfl (lv_at hl 1 rfl) ?_
            refine mg13_292 hx hb hT hown hK hM dmX13_step_480 ?_
            refine lv_iload hx hb dmX13_step_483 (lv_at hl 9 rfl) ?_
            refine tw_iald mX_ok hx hb hK hM mr_83 hq dmX13_step_485 (fun v41 hq => ?_)
            refine lv_iload hx hb dmX13_step_486 (lv_at hl 15 rfl) ?_
            refine lv_iconst (v := 1) hx hb dmX13_step_488 (by decide) ?_
            refine lv_iload hx hb dmX13_step_489 (lv_at hl 13 rfl) ?_
            refine lv_ishl hx hb dmX13_step_491 ?_
            refine lv_ior hx hb dmX13_step_492 ?_
            refine lv_iadd hx hb dmX13_step_493 ?_
            refine tw_iald mX_ok hx hb hK hM mr_84 hq dmX13_step_494 (fun v42 hq => ?_)
            refine lv_dup2_11 hx hb dmX13_step_495 rfl rfl ?_
            refine tw_iald mX_ok hx hb hK hM mr_89 hq dmX13_step_496 (fun v43 hq => ?_)
            refine lv_iload hx hb dmX13_step_497 (lv_at hl 10 rfl) ?_
            refine lv_iadd hx hb dmX13_step_499 ?_
            refine tw_iast mX_ok hU hx hb hK hM mr_89 hq dmX13_step_500 (fun z44 H locs hM hq => ?_)
            refine lv_goto (tgt := 539) hx hb dmX13_step_501 (by decide) ?_
            exact ih_13 x2 x3 x4 x5 x6 x7 x8 x9 x10 x11 x12 x13 x14 x15 x16 t0 r1 0 z44 H locs ls hr1 hM (lv_sub hl [1, 2, 3, 4, 5, 6, 7, 8, 9, 10, 11, 12, 13, 14, 15, 16, 17, 0] rfl) hq
      · intro x2 x3 x4 x5 x6 x7 x8 x9 x10 x11 x12 x13 x14 x15 x16 x17 r1 t0 z H locs ls hr1 hM hl hq
        have hq : qm_X13_step_11 K (q_X13_step K k) x2 x3 x4 x5 x6 x7 x8 x9 x10 x11 x12 x13 x14 x15 x16 x17 r1 t0 z = some z1 := hq
        unfold qm_X13_step_11 at hq
        refine lv_iload hx hb dmX13_step_504 (lv_at hl 16 rfl) ?_
        refine lv_if_ne (tgt := 514) hx hb dmX13_step_506 (by decide) (fun hc => ?_) (fun hc => ?_)
        · have hq := tw_if hq hc
          exact ih_12 x2 x3 x4 x5 x6 x7 x8 x9 x10 x11 x12 x13 x14 x15 x16 x17 r1 0 z H locs ls hr1 hM (lv_sub hl [0, 1, 2, 3, 4, 5, 6, 7, 8, 9, 10, 11, 12, 13, 14, 15, 16, 17] rfl) hq
        · have hq := tw_it hq hc
          refine lv_iload hx hb dmX13_step_509 (lv_at hl 17 rfl) ?_
          refine lv_if_eq (tgt := 539) hx hb dmX13_step_511 (by decide) (fun hc => ?_) (fun hc => ?_)
          · have hq := tw_it hq hc
            exact ih_13 x2 x3 x4 x5 x6 x7 x8 x9 x10 x11 x12 x13 x14 x15 x16 x17 r1 0 z H locs ls hr1 hM (lv_sub hl [0, 1, 2, 3, 4, 5, 6, 7, 8, 9, 10, 11, 12, 13, 14, 15, 16, 17] rfl) hq
          · have hq := tw_if hq hc
            exact ih_12 x2 x3 x4 x5 x6 x7 x8 x9 x10 x11 x12 x13 x14 x15 x16 x17 r1 0 z H locs ls hr1 hM (lv_sub hl [0, 1, 2, 3, 4, 5, 6, 7, 8, 9, 10, 11, 12, 13, 14, 15, 16, 17] rfl) hq
      · intro x2 x3 x4 x5 x6 x7 x8 x9 x10 x11 x12 x13 x14 x15 x16 x17 r1 t0 z H locs ls hr1 hM hl hq
        have hq : qm_X13_step_12 K (q_X13_step K k) x2 x3 x4 x5 x6 x7 x8 x9 x10 x11 x12 x13 x14 x15 x16 x17 r1 t0 z = some z1 := hq
        unfold qm_X13_step_12 at hq
        refine lv_aload_n hx hb dmX13_step_514 rfl (lv_at hl 0 rfl) ?_
        refine mg13_307 hx hb hT hown hK hM dmX13_step_515 ?_
        refine lv_aload_n hx hb dmX13_step_518 rfl (lv_at hl 0 rfl) ?_
        refine mg13_295 hx hb hT hown hK hM dmX13_step_519 ?_
        refine lv_aload_n hx hb dmX13_step_522 rfl (lv_at hl 0 rfl) ?_
        refine mg13_292 hx hb hT hown hK hM dmX13_step_523 ?_
        refine lv_iload hx hb dmX13_step_526 (lv_at hl 8 rfl) ?_
        refine tw_iald mX_ok hx hb hK hM mr_83 hq dmX13_step_528 (fun v45 hq => ?_)
        refine lv_iload hx hb dmX13_step_529 (lv_at hl 14 rfl) ?_
        refine lv_iadd hx hb dmX13_step_531 ?_
        refine tw_iald mX_ok hx hb hK hM mr_84 hq dmX13_step_532 (fun v46 hq => ?_)
        refine lv_dup2_11 hx hb dmX13_step_533 rfl rfl ?_
        refine tw_iald mX_ok hx hb hK hM mr_89 hq dmX13_step_534 (fun v47 hq => ?_)
        refine lv_iload hx hb dmX13_step_535 (lv_at hl 9 rfl) ?_
        refine lv_iadd hx hb dmX13_step_537 ?_
        refine tw_iast mX_ok hU hx hb hK hM mr_89 hq dmX13_step_538 (fun z48 H locs hM hq => ?_)
        exact ih_13 x2 x3 x4 x5 x6 x7 x8 x9 x10 x11 x12 x13 x14 x15 x16 x17 r1 0 z48 H locs ls hr1 hM (lv_sub hl [0, 1, 2, 3, 4, 5, 6, 7, 8, 9, 10, 11, 12, 13, 14, 15, 16, 17] rfl) hq
      · intro x2 x3 x4 x5 x6 x7 x8 x9 x10 x11 x12 x13 x14 x15 x16 x17 r1 t0 z H locs ls hr1 hM hl hq
        have hq : qm_X13_step_13 K (q_X13_step K k) x2 x3 x4 x5 x6 x7 x8 x9 x10 x11 x12 x13 x14 x15 x16 x17 r1 t0 z = some z1 := hq
        unfold qm_X13_step_13 at hq
        refine lv_goto (tgt := 635) hx hb dmX13_step_539 (by decide) ?_
        exact mw_vret hx hb hr hlocks hM hq hQQ dmX13_step_635
  exact (key K).1 x2 x3 x4 x5 0 0 0 0 0 0 0 0 0 0 0 0 r1 0 z s.heap [] ls hr1 hM (lv_sub hl [0, 1, 2, 3, 4, 5] rfl) hq
theorem dmX13_inverseOf_0 : decode cX13_inverseOf 0 = .ok (.iconst 1, 1) := by decide +kernel
theorem dmX13_inverseOf_1 : decode cX13_inverseOf 1 = .ok (.istore_n 2, 1) := by decide +kernel
theorem dmX13_inverseOf_2 : decode cX13_inverseOf 2 = .ok (.iload_n 2, 1) := by decide +kernel
theorem dmX13_inverseOf_3 : decode cX13_inverseOf 3 = .ok (.iload_n 0, 1) := by decide +kernel
theorem dmX13_inverseOf_4 : decode cX13_inverseOf 4 = .ok (.imul, 1) := by decide +kernel
theorem dmX13_inverseOf_5 : decode cX13_inverseOf 5 = .ok (.iload_n 1, 1) := by decide +kernel
theorem dmX13_inverseOf_6 : decode cX13_inverseOf 6 = .ok (.irem, 1) := by decide +kernel
theorem dmX13_inverseOf_7 : decode cX13_inverseOf 7 = .ok (.iconst 1, 1) := by decide +kernel
theorem dmX13_inverseOf_8 : decode cX13_inverseOf 8 = .ok (.if_icmp .eq 9, 3) := by decide +kernel
theorem dmX13_inverseOf_11 : decode cX13_inverseOf 11 = .ok (.iinc 2 1, 3) := by decide +kernel
theorem dmX13_inverseOf_14 : decode cX13_inverseOf 14 = .ok (.goto (-12), 3) := by decide +kernel
theorem dmX13_inverseOf_17 : decode cX13_inverseOf 17 = .ok (.iload_n 2, 1) := by decide +kernel
theorem dmX13_inverseOf_18 : decode cX13_inverseOf 18 = .ok (.ireturn, 1) := by decide +kernel
def qm_X13_inverseOf_0 (K : Nat) (go : Nat → Int32 → Int32 → Int32 → ow_MS → Option (Int32 × ow_MS)) (x0 : Int32) (x1 : Int32) (x2 : Int32) (z : ow_MS) : Option (Int32 × ow_MS) :=
 go 1 x0 x1 1 z
def qm_X13_inverseOf_1 (K : Nat) (go : Nat → Int32 → Int32 → Int32 → ow_MS → Option (Int32 × ow_MS)) (x0 : Int32) (x1 : Int32) (x2 : Int32) (z : ow_MS) : Option (Int32 × ow_MS) :=
 nzI x1 ((if ((x2 * x0) - (x2 * x0) / x1 * x1) = 1 then some (x2, z)
 else go 1 x0 x1 (x2 + 1) z))
def qb_X13_inverseOf (K : Nat) (go : Nat → Int32 → Int32 → Int32 → ow_MS → Option (Int32 × ow_MS)) (L : Nat) (x0 : Int32) (x1 : Int32) (x2 : Int32) (z : ow_MS) : Option (Int32 × ow_MS) := match L with
  | 0 => qm_X13_inverseOf_0 K go x0 x1 x2 z
  | 1 => qm_X13_inverseOf_1 K go x0 x1 x2 z
  | _ => none
def q_X13_inverseOf (K : Nat) : Nat → Nat → Int32 → Int32 → Int32 → ow_MS → Option (Int32 × ow_MS)
  | 0 => fun _ _ _ _ _ => none
  | k + 1 => qb_X13_inverseOf K (q_X13_inverseOf K k)
def qe_X13_inverseOf (K : Nat) (x0 : Int32) (x1 : Int32) (z : ow_MS) : Option (Int32 × ow_MS) := q_X13_inverseOf K K 0 x0 x1 0 z
abbrev wm_X13_inverseOf : List Cond := .code yX13_inverseOf cX13_inverseOf 3 (some .int) :: wM
theorem cd_X13_inverseOf : yX13_inverseOf.cls ≠ "java/lang/invoke/MethodHandle" ∧ yX13_inverseOf.cls ≠ "java/lang/invoke/VarHandle" ∧ (parseMethodDescriptor yX13_inverseOf.desc).map (fun d => d.parameters.length) = some 2 := by decide +kernel
set_option maxHeartbeats 4000000 in
set_option maxRecDepth 100000 in
theorem km_X13_inverseOf (l : Launch) (D : va_G) (q : ow_Q5) (u : Nat → Nat) (hU : tw_inj mX u) (K : Nat) (x0 : Int32) (x1 : Int32)  (z z1 : ow_MS) (r : Int32) (hq : qe_X13_inverseOf K x0 x1 z = some (r, z1)) : Met l yX13_inverseOf wm_X13_inverseOf ({ frames := 0, cells := 0, slots := 0, locals := 0 } : Room) (va_Pc [.int x0, .int x1] (mw_pre D q u z)) (va_Qi (fun x (_ : Unit) => x = r) (fun _ t => va_P D vwCl (tw mX q u z1) t.heap) (tw_A mX u)) 0 0 (tw_A mX u) := by
  refine Met.ofW (cc := cX13_inverseOf) (maxL := 3) (ret := (some .int)) (by decide) rfl ?_
  intro p e s m args below meth c s₁ B hml hv
  obtain ⟨rfl, hP, hK, hN⟩ := hv
  have hx := B.exec
  have hb := B.bytes
  have hr := B.returns
  have hts := atoms_spec (ws := wm_X13_inverseOf) B.pre
  have hT : ∀ w ∈ wM, w.before ([.int x0, .int x1] : List Value).toArray s = true := fun w h => hts w (List.mem_cons_of_mem _ h)
  have hown : s.vm.findClass RX13 = some m.cls := findClass_of_methodNamed B.named
  have hlocks := B.notSynchronized
  have hM : tw_M D vwCl mX q s.heap u z s.heap [] := ⟨hP, va_S.rf⟩
  have hl := lv_entry ([.int x0, .int x1]) (n := 3) (Nat.le_of_ble_eq_true rfl)
  rw [lg_entry_eq]
  generalize (lg_sl ([.int x0, .int x1]) ++ List.replicate (3 - (lg_sl ([.int x0, .int x1])).length) Slot.unset).toArray = ls at hl ⊢
  have hl : lv_has ls 3 [(0, .int x0), (1, .int x1)] := hl
  refine ow_named (fun QQ hQQ => ?_)
  generalize ([.int x0, .int x1] : List Value).toArray = args at hts hT hQQ ⊢
  have key : ∀ k : Nat, (∀ (x0 : Int32) (x1 : Int32) (x2 : Int32) (z : ow_MS) (H : Heap) (locs : List Loc) (ls : Array Slot), tw_M D vwCl mX q s.heap u z H locs → lv_has ls 3 [(0, .int x0), (1, .int x1)] → q_X13_inverseOf K k 0 x0 x1 x2 z = some (r, z1) → W p l e ({ frames := 0, cells := 0, slots := 0, locals := 0 } : Room) s m args below meth c H locs 0 0 QQ (F0 m 0 ls [])) ∧ (∀ (x0 : Int32) (x1 : Int32) (x2 : Int32) (z : ow_MS) (H : Heap) (locs : List Loc) (ls : Array Slot), tw_M D vwCl mX q s.heap u z H locs → lv_has ls 3 [(0, .int x0), (1, .int x1), (2, .int x2)] → q_X13_inverseOf K k 1 x0 x1 x2 z = some (r, z1) → W p l e ({ frames := 0, cells := 0, slots := 0, locals := 0 } : Room) s m args below meth c H locs 0 0 QQ (F0 m 2 ls [])) := by
    intro k
    induction k with
    | zero => exact ⟨fun _ _ _ _ _ _ _  _ _ hq => tw_no hq, fun _ _ _ _ _ _ _  _ _ hq => tw_no hq⟩
    | succ k ih =>
      obtain ⟨ih_0, ih_1⟩ := ih
      refine ⟨?_, ?_⟩
      · intro x0 x1 x2 z H locs ls  hM hl hq
        have hq : qm_X13_inverseOf_0 K (q_X13_inverseOf K k) x0 x1 x2 z = some (r, z1) := hq
        unfold qm_X13_inverseOf_0 at hq
        refine lv_iconst (v := 1) hx hb dmX13_inverseOf_0 (by decide) ?_
        refine lv_istore_n (lv' := [(2, .int 1), (0, .int x0), (1, .int x1)]) hx hb dmX13_inverseOf_1 rfl hl (by decide) rfl (fun ls hl => ?_)
        exact ih_1 x0 x1 1 z H locs ls hM (lv_sub hl [1, 2, 0] rfl) hq
      · intro x0 x1 x2 z H locs ls  hM hl hq
        have hq : qm_X13_inverseOf_1 K (q_X13_inverseOf K k) x0 x1 x2 z = some (r, z1) := hq
        unfold qm_X13_inverseOf_1 at hq
        refine lv_iload_n hx hb dmX13_inverseOf_2 rfl (lv_at hl 2 rfl) ?_
        refine lv_iload_n hx hb dmX13_inverseOf_3 rfl (lv_at hl 0 rfl) ?_
        refine lv_imul hx hb dmX13_inverseOf_4 ?_
        refine lv_iload_n hx hb dmX13_inverseOf_5 rfl (lv_at hl 1 rfl) ?_
        obtain ⟨hz, hq⟩ := tw_nzI hq
        refine lv_irem hx hb dmX13_inverseOf_6 hz ?_
        refine lv_iconst (v := 1) hx hb dmX13_inverseOf_7 (by decide) ?_
        refine lv_icmp_eq (tgt := 17) hx hb dmX13_inverseOf_8 (by decide) (fun hc => ?_) (fun hc => ?_)
        · have hq := tw_it hq hc
          refine lv_iload_n hx hb dmX13_inverseOf_17 rfl (lv_at hl 2 rfl) ?_
          exact mw_iret hx hb hr hlocks hM hq hQQ dmX13_inverseOf_18
        · have hq := tw_if hq hc
          refine lv_iinc (v := (x2 + 1)) (lv' := [(2, .int (x2 + 1)), (0, .int x0), (1, .int x1)]) hx hb dmX13_inverseOf_11 hl (k := 2) rfl rfl (by decide) rfl (fun ls hl => ?_)
          refine lv_goto (tgt := 2) hx hb dmX13_inverseOf_14 (by decide) ?_
          exact ih_1 x0 x1 (x2 + 1) z H locs ls hM (lv_sub hl [1, 2, 0] rfl) hq
  exact (key K).1 x0 x1 0 z s.heap [] ls  hM (lv_sub hl [0, 1] rfl) hq
theorem dmX13_reduced_0 : decode cX13_reduced 0 = .ok (.iconst 0, 1) := dw_at cX13_reduced_k0 (p := 0) rfl (by decide +kernel)
theorem dmX13_reduced_1 : decode cX13_reduced 1 = .ok (.istore_n 3, 1) := dw_at cX13_reduced_k0 (p := 1) rfl (by decide +kernel)
theorem dmX13_reduced_2 : decode cX13_reduced 2 = .ok (.iload_n 3, 1) := dw_at cX13_reduced_k0 (p := 2) rfl (by decide +kernel)
theorem dmX13_reduced_3 : decode cX13_reduced 3 = .ok (.iload_n 1, 1) := dw_at cX13_reduced_k0 (p := 3) rfl (by decide +kernel)
theorem dmX13_reduced_4 : decode cX13_reduced 4 = .ok (.if_icmp .ge 206, 3) := dw_at cX13_reduced_k0 (p := 4) rfl (by decide +kernel)
theorem dmX13_reduced_7 : decode cX13_reduced 7 = .ok (.aload_n 0, 1) := dw_at cX13_reduced_k0 (p := 7) rfl (by decide +kernel)
theorem dmX13_reduced_8 : decode cX13_reduced 8 = .ok (.getfield 307, 3) := dw_at cX13_reduced_k0 (p := 8) rfl (by decide +kernel)
theorem dmX13_reduced_11 : decode cX13_reduced 11 = .ok (.iload_n 3, 1) := dw_at cX13_reduced_k0 (p := 11) rfl (by decide +kernel)
theorem dmX13_reduced_12 : decode cX13_reduced 12 = .ok (.iaload, 1) := dw_at cX13_reduced_k0 (p := 12) rfl (by decide +kernel)
theorem dmX13_reduced_13 : decode cX13_reduced 13 = .ok (.iload_n 2, 1) := dw_at cX13_reduced_k0 (p := 13) rfl (by decide +kernel)
theorem dmX13_reduced_14 : decode cX13_reduced 14 = .ok (.irem, 1) := dw_at cX13_reduced_k0 (p := 14) rfl (by decide +kernel)
theorem dmX13_reduced_15 : decode cX13_reduced 15 = .ok (.istore 4, 2) := dw_at cX13_reduced_k0 (p := 15) rfl (by decide +kernel)
theorem dmX13_reduced_17 : decode cX13_reduced 17 = .ok (.aload_n 0, 1) := dw_at cX13_reduced_k0 (p := 17) rfl (by decide +kernel)
theorem dmX13_reduced_18 : decode cX13_reduced 18 = .ok (.getfield 307, 3) := dw_at cX13_reduced_k0 (p := 18) rfl (by decide +kernel)
theorem dmX13_reduced_21 : decode cX13_reduced 21 = .ok (.iload_n 3, 1) := dw_at cX13_reduced_k0 (p := 21) rfl (by decide +kernel)
theorem dmX13_reduced_22 : decode cX13_reduced 22 = .ok (.iload 4, 2) := dw_at cX13_reduced_k0 (p := 22) rfl (by decide +kernel)
theorem dmX13_reduced_24 : decode cX13_reduced 24 = .ok (.iastore, 1) := dw_at cX13_reduced_k1 (p := 0) rfl (by decide +kernel)
theorem dmX13_reduced_25 : decode cX13_reduced 25 = .ok (.iload 4, 2) := dw_at cX13_reduced_k1 (p := 1) rfl (by decide +kernel)
theorem dmX13_reduced_27 : decode cX13_reduced 27 = .ok (.ifCond .eq 177, 3) := dw_at cX13_reduced_k1 (p := 3) rfl (by decide +kernel)
theorem dmX13_reduced_30 : decode cX13_reduced 30 = .ok (.aload_n 0, 1) := dw_at cX13_reduced_k1 (p := 6) rfl (by decide +kernel)
theorem dmX13_reduced_31 : decode cX13_reduced 31 = .ok (.getfield 310, 3) := dw_at cX13_reduced_k1 (p := 7) rfl (by decide +kernel)
theorem dmX13_reduced_34 : decode cX13_reduced 34 = .ok (.iload_n 3, 1) := dw_at cX13_reduced_k1 (p := 10) rfl (by decide +kernel)
theorem dmX13_reduced_35 : decode cX13_reduced 35 = .ok (.iaload, 1) := dw_at cX13_reduced_k1 (p := 11) rfl (by decide +kernel)
theorem dmX13_reduced_36 : decode cX13_reduced 36 = .ok (.iconst (-1), 1) := dw_at cX13_reduced_k1 (p := 12) rfl (by decide +kernel)
theorem dmX13_reduced_37 : decode cX13_reduced 37 = .ok (.if_icmp .ne 97, 3) := dw_at cX13_reduced_k1 (p := 13) rfl (by decide +kernel)
theorem dmX13_reduced_40 : decode cX13_reduced 40 = .ok (.iload 4, 2) := dw_at cX13_reduced_k1 (p := 16) rfl (by decide +kernel)
theorem dmX13_reduced_42 : decode cX13_reduced 42 = .ok (.iload_n 2, 1) := dw_at cX13_reduced_k1 (p := 18) rfl (by decide +kernel)
theorem dmX13_reduced_43 : decode cX13_reduced 43 = .ok (.invokestatic 706, 3) := dw_at cX13_reduced_k1 (p := 19) rfl (by decide +kernel)
theorem dmX13_reduced_46 : decode cX13_reduced 46 = .ok (.istore 5, 2) := dw_at cX13_reduced_k1 (p := 22) rfl (by decide +kernel)
theorem dmX13_reduced_48 : decode cX13_reduced 48 = .ok (.aload_n 0, 1) := dw_at cX13_reduced_k2 (p := 0) rfl (by decide +kernel)
theorem dmX13_reduced_49 : decode cX13_reduced 49 = .ok (.getfield 310, 3) := dw_at cX13_reduced_k2 (p := 1) rfl (by decide +kernel)
theorem dmX13_reduced_52 : decode cX13_reduced 52 = .ok (.iload_n 3, 1) := dw_at cX13_reduced_k2 (p := 4) rfl (by decide +kernel)
theorem dmX13_reduced_53 : decode cX13_reduced 53 = .ok (.aload_n 0, 1) := dw_at cX13_reduced_k2 (p := 5) rfl (by decide +kernel)
theorem dmX13_reduced_54 : decode cX13_reduced 54 = .ok (.getfield 696, 3) := dw_at cX13_reduced_k2 (p := 6) rfl (by decide +kernel)
theorem dmX13_reduced_57 : decode cX13_reduced 57 = .ok (.iastore, 1) := dw_at cX13_reduced_k2 (p := 9) rfl (by decide +kernel)
theorem dmX13_reduced_58 : decode cX13_reduced 58 = .ok (.iload_n 3, 1) := dw_at cX13_reduced_k2 (p := 10) rfl (by decide +kernel)
theorem dmX13_reduced_59 : decode cX13_reduced 59 = .ok (.istore 6, 2) := dw_at cX13_reduced_k2 (p := 11) rfl (by decide +kernel)
theorem dmX13_reduced_61 : decode cX13_reduced 61 = .ok (.iload 6, 2) := dw_at cX13_reduced_k2 (p := 13) rfl (by decide +kernel)
theorem dmX13_reduced_63 : decode cX13_reduced 63 = .ok (.iload_n 1, 1) := dw_at cX13_reduced_k2 (p := 15) rfl (by decide +kernel)
theorem dmX13_reduced_64 : decode cX13_reduced 64 = .ok (.if_icmp .ge 58, 3) := dw_at cX13_reduced_k2 (p := 16) rfl (by decide +kernel)
theorem dmX13_reduced_67 : decode cX13_reduced 67 = .ok (.aload_n 0, 1) := dw_at cX13_reduced_k2 (p := 19) rfl (by decide +kernel)
theorem dmX13_reduced_68 : decode cX13_reduced 68 = .ok (.getfield 307, 3) := dw_at cX13_reduced_k2 (p := 20) rfl (by decide +kernel)
theorem dmX13_reduced_71 : decode cX13_reduced 71 = .ok (.iload 6, 2) := dw_at cX13_reduced_k2 (p := 23) rfl (by decide +kernel)
theorem dmX13_reduced_73 : decode cX13_reduced 73 = .ok (.iaload, 1) := dw_at cX13_reduced_k3 (p := 0) rfl (by decide +kernel)
theorem dmX13_reduced_74 : decode cX13_reduced 74 = .ok (.iload_n 2, 1) := dw_at cX13_reduced_k3 (p := 1) rfl (by decide +kernel)
theorem dmX13_reduced_75 : decode cX13_reduced 75 = .ok (.irem, 1) := dw_at cX13_reduced_k3 (p := 2) rfl (by decide +kernel)
theorem dmX13_reduced_76 : decode cX13_reduced 76 = .ok (.iload 5, 2) := dw_at cX13_reduced_k3 (p := 3) rfl (by decide +kernel)
theorem dmX13_reduced_78 : decode cX13_reduced 78 = .ok (.imul, 1) := dw_at cX13_reduced_k3 (p := 5) rfl (by decide +kernel)
theorem dmX13_reduced_79 : decode cX13_reduced 79 = .ok (.iload_n 2, 1) := dw_at cX13_reduced_k3 (p := 6) rfl (by decide +kernel)
theorem dmX13_reduced_80 : decode cX13_reduced 80 = .ok (.irem, 1) := dw_at cX13_reduced_k3 (p := 7) rfl (by decide +kernel)
theorem dmX13_reduced_81 : decode cX13_reduced 81 = .ok (.istore 7, 2) := dw_at cX13_reduced_k3 (p := 8) rfl (by decide +kernel)
theorem dmX13_reduced_83 : decode cX13_reduced 83 = .ok (.iload 7, 2) := dw_at cX13_reduced_k3 (p := 10) rfl (by decide +kernel)
theorem dmX13_reduced_85 : decode cX13_reduced 85 = .ok (.ifCond .eq 31, 3) := dw_at cX13_reduced_k3 (p := 12) rfl (by decide +kernel)
theorem dmX13_reduced_88 : decode cX13_reduced 88 = .ok (.aload_n 0, 1) := dw_at cX13_reduced_k3 (p := 15) rfl (by decide +kernel)
theorem dmX13_reduced_89 : decode cX13_reduced 89 = .ok (.getfield 317, 3) := dw_at cX13_reduced_k3 (p := 16) rfl (by decide +kernel)
theorem dmX13_reduced_92 : decode cX13_reduced 92 = .ok (.aload_n 0, 1) := dw_at cX13_reduced_k3 (p := 19) rfl (by decide +kernel)
theorem dmX13_reduced_93 : decode cX13_reduced 93 = .ok (.getfield 696, 3) := dw_at cX13_reduced_k3 (p := 20) rfl (by decide +kernel)
theorem dmX13_reduced_96 : decode cX13_reduced 96 = .ok (.sipush 1024, 3) := dw_at cX13_reduced_k3 (p := 23) rfl (by decide +kernel)
theorem dmX13_reduced_99 : decode cX13_reduced 99 = .ok (.iload 6, 2) := dw_at cX13_reduced_k4 (p := 0) rfl (by decide +kernel)
theorem dmX13_reduced_101 : decode cX13_reduced 101 = .ok (.imul, 1) := dw_at cX13_reduced_k4 (p := 2) rfl (by decide +kernel)
theorem dmX13_reduced_102 : decode cX13_reduced 102 = .ok (.iload 7, 2) := dw_at cX13_reduced_k4 (p := 3) rfl (by decide +kernel)
theorem dmX13_reduced_104 : decode cX13_reduced 104 = .ok (.iadd, 1) := dw_at cX13_reduced_k4 (p := 5) rfl (by decide +kernel)
theorem dmX13_reduced_105 : decode cX13_reduced 105 = .ok (.iastore, 1) := dw_at cX13_reduced_k4 (p := 6) rfl (by decide +kernel)
theorem dmX13_reduced_106 : decode cX13_reduced 106 = .ok (.aload_n 0, 1) := dw_at cX13_reduced_k4 (p := 7) rfl (by decide +kernel)
theorem dmX13_reduced_107 : decode cX13_reduced 107 = .ok (.dup, 1) := dw_at cX13_reduced_k4 (p := 8) rfl (by decide +kernel)
theorem dmX13_reduced_108 : decode cX13_reduced 108 = .ok (.getfield 696, 3) := dw_at cX13_reduced_k4 (p := 9) rfl (by decide +kernel)
theorem dmX13_reduced_111 : decode cX13_reduced 111 = .ok (.iconst 1, 1) := dw_at cX13_reduced_k4 (p := 12) rfl (by decide +kernel)
theorem dmX13_reduced_112 : decode cX13_reduced 112 = .ok (.iadd, 1) := dw_at cX13_reduced_k4 (p := 13) rfl (by decide +kernel)
theorem dmX13_reduced_113 : decode cX13_reduced 113 = .ok (.putfield 696, 3) := dw_at cX13_reduced_k4 (p := 14) rfl (by decide +kernel)
theorem dmX13_reduced_116 : decode cX13_reduced 116 = .ok (.iinc 6 1, 3) := dw_at cX13_reduced_k4 (p := 17) rfl (by decide +kernel)
theorem dmX13_reduced_119 : decode cX13_reduced 119 = .ok (.goto (-58), 3) := dw_at cX13_reduced_k4 (p := 20) rfl (by decide +kernel)
theorem dmX13_reduced_122 : decode cX13_reduced 122 = .ok (.aload_n 0, 1) := dw_at cX13_reduced_k4 (p := 23) rfl (by decide +kernel)
theorem dmX13_reduced_123 : decode cX13_reduced 123 = .ok (.getfield 313, 3) := dw_at cX13_reduced_k5 (p := 0) rfl (by decide +kernel)
theorem dmX13_reduced_126 : decode cX13_reduced 126 = .ok (.iload_n 3, 1) := dw_at cX13_reduced_k5 (p := 3) rfl (by decide +kernel)
theorem dmX13_reduced_127 : decode cX13_reduced 127 = .ok (.aload_n 0, 1) := dw_at cX13_reduced_k5 (p := 4) rfl (by decide +kernel)
theorem dmX13_reduced_128 : decode cX13_reduced 128 = .ok (.getfield 696, 3) := dw_at cX13_reduced_k5 (p := 5) rfl (by decide +kernel)
theorem dmX13_reduced_131 : decode cX13_reduced 131 = .ok (.iastore, 1) := dw_at cX13_reduced_k5 (p := 8) rfl (by decide +kernel)
theorem dmX13_reduced_132 : decode cX13_reduced 132 = .ok (.iconst 1, 1) := dw_at cX13_reduced_k5 (p := 9) rfl (by decide +kernel)
theorem dmX13_reduced_133 : decode cX13_reduced 133 = .ok (.ireturn, 1) := dw_at cX13_reduced_k5 (p := 10) rfl (by decide +kernel)
theorem dmX13_reduced_134 : decode cX13_reduced 134 = .ok (.aload_n 0, 1) := dw_at cX13_reduced_k5 (p := 11) rfl (by decide +kernel)
theorem dmX13_reduced_135 : decode cX13_reduced 135 = .ok (.getfield 310, 3) := dw_at cX13_reduced_k5 (p := 12) rfl (by decide +kernel)
theorem dmX13_reduced_138 : decode cX13_reduced 138 = .ok (.iload_n 3, 1) := dw_at cX13_reduced_k5 (p := 15) rfl (by decide +kernel)
theorem dmX13_reduced_139 : decode cX13_reduced 139 = .ok (.iaload, 1) := dw_at cX13_reduced_k5 (p := 16) rfl (by decide +kernel)
theorem dmX13_reduced_140 : decode cX13_reduced 140 = .ok (.istore 5, 2) := dw_at cX13_reduced_k5 (p := 17) rfl (by decide +kernel)
theorem dmX13_reduced_142 : decode cX13_reduced 142 = .ok (.iload 5, 2) := dw_at cX13_reduced_k5 (p := 19) rfl (by decide +kernel)
theorem dmX13_reduced_144 : decode cX13_reduced 144 = .ok (.aload_n 0, 1) := dw_at cX13_reduced_k5 (p := 21) rfl (by decide +kernel)
theorem dmX13_reduced_145 : decode cX13_reduced 145 = .ok (.getfield 313, 3) := dw_at cX13_reduced_k5 (p := 22) rfl (by decide +kernel)
theorem dmX13_reduced_148 : decode cX13_reduced 148 = .ok (.iload_n 3, 1) := dw_at cX13_reduced_k6 (p := 0) rfl (by decide +kernel)
theorem dmX13_reduced_149 : decode cX13_reduced 149 = .ok (.iaload, 1) := dw_at cX13_reduced_k6 (p := 1) rfl (by decide +kernel)
theorem dmX13_reduced_150 : decode cX13_reduced 150 = .ok (.if_icmp .ge 54, 3) := dw_at cX13_reduced_k6 (p := 2) rfl (by decide +kernel)
theorem dmX13_reduced_153 : decode cX13_reduced 153 = .ok (.aload_n 0, 1) := dw_at cX13_reduced_k6 (p := 5) rfl (by decide +kernel)
theorem dmX13_reduced_154 : decode cX13_reduced 154 = .ok (.getfield 317, 3) := dw_at cX13_reduced_k6 (p := 6) rfl (by decide +kernel)
theorem dmX13_reduced_157 : decode cX13_reduced 157 = .ok (.iload 5, 2) := dw_at cX13_reduced_k6 (p := 9) rfl (by decide +kernel)
theorem dmX13_reduced_159 : decode cX13_reduced 159 = .ok (.iaload, 1) := dw_at cX13_reduced_k6 (p := 11) rfl (by decide +kernel)
theorem dmX13_reduced_160 : decode cX13_reduced 160 = .ok (.bipush 10, 2) := dw_at cX13_reduced_k6 (p := 12) rfl (by decide +kernel)
theorem dmX13_reduced_162 : decode cX13_reduced 162 = .ok (.ishr, 1) := dw_at cX13_reduced_k6 (p := 14) rfl (by decide +kernel)
theorem dmX13_reduced_163 : decode cX13_reduced 163 = .ok (.istore 6, 2) := dw_at cX13_reduced_k6 (p := 15) rfl (by decide +kernel)
theorem dmX13_reduced_165 : decode cX13_reduced 165 = .ok (.aload_n 0, 1) := dw_at cX13_reduced_k6 (p := 17) rfl (by decide +kernel)
theorem dmX13_reduced_166 : decode cX13_reduced 166 = .ok (.getfield 307, 3) := dw_at cX13_reduced_k6 (p := 18) rfl (by decide +kernel)
theorem dmX13_reduced_169 : decode cX13_reduced 169 = .ok (.iload 6, 2) := dw_at cX13_reduced_k6 (p := 21) rfl (by decide +kernel)
theorem dmX13_reduced_171 : decode cX13_reduced 171 = .ok (.aload_n 0, 1) := dw_at cX13_reduced_k6 (p := 23) rfl (by decide +kernel)
theorem dmX13_reduced_172 : decode cX13_reduced 172 = .ok (.getfield 307, 3) := dw_at cX13_reduced_k7 (p := 0) rfl (by decide +kernel)
theorem dmX13_reduced_175 : decode cX13_reduced 175 = .ok (.iload 6, 2) := dw_at cX13_reduced_k7 (p := 3) rfl (by decide +kernel)
theorem dmX13_reduced_177 : decode cX13_reduced 177 = .ok (.iaload, 1) := dw_at cX13_reduced_k7 (p := 5) rfl (by decide +kernel)
theorem dmX13_reduced_178 : decode cX13_reduced 178 = .ok (.iload_n 2, 1) := dw_at cX13_reduced_k7 (p := 6) rfl (by decide +kernel)
theorem dmX13_reduced_179 : decode cX13_reduced 179 = .ok (.iload 4, 2) := dw_at cX13_reduced_k7 (p := 7) rfl (by decide +kernel)
theorem dmX13_reduced_181 : decode cX13_reduced 181 = .ok (.isub, 1) := dw_at cX13_reduced_k7 (p := 9) rfl (by decide +kernel)
theorem dmX13_reduced_182 : decode cX13_reduced 182 = .ok (.aload_n 0, 1) := dw_at cX13_reduced_k7 (p := 10) rfl (by decide +kernel)
theorem dmX13_reduced_183 : decode cX13_reduced 183 = .ok (.getfield 317, 3) := dw_at cX13_reduced_k7 (p := 11) rfl (by decide +kernel)
theorem dmX13_reduced_186 : decode cX13_reduced 186 = .ok (.iload 5, 2) := dw_at cX13_reduced_k7 (p := 14) rfl (by decide +kernel)
theorem dmX13_reduced_188 : decode cX13_reduced 188 = .ok (.iaload, 1) := dw_at cX13_reduced_k7 (p := 16) rfl (by decide +kernel)
theorem dmX13_reduced_189 : decode cX13_reduced 189 = .ok (.sipush 1023, 3) := dw_at cX13_reduced_k7 (p := 17) rfl (by decide +kernel)
theorem dmX13_reduced_192 : decode cX13_reduced 192 = .ok (.iand, 1) := dw_at cX13_reduced_k7 (p := 20) rfl (by decide +kernel)
theorem dmX13_reduced_193 : decode cX13_reduced 193 = .ok (.imul, 1) := dw_at cX13_reduced_k7 (p := 21) rfl (by decide +kernel)
theorem dmX13_reduced_194 : decode cX13_reduced 194 = .ok (.iadd, 1) := dw_at cX13_reduced_k7 (p := 22) rfl (by decide +kernel)
theorem dmX13_reduced_195 : decode cX13_reduced 195 = .ok (.iload_n 2, 1) := dw_at cX13_reduced_k7 (p := 23) rfl (by decide +kernel)
theorem dmX13_reduced_196 : decode cX13_reduced 196 = .ok (.irem, 1) := dw_at cX13_reduced_k8 (p := 0) rfl (by decide +kernel)
theorem dmX13_reduced_197 : decode cX13_reduced 197 = .ok (.iastore, 1) := dw_at cX13_reduced_k8 (p := 1) rfl (by decide +kernel)
theorem dmX13_reduced_198 : decode cX13_reduced 198 = .ok (.iinc 5 1, 3) := dw_at cX13_reduced_k8 (p := 2) rfl (by decide +kernel)
theorem dmX13_reduced_201 : decode cX13_reduced 201 = .ok (.goto (-59), 3) := dw_at cX13_reduced_k8 (p := 5) rfl (by decide +kernel)
theorem dmX13_reduced_204 : decode cX13_reduced 204 = .ok (.iinc 3 1, 3) := dw_at cX13_reduced_k8 (p := 8) rfl (by decide +kernel)
theorem dmX13_reduced_207 : decode cX13_reduced 207 = .ok (.goto (-205), 3) := dw_at cX13_reduced_k8 (p := 11) rfl (by decide +kernel)
theorem dmX13_reduced_210 : decode cX13_reduced 210 = .ok (.iconst 0, 1) := dw_at cX13_reduced_k8 (p := 14) rfl (by decide +kernel)
theorem dmX13_reduced_211 : decode cX13_reduced 211 = .ok (.ireturn, 1) := dw_at cX13_reduced_k8 (p := 15) rfl (by decide +kernel)
def qm_X13_reduced_0 (K : Nat) (go : Nat → Int32 → Int32 → Int32 → Int32 → Int32 → Int32 → Int32 → ow_MS → Option (Int32 × ow_MS)) (x1 : Int32) (x2 : Int32) (x3 : Int32) (x4 : Int32) (x5 : Int32) (x6 : Int32) (x7 : Int32) (z : ow_MS) : Option (Int32 × ow_MS) :=
 go 1 x1 x2 0 0 0 0 0 z
def qm_X13_reduced_1 (K : Nat) (go : Nat → Int32 → Int32 → Int32 → Int32 → Int32 → Int32 → Int32 → ow_MS → Option (Int32 × ow_MS)) (x1 : Int32) (x2 : Int32) (x3 : Int32) (x4 : Int32) (x5 : Int32) (x6 : Int32) (x7 : Int32) (z : ow_MS) : Option (Int32 × ow_MS) :=
 (if x1 ≤ x3 then okZ 0 (some (0, z))
 else rdI mX z 89 x3 fun v1 => nzI x2 (wrI mX z 89 x3 (v1 - v1 / x2 * x2) fun z2 => (if (v1 - v1 / x2 * x2) = 0 then go 5 x1 x2 x3 (v1 - v1 / x2 * x2) 0 0 0 z2
 else rdI mX z2 90 x3 fun v3 => (if v3 = (-1) then cs1 (qe_X13_inverseOf K (v1 - v1 / x2 * x2) x2 z2) fun v6 z5 => rdF z5 93 fun v7 => wrI mX z5 90 x3 v7 fun z8 => go 2 x1 x2 x3 (v1 - v1 / x2 * x2) v6 x3 0 z8
 else rdI mX z2 90 x3 fun v4 => go 4 x1 x2 x3 (v1 - v1 / x2 * x2) v4 0 0 z2))))
def qm_X13_reduced_2 (K : Nat) (go : Nat → Int32 → Int32 → Int32 → Int32 → Int32 → Int32 → Int32 → ow_MS → Option (Int32 × ow_MS)) (x1 : Int32) (x2 : Int32) (x3 : Int32) (x4 : Int32) (x5 : Int32) (x6 : Int32) (x7 : Int32) (z : ow_MS) : Option (Int32 × ow_MS) :=
 (if x1 ≤ x6 then rdF z 93 fun v9 => wrI mX z 91 x3 v9 fun z10 => okZ 1 (some (1, z10))
 else rdI mX z 89 x6 fun v11 => nzI x2 (nzI x2 ((if (((v11 - v11 / x2 * x2) * x5) - ((v11 - v11 / x2 * x2) * x5) / x2 * x2) = 0 then go 3 x1 x2 x3 x4 x5 x6 (((v11 - v11 / x2 * x2) * x5) - ((v11 - v11 / x2 * x2) * x5) / x2 * x2) z
 else rdF z 93 fun v12 => wrI mX z 92 v12 ((1024 * x6) + (((v11 - v11 / x2 * x2) * x5) - ((v11 - v11 / x2 * x2) * x5) / x2 * x2)) fun z13 => rdF z13 93 fun v14 => wrF z13 93 (v14 + 1) fun z15 => go 3 x1 x2 x3 x4 x5 x6 (((v11 - v11 / x2 * x2) * x5) - ((v11 - v11 / x2 * x2) * x5) / x2 * x2) z15))))
def qm_X13_reduced_3 (K : Nat) (go : Nat → Int32 → Int32 → Int32 → Int32 → Int32 → Int32 → Int32 → ow_MS → Option (Int32 × ow_MS)) (x1 : Int32) (x2 : Int32) (x3 : Int32) (x4 : Int32) (x5 : Int32) (x6 : Int32) (x7 : Int32) (z : ow_MS) : Option (Int32 × ow_MS) :=
 go 2 x1 x2 x3 x4 x5 (x6 + 1) 0 z
def qm_X13_reduced_4 (K : Nat) (go : Nat → Int32 → Int32 → Int32 → Int32 → Int32 → Int32 → Int32 → ow_MS → Option (Int32 × ow_MS)) (x1 : Int32) (x2 : Int32) (x3 : Int32) (x4 : Int32) (x5 : Int32) (x6 : Int32) (x7 : Int32) (z : ow_MS) : Option (Int32 × ow_MS) :=
 rdI mX z 91 x3 fun v16 => (if v16 ≤ x5 then go 5 x1 x2 x3 x4 0 0 0 z
 else rdI mX z 92 x5 fun v17 => rdI mX z 89 ((v17 : Int32) >>> ((10 : Int32) &&& 31)) fun v18 => rdI mX z 92 x5 fun v19 => nzI x2 (wrI mX z 89 ((v17 : Int32) >>> ((10 : Int32) &&& 31)) ((v18 + ((x2 - x4) * (v19 &&& 1023))) - (v18 + ((x2 - x4) * (v19 &&& 1023))) / x2 * x2) fun z20 => go 4 x1 x2 x3 x4 (x5 + 1) 0 0 z20))
def qm_X13_reduced_5 (K : Nat) (go : Nat → Int32 → Int32 → Int32 → Int32 → Int32 → Int32 → Int32 → ow_MS → Option (Int32 × ow_MS)) (x1 : Int32) (x2 : Int32) (x3 : Int32) (x4 : Int32) (x5 : Int32) (x6 : Int32) (x7 : Int32) (z : ow_MS) : Option (Int32 × ow_MS) :=
 go 1 x1 x2 (x3 + 1) 0 0 0 0 z
def qb_X13_reduced (K : Nat) (go : Nat → Int32 → Int32 → Int32 → Int32 → Int32 → Int32 → Int32 → ow_MS → Option (Int32 × ow_MS)) (L : Nat) (x1 : Int32) (x2 : Int32) (x3 : Int32) (x4 : Int32) (x5 : Int32) (x6 : Int32) (x7 : Int32) (z : ow_MS) : Option (Int32 × ow_MS) := match L with
  | 0 => qm_X13_reduced_0 K go x1 x2 x3 x4 x5 x6 x7 z
  | 1 => qm_X13_reduced_1 K go x1 x2 x3 x4 x5 x6 x7 z
  | 2 => qm_X13_reduced_2 K go x1 x2 x3 x4 x5 x6 x7 z
  | 3 => qm_X13_reduced_3 K go x1 x2 x3 x4 x5 x6 x7 z
  | 4 => qm_X13_reduced_4 K go x1 x2 x3 x4 x5 x6 x7 z
  | 5 => qm_X13_reduced_5 K go x1 x2 x3 x4 x5 x6 x7 z
  | _ => none
def q_X13_reduced (K : Nat) : Nat → Nat → Int32 → Int32 → Int32 → Int32 → Int32 → Int32 → Int32 → ow_MS → Option (Int32 × ow_MS)
  | 0 => fun _ _ _ _ _ _ _ _ _ => none
  | k + 1 => qb_X13_reduced K (q_X13_reduced K k)
def qe_X13_reduced (K : Nat) (x1 : Int32) (x2 : Int32) (z : ow_MS) : Option (Int32 × ow_MS) := q_X13_reduced K K 0 x1 x2 0 0 0 0 0 z
abbrev wm_X13_reduced : List Cond := .code yX13_reduced cX13_reduced 8 (some .boolean) :: wM
theorem cd_X13_reduced : yX13_reduced.cls = RX13 ∧ yX13_reduced.cls ≠ "java/lang/invoke/MethodHandle" ∧ yX13_reduced.cls ≠ "java/lang/invoke/VarHandle" ∧ (parseMethodDescriptor yX13_reduced.desc).map (fun d => d.parameters.length) = some 2 := by decide +kernel
set_option maxHeartbeats 4000000 in
set_option maxRecDepth 100000 in
theorem km_X13_reduced (l : Launch) (D : va_G) (q : ow_Q5) (u : Nat → Nat) (hU : tw_inj mX u) (K : Nat) (x1 : Int32) (x2 : Int32)  (z z1 : ow_MS) (r : Int32) (hq : qe_X13_reduced K x1 x2 z = some (r, z1)) : Met l yX13_reduced wm_X13_reduced ({ frames := 1, cells := 0, slots := 0, locals := 22 } : Room) (va_Pc [.ref (u 0), .int x1, .int x2] (mw_pre D q u z)) (va_Qi (fun x (_ : Unit) => x = r) (fun _ t => va_P D vwCl (tw mX q u z1) t.heap) (tw_A mX u)) 0 0 (tw_A mX u) := by
  refine Met.ofW (cc := cX13_reduced) (maxL := 8) (ret := (some .boolean)) (by decide) rfl ?_
  intro p e s m args below meth c s₁ B hml hv
  obtain ⟨rfl, hP, hK, hN⟩ := hv
  have hx := B.exec
  have hb := B.bytes
  have hr := B.returns
  have hts := atoms_spec (ws := wm_X13_reduced) B.pre
  have hT : ∀ w ∈ wM, w.before ([.ref (u 0), .int x1, .int x2] : List Value).toArray s = true := fun w h => hts w (List.mem_cons_of_mem _ h)
  have hown : s.vm.findClass RX13 = some m.cls := findClass_of_methodNamed B.named
  have hlocks := B.notSynchronized
  have hM : tw_M D vwCl mX q s.heap u z s.heap [] := ⟨hP, va_S.rf⟩
  have hl := lv_entry ([.ref (u 0), .int x1, .int x2]) (n := 8) (Nat.le_of_ble_eq_true rfl)
  rw [lg_entry_eq]
  generalize (lg_sl ([.ref (u 0), .int x1, .int x2]) ++ List.replicate (8 - (lg_sl ([.ref (u 0), .int x1, .int x2])).length) Slot.unset).toArray = ls at hl ⊢
  have hl : lv_has ls 8 [(0, .ref (u 0)), (1, .int x1), (2, .int x2)] := hl
  refine ow_named (fun QQ hQQ => ?_)
  generalize ([.ref (u 0), .int x1, .int x2] : List Value).toArray = args at hts hT hQQ ⊢
  have key : ∀ k : Nat, (∀ (x1 : Int32) (x2 : Int32) (x3 : Int32) (x4 : Int32) (x5 : Int32) (x6 : Int32) (x7 : Int32) (z : ow_MS) (H : Heap) (locs : List Loc) (ls : Array Slot), tw_M D vwCl mX q s.heap u z H locs → lv_has ls 8 [(0, .ref (u 0)), (1, .int x1), (2, .int x2)] → q_X13_reduced K k 0 x1 x2 x3 x4 x5 x6 x7 z = some (r, z1) → W p l e ({ frames := 1, cells := 0, slots := 0, locals := 22 } : Room) s m args below meth c H locs 0 0 QQ (F0 m 0 ls [])) ∧ (∀ (x1 : Int32) (x2 : Int32) (x3 : Int32) (x4 : Int32) (x5 : Int32) (x6 : Int32) (x7 : Int32) (z : ow_MS) (H : Heap) (locs : List Loc) (ls : Array Slot), tw_M D vwCl mX q s.heap u z H locs → lv_has ls 8 [(0, .ref (u 0)), (1, .int x1), (2, .int x2), (3, .int x3)] → q_X13_reduced K k 1 x1 x2 x3 x4 x5 x6 x7 z = some (r, z1) → W p l e ({ frames := 1, cells := 0, slots := 0, locals := 22 } : Room) s m args below meth c H locs 0 0 QQ (F0 m 2 ls [])) ∧ (∀ (x1 : Int32) (x2 : Int32) (x3 : Int32) (x4 : Int32) (x5 : Int32) (x6 : Int32) (x7 : Int32) (z : ow_MS) (H : Heap) (locs : List Loc) (ls : Array Slot), tw_M D vwCl mX q s.heap u z H locs → lv_has ls 8 [(0, .ref (u 0)), (1, .int x1), (2, .int x2), (3, .int x3), (4, .int x4), (5, .int x5), (6, .int x6)] → q_X13_reduced K k 2 x1 x2 x3 x4 x5 x6 x7 z = some (r, z1) → W p l e ({ frames := 1, cells := 0, slots := 0, locals := 22 } : Room) s m args below meth c H locs 0 0 QQ (F0 m 61 ls [])) ∧ (∀ (x1 : Int32) (x2 : Int32) (x3 : Int32) (x4 : Int32) (x5 : Int32) (x6 : Int32) (x7 : Int32) (z : ow_MS) (H : Heap) (locs : List Loc) (ls : Array Slot), tw_M D vwCl mX q s.heap u z H locs → lv_has ls 8 [(0, .ref (u 0)), (1, .int x1), (2, .int x2), (3, .int x3), (4, .int x4), (5, .int x5), (6, .int x6), (7, .int x7)] → q_X13_reduced K k 3 x1 x2 x3 x4 x5 x6 x7 z = some (r, z1) → W p l e ({ frames := 1, cells := 0, slots := 0, locals := 22 } : Room) s m args below meth c H locs 0 0 QQ (F0 m 116 ls [])) ∧ (∀ (x1 : Int32) (x2 : Int32) (x3 : Int32) (x4 : Int32) (x5 : Int32) (x6 : Int32) (x7 : Int32) (z : ow_MS) (H : Heap) (locs : List Loc) (ls : Array Slot), tw_M D vwCl mX q s.heap u z H locs → lv_has ls 8 [(0, .ref (u 0)), (1, .int x1), (2, .int x2), (3, .int x3), (4, .int x4), (5, .int x5)] → q_X13_reduced K k 4 x1 x2 x3 x4 x5 x6 x7 z = some (r, z1) → W p l e ({ frames := 1, cells := 0, slots := 0, locals := 22 } : Room) s m args below meth c H locs 0 0 QQ (F0 m 142 ls [])) ∧ (∀ (x1 : Int32) (x2 : Int32) (x3 : Int32) (x4 : Int32) (x5 : Int32) (x6 : Int32) (x7 : Int32) (z : ow_MS) (H : Heap) (locs : List Loc) (ls : Array Slot), tw_M D vwCl mX q s.heap u z H locs → lv_has ls 8 [(0, .ref (u 0)), (1, .int x1), (2, .int x2), (3, .int x3), (4, .int x4)] → q_X13_reduced K k 5 x1 x2 x3 x4 x5 x6 x7 z = some (r, z1) → W p l e ({ frames := 1, cells := 0, slots := 0, locals := 22 } : Room) s m args below meth c H locs 0 0 QQ (F0 m 204 ls [])) := by
    intro k
    induction k with
    | zero => exact ⟨fun _ _ _ _ _ _ _ _ _ _ _  _ _ hq => tw_no hq, fun _ _ _ _ _ _ _ _ _ _ _  _ _ hq => tw_no hq, fun _ _ _ _ _ _ _ _ _ _ _  _ _ hq => tw_no hq, fun _ _ _ _ _ _ _ _ _ _ _  _ _ hq => tw_no hq, fun _ _ _ _ _ _ _ _ _ _ _  _ _ hq => tw_no hq, fun _ _ _ _ _ _ _ _ _ _ _  _ _ hq => tw_no hq⟩
    | succ k ih =>
      obtain ⟨ih_0, ih_1, ih_2, ih_3, ih_4, ih_5⟩ := ih
      refine ⟨?_, ?_, ?_, ?_, ?_, ?_⟩
      · intro x1 x2 x3 x4 x5 x6 x7 z H locs ls  hM hl hq
        have hq : qm_X13_reduced_0 K (q_X13_reduced K k) x1 x2 x3 x4 x5 x6 x7 z = some (r, z1) := hq
        unfold qm_X13_reduced_0 at hq
        refine lv_iconst (v := 0) hx hb dmX13_reduced_0 (by decide) ?_
        refine lv_istore_n (lv' := [(3, .int 0), (0, .ref (u 0)), (1, .int x1), (2, .int x2)]) hx hb dmX13_reduced_1 rfl hl (by decide) rfl (fun ls hl => ?_)
        exact ih_1 x1 x2 0 0 0 0 0 z H locs ls hM (lv_sub hl [1, 2, 3, 0] rfl) hq
      · intro x1 x2 x3 x4 x5 x6 x7 z H locs ls  hM hl hq
        have hq : qm_X13_reduced_1 K (q_X13_reduced K k) x1 x2 x3 x4 x5 x6 x7 z = some (r, z1) := hq
        unfold qm_X13_reduced_1 at hq
        refine lv_iload_n hx hb dmX13_reduced_2 rfl (lv_at hl 3 rfl) ?_
        refine lv_iload_n hx hb dmX13_reduced_3 rfl (lv_at hl 1 rfl) ?_
        refine lv_icmp_ge (tgt := 210) hx hb dmX13_reduced_4 (by decide) (fun hc => ?_) (fun hc => ?_)
        · have hq := tw_it hq hc
          refine lv_iconst (v := 0) hx hb dmX13_reduced_210 (by decide) ?_
          obtain ⟨hz, hq⟩ := tw_gZ hq
          exact mw_zret hx hb hr hlocks hM hz hq hQQ dmX13_reduced_211
        · have hq := tw_if hq hc
          refine lv_aload_n hx hb dmX13_reduced_7 rfl (lv_at hl 0 rfl) ?_
          refine mg13_307 hx hb hT hown hK hM dmX13_reduced_8 ?_
          refine lv_iload_n hx hb dmX13_reduced_11 rfl (lv_at hl 3 rfl) ?_
          refine tw_iald mX_ok hx hb hK hM mr_89 hq dmX13_reduced_12 (fun v1 hq => ?_)
          refine lv_iload_n hx hb dmX13_reduced_13 rfl (lv_at hl 2 rfl) ?_
          obtain ⟨hz, hq⟩ := tw_nzI hq
          refine lv_irem hx hb dmX13_reduced_14 hz ?_
          refine lv_istore (lv' := [(4, .int (v1 - v1 / x2 * x2)), (0, .ref (u 0)), (1, .int x1), (2, .int x2), (3, .int x3)]) hx hb dmX13_reduced_15 hl (by decide) rfl (fun ls hl => ?_)
          refine lv_aload_n hx hb dmX13_reduced_17 rfl (lv_at hl 1 rfl) ?_
          refine mg13_307 hx hb hT hown hK hM dmX13_reduced_18 ?_
          refine lv_iload_n hx hb dmX13_reduced_21 rfl (lv_at hl 4 rfl) ?_
          refine lv_iload hx hb dmX13_reduced_22 (lv_at hl 0 rfl) ?_
          refine tw_iast mX_ok hU hx hb hK hM mr_89 hq dmX13_reduced_24 (fun z2 H locs hM hq => ?_)
          refine lv_iload hx hb dmX13_reduced_25 (lv_at hl 0 rfl) ?_
          refine lv_if_eq (tgt := 204) hx hb dmX13_reduced_27 (by decide) (fun hc => ?_) (fun hc => ?_)
          · have hq := tw_it hq hc
            exact ih_5 x1 x2 x3 (v1 - v1 / x2 * x2) 0 0 0 z2 H locs ls hM (lv_sub hl [1, 2, 3, 4, 0] rfl) hq
          · have hq := tw_if hq hc
            refine lv_aload_n hx hb dmX13_reduced_30 rfl (lv_at hl 1 rfl) ?_
            refine mg13_310 hx hb hT hown hK hM dmX13_reduced_31 ?_
            refine lv_iload_n hx hb dmX13_reduced_34 rfl (lv_at hl 4 rfl) ?_
            refine tw_iald mX_ok hx hb hK hM mr_90 hq dmX13_reduced_35 (fun v3 hq => ?_)
            refine lv_iconst (v := (-1)) hx hb dmX13_reduced_36 (by decide) ?_
            refine lv_icmp_ne (tgt := 134) hx hb dmX13_reduced_37 (by decide) (fun hc => ?_) (fun hc => ?_)
            · have hq := tw_if hq hc
              refine lv_aload_n hx hb dmX13_reduced_134 rfl (lv_at hl 1 rfl) ?_
              refine mg13_310 hx hb hT hown hK hM dmX13_reduced_135 ?_
              refine lv_iload_n hx hb dmX13_reduced_138 rfl (lv_at hl 4 rfl) ?_
              refine tw_iald mX_ok hx hb hK hM mr_90 hq dmX13_reduced_139 (fun v4 hq => ?_)
              refine lv_istore (lv' := [(5, .int v4), (4, .int (v1 - v1 / x2 * x2)), (0, .ref (u 0)), (1, .int x1), (2, .int x2), (3, .int x3)]) hx hb dmX13_reduced_140 hl (by decide) rfl (fun ls hl => ?_)
              exact ih_4 x1 x2 x3 (v1 - v1 / x2 * x2) v4 0 0 z2 H locs ls hM (lv_sub hl [2, 3, 4, 5, 1, 0] rfl) hq
            · have hq := tw_it hq hc
              refine lv_iload hx hb dmX13_reduced_40 (lv_at hl 0 rfl) ?_
              refine lv_iload_n hx hb dmX13_reduced_42 rfl (lv_at hl 3 rfl) ?_
              obtain ⟨v6, z5, hcq, hq⟩ := tw_cl1 hq
              refine tw_cali hM (va_runS (As := [.int (v1 - v1 / x2 * x2), .int x2]) (rest := []) ⟨hx, hb, hml, hown, hts⟩ (km_X13_inverseOf l D q u hU K (v1 - v1 / x2 * x2) x2 z2 z5 v6 hcq) (va_cwS 2 hts (tw_gS wM_good wq_460 wq_461 wq_61 wq_448) rfl rfl rfl cd_X13_inverseOf ⟨(Nat.le_of_ble_eq_true rfl), (Nat.le_of_ble_eq_true rfl)⟩) (mw_preS hK hN hM) rfl rfl hl.1 rfl (lv_room (Nat.le_of_ble_eq_true rfl)) dmX13_reduced_43 ⟨(Nat.le_of_ble_eq_true rfl), (Nat.le_of_ble_eq_true rfl)⟩) (fun H locs hM => ?_)
              refine lv_istore (lv' := [(5, .int v6), (4, .int (v1 - v1 / x2 * x2)), (0, .ref (u 0)), (1, .int x1), (2, .int x2), (3, .int x3)]) hx hb dmX13_reduced_46 hl (by decide) rfl (fun ls hl => ?_)
              refine lv_aload_n hx hb dmX13_reduced_48 rfl (lv_at hl 2 rfl) ?_
              refine mg13_310 hx hb hT hown hK hM dmX13_reduced_49 ?_
              refine lv_iload_n hx hb dmX13_reduced_52 rfl (lv_at hl 5 rfl) ?_
              refine lv_aload_n hx hb dmX13_reduced_53 rfl (lv_at hl 2 rfl) ?_
              refine mg13_696 hx hb hT hown hK hM hq dmX13_reduced_54 (fun v7 hq => ?_)
              refine tw_iast mX_ok hU hx hb hK hM mr_90 hq dmX13_reduced_57 (fun z8 H locs hM hq => ?_)
              refine lv_iload_n hx hb dmX13_reduced_58 rfl (lv_at hl 5 rfl) ?_
              refine lv_istore (lv' := [(6, .int x3), (5, .int v6), (4, .int (v1 - v1 / x2 * x2)), (0, .ref (u 0)), (1, .int x1), (2, .int x2), (3, .int x3)]) hx hb dmX13_reduced_59 hl (by decide) rfl (fun ls hl => ?_)
              exact ih_2 x1 x2 x3 (v1 - v1 / x2 * x2) v6 x3 0 z8 H locs ls hM (lv_sub hl [3, 4, 5, 6, 2, 1, 0] rfl) hq
      · intro x1 x2 x3 x4 x5 x6 x7 z H locs ls  hM hl hq
        have hq : qm_X13_reduced_2 K (q_X13_reduced K k) x1 x2 x3 x4 x5 x6 x7 z = some (r, z1) := hq
        unfold qm_X13_reduced_2 at hq
        refine lv_iload hx hb dmX13_reduced_61 (lv_at hl 6 rfl) ?_
        refine lv_iload_n hx hb dmX13_reduced_63 rfl (lv_at hl 1 rfl) ?_
        refine lv_icmp_ge (tgt := 122) hx hb dmX13_reduced_64 (by decide) (fun hc => ?_) (fun hc => ?_)
        · have hq := tw_it hq hc
          refine lv_aload_n hx hb dmX13_reduced_122 rfl (lv_at hl 0 rfl) ?_
          refine mg13_313 hx hb hT hown hK hM dmX13_reduced_123 ?_
          refine lv_iload_n hx hb dmX13_reduced_126 rfl (lv_at hl 3 rfl) ?_
          refine lv_aload_n hx hb dmX13_reduced_127 rfl (lv_at hl 0 rfl) ?_
          refine mg13_696 hx hb hT hown hK hM hq dmX13_reduced_128 (fun v9 hq => ?_)
          refine tw_iast mX_ok hU hx hb hK hM mr_91 hq dmX13_reduced_131 (fun z10 H locs hM hq => ?_)
          refine lv_iconst (v := 1) hx hb dmX13_reduced_132 (by decide) ?_
          obtain ⟨hz, hq⟩ := tw_gZ hq
          exact mw_zret hx hb hr hlocks hM hz hq hQQ dmX13_reduced_133
        · have hq := tw_if hq hc
          refine lv_aload_n hx hb dmX13_reduced_67 rfl (lv_at hl 0 rfl) ?_
          refine mg13_307 hx hb hT hown hK hM dmX13_reduced_68 ?_
          refine lv_iload hx hb dmX13_reduced_71 (lv_at hl 6 rfl) ?_
          refine tw_iald mX_ok hx hb hK hM mr_89 hq dmX13_reduced_73 (fun v11 hq => ?_)
          refine lv_iload_n hx hb dmX13_reduced_74 rfl (lv_at hl 2 rfl) ?_
          obtain ⟨hz, hq⟩ := tw_nzI hq
          refine lv_irem hx hb dmX13_reduced_75 hz ?_
          refine lv_iload hx hb dmX13_reduced_76 (lv_at hl 5 rfl) ?_
          refine lv_imul hx hb dmX13_reduced_78 ?_
          refine lv_iload_n hx hb dmX13_reduced_79 rfl (lv_at hl 2 rfl) ?_
          obtain ⟨hz, hq⟩ := tw_nzI hq
          refine lv_irem hx hb dmX13_reduced_80 hz ?_
          refine lv_istore (lv' := [(7, .int (((v11 - v11 / x2 * x2) * x5) - ((v11 - v11 / x2 * x2) * x5) / x2 * x2)), (0, .ref (u 0)), (1, .int x1), (2, .int x2), (3, .int x3), (4, .int x4), (5, .int x5), (6, .int x6)]) hx hb dmX13_reduced_81 hl (by decide) rfl (fun ls hl => ?_)
          refine lv_iload hx hb dmX13_reduced_83 (lv_at hl 0 rfl) ?_
          refine lv_if_eq (tgt := 116) hx hb dmX13_reduced_85 (by decide) (fun hc => ?_) (fun hc => ?_)
          · have hq := tw_it hq hc
            exact ih_3 x1 x2 x3 x4 x5 x6 (((v11 - v11 / x2 * x2) * x5) - ((v11 - v11 / x2 * x2) * x5) / x2 * x2) z H locs ls hM (lv_sub hl [1, 2, 3, 4, 5, 6, 7, 0] rfl) hq
          · have hq := tw_if hq hc
            refine lv_aload_n hx hb dmX13_reduced_88 rfl (lv_at hl 1 rfl) ?_
            refine mg13_317 hx hb hT hown hK hM dmX13_reduced_89 ?_
            refine lv_aload_n hx hb dmX13_reduced_92 rfl (lv_at hl 1 rfl) ?_
            refine mg13_696 hx hb hT hown hK hM hq dmX13_reduced_93 (fun v12 hq => ?_)
            refine lv_sipush (v := 1024) hx hb dmX13_reduced_96 (by decide) ?_
            refine lv_iload hx hb dmX13_reduced_99 (lv_at hl 7 rfl) ?_
            refine lv_imul hx hb dmX13_reduced_101 ?_
            refine lv_iload hx hb dmX13_reduced_102 (lv_at hl 0 rfl) ?_
            refine lv_iadd hx hb dmX13_reduced_104 ?_
            refine tw_iast mX_ok hU hx hb hK hM mr_92 hq dmX13_reduced_105 (fun z13 H locs hM hq => ?_)
            refine lv_aload_n hx hb dmX13_reduced_106 rfl (lv_at hl 1 rfl) ?_
            refine lv_dup hx hb dmX13_reduced_107 rfl ?_
            refine mg13_696 hx hb hT hown hK hM hq dmX13_reduced_108 (fun v14 hq => ?_)
            refine lv_iconst (v := 1) hx hb dmX13_reduced_111 (by decide) ?_
            refine lv_iadd hx hb dmX13_reduced_112 ?_
            refine mp13_696 hx hb hT hown hK hM hU hq dmX13_reduced_113 (fun z15 H locs hM hq => ?_)
            exact ih_3 x1 x2 x3 x4 x5 x6 (((v11 - v11 / x2 * x2) * x5) - ((v11 - v11 / x2 * x2) * x5) / x2 * x2) z15 H locs ls hM (lv_sub hl [1, 2, 3, 4, 5, 6, 7, 0] rfl) hq
      · intro x1 x2 x3 x4 x5 x6 x7 z H locs ls  hM hl hq
        have hq : qm_X13_reduced_3 K (q_X13_reduced K k) x1 x2 x3 x4 x5 x6 x7 z = some (r, z1) := hq
        unfold qm_X13_reduced_3 at hq
        refine lv_iinc (v := (x6 + 1)) (lv' := [(6, .int (x6 + 1)), (0, .ref (u 0)), (1, .int x1), (2, .int x2), (3, .int x3), (4, .int x4), (5, .int x5), (7, .int x7)]) hx hb dmX13_reduced_116 hl (k := 6) rfl rfl (by decide) rfl (fun ls hl => ?_)
        refine lv_goto (tgt := 61) hx hb dmX13_reduced_119 (by decide) ?_
        exact ih_2 x1 x2 x3 x4 x5 (x6 + 1) 0 z H locs ls hM (lv_sub hl [1, 2, 3, 4, 5, 6, 0] rfl) hq
      · intro x1 x2 x3 x4 x5 x6 x7 z H locs ls  hM hl hq
        have hq : qm_X13_reduced_4 K (q_X13_reduced K k) x1 x2 x3 x4 x5 x6 x7 z = some (r, z1) := hq
        unfold qm_X13_reduced_4 at hq
        refine lv_iload hx hb dmX13_reduced_142 (lv_at hl 5 rfl) ?_
        refine lv_aload_n hx hb dmX13_reduced_144 rfl (lv_at hl 0 rfl) ?_
        refine mg13_313 hx hb hT hown hK hM dmX13_reduced_145 ?_
        refine lv_iload_n hx hb dmX13_reduced_148 rfl (lv_at hl 3 rfl) ?_
        refine tw_iald mX_ok hx hb hK hM mr_91 hq dmX13_reduced_149 (fun v16 hq => ?_)
        refine lv_icmp_ge (tgt := 204) hx hb dmX13_reduced_150 (by decide) (fun hc => ?_) (fun hc => ?_)
        · have hq := tw_it hq hc
          exact ih_5 x1 x2 x3 x4 0 0 0 z H locs ls hM (lv_sub hl [0, 1, 2, 3, 4] rfl) hq
        · have hq := tw_if hq hc
          refine lv_aload_n hx hb dmX13_reduced_153 rfl (lv_at hl 0 rfl) ?_
          refine mg13_317 hx hb hT hown hK hM dmX13_reduced_154 ?_
          refine lv_iload hx hb dmX13_reduced_157 (lv_at hl 5 rfl) ?_
          refine tw_iald mX_ok hx hb hK hM mr_92 hq dmX13_reduced_159 (fun v17 hq => ?_)
          refine lv_bipush (v := 10) hx hb dmX13_reduced_160 (by decide) ?_
          refine lv_ishr hx hb dmX13_reduced_162 ?_
          refine lv_istore (lv' := [(6, .int ((v17 : Int32) >>> ((10 : Int32) &&& 31))), (0, .ref (u 0)), (1, .int x1), (2, .int x2), (3, .int x3), (4, .int x4), (5, .int x5)]) hx hb dmX13_reduced_163 hl (by decide) rfl (fun ls hl => ?_)
          refine lv_aload_n hx hb dmX13_reduced_165 rfl (lv_at hl 1 rfl) ?_
          refine mg13_307 hx hb hT hown hK hM dmX13_reduced_166 ?_
          refine lv_iload hx hb dmX13_reduced_169 (lv_at hl 0 rfl) ?_
          refine lv_aload_n hx hb dmX13_reduced_171 rfl (lv_at hl 1 rfl) ?_
          refine mg13_307 hx hb hT hown hK hM dmX13_reduced_172 ?_
          refine lv_iload hx hb dmX13_reduced_175 (lv_at hl 0 rfl) ?_
          refine tw_iald mX_ok hx hb hK hM mr_89 hq dmX13_reduced_177 (fun v18 hq => ?_)
          refine lv_iload_n hx hb dmX13_reduced_178 rfl (lv_at hl 3 rfl) ?_
          refine lv_iload hx hb dmX13_reduced_179 (lv_at hl 5 rfl) ?_
          refine lv_isub hx hb dmX13_reduced_181 ?_
          refine lv_aload_n hx hb dmX13_reduced_182 rfl (lv_at hl 1 rfl) ?_
          refine mg13_317 hx hb hT hown hK hM dmX13_reduced_183 ?_
          refine lv_iload hx hb dmX13_reduced_186 (lv_at hl 6 rfl) ?_
          refine tw_iald mX_ok hx hb hK hM mr_92 hq dmX13_reduced_188 (fun v19 hq => ?_)
          refine lv_sipush (v := 1023) hx hb dmX13_reduced_189 (by decide) ?_
          refine lv_iand hx hb dmX13_reduced_192 ?_
          refine lv_imul hx hb dmX13_reduced_193 ?_
          refine lv_iadd hx hb dmX13_reduced_194 ?_
          refine lv_iload_n hx hb dmX13_reduced_195 rfl (lv_at hl 3 rfl) ?_
          obtain ⟨hz, hq⟩ := tw_nzI hq
          refine lv_irem hx hb dmX13_reduced_196 hz ?_
          refine tw_iast mX_ok hU hx hb hK hM mr_89 hq dmX13_reduced_197 (fun z20 H locs hM hq => ?_)
          refine lv_iinc (v := (x5 + 1)) (lv' := [(5, .int (x5 + 1)), (6, .int ((v17 : Int32) >>> ((10 : Int32) &&& 31))), (0, .ref (u 0)), (1, .int x1), (2, .int x2), (3, .int x3), (4, .int x4)]) hx hb dmX13_reduced_198 hl (k := 6) rfl rfl (by decide) rfl (fun ls hl => ?_)
          refine lv_goto (tgt := 142) hx hb dmX13_reduced_201 (by decide) ?_
          exact ih_4 x1 x2 x3 x4 (x5 + 1) 0 0 z20 H locs ls hM (lv_sub hl [2, 3, 4, 5, 6, 0] rfl) hq
      · intro x1 x2 x3 x4 x5 x6 x7 z H locs ls  hM hl hq
        have hq : qm_X13_reduced_5 K (q_X13_reduced K k) x1 x2 x3 x4 x5 x6 x7 z = some (r, z1) := hq
        unfold qm_X13_reduced_5 at hq
        refine lv_iinc (v := (x3 + 1)) (lv' := [(3, .int (x3 + 1)), (0, .ref (u 0)), (1, .int x1), (2, .int x2), (4, .int x4)]) hx hb dmX13_reduced_204 hl (k := 3) rfl rfl (by decide) rfl (fun ls hl => ?_)
        refine lv_goto (tgt := 2) hx hb dmX13_reduced_207 (by decide) ?_
        exact ih_1 x1 x2 (x3 + 1) 0 0 0 0 z H locs ls hM (lv_sub hl [1, 2, 3, 0] rfl) hq
  exact (key K).1 x1 x2 0 0 0 0 0 z s.heap [] ls  hM (lv_sub hl [0, 1, 2] rfl) hq
theorem dmX13_rankOf_0 : decode cX13_rankOf 0 = .ok (.aload_n 0, 1) := dw_at cX13_rankOf_k0 (p := 0) rfl (by decide +kernel)
theorem dmX13_rankOf_1 : decode cX13_rankOf 1 = .ok (.getfield 298, 3) := dw_at cX13_rankOf_k0 (p := 1) rfl (by decide +kernel)
theorem dmX13_rankOf_4 : decode cX13_rankOf 4 = .ok (.bipush 80, 2) := dw_at cX13_rankOf_k0 (p := 4) rfl (by decide +kernel)
theorem dmX13_rankOf_6 : decode cX13_rankOf 6 = .ok (.iload_n 2, 1) := dw_at cX13_rankOf_k0 (p := 6) rfl (by decide +kernel)
theorem dmX13_rankOf_7 : decode cX13_rankOf 7 = .ok (.iconst 1, 1) := dw_at cX13_rankOf_k0 (p := 7) rfl (by decide +kernel)
theorem dmX13_rankOf_8 : decode cX13_rankOf 8 = .ok (.iadd, 1) := dw_at cX13_rankOf_k0 (p := 8) rfl (by decide +kernel)
theorem dmX13_rankOf_9 : decode cX13_rankOf 9 = .ok (.imul, 1) := dw_at cX13_rankOf_k0 (p := 9) rfl (by decide +kernel)
theorem dmX13_rankOf_10 : decode cX13_rankOf 10 = .ok (.iload_n 3, 1) := dw_at cX13_rankOf_k0 (p := 10) rfl (by decide +kernel)
theorem dmX13_rankOf_11 : decode cX13_rankOf 11 = .ok (.iadd, 1) := dw_at cX13_rankOf_k0 (p := 11) rfl (by decide +kernel)
theorem dmX13_rankOf_12 : decode cX13_rankOf 12 = .ok (.iaload, 1) := dw_at cX13_rankOf_k0 (p := 12) rfl (by decide +kernel)
theorem dmX13_rankOf_13 : decode cX13_rankOf 13 = .ok (.istore 5, 2) := dw_at cX13_rankOf_k0 (p := 13) rfl (by decide +kernel)
theorem dmX13_rankOf_15 : decode cX13_rankOf 15 = .ok (.iload 5, 2) := dw_at cX13_rankOf_k0 (p := 15) rfl (by decide +kernel)
theorem dmX13_rankOf_17 : decode cX13_rankOf 17 = .ok (.ifCond .eq 17, 3) := dw_at cX13_rankOf_k0 (p := 17) rfl (by decide +kernel)
theorem dmX13_rankOf_20 : decode cX13_rankOf 20 = .ok (.aload_n 0, 1) := dw_at cX13_rankOf_k0 (p := 20) rfl (by decide +kernel)
theorem dmX13_rankOf_21 : decode cX13_rankOf 21 = .ok (.getfield 298, 3) := dw_at cX13_rankOf_k0 (p := 21) rfl (by decide +kernel)
theorem dmX13_rankOf_24 : decode cX13_rankOf 24 = .ok (.bipush 80, 2) := dw_at cX13_rankOf_k1 (p := 0) rfl (by decide +kernel)
theorem dmX13_rankOf_26 : decode cX13_rankOf 26 = .ok (.iload_n 2, 1) := dw_at cX13_rankOf_k1 (p := 2) rfl (by decide +kernel)
theorem dmX13_rankOf_27 : decode cX13_rankOf 27 = .ok (.imul, 1) := dw_at cX13_rankOf_k1 (p := 3) rfl (by decide +kernel)
theorem dmX13_rankOf_28 : decode cX13_rankOf 28 = .ok (.iload_n 3, 1) := dw_at cX13_rankOf_k1 (p := 4) rfl (by decide +kernel)
theorem dmX13_rankOf_29 : decode cX13_rankOf 29 = .ok (.iadd, 1) := dw_at cX13_rankOf_k1 (p := 5) rfl (by decide +kernel)
theorem dmX13_rankOf_30 : decode cX13_rankOf 30 = .ok (.iaload, 1) := dw_at cX13_rankOf_k1 (p := 6) rfl (by decide +kernel)
theorem dmX13_rankOf_31 : decode cX13_rankOf 31 = .ok (.ifCond .ne 5, 3) := dw_at cX13_rankOf_k1 (p := 7) rfl (by decide +kernel)
theorem dmX13_rankOf_34 : decode cX13_rankOf 34 = .ok (.iconst 0, 1) := dw_at cX13_rankOf_k1 (p := 10) rfl (by decide +kernel)
theorem dmX13_rankOf_35 : decode cX13_rankOf 35 = .ok (.ireturn, 1) := dw_at cX13_rankOf_k1 (p := 11) rfl (by decide +kernel)
theorem dmX13_rankOf_36 : decode cX13_rankOf 36 = .ok (.aload_n 1, 1) := dw_at cX13_rankOf_k1 (p := 12) rfl (by decide +kernel)
theorem dmX13_rankOf_37 : decode cX13_rankOf 37 = .ok (.getfield 44, 3) := dw_at cX13_rankOf_k1 (p := 13) rfl (by decide +kernel)
theorem dmX13_rankOf_40 : decode cX13_rankOf 40 = .ok (.iconst 2, 1) := dw_at cX13_rankOf_k1 (p := 16) rfl (by decide +kernel)
theorem dmX13_rankOf_41 : decode cX13_rankOf 41 = .ok (.idiv, 1) := dw_at cX13_rankOf_k1 (p := 17) rfl (by decide +kernel)
theorem dmX13_rankOf_42 : decode cX13_rankOf 42 = .ok (.istore 6, 2) := dw_at cX13_rankOf_k1 (p := 18) rfl (by decide +kernel)
theorem dmX13_rankOf_44 : decode cX13_rankOf 44 = .ok (.iconst 0, 1) := dw_at cX13_rankOf_k1 (p := 20) rfl (by decide +kernel)
theorem dmX13_rankOf_45 : decode cX13_rankOf 45 = .ok (.istore 7, 2) := dw_at cX13_rankOf_k1 (p := 21) rfl (by decide +kernel)
theorem dmX13_rankOf_47 : decode cX13_rankOf 47 = .ok (.iload 7, 2) := dw_at cX13_rankOf_k1 (p := 23) rfl (by decide +kernel)
theorem dmX13_rankOf_49 : decode cX13_rankOf 49 = .ok (.iload 5, 2) := dw_at cX13_rankOf_k2 (p := 0) rfl (by decide +kernel)
theorem dmX13_rankOf_51 : decode cX13_rankOf 51 = .ok (.if_icmp .ge 17, 3) := dw_at cX13_rankOf_k2 (p := 2) rfl (by decide +kernel)
theorem dmX13_rankOf_54 : decode cX13_rankOf 54 = .ok (.aload_n 0, 1) := dw_at cX13_rankOf_k2 (p := 5) rfl (by decide +kernel)
theorem dmX13_rankOf_55 : decode cX13_rankOf 55 = .ok (.getfield 310, 3) := dw_at cX13_rankOf_k2 (p := 6) rfl (by decide +kernel)
theorem dmX13_rankOf_58 : decode cX13_rankOf 58 = .ok (.iload 7, 2) := dw_at cX13_rankOf_k2 (p := 9) rfl (by decide +kernel)
theorem dmX13_rankOf_60 : decode cX13_rankOf 60 = .ok (.iconst (-1), 1) := dw_at cX13_rankOf_k2 (p := 11) rfl (by decide +kernel)
theorem dmX13_rankOf_61 : decode cX13_rankOf 61 = .ok (.iastore, 1) := dw_at cX13_rankOf_k2 (p := 12) rfl (by decide +kernel)
theorem dmX13_rankOf_62 : decode cX13_rankOf 62 = .ok (.iinc 7 1, 3) := dw_at cX13_rankOf_k2 (p := 13) rfl (by decide +kernel)
theorem dmX13_rankOf_65 : decode cX13_rankOf 65 = .ok (.goto (-18), 3) := dw_at cX13_rankOf_k2 (p := 16) rfl (by decide +kernel)
theorem dmX13_rankOf_68 : decode cX13_rankOf 68 = .ok (.aload_n 0, 1) := dw_at cX13_rankOf_k2 (p := 19) rfl (by decide +kernel)
theorem dmX13_rankOf_69 : decode cX13_rankOf 69 = .ok (.iconst 0, 1) := dw_at cX13_rankOf_k2 (p := 20) rfl (by decide +kernel)
theorem dmX13_rankOf_70 : decode cX13_rankOf 70 = .ok (.putfield 696, 3) := dw_at cX13_rankOf_k2 (p := 21) rfl (by decide +kernel)
theorem dmX13_rankOf_73 : decode cX13_rankOf 73 = .ok (.iconst 0, 1) := dw_at cX13_rankOf_k3 (p := 0) rfl (by decide +kernel)
theorem dmX13_rankOf_74 : decode cX13_rankOf 74 = .ok (.istore 7, 2) := dw_at cX13_rankOf_k3 (p := 1) rfl (by decide +kernel)
theorem dmX13_rankOf_76 : decode cX13_rankOf 76 = .ok (.iconst 0, 1) := dw_at cX13_rankOf_k3 (p := 3) rfl (by decide +kernel)
theorem dmX13_rankOf_77 : decode cX13_rankOf 77 = .ok (.istore 8, 2) := dw_at cX13_rankOf_k3 (p := 4) rfl (by decide +kernel)
theorem dmX13_rankOf_79 : decode cX13_rankOf 79 = .ok (.iload 8, 2) := dw_at cX13_rankOf_k3 (p := 6) rfl (by decide +kernel)
theorem dmX13_rankOf_81 : decode cX13_rankOf 81 = .ok (.iconst 1, 1) := dw_at cX13_rankOf_k3 (p := 8) rfl (by decide +kernel)
theorem dmX13_rankOf_82 : decode cX13_rankOf 82 = .ok (.iload 6, 2) := dw_at cX13_rankOf_k3 (p := 9) rfl (by decide +kernel)
theorem dmX13_rankOf_84 : decode cX13_rankOf 84 = .ok (.ishl, 1) := dw_at cX13_rankOf_k3 (p := 11) rfl (by decide +kernel)
theorem dmX13_rankOf_85 : decode cX13_rankOf 85 = .ok (.if_icmp .ge 144, 3) := dw_at cX13_rankOf_k3 (p := 12) rfl (by decide +kernel)
theorem dmX13_rankOf_88 : decode cX13_rankOf 88 = .ok (.iconst 0, 1) := dw_at cX13_rankOf_k3 (p := 15) rfl (by decide +kernel)
theorem dmX13_rankOf_89 : decode cX13_rankOf 89 = .ok (.istore 9, 2) := dw_at cX13_rankOf_k3 (p := 16) rfl (by decide +kernel)
theorem dmX13_rankOf_91 : decode cX13_rankOf 91 = .ok (.iload 8, 2) := dw_at cX13_rankOf_k3 (p := 18) rfl (by decide +kernel)
theorem dmX13_rankOf_93 : decode cX13_rankOf 93 = .ok (.invokestatic 590, 3) := dw_at cX13_rankOf_k3 (p := 20) rfl (by decide +kernel)
theorem dmX13_rankOf_96 : decode cX13_rankOf 96 = .ok (.iload_n 2, 1) := dw_at cX13_rankOf_k3 (p := 23) rfl (by decide +kernel)
theorem dmX13_rankOf_97 : decode cX13_rankOf 97 = .ok (.if_icmp .ne 126, 3) := dw_at cX13_rankOf_k4 (p := 0) rfl (by decide +kernel)
theorem dmX13_rankOf_100 : decode cX13_rankOf 100 = .ok (.iload 9, 2) := dw_at cX13_rankOf_k4 (p := 3) rfl (by decide +kernel)
theorem dmX13_rankOf_102 : decode cX13_rankOf 102 = .ok (.iconst 1, 1) := dw_at cX13_rankOf_k4 (p := 5) rfl (by decide +kernel)
theorem dmX13_rankOf_103 : decode cX13_rankOf 103 = .ok (.aload_n 0, 1) := dw_at cX13_rankOf_k4 (p := 6) rfl (by decide +kernel)
theorem dmX13_rankOf_104 : decode cX13_rankOf 104 = .ok (.getfield 289, 3) := dw_at cX13_rankOf_k4 (p := 7) rfl (by decide +kernel)
theorem dmX13_rankOf_107 : decode cX13_rankOf 107 = .ok (.iload 8, 2) := dw_at cX13_rankOf_k4 (p := 10) rfl (by decide +kernel)
theorem dmX13_rankOf_109 : decode cX13_rankOf 109 = .ok (.iaload, 1) := dw_at cX13_rankOf_k4 (p := 12) rfl (by decide +kernel)
theorem dmX13_rankOf_110 : decode cX13_rankOf 110 = .ok (.ishl, 1) := dw_at cX13_rankOf_k4 (p := 13) rfl (by decide +kernel)
theorem dmX13_rankOf_111 : decode cX13_rankOf 111 = .ok (.if_icmp .ge 112, 3) := dw_at cX13_rankOf_k4 (p := 14) rfl (by decide +kernel)
theorem dmX13_rankOf_114 : decode cX13_rankOf 114 = .ok (.aload_n 0, 1) := dw_at cX13_rankOf_k4 (p := 17) rfl (by decide +kernel)
theorem dmX13_rankOf_115 : decode cX13_rankOf 115 = .ok (.iload 8, 2) := dw_at cX13_rankOf_k4 (p := 18) rfl (by decide +kernel)
theorem dmX13_rankOf_117 : decode cX13_rankOf 117 = .ok (.iload 9, 2) := dw_at cX13_rankOf_k4 (p := 20) rfl (by decide +kernel)
theorem dmX13_rankOf_119 : decode cX13_rankOf 119 = .ok (.iload 6, 2) := dw_at cX13_rankOf_k4 (p := 22) rfl (by decide +kernel)
theorem dmX13_rankOf_121 : decode cX13_rankOf 121 = .ok (.aload_n 0, 1) := dw_at cX13_rankOf_k5 (p := 0) rfl (by decide +kernel)
theorem dmX13_rankOf_122 : decode cX13_rankOf 122 = .ok (.getfield 690, 3) := dw_at cX13_rankOf_k5 (p := 1) rfl (by decide +kernel)
theorem dmX13_rankOf_125 : decode cX13_rankOf 125 = .ok (.isub, 1) := dw_at cX13_rankOf_k5 (p := 4) rfl (by decide +kernel)
theorem dmX13_rankOf_126 : decode cX13_rankOf 126 = .ok (.invokevirtual 693, 3) := dw_at cX13_rankOf_k5 (p := 5) rfl (by decide +kernel)
theorem dmX13_rankOf_129 : decode cX13_rankOf 129 = .ok (.iload_n 3, 1) := dw_at cX13_rankOf_k5 (p := 8) rfl (by decide +kernel)
theorem dmX13_rankOf_130 : decode cX13_rankOf 130 = .ok (.if_icmp .ne 87, 3) := dw_at cX13_rankOf_k5 (p := 9) rfl (by decide +kernel)
theorem dmX13_rankOf_133 : decode cX13_rankOf 133 = .ok (.iconst 0, 1) := dw_at cX13_rankOf_k5 (p := 12) rfl (by decide +kernel)
theorem dmX13_rankOf_134 : decode cX13_rankOf 134 = .ok (.istore 10, 2) := dw_at cX13_rankOf_k5 (p := 13) rfl (by decide +kernel)
theorem dmX13_rankOf_136 : decode cX13_rankOf 136 = .ok (.iload 10, 2) := dw_at cX13_rankOf_k5 (p := 15) rfl (by decide +kernel)
theorem dmX13_rankOf_138 : decode cX13_rankOf 138 = .ok (.iload 5, 2) := dw_at cX13_rankOf_k5 (p := 17) rfl (by decide +kernel)
theorem dmX13_rankOf_140 : decode cX13_rankOf 140 = .ok (.if_icmp .ge 17, 3) := dw_at cX13_rankOf_k5 (p := 19) rfl (by decide +kernel)
theorem dmX13_rankOf_143 : decode cX13_rankOf 143 = .ok (.aload_n 0, 1) := dw_at cX13_rankOf_k5 (p := 22) rfl (by decide +kernel)
theorem dmX13_rankOf_144 : decode cX13_rankOf 144 = .ok (.getfield 307, 3) := dw_at cX13_rankOf_k5 (p := 23) rfl (by decide +kernel)
theorem dmX13_rankOf_147 : decode cX13_rankOf 147 = .ok (.iload 10, 2) := dw_at cX13_rankOf_k6 (p := 0) rfl (by decide +kernel)
theorem dmX13_rankOf_149 : decode cX13_rankOf 149 = .ok (.iconst 0, 1) := dw_at cX13_rankOf_k6 (p := 2) rfl (by decide +kernel)
theorem dmX13_rankOf_150 : decode cX13_rankOf 150 = .ok (.iastore, 1) := dw_at cX13_rankOf_k6 (p := 3) rfl (by decide +kernel)
theorem dmX13_rankOf_151 : decode cX13_rankOf 151 = .ok (.iinc 10 1, 3) := dw_at cX13_rankOf_k6 (p := 4) rfl (by decide +kernel)
theorem dmX13_rankOf_154 : decode cX13_rankOf 154 = .ok (.goto (-18), 3) := dw_at cX13_rankOf_k6 (p := 7) rfl (by decide +kernel)
theorem dmX13_rankOf_157 : decode cX13_rankOf 157 = .ok (.iconst 0, 1) := dw_at cX13_rankOf_k6 (p := 10) rfl (by decide +kernel)
theorem dmX13_rankOf_158 : decode cX13_rankOf 158 = .ok (.istore 10, 2) := dw_at cX13_rankOf_k6 (p := 11) rfl (by decide +kernel)
theorem dmX13_rankOf_160 : decode cX13_rankOf 160 = .ok (.iload 10, 2) := dw_at cX13_rankOf_k6 (p := 13) rfl (by decide +kernel)
theorem dmX13_rankOf_162 : decode cX13_rankOf 162 = .ok (.iload 6, 2) := dw_at cX13_rankOf_k6 (p := 15) rfl (by decide +kernel)
theorem dmX13_rankOf_164 : decode cX13_rankOf 164 = .ok (.if_icmp .ge 32, 3) := dw_at cX13_rankOf_k6 (p := 17) rfl (by decide +kernel)
theorem dmX13_rankOf_167 : decode cX13_rankOf 167 = .ok (.iload 8, 2) := dw_at cX13_rankOf_k6 (p := 20) rfl (by decide +kernel)
theorem dmX13_rankOf_169 : decode cX13_rankOf 169 = .ok (.iload 10, 2) := dw_at cX13_rankOf_k6 (p := 22) rfl (by decide +kernel)
theorem dmX13_rankOf_171 : decode cX13_rankOf 171 = .ok (.ishr, 1) := dw_at cX13_rankOf_k7 (p := 0) rfl (by decide +kernel)
theorem dmX13_rankOf_172 : decode cX13_rankOf 172 = .ok (.iconst 1, 1) := dw_at cX13_rankOf_k7 (p := 1) rfl (by decide +kernel)
theorem dmX13_rankOf_173 : decode cX13_rankOf 173 = .ok (.iand, 1) := dw_at cX13_rankOf_k7 (p := 2) rfl (by decide +kernel)
theorem dmX13_rankOf_174 : decode cX13_rankOf 174 = .ok (.ifCond .ne 16, 3) := dw_at cX13_rankOf_k7 (p := 3) rfl (by decide +kernel)
theorem dmX13_rankOf_177 : decode cX13_rankOf 177 = .ok (.aload_n 0, 1) := dw_at cX13_rankOf_k7 (p := 6) rfl (by decide +kernel)
theorem dmX13_rankOf_178 : decode cX13_rankOf 178 = .ok (.aload_n 1, 1) := dw_at cX13_rankOf_k7 (p := 7) rfl (by decide +kernel)
theorem dmX13_rankOf_179 : decode cX13_rankOf 179 = .ok (.iload 8, 2) := dw_at cX13_rankOf_k7 (p := 8) rfl (by decide +kernel)
theorem dmX13_rankOf_181 : decode cX13_rankOf 181 = .ok (.iload 9, 2) := dw_at cX13_rankOf_k7 (p := 10) rfl (by decide +kernel)
theorem dmX13_rankOf_183 : decode cX13_rankOf 183 = .ok (.iload 10, 2) := dw_at cX13_rankOf_k7 (p := 12) rfl (by decide +kernel)
theorem dmX13_rankOf_185 : decode cX13_rankOf 185 = .ok (.iload 4, 2) := dw_at cX13_rankOf_k7 (p := 14) rfl (by decide +kernel)
theorem dmX13_rankOf_187 : decode cX13_rankOf 187 = .ok (.invokevirtual 699, 3) := dw_at cX13_rankOf_k7 (p := 16) rfl (by decide +kernel)
theorem dmX13_rankOf_190 : decode cX13_rankOf 190 = .ok (.iinc 10 1, 3) := dw_at cX13_rankOf_k7 (p := 19) rfl (by decide +kernel)
theorem dmX13_rankOf_193 : decode cX13_rankOf 193 = .ok (.goto (-33), 3) := dw_at cX13_rankOf_k7 (p := 22) rfl (by decide +kernel)
theorem dmX13_rankOf_196 : decode cX13_rankOf 196 = .ok (.iload 7, 2) := dw_at cX13_rankOf_k8 (p := 0) rfl (by decide +kernel)
theorem dmX13_rankOf_198 : decode cX13_rankOf 198 = .ok (.aload_n 0, 1) := dw_at cX13_rankOf_k8 (p := 2) rfl (by decide +kernel)
theorem dmX13_rankOf_199 : decode cX13_rankOf 199 = .ok (.iload 5, 2) := dw_at cX13_rankOf_k8 (p := 3) rfl (by decide +kernel)
theorem dmX13_rankOf_201 : decode cX13_rankOf 201 = .ok (.iload 4, 2) := dw_at cX13_rankOf_k8 (p := 5) rfl (by decide +kernel)
theorem dmX13_rankOf_203 : decode cX13_rankOf 203 = .ok (.invokevirtual 703, 3) := dw_at cX13_rankOf_k8 (p := 7) rfl (by decide +kernel)
theorem dmX13_rankOf_206 : decode cX13_rankOf 206 = .ok (.ifCond .eq 7, 3) := dw_at cX13_rankOf_k8 (p := 10) rfl (by decide +kernel)
theorem dmX13_rankOf_209 : decode cX13_rankOf 209 = .ok (.iconst 1, 1) := dw_at cX13_rankOf_k8 (p := 13) rfl (by decide +kernel)
theorem dmX13_rankOf_210 : decode cX13_rankOf 210 = .ok (.goto 4, 3) := dw_at cX13_rankOf_k8 (p := 14) rfl (by decide +kernel)
theorem dmX13_rankOf_213 : decode cX13_rankOf 213 = .ok (.iconst 0, 1) := dw_at cX13_rankOf_k8 (p := 17) rfl (by decide +kernel)
theorem dmX13_rankOf_214 : decode cX13_rankOf 214 = .ok (.iadd, 1) := dw_at cX13_rankOf_k8 (p := 18) rfl (by decide +kernel)
theorem dmX13_rankOf_215 : decode cX13_rankOf 215 = .ok (.istore 7, 2) := dw_at cX13_rankOf_k8 (p := 19) rfl (by decide +kernel)
theorem dmX13_rankOf_217 : decode cX13_rankOf 217 = .ok (.iinc 9 1, 3) := dw_at cX13_rankOf_k8 (p := 21) rfl (by decide +kernel)
theorem dmX13_rankOf_220 : decode cX13_rankOf 220 = .ok (.goto (-129), 3) := dw_at cX13_rankOf_k9 (p := 0) rfl (by decide +kernel)
theorem dmX13_rankOf_223 : decode cX13_rankOf 223 = .ok (.iinc 8 1, 3) := dw_at cX13_rankOf_k9 (p := 3) rfl (by decide +kernel)
theorem dmX13_rankOf_226 : decode cX13_rankOf 226 = .ok (.goto (-147), 3) := dw_at cX13_rankOf_k9 (p := 6) rfl (by decide +kernel)
theorem dmX13_rankOf_229 : decode cX13_rankOf 229 = .ok (.iload 7, 2) := dw_at cX13_rankOf_k9 (p := 9) rfl (by decide +kernel)
theorem dmX13_rankOf_231 : decode cX13_rankOf 231 = .ok (.ireturn, 1) := dw_at cX13_rankOf_k9 (p := 11) rfl (by decide +kernel)
def qm_X13_rankOf_0 (K : Nat) (go : Nat → Int32 → Int32 → Int32 → Int32 → Int32 → Int32 → Int32 → Int32 → Int32 → Nat → Int32 → Int32 → ow_MS → Option (Int32 × ow_MS)) (x2 : Int32) (x3 : Int32) (x4 : Int32) (x5 : Int32) (x6 : Int32) (x7 : Int32) (x8 : Int32) (x9 : Int32) (x10 : Int32) (r1 : Nat) (t0 : Int32) (t1 : Int32) (z : ow_MS) : Option (Int32 × ow_MS) :=
 rdI mX z 85 ((80 * (x2 + 1)) + x3) fun v1 => (if v1 = 0 then some (0, z)
 else rdI mX z 85 ((80 * x2) + x3) fun v2 => (if v2 = 0 then some (0, z)
 else rdF z (r1 + 1) fun v3 => nzI 2 (go 1 x2 x3 x4 v1 (v3 / 2) 0 0 0 0 r1 0 0 z)))
def qm_X13_rankOf_1 (K : Nat) (go : Nat → Int32 → Int32 → Int32 → Int32 → Int32 → Int32 → Int32 → Int32 → Int32 → Nat → Int32 → Int32 → ow_MS → Option (Int32 × ow_MS)) (x2 : Int32) (x3 : Int32) (x4 : Int32) (x5 : Int32) (x6 : Int32) (x7 : Int32) (x8 : Int32) (x9 : Int32) (x10 : Int32) (r1 : Nat) (t0 : Int32) (t1 : Int32) (z : ow_MS) : Option (Int32 × ow_MS) :=
 (if x5 ≤ x7 then wrF z 93 0 fun z4 => go 2 x2 x3 x4 x5 x6 0 0 0 0 r1 0 0 z4
 else wrI mX z 90 x7 (-1) fun z5 => go 1 x2 x3 x4 x5 x6 (x7 + 1) 0 0 0 r1 0 0 z5)
def qm_X13_rankOf_2 (K : Nat) (go : Nat → Int32 → Int32 → Int32 → Int32 → Int32 → Int32 → Int32 → Int32 → Int32 → Nat → Int32 → Int32 → ow_MS → Option (Int32 × ow_MS)) (x2 : Int32) (x3 : Int32) (x4 : Int32) (x5 : Int32) (x6 : Int32) (x7 : Int32) (x8 : Int32) (x9 : Int32) (x10 : Int32) (r1 : Nat) (t0 : Int32) (t1 : Int32) (z : ow_MS) : Option (Int32 × ow_MS) :=
 (if ((1 : Int32) <<< ((x6 : Int32) &&& 31)) ≤ x8 then some (x7, z)
 else go 3 x2 x3 x4 x5 x6 x7 x8 0 0 r1 0 0 z)
def qm_X13_rankOf_3 (K : Nat) (go : Nat → Int32 → Int32 → Int32 → Int32 → Int32 → Int32 → Int32 → Int32 → Int32 → Nat → Int32 → Int32 → ow_MS → Option (Int32 × ow_MS)) (x2 : Int32) (x3 : Int32) (x4 : Int32) (x5 : Int32) (x6 : Int32) (x7 : Int32) (x8 : Int32) (x9 : Int32) (x10 : Int32) (r1 : Nat) (t0 : Int32) (t1 : Int32) (z : ow_MS) : Option (Int32 × ow_MS) :=
 (if (ow_bc x8) = x2 then rdI mX z 82 x8 fun v7 => (if ((1 : Int32) <<< ((v7 : Int32) &&& 31)) ≤ x9 then go 9 x2 x3 x4 x5 x6 x7 x8 x9 0 r1 0 0 z
 else rdF z 88 fun v8 => cs1 (qe_X13_qOf K x8 x9 (x6 - v8) z) fun v10 z9 => (if v10 = x3 then go 4 x2 x3 x4 x5 x6 x7 x8 x9 0 r1 0 0 z9
 else go 8 x2 x3 x4 x5 x6 x7 x8 x9 0 r1 0 0 z9))
 else go 9 x2 x3 x4 x5 x6 x7 x8 x9 0 r1 0 0 z)
def qm_X13_rankOf_4 (K : Nat) (go : Nat → Int32 → Int32 → Int32 → Int32 → Int32 → Int32 → Int32 → Int32 → Int32 → Nat → Int32 → Int32 → ow_MS → Option (Int32 × ow_MS)) (x2 : Int32) (x3 : Int32) (x4 : Int32) (x5 : Int32) (x6 : Int32) (x7 : Int32) (x8 : Int32) (x9 : Int32) (x10 : Int32) (r1 : Nat) (t0 : Int32) (t1 : Int32) (z : ow_MS) : Option (Int32 × ow_MS) :=
 (if x5 ≤ x10 then go 5 x2 x3 x4 x5 x6 x7 x8 x9 0 r1 0 0 z
 else wrI mX z 89 x10 0 fun z11 => go 4 x2 x3 x4 x5 x6 x7 x8 x9 (x10 + 1) r1 0 0 z11)
def qm_X13_rankOf_5 (K : Nat) (go : Nat → Int32 → Int32 → Int32 → Int32 → Int32 → Int32 → Int32 → Int32 → Int32 → Nat → Int32 → Int32 → ow_MS → Option (Int32 × ow_MS)) (x2 : Int32) (x3 : Int32) (x4 : Int32) (x5 : Int32) (x6 : Int32) (x7 : Int32) (x8 : Int32) (x9 : Int32) (x10 : Int32) (r1 : Nat) (t0 : Int32) (t1 : Int32) (z : ow_MS) : Option (Int32 × ow_MS) :=
 (if x6 ≤ x10 then cs1 (qe_X13_reduced K x5 x4 z) fun v13 z12 => (if v13 = 0 then go 7 x2 x3 x4 x5 x6 x7 x8 x9 x10 r1 0 x7 z12
 else go 7 x2 x3 x4 x5 x6 x7 x8 x9 x10 r1 1 x7 z12)
 else (if (((x8 : Int32) >>> ((x10 : Int32) &&& 31)) &&& 1) = 0 then cs0 (qe_X13_step K r1 x8 x9 x10 x4 z) fun z14 => go 6 x2 x3 x4 x5 x6 x7 x8 x9 x10 r1 0 0 z14
 else go 6 x2 x3 x4 x5 x6 x7 x8 x9 x10 r1 0 0 z))
def qm_X13_rankOf_6 (K : Nat) (go : Nat → Int32 → Int32 → Int32 → Int32 → Int32 → Int32 → Int32 → Int32 → Int32 → Nat → Int32 → Int32 → ow_MS → Option (Int32 × ow_MS)) (x2 : Int32) (x3 : Int32) (x4 : Int32) (x5 : Int32) (x6 : Int32) (x7 : Int32) (x8 : Int32) (x9 : Int32) (x10 : Int32) (r1 : Nat) (t0 : Int32) (t1 : Int32) (z : ow_MS) : Option (Int32 × ow_MS) :=
 go 5 x2 x3 x4 x5 x6 x7 x8 x9 (x10 + 1) r1 0 0 z
def qm_X13_rankOf_7 (K : Nat) (go : Nat → Int32 → Int32 → Int32 → Int32 → Int32 → Int32 → Int32 → Int32 → Int32 → Nat → Int32 → Int32 → ow_MS → Option (Int32 × ow_MS)) (x2 : Int32) (x3 : Int32) (x4 : Int32) (x5 : Int32) (x6 : Int32) (x7 : Int32) (x8 : Int32) (x9 : Int32) (x10 : Int32) (r1 : Nat) (t0 : Int32) (t1 : Int32) (z : ow_MS) : Option (Int32 × ow_MS) :=
 go 8 x2 x3 x4 x5 x6 (t1 + t0) x8 x9 0 r1 0 0 z
def qm_X13_rankOf_8 (K : Nat) (go : Nat → Int32 → Int32 → Int32 → Int32 → Int32 → Int32 → Int32 → Int32 → Int32 → Nat → Int32 → Int32 → ow_MS → Option (Int32 × ow_MS)) (x2 : Int32) (x3 : Int32) (x4 : Int32) (x5 : Int32) (x6 : Int32) (x7 : Int32) (x8 : Int32) (x9 : Int32) (x10 : Int32) (r1 : Nat) (t0 : Int32) (t1 : Int32) (z : ow_MS) : Option (Int32 × ow_MS) :=
 go 3 x2 x3 x4 x5 x6 x7 x8 (x9 + 1) 0 r1 0 0 z
def qm_X13_rankOf_9 (K : Nat) (go : Nat → Int32 → Int32 → Int32 → Int32 → Int32 → Int32 → Int32 → Int32 → Int32 → Nat → Int32 → Int32 → ow_MS → Option (Int32 × ow_MS)) (x2 : Int32) (x3 : Int32) (x4 : Int32) (x5 : Int32) (x6 : Int32) (x7 : Int32) (x8 : Int32) (x9 : Int32) (x10 : Int32) (r1 : Nat) (t0 : Int32) (t1 : Int32) (z : ow_MS) : Option (Int32 × ow_MS) :=
 go 2 x2 x3 x4 x5 x6 x7 (x8 + 1) 0 0 r1 0 0 z
def qb_X13_rankOf (K : Nat) (go : Nat → Int32 → Int32 → Int32 → Int32 → Int32 → Int32 → Int32 → Int32 → Int32 → Nat → Int32 → Int32 → ow_MS → Option (Int32 × ow_MS)) (L : Nat) (x2 : Int32) (x3 : Int32) (x4 : Int32) (x5 : Int32) (x6 : Int32) (x7 : Int32) (x8 : Int32) (x9 : Int32) (x10 : Int32) (r1 : Nat) (t0 : Int32) (t1 : Int32) (z : ow_MS) : Option (Int32 × ow_MS) := match L with
  | 0 => qm_X13_rankOf_0 K go x2 x3 x4 x5 x6 x7 x8 x9 x10 r1 t0 t1 z
  | 1 => qm_X13_rankOf_1 K go x2 x3 x4 x5 x6 x7 x8 x9 x10 r1 t0 t1 z
  | 2 => qm_X13_rankOf_2 K go x2 x3 x4 x5 x6 x7 x8 x9 x10 r1 t0 t1 z
  | 3 => qm_X13_rankOf_3 K go x2 x3 x4 x5 x6 x7 x8 x9 x10 r1 t0 t1 z
  | 4 => qm_X13_rankOf_4 K go x2 x3 x4 x5 x6 x7 x8 x9 x10 r1 t0 t1 z
  | 5 => qm_X13_rankOf_5 K go x2 x3 x4 x5 x6 x7 x8 x9 x10 r1 t0 t1 z
  | 6 => qm_X13_rankOf_6 K go x2 x3 x4 x5 x6 x7 x8 x9 x10 r1 t0 t1 z
  | 7 => qm_X13_rankOf_7 K go x2 x3 x4 x5 x6 x7 x8 x9 x10 r1 t0 t1 z
  | 8 => qm_X13_rankOf_8 K go x2 x3 x4 x5 x6 x7 x8 x9 x10 r1 t0 t1 z
  | 9 => qm_X13_rankOf_9 K go x2 x3 x4 x5 x6 x7 x8 x9 x10 r1 t0 t1 z
  | _ => none
def q_X13_rankOf (K : Nat) : Nat → Nat → Int32 → Int32 → Int32 → Int32 → Int32 → Int32 → Int32 → Int32 → Int32 → Nat → Int32 → Int32 → ow_MS → Option (Int32 × ow_MS)
  | 0 => fun _ _ _ _ _ _ _ _ _ _ _ _ _ _ => none
  | k + 1 => qb_X13_rankOf K (q_X13_rankOf K k)
def qe_X13_rankOf (K : Nat) (r1 : Nat) (x2 : Int32) (x3 : Int32) (x4 : Int32) (z : ow_MS) : Option (Int32 × ow_MS) := q_X13_rankOf K K 0 x2 x3 x4 0 0 0 0 0 0 r1 0 0 z
abbrev wm_X13_rankOf : List Cond := .code yX13_rankOf cX13_rankOf 11 (some .int) :: wM
theorem cd_X13_rankOf : yX13_rankOf.cls = RX13 ∧ yX13_rankOf.cls ≠ "java/lang/invoke/MethodHandle" ∧ yX13_rankOf.cls ≠ "java/lang/invoke/VarHandle" ∧ (parseMethodDescriptor yX13_rankOf.desc).map (fun d => d.parameters.length) = some 4 := by decide +kernel
set_option maxHeartbeats 4000000 in
set_option maxRecDepth 100000 in
theorem km_X13_rankOf (l : Launch) (D : va_G) (q : ow_Q5) (u : Nat → Nat) (hU : tw_inj mX u) (K : Nat) (r1 : Nat) (x2 : Int32) (x3 : Int32) (x4 : Int32) (hr1 : mw_net r1) (z z1 : ow_MS) (r : Int32) (hq : qe_X13_rankOf K r1 x2 x3 x4 z = some (r, z1)) : Met l yX13_rankOf wm_X13_rankOf ({ frames := 3, cells := 0, slots := 0, locals := 81 } : Room) (va_Pc [.ref (u 0), .ref (u r1), .int x2, .int x3, .int x4] (mw_pre D q u z)) (va_Qi (fun x (_ : Unit) => x = r) (fun _ t => va_P D vwCl (tw mX q u z1) t.heap) (tw_A mX u)) 0 0 (tw_A mX u) := by
  refine Met.ofW (cc := cX13_rankOf) (maxL := 11) (ret := (some .int)) (by decide) rfl ?_
  intro p e s m args below meth c s₁ B hml hv
  obtain ⟨rfl, hP, hK, hN⟩ := hv
  have hx := B.exec
  have hb := B.bytes
  have hr := B.returns
  have hts := atoms_spec (ws := wm_X13_rankOf) B.pre
  have hT : ∀ w ∈ wM, w.before ([.ref (u 0), .ref (u r1), .int x2, .int x3, .int x4] : List Value).toArray s = true := fun w h => hts w (List.mem_cons_of_mem _ h)
  have hown : s.vm.findClass RX13 = some m.cls := findClass_of_methodNamed B.named
  have hlocks := B.notSynchronized
  have hM : tw_M D vwCl mX q s.heap u z s.heap [] := ⟨hP, va_S.rf⟩
  have hl := lv_entry ([.ref (u 0), .ref (u r1), .int x2, .int x3, .int x4]) (n := 11) (Nat.le_of_ble_eq_true rfl)
  rw [lg_entry_eq]
  generalize (lg_sl ([.ref (u 0), .ref (u r1), .int x2, .int x3, .int x4]) ++ List.replicate (11 - (lg_sl ([.ref (u 0), .ref (u r1), .int x2, .int x3, .int x4])).length) Slot.unset).toArray = ls at hl ⊢
  have hl : lv_has ls 11 [(0, .ref (u 0)), (1, .ref (u r1)), (2, .int x2), (3, .int x3), (4, .int x4)] := hl
  refine ow_named (fun QQ hQQ => ?_)
  generalize ([.ref (u 0), .ref (u r1), .int x2, .int x3, .int x4] : List Value).toArray = args at hts hT hQQ ⊢
  have key : ∀ k : Nat, (∀ (x2 : Int32) (x3 : Int32) (x4 : Int32) (x5 : Int32) (x6 : Int32) (x7 : Int32) (x8 : Int32) (x9 : Int32) (x10 : Int32) (r1 : Nat) (t0 : Int32) (t1 : Int32) (z : ow_MS) (H : Heap) (locs : List Loc) (ls : Array Slot), mw_net r1 → tw_M D vwCl mX q s.heap u z H locs → lv_has ls 11 [(0, .ref (u 0)), (1, .ref (u r1)), (2, .int x2), (3, .int x3), (4, .int x4)] → q_X13_rankOf K k 0 x2 x3 x4 x5 x6 x7 x8 x9 x10 r1 t0 t1 z = some (r, z1) → W p l e ({ frames := 3, cells := 0, slots := 0, locals := 81 } : Room) s m args below meth c H locs 0 0 QQ (F0 m 0 ls [])) ∧ (∀ (x2 : Int32) (x3 : Int32) (x4 : Int32) (x5 : Int32) (x6 : Int32) (x7 : Int32) (x8 : Int32) (x9 : Int32) (x10 : Int32) (r1 : Nat) (t0 : Int32) (t1 : Int32) (z : ow_MS) (H : Heap) (locs : List Loc) (ls : Array Slot), mw_net r1 → tw_M D vwCl mX q s.heap u z H locs → lv_has ls 11 [(0, .ref (u 0)), (1, .ref (u r1)), (2, .int x2), (3, .int x3), (4, .int x4), (5, .int x5), (6, .int x6), (7, .int x7)] → q_X13_rankOf K k 1 x2 x3 x4 x5 x6 x7 x8 x9 x10 r1 t0 t1 z = some (r, z1) → W p l e ({ frames := 3, cells := 0, slots := 0, locals := 81 } : Room) s m args below meth c H locs 0 0 QQ (F0 m 47 ls [])) ∧ (∀ (x2 : Int32) (x3 : Int32) (x4 : Int32) (x5 : Int32) (x6 : Int32) (x7 : Int32) (x8 : Int32) (x9 : Int32) (x10 : Int32) (r1 : Nat) (t0 : Int32) (t1 : Int32) (z : ow_MS) (H : Heap) (locs : List Loc) (ls : Array Slot), mw_net r1 → tw_M D vwCl mX q s.heap u z H locs → lv_has ls 11 [(0, .ref (u 0)), (1, .ref (u r1)), (2, .int x2), (3, .int x3), (4, .int x4), (5, .int x5), (6, .int x6), (7, .int x7), (8, .int x8)] → q_X13_rankOf K k 2 x2 x3 x4 x5 x6 x7 x8 x9 x10 r1 t0 t1 z = some (r, z1) → W p l e ({ frames := 3, cells := 0, slots := 0, locals := 81 } : Room) s m args below meth c H locs 0 0 QQ (F0 m 79 ls [])) ∧ (∀ (x2 : Int32) (x3 : Int32) (x4 : Int32) (x5 : Int32) (x6 : Int32) (x7 : Int32) (x8 : Int32) (x9 : Int32) (x10 : Int32) (r1 : Nat) (t0 : Int32) (t1 : Int32) (z : ow_MS) (H : Heap) (locs : List Loc) (ls : Array Slot), mw_net r1 → tw_M D vwCl mX q s.heap u z H locs → lv_has ls 11 [(0, .ref (u 0)), (1, .ref (u r1)), (2, .int x2), (3, .int x3), (4, .int x4), (5, .int x5), (6, .int x6), (7, .int x7), (8, .int x8), (9, .int x9)] → q_X13_rankOf K k 3 x2 x3 x4 x5 x6 x7 x8 x9 x10 r1 t0 t1 z = some (r, z1) → W p l e ({ frames := 3, cells := 0, slots := 0, locals := 81 } : Room) s m args below meth c H locs 0 0 QQ (F0 m 91 ls [])) ∧ (∀ (x2 : Int32) (x3 : Int32) (x4 : Int32) (x5 : Int32) (x6 : Int32) (x7 : Int32) (x8 : Int32) (x9 : Int32) (x10 : Int32) (r1 : Nat) (t0 : Int32) (t1 : Int32) (z : ow_MS) (H : Heap) (locs : List Loc) (ls : Array Slot), mw_net r1 → tw_M D vwCl mX q s.heap u z H locs → lv_has ls 11 [(0, .ref (u 0)), (1, .ref (u r1)), (2, .int x2), (3, .int x3), (4, .int x4), (5, .int x5), (6, .int x6), (7, .int x7), (8, .int x8), (9, .int x9), (10, .int x10)] → q_X13_rankOf K k 4 x2 x3 x4 x5 x6 x7 x8 x9 x10 r1 t0 t1 z = some (r, z1) → W p l e ({ frames := 3, cells := 0, slots := 0, locals := 81 } : Room) s m args below meth c H locs 0 0 QQ (F0 m 136 ls [])) ∧ (∀ (x2 : Int32) (x3 : Int32) (x4 : Int32) (x5 : Int32) (x6 : Int32) (x7 : Int32) (x8 : Int32) (x9 : Int32) (x10 : Int32) (r1 : Nat) (t0 : Int32) (t1 : Int32) (z : ow_MS) (H : Heap) (locs : List Loc) (ls : Array Slot), mw_net r1 → tw_M D vwCl mX q s.heap u z H locs → lv_has ls 11 [(0, .ref (u 0)), (1, .ref (u r1)), (2, .int x2), (3, .int x3), (4, .int x4), (5, .int x5), (6, .int x6), (7, .int x7), (8, .int x8), (9, .int x9), (10, .int x10)] → q_X13_rankOf K k 5 x2 x3 x4 x5 x6 x7 x8 x9 x10 r1 t0 t1 z = some (r, z1) → W p l e ({ frames := 3, cells := 0, slots := 0, locals := 81 } : Room) s m args below meth c H locs 0 0 QQ (F0 m 160 ls [])) ∧ (∀ (x2 : Int32) (x3 : Int32) (x4 : Int32) (x5 : Int32) (x6 : Int32) (x7 : Int32) (x8 : Int32) (x9 : Int32) (x10 : Int32) (r1 : Nat) (t0 : Int32) (t1 : Int32) (z : ow_MS) (H : Heap) (locs : List Loc) (ls : Array Slot), mw_net r1 → tw_M D vwCl mX q s.heap u z H locs → lv_has ls 11 [(0, .ref (u 0)), (1, .ref (u r1)), (2, .int x2), (3, .int x3), (4, .int x4), (5, .int x5), (6, .int x6), (7, .int x7), (8, .int x8), (9, .int x9), (10, .int x10)] → q_X13_rankOf K k 6 x2 x3 x4 x5 x6 x7 x8 x9 x10 r1 t0 t1 z = some (r, z1) → W p l e ({ frames := 3, cells := 0, slots := 0, locals := 81 } : Room) s m args below meth c H locs 0 0 QQ (F0 m 190 ls [])) ∧ (∀ (x2 : Int32) (x3 : Int32) (x4 : Int32) (x5 : Int32) (x6 : Int32) (x7 : Int32) (x8 : Int32) (x9 : Int32) (x10 : Int32) (r1 : Nat) (t0 : Int32) (t1 : Int32) (z : ow_MS) (H : Heap) (locs : List Loc) (ls : Array Slot), mw_net r1 → tw_M D vwCl mX q s.heap u z H locs → lv_has ls 11 [(0, .ref (u 0)), (1, .ref (u r1)), (2, .int x2), (3, .int x3), (4, .int x4), (5, .int x5), (6, .int x6), (7, .int x7), (8, .int x8), (9, .int x9), (10, .int x10)] → q_X13_rankOf K k 7 x2 x3 x4 x5 x6 x7 x8 x9 x10 r1 t0 t1 z = some (r, z1) → W p l e ({ frames := 3, cells := 0, slots := 0, locals := 81 } : Room) s m args below meth c H locs 0 0 QQ (F0 m 214 ls [.int t0, .int t1])) ∧ (∀ (x2 : Int32) (x3 : Int32) (x4 : Int32) (x5 : Int32) (x6 : Int32) (x7 : Int32) (x8 : Int32) (x9 : Int32) (x10 : Int32) (r1 : Nat) (t0 : Int32) (t1 : Int32) (z : ow_MS) (H : Heap) (locs : List Loc) (ls : Array Slot), mw_net r1 → tw_M D vwCl mX q s.heap u z H locs → lv_has ls 11 [(0, .ref (u 0)), (1, .ref (u r1)), (2, .int x2), (3, .int x3), (4, .int x4), (5, .int x5), (6, .int x6), (7, .int x7), (8, .int x8), (9, .int x9)] → q_X13_rankOf K k 8 x2 x3 x4 x5 x6 x7 x8 x9 x10 r1 t0 t1 z = some (r, z1) → W p l e ({ frames := 3, cells := 0, slots := 0, locals := 81 } : Room) s m args below meth c H locs 0 0 QQ (F0 m 217 ls [])) ∧ (∀ (x2 : Int32) (x3 : Int32) (x4 : Int32) (x5 : Int32) (x6 : Int32) (x7 : Int32) (x8 : Int32) (x9 : Int32) (x10 : Int32) (r1 : Nat) (t0 : Int32) (t1 : Int32) (z : ow_MS) (H : Heap) (locs : List Loc) (ls : Array Slot), mw_net r1 → tw_M D vwCl mX q s.heap u z H locs → lv_has ls 11 [(0, .ref (u 0)), (1, .ref (u r1)), (2, .int x2), (3, .int x3), (4, .int x4), (5, .int x5), (6, .int x6), (7, .int x7), (8, .int x8), (9, .int x9)] → q_X13_rankOf K k 9 x2 x3 x4 x5 x6 x7 x8 x9 x10 r1 t0 t1 z = some (r, z1) → W p l e ({ frames := 3, cells := 0, slots := 0, locals := 81 } : Room) s m args below meth c H locs 0 0 QQ (F0 m 223 ls [])) := by
    intro k
    induction k with
    | zero => exact ⟨fun _ _ _ _ _ _ _ _ _ _ _ _ _ _ _ _ _ _ _ hq => tw_no hq, fun _ _ _ _ _ _ _ _ _ _ _ _ _ _ _ _ _ _ _ hq => tw_no hq, fun _ _ _ _ _ _ _ _ _ _ _ _ _ _ _ _ _ _ _ hq => tw_no hq, fun _ _ _ _ _ _ _ _ _ _ _ _ _ _ _ _ _ _ _ hq => tw_no hq, fun _ _ _ _ _ _ _ _ _ _ _ _ _ _ _ _ _ _ _ hq => tw_no hq, fun _ _ _ _ _ _ _ _ _ _ _ _ _ _ _ _ _ _ _ hq => tw_no hq, fun _ _ _ _ _ _ _ _ _ _ _ _ _ _ _ _ _ _ _ hq => tw_no hq, fun _ _ _ _ _ _ _ _ _ _ _ _ _ _ _ _ _ _ _ hq => tw_no hq, fun _ _ _ _ _ _ _ _ _ _ _ _ _ _ _ _ _ _ _ hq => tw_no hq, fun _ _ _ _ _ _ _ _ _ _ _ _ _ _ _ _ _ _ _ hq => tw_no hq⟩
    | succ k ih =>
      obtain ⟨ih_0, ih_1, ih_2, ih_3, ih_4, ih_5, ih_6, ih_7, ih_8, ih_9⟩ := ih
      refine ⟨?_, ?_, ?_, ?_, ?_, ?_, ?_, ?_, ?_, ?_⟩
      · intro x2 x3 x4 x5 x6 x7 x8 x9 x10 r1 t0 t1 z H locs ls hr1 hM hl hq
        have hq : qm_X13_rankOf_0 K (q_X13_rankOf K k) x2 x3 x4 x5 x6 x7 x8 x9 x10 r1 t0 t1 z = some (r, z1) := hq
        unfold qm_X13_rankOf_0 at hq
        refine lv_aload_n hx hb dmX13_rankOf_0 rfl (lv_at hl 0 rfl) ?_
        refine mg13_298 hx hb hT hown hK hM dmX13_rankOf_1 ?_
        refine lv_bipush (v := 80) hx hb dmX13_rankOf_4 (by decide) ?_
        refine lv_iload_n hx hb dmX13_rankOf_6 rfl (lv_at hl 2 rfl) ?_
        refine lv_iconst (v := 1) hx hb dmX13_rankOf_7 (by decide) ?_
        refine lv_iadd hx hb dmX13_rankOf_8 ?_
        refine lv_imul hx hb dmX13_rankOf_9 ?_
        refine lv_iload_n hx hb dmX13_rankOf_10 rfl (lv_at hl 3 rfl) ?_
        refine lv_iadd hx hb dmX13_rankOf_11 ?_
        refine tw_iald mX_ok hx hb hK hM mr_85 hq dmX13_rankOf_12 (fun v1 hq => ?_)
        refine lv_istore (lv' := [(5, .int v1), (0, .ref (u 0)), (1, .ref (u r1)), (2, .int x2), (3, .int x3), (4, .int x4)]) hx hb dmX13_rankOf_13 hl (by decide) rfl (fun ls hl => ?_)
        refine lv_iload hx hb dmX13_rankOf_15 (lv_at hl 0 rfl) ?_
        refine lv_if_eq (tgt := 34) hx hb dmX13_rankOf_17 (by decide) (fun hc => ?_) (fun hc => ?_)
        · have hq := tw_it hq hc
          refine lv_iconst (v := 0) hx hb dmX13_rankOf_34 (by decide) ?_
          exact mw_iret hx hb hr hlocks hM hq hQQ dmX13_rankOf_35
        · have hq := tw_if hq hc
          refine lv_aload_n hx hb dmX13_rankOf_20 rfl (lv_at hl 1 rfl) ?_
          refine mg13_298 hx hb hT hown hK hM dmX13_rankOf_21 ?_
          refine lv_bipush (v := 80) hx hb dmX13_rankOf_24 (by decide) ?_
          refine lv_iload_n hx hb dmX13_rankOf_26 rfl (lv_at hl 3 rfl) ?_
          refine lv_imul hx hb dmX13_rankOf_27 ?_
          refine lv_iload_n hx hb dmX13_rankOf_28 rfl (lv_at hl 4 rfl) ?_
          refine lv_iadd hx hb dmX13_rankOf_29 ?_
          refine tw_iald mX_ok hx hb hK hM mr_85 hq dmX13_rankOf_30 (fun v2 hq => ?_)
          refine lv_if_ne (tgt := 36) hx hb dmX13_rankOf_31 (by decide) (fun hc => ?_) (fun hc => ?_)
          · have hq := tw_if hq hc
            refine lv_aload_n hx hb dmX13_rankOf_36 rfl (lv_at hl 2 rfl) ?_
            refine mg13_44 hx hb hT hown hK hM hN hr1 hq dmX13_rankOf_37 (fun v3 hq => ?_)
            refine lv_iconst (v := 2) hx hb dmX13_rankOf_40 (by decide) ?_
            obtain ⟨hz, hq⟩ := tw_nzI hq
            refine lv_idiv hx hb dmX13_rankOf_41 hz ?_
            refine lv_istore (lv' := [(6, .int (v3 / 2)), (5, .int v1), (0, .ref (u 0)), (1, .ref (u r1)), (2, .int x2), (3, .int x3), (4, .int x4)]) hx hb dmX13_rankOf_42 hl (by decide) rfl (fun ls hl => ?_)
            refine lv_iconst (v := 0) hx hb dmX13_rankOf_44 (by decide) ?_
            refine lv_istore (lv' := [(7, .int 0), (6, .int (v3 / 2)), (5, .int v1), (0, .ref (u 0)), (1, .ref (u r1)), (2, .int x2), (3, .int x3), (4, .int x4)]) hx hb dmX13_rankOf_45 hl (by decide) rfl (fun ls hl => ?_)
            exact ih_1 x2 x3 x4 v1 (v3 / 2) 0 0 0 0 r1 0 0 z H locs ls hr1 hM (lv_sub hl [3, 4, 5, 6, 7, 2, 1, 0] rfl) hq
          · have hq := tw_it hq hc
            refine lv_iconst (v := 0) hx hb dmX13_rankOf_34 (by decide) ?_
            exact mw_iret hx hb hr hlocks hM hq hQQ dmX13_rankOf_35
      · intro x2 x3 x4 x5 x6 x7 x8 x9 x10 r1 t0 t1 z H locs ls hr1 hM hl hq
        have hq : qm_X13_rankOf_1 K (q_X13_rankOf K k) x2 x3 x4 x5 x6 x7 x8 x9 x10 r1 t0 t1 z = some (r, z1) := hq
        unfold qm_X13_rankOf_1 at hq
        refine lv_iload hx hb dmX13_rankOf_47 (lv_at hl 7 rfl) ?_
        refine lv_iload hx hb dmX13_rankOf_49 (lv_at hl 5 rfl) ?_
        refine lv_icmp_ge (tgt := 68) hx hb dmX13_rankOf_51 (by decide) (fun hc => ?_) (fun hc => ?_)
        · have hq := tw_it hq hc
          refine lv_aload_n hx hb dmX13_rankOf_68 rfl (lv_at hl 0 rfl) ?_
          refine lv_iconst (v := 0) hx hb dmX13_rankOf_69 (by decide) ?_
          refine mp13_696 hx hb hT hown hK hM hU hq dmX13_rankOf_70 (fun z4 H locs hM hq => ?_)
          refine lv_iconst (v := 0) hx hb dmX13_rankOf_73 (by decide) ?_
          refine lv_istore (lv' := [(7, .int 0), (0, .ref (u 0)), (1, .ref (u r1)), (2, .int x2), (3, .int x3), (4, .int x4), (5, .int x5), (6, .int x6)]) hx hb dmX13_rankOf_74 hl (by decide) rfl (fun ls hl => ?_)
          refine lv_iconst (v := 0) hx hb dmX13_rankOf_76 (by decide) ?_
          refine lv_istore (lv' := [(8, .int 0), (7, .int 0), (0, .ref (u 0)), (1, .ref (u r1)), (2, .int x2), (3, .int x3), (4, .int x4), (5, .int x5), (6, .int x6)]) hx hb dmX13_rankOf_77 hl (by decide) rfl (fun ls hl => ?_)
          exact ih_2 x2 x3 x4 x5 x6 0 0 0 0 r1 0 0 z4 H locs ls hr1 hM (lv_sub hl [2, 3, 4, 5, 6, 7, 8, 1, 0] rfl) hq
        · have hq := tw_if hq hc
          refine lv_aload_n hx hb dmX13_rankOf_54 rfl (lv_at hl 0 rfl) ?_
          refine mg13_310 hx hb hT hown hK hM dmX13_rankOf_55 ?_
          refine lv_iload hx hb dmX13_rankOf_58 (lv_at hl 7 rfl) ?_
          refine lv_iconst (v := (-1)) hx hb dmX13_rankOf_60 (by decide) ?_
          refine tw_iast mX_ok hU hx hb hK hM mr_90 hq dmX13_rankOf_61 (fun z5 H locs hM hq => ?_)
          refine lv_iinc (v := (x7 + 1)) (lv' := [(7, .int (x7 + 1)), (0, .ref (u 0)), (1, .ref (u r1)), (2, .int x2), (3, .int x3), (4, .int x4), (5, .int x5), (6, .int x6)]) hx hb dmX13_rankOf_62 hl (k := 7) rfl rfl (by decide) rfl (fun ls hl => ?_)
          refine lv_goto (tgt := 47) hx hb dmX13_rankOf_65 (by decide) ?_
          exact ih_1 x2 x3 x4 x5 x6 (x7 + 1) 0 0 0 r1 0 0 z5 H locs ls hr1 hM (lv_sub hl [1, 2, 3, 4, 5, 6, 7, 0] rfl) hq
      · intro x2 x3 x4 x5 x6 x7 x8 x9 x10 r1 t0 t1 z H locs ls hr1 hM hl hq
        have hq : qm_X13_rankOf_2 K (q_X13_rankOf K k) x2 x3 x4 x5 x6 x7 x8 x9 x10 r1 t0 t1 z = some (r, z1) := hq
        unfold qm_X13_rankOf_2 at hq
        refine lv_iload hx hb dmX13_rankOf_79 (lv_at hl 8 rfl) ?_
        refine lv_iconst (v := 1) hx hb dmX13_rankOf_81 (by decide) ?_
        refine lv_iload hx hb dmX13_rankOf_82 (lv_at hl 6 rfl) ?_
        refine lv_ishl hx hb dmX13_rankOf_84 ?_
        refine lv_icmp_ge (tgt := 229) hx hb dmX13_rankOf_85 (by decide) (fun hc => ?_) (fun hc => ?_)
        · have hq := tw_it hq hc
          refine lv_iload hx hb dmX13_rankOf_229 (lv_at hl 7 rfl) ?_
          exact mw_iret hx hb hr hlocks hM hq hQQ dmX13_rankOf_231
        · have hq := tw_if hq hc
          refine lv_iconst (v := 0) hx hb dmX13_rankOf_88 (by decide) ?_
          refine lv_istore (lv' := [(9, .int 0), (0, .ref (u 0)), (1, .ref (u r1)), (2, .int x2), (3, .int x3), (4, .int x4), (5, .int x5), (6, .int x6), (7, .int x7), (8, .int x8)]) hx hb dmX13_rankOf_89 hl (by decide) rfl (fun ls hl => ?_)
          exact ih_3 x2 x3 x4 x5 x6 x7 x8 0 0 r1 0 0 z H locs ls hr1 hM (lv_sub hl [1, 2, 3, 4, 5, 6, 7, 8, 9, 0] rfl) hq
      · intro x2 x3 x4 x5 x6 x7 x8 x9 x10 r1 t0 t1 z H locs ls hr1 hM hl hq
        have hq : qm_X13_rankOf_3 K (q_X13_rankOf K k) x2 x3 x4 x5 x6 x7 x8 x9 x10 r1 t0 t1 z = some (r, z1) := hq
        unfold qm_X13_rankOf_3 at hq
        refine lv_iload hx hb dmX13_rankOf_91 (lv_at hl 8 rfl) ?_
        refine mw_pure hM (va_runS (As := [.int x8]) (rest := []) ⟨hx, hb, hml, hown, hts⟩ (k_J6_bitCount_0f7a4 l x8) (va_cwS 1 hts (mw_gbc wq_307) rfl rfl rfl (by decide +kernel) ⟨(Nat.le_of_ble_eq_true rfl), (Nat.le_of_ble_eq_true rfl)⟩) ⟨fun a U g mk q => q, fun U hU hW => ⟨rfl, trivial⟩⟩ rfl rfl hl.1 rfl (lv_room (Nat.le_of_ble_eq_true rfl)) dmX13_rankOf_93 ⟨(Nat.le_of_ble_eq_true rfl), (Nat.le_of_ble_eq_true rfl)⟩) (fun H locs hM => ?_)
        refine lv_iload_n hx hb dmX13_rankOf_96 rfl (lv_at hl 2 rfl) ?_
        refine lv_icmp_ne (tgt := 223) hx hb dmX13_rankOf_97 (by decide) (fun hc => ?_) (fun hc => ?_)
        · have hq := tw_if hq hc
          exact ih_9 x2 x3 x4 x5 x6 x7 x8 x9 0 r1 0 0 z H locs ls hr1 hM (lv_sub hl [0, 1, 2, 3, 4, 5, 6, 7, 8, 9] rfl) hq
        · have hq := tw_it hq hc
          refine lv_iload hx hb dmX13_rankOf_100 (lv_at hl 9 rfl) ?_
          refine lv_iconst (v := 1) hx hb dmX13_rankOf_102 (by decide) ?_
          refine lv_aload_n hx hb dmX13_rankOf_103 rfl (lv_at hl 0 rfl) ?_
          refine mg13_289 hx hb hT hown hK hM dmX13_rankOf_104 ?_
          refine lv_iload hx hb dmX13_rankOf_107 (lv_at hl 8 rfl) ?_
          refine tw_iald mX_ok hx hb hK hM mr_82 hq dmX13_rankOf_109 (fun v7 hq => ?_)
          refine lv_ishl hx hb dmX13_rankOf_110 ?_
          refine lv_icmp_ge (tgt := 223) hx hb dmX13_rankOf_111 (by decide) (fun hc => ?_) (fun hc => ?_)
          · have hq := tw_it hq hc
            exact ih_9 x2 x3 x4 x5 x6 x7 x8 x9 0 r1 0 0 z H locs ls hr1 hM (lv_sub hl [0, 1, 2, 3, 4, 5, 6, 7, 8, 9] rfl) hq
          · have hq := tw_if hq hc
            refine lv_aload_n hx hb dmX13_rankOf_114 rfl (lv_at hl 0 rfl) ?_
            refine lv_iload hx hb dmX13_rankOf_115 (lv_at hl 8 rfl) ?_
            refine lv_iload hx hb dmX13_rankOf_117 (lv_at hl 9 rfl) ?_
            refine lv_iload hx hb dmX13_rankOf_119 (lv_at hl 6 rfl) ?_
            refine lv_aload_n hx hb dmX13_rankOf_121 rfl (lv_at hl 0 rfl) ?_
            refine mg13_690 hx hb hT hown hK hM hq dmX13_rankOf_122 (fun v8 hq => ?_)
            refine lv_isub hx hb dmX13_rankOf_125 ?_
            obtain ⟨v10, z9, hcq, hq⟩ := tw_cl1 hq
            refine tw_cali hM (va_runV (As := [.int x8, .int x9, .int (x6 - v8)]) (rest := []) ⟨hx, hb, hml, hown, hts⟩ (km_X13_qOf l D q u hU K x8 x9 (x6 - v8) z z9 v10 hcq) (cwV 3 hts (tw_gV wM_good wq_442 wq_443 wq_444 wq_61 wq_437) rfl rfl rfl cd_X13_qOf ⟨(Nat.le_of_ble_eq_true rfl), (Nat.le_of_ble_eq_true rfl)⟩) (mw_preV hK hN hM mo_0 rfl) rfl rfl hl.1 rfl (lv_room (Nat.le_of_ble_eq_true rfl)) dmX13_rankOf_126 ⟨(Nat.le_of_ble_eq_true rfl), (Nat.le_of_ble_eq_true rfl)⟩) (fun H locs hM => ?_)
            refine lv_iload_n hx hb dmX13_rankOf_129 rfl (lv_at hl 3 rfl) ?_
            refine lv_icmp_ne (tgt := 217) hx hb dmX13_rankOf_130 (by decide) (fun hc => ?_) (fun hc => ?_)
            · have hq := tw_if hq hc
              exact ih_8 x2 x3 x4 x5 x6 x7 x8 x9 0 r1 0 0 z9 H locs ls hr1 hM (lv_sub hl [0, 1, 2, 3, 4, 5, 6, 7, 8, 9] rfl) hq
            · have hq := tw_it hq hc
              refine lv_iconst (v := 0) hx hb dmX13_rankOf_133 (by decide) ?_
              refine lv_istore (lv' := [(10, .int 0), (0, .ref (u 0)), (1, .ref (u r1)), (2, .int x2), (3, .int x3), (4, .int x4), (5, .int x5), (6, .int x6), (7, .int x7), (8, .int x8), (9, .int x9)]) hx hb dmX13_rankOf_134 hl (by decide) rfl (fun ls hl => ?_)
              exact ih_4 x2 x3 x4 x5 x6 x7 x8 x9 0 r1 0 0 z9 H locs ls hr1 hM (lv_sub hl [1, 2, 3, 4, 5, 6, 7, 8, 9, 10, 0] rfl) hq
      · intro x2 x3 x4 x5 x6 x7 x8 x9 x10 r1 t0 t1 z H locs ls hr1 hM hl hq
        have hq : qm_X13_rankOf_4 K (q_X13_rankOf K k) x2 x3 x4 x5 x6 x7 x8 x9 x10 r1 t0 t1 z = some (r, z1) := hq
        unfold qm_X13_rankOf_4 at hq
        refine lv_iload hx hb dmX13_rankOf_136 (lv_at hl 10 rfl) ?_
        refine lv_iload hx hb dmX13_rankOf_138 (lv_at hl 5 rfl) ?_
        refine lv_icmp_ge (tgt := 157) hx hb dmX13_rankOf_140 (by decide) (fun hc => ?_) (fun hc => ?_)
        · have hq := tw_it hq hc
          refine lv_iconst (v := 0) hx hb dmX13_rankOf_157 (by decide) ?_
          refine lv_istore (lv' := [(10, .int 0), (0, .ref (u 0)), (1, .ref (u r1)), (2, .int x2), (3, .int x3), (4, .int x4), (5, .int x5), (6, .int x6), (7, .int x7), (8, .int x8), (9, .int x9)]) hx hb dmX13_rankOf_158 hl (by decide) rfl (fun ls hl => ?_)
          exact ih_5 x2 x3 x4 x5 x6 x7 x8 x9 0 r1 0 0 z H locs ls hr1 hM (lv_sub hl [1, 2, 3, 4, 5, 6, 7, 8, 9, 10, 0] rfl) hq
        · have hq := tw_if hq hc
          refine lv_aload_n hx hb dmX13_rankOf_143 rfl (lv_at hl 0 rfl) ?_
          refine mg13_307 hx hb hT hown hK hM dmX13_rankOf_144 ?_
          refine lv_iload hx hb dmX13_rankOf_147 (lv_at hl 10 rfl) ?_
          refine lv_iconst (v := 0) hx hb dmX13_rankOf_149 (by decide) ?_
          refine tw_iast mX_ok hU hx hb hK hM mr_89 hq dmX13_rankOf_150 (fun z11 H locs hM hq => ?_)
          refine lv_iinc (v := (x10 + 1)) (lv' := [(10, .int (x10 + 1)), (0, .ref (u 0)), (1, .ref (u r1)), (2, .int x2), (3, .int x3), (4, .int x4), (5, .int x5), (6, .int x6), (7, .int x7), (8, .int x8), (9, .int x9)]) hx hb dmX13_rankOf_151 hl (k := 10) rfl rfl (by decide) rfl (fun ls hl => ?_)
          refine lv_goto (tgt := 136) hx hb dmX13_rankOf_154 (by decide) ?_
          exact ih_4 x2 x3 x4 x5 x6 x7 x8 x9 (x10 + 1) r1 0 0 z11 H locs ls hr1 hM (lv_sub hl [1, 2, 3, 4, 5, 6, 7, 8, 9, 10, 0] rfl) hq
      · intro x2 x3 x4 x5 x6 x7 x8 x9 x10 r1 t0 t1 z H locs ls hr1 hM hl hq
        have hq : qm_X13_rankOf_5 K (q_X13_rankOf K k) x2 x3 x4 x5 x6 x7 x8 x9 x10 r1 t0 t1 z = some (r, z1) := hq
        unfold qm_X13_rankOf_5 at hq
        refine lv_iload hx hb dmX13_rankOf_160 (lv_at hl 10 rfl) ?_
        refine lv_iload hx hb dmX13_rankOf_162 (lv_at hl 6 rfl) ?_
        refine lv_icmp_ge (tgt := 196) hx hb dmX13_rankOf_164 (by decide) (fun hc => ?_) (fun hc => ?_)
        · have hq := tw_it hq hc
          refine lv_iload hx hb dmX13_rankOf_196 (lv_at hl 7 rfl) ?_
          refine lv_aload_n hx hb dmX13_rankOf_198 rfl (lv_at hl 0 rfl) ?_
          refine lv_iload hx hb dmX13_rankOf_199 (lv_at hl 5 rfl) ?_
          refine lv_iload hx hb dmX13_rankOf_201 (lv_at hl 4 rfl) ?_
          obtain ⟨v13, z12, hcq, hq⟩ := tw_cl1 hq
          refine tw_cali hM (va_runV (As := [.int x5, .int x4]) (rest := [.int x7]) ⟨hx, hb, hml, hown, hts⟩ (km_X13_reduced l D q u hU K x5 x4 z z12 v13 hcq) (cwV 2 hts (tw_gV wM_good wq_454 wq_455 wq_456 wq_61 wq_457) rfl rfl rfl cd_X13_reduced ⟨(Nat.le_of_ble_eq_true rfl), (Nat.le_of_ble_eq_true rfl)⟩) (mw_preV hK hN hM mo_0 rfl) rfl rfl hl.1 rfl (lv_room (Nat.le_of_ble_eq_true rfl)) dmX13_rankOf_203 ⟨(Nat.le_of_ble_eq_true rfl), (Nat.le_of_ble_eq_true rfl)⟩) (fun H locs hM => ?_)
          refine lv_if_eq (tgt := 213) hx hb dmX13_rankOf_206 (by decide) (fun hc => ?_) (fun hc => ?_)
          · have hq := tw_it hq hc
            refine lv_iconst (v := 0) hx hb dmX13_rankOf_213 (by decide) ?_
            exact ih_7 x2 x3 x4 x5 x6 x7 x8 x9 x10 r1 0 x7 z12 H locs ls hr1 hM (lv_sub hl [0, 1, 2, 3, 4, 5, 6, 7, 8, 9, 10] rfl) hq
          · have hq := tw_if hq hc
            refine lv_iconst (v := 1) hx hb dmX13_rankOf_209 (by decide) ?_
            refine lv_goto (tgt := 214) hx hb dmX13_rankOf_210 (by decide) ?_
            exact ih_7 x2 x3 x4 x5 x6 x7 x8 x9 x10 r1 1 x7 z12 H locs ls hr1 hM (lv_sub hl [0, 1, 2, 3, 4, 5, 6, 7, 8, 9, 10] rfl) hq
        · have hq := tw_if hq hc
          refine lv_iload hx hb dmX13_rankOf_167 (lv_at hl 8 rfl) ?_
          refine lv_iload hx hb dmX13_rankOf_169 (lv_at hl 10 rfl) ?_
          refine lv_ishr hx hb dmX13_rankOf_171 ?_
          refine lv_iconst (v := 1) hx hb dmX13_rankOf_172 (by decide) ?_
          refine lv_iand hx hb dmX13_rankOf_173 ?_
          refine lv_if_ne (tgt := 190) hx hb dmX13_rankOf_174 (by decide) (fun hc => ?_) (fun hc => ?_)
          · have hq := tw_if hq hc
            exact ih_6 x2 x3 x4 x5 x6 x7 x8 x9 x10 r1 0 0 z H locs ls hr1 hM (lv_sub hl [0, 1, 2, 3, 4, 5, 6, 7, 8, 9, 10] rfl) hq
          · have hq := tw_it hq hc
            refine lv_aload_n hx hb dmX13_rankOf_177 rfl (lv_at hl 0 rfl) ?_
            refine lv_aload_n hx hb dmX13_rankOf_178 rfl (lv_at hl 1 rfl) ?_
            refine lv_iload hx hb dmX13_rankOf_179 (lv_at hl 8 rfl) ?_
            refine lv_iload hx hb dmX13_rankOf_181 (lv_at hl 9 rfl) ?_
            refine lv_iload hx hb dmX13_rankOf_183 (lv_at hl 10 rfl) ?_
            refine lv_iload hx hb dmX13_rankOf_185 (lv_at hl 4 rfl) ?_
            obtain ⟨z14, hcq, hq⟩ := tw_cl0 hq
            refine tw_calv hM (va_runV (As := [.ref (u r1), .int x8, .int x9, .int x10, .int x4]) (rest := []) ⟨hx, hb, hml, hown, hts⟩ (km_X13_step l D q u hU K r1 x8 x9 x10 x4 hr1 z z14 hcq) (cwV 5 hts (tw_gV wM_good wq_451 wq_452 wq_453 wq_61 wq_447) rfl rfl rfl cd_X13_step ⟨(Nat.le_of_ble_eq_true rfl), (Nat.le_of_ble_eq_true rfl)⟩) (mw_preV hK hN hM mo_0 rfl) rfl rfl hl.1 rfl (lv_room (Nat.le_of_ble_eq_true rfl)) dmX13_rankOf_187 ⟨(Nat.le_of_ble_eq_true rfl), (Nat.le_of_ble_eq_true rfl)⟩) (fun H locs hM => ?_)
            exact ih_6 x2 x3 x4 x5 x6 x7 x8 x9 x10 r1 0 0 z14 H locs ls hr1 hM (lv_sub hl [0, 1, 2, 3, 4, 5, 6, 7, 8, 9, 10] rfl) hq
      · intro x2 x3 x4 x5 x6 x7 x8 x9 x10 r1 t0 t1 z H locs ls hr1 hM hl hq
        have hq : qm_X13_rankOf_6 K (q_X13_rankOf K k) x2 x3 x4 x5 x6 x7 x8 x9 x10 r1 t0 t1 z = some (r, z1) := hq
        unfold qm_X13_rankOf_6 at hq
        refine lv_iinc (v := (x10 + 1)) (lv' := [(10, .int (x10 + 1)), (0, .ref (u 0)), (1, .ref (u r1)), (2, .int x2), (3, .int x3), (4, .int x4), (5, .int x5), (6, .int x6), (7, .int x7), (8, .int x8), (9, .int x9)]) hx hb dmX13_rankOf_190 hl (k := 10) rfl rfl (by decide) rfl (fun ls hl => ?_)
        refine lv_goto (tgt := 160) hx hb dmX13_rankOf_193 (by decide) ?_
        exact ih_5 x2 x3 x4 x5 x6 x7 x8 x9 (x10 + 1) r1 0 0 z H locs ls hr1 hM (lv_sub hl [1, 2, 3, 4, 5, 6, 7, 8, 9, 10, 0] rfl) hq
      · intro x2 x3 x4 x5 x6 x7 x8 x9 x10 r1 t0 t1 z H locs ls hr1 hM hl hq
        have hq : qm_X13_rankOf_7 K (q_X13_rankOf K k) x2 x3 x4 x5 x6 x7 x8 x9 x10 r1 t0 t1 z = some (r, z1) := hq
        unfold qm_X13_rankOf_7 at hq
        refine lv_iadd hx hb dmX13_rankOf_214 ?_
        refine lv_istore (lv' := [(7, .int (t1 + t0)), (0, .ref (u 0)), (1, .ref (u r1)), (2, .int x2), (3, .int x3), (4, .int x4), (5, .int x5), (6, .int x6), (8, .int x8), (9, .int x9), (10, .int x10)]) hx hb dmX13_rankOf_215 hl (by decide) rfl (fun ls hl => ?_)
        exact ih_8 x2 x3 x4 x5 x6 (t1 + t0) x8 x9 0 r1 0 0 z H locs ls hr1 hM (lv_sub hl [1, 2, 3, 4, 5, 6, 7, 0, 8, 9] rfl) hq
      · intro x2 x3 x4 x5 x6 x7 x8 x9 x10 r1 t0 t1 z H locs ls hr1 hM hl hq
        have hq : qm_X13_rankOf_8 K (q_X13_rankOf K k) x2 x3 x4 x5 x6 x7 x8 x9 x10 r1 t0 t1 z = some (r, z1) := hq
        unfold qm_X13_rankOf_8 at hq
        refine lv_iinc (v := (x9 + 1)) (lv' := [(9, .int (x9 + 1)), (0, .ref (u 0)), (1, .ref (u r1)), (2, .int x2), (3, .int x3), (4, .int x4), (5, .int x5), (6, .int x6), (7, .int x7), (8, .int x8)]) hx hb dmX13_rankOf_217 hl (k := 9) rfl rfl (by decide) rfl (fun ls hl => ?_)
        refine lv_goto (tgt := 91) hx hb dmX13_rankOf_220 (by decide) ?_
        exact ih_3 x2 x3 x4 x5 x6 x7 x8 (x9 + 1) 0 r1 0 0 z H locs ls hr1 hM (lv_sub hl [1, 2, 3, 4, 5, 6, 7, 8, 9, 0] rfl) hq
      · intro x2 x3 x4 x5 x6 x7 x8 x9 x10 r1 t0 t1 z H locs ls hr1 hM hl hq
        have hq : qm_X13_rankOf_9 K (q_X13_rankOf K k) x2 x3 x4 x5 x6 x7 x8 x9 x10 r1 t0 t1 z = some (r, z1) := hq
        unfold qm_X13_rankOf_9 at hq
        refine lv_iinc (v := (x8 + 1)) (lv' := [(8, .int (x8 + 1)), (0, .ref (u 0)), (1, .ref (u r1)), (2, .int x2), (3, .int x3), (4, .int x4), (5, .int x5), (6, .int x6), (7, .int x7), (9, .int x9)]) hx hb dmX13_rankOf_223 hl (k := 8) rfl rfl (by decide) rfl (fun ls hl => ?_)
        refine lv_goto (tgt := 79) hx hb dmX13_rankOf_226 (by decide) ?_
        exact ih_2 x2 x3 x4 x5 x6 x7 (x8 + 1) 0 0 r1 0 0 z H locs ls hr1 hM (lv_sub hl [1, 2, 3, 4, 5, 6, 7, 8, 0] rfl) hq
  exact (key K).1 x2 x3 x4 0 0 0 0 0 0 r1 0 0 z s.heap [] ls hr1 hM (lv_sub hl [0, 1, 2, 3, 4] rfl) hq
theorem dmX13_isPrime_0 : decode cX13_isPrime 0 = .ok (.iload_n 0, 1) := dw_at cX13_isPrime_k0 (p := 0) rfl (by decide +kernel)
theorem dmX13_isPrime_1 : decode cX13_isPrime 1 = .ok (.iconst 2, 1) := dw_at cX13_isPrime_k0 (p := 1) rfl (by decide +kernel)
theorem dmX13_isPrime_2 : decode cX13_isPrime 2 = .ok (.if_icmp .lt 14, 3) := dw_at cX13_isPrime_k0 (p := 2) rfl (by decide +kernel)
theorem dmX13_isPrime_5 : decode cX13_isPrime 5 = .ok (.iload_n 0, 1) := dw_at cX13_isPrime_k0 (p := 5) rfl (by decide +kernel)
theorem dmX13_isPrime_6 : decode cX13_isPrime 6 = .ok (.sipush 997, 3) := dw_at cX13_isPrime_k0 (p := 6) rfl (by decide +kernel)
theorem dmX13_isPrime_9 : decode cX13_isPrime 9 = .ok (.if_icmp .gt 7, 3) := dw_at cX13_isPrime_k0 (p := 9) rfl (by decide +kernel)
theorem dmX13_isPrime_12 : decode cX13_isPrime 12 = .ok (.iconst 1, 1) := dw_at cX13_isPrime_k0 (p := 12) rfl (by decide +kernel)
theorem dmX13_isPrime_13 : decode cX13_isPrime 13 = .ok (.goto 4, 3) := dw_at cX13_isPrime_k0 (p := 13) rfl (by decide +kernel)
theorem dmX13_isPrime_16 : decode cX13_isPrime 16 = .ok (.iconst 0, 1) := dw_at cX13_isPrime_k0 (p := 16) rfl (by decide +kernel)
theorem dmX13_isPrime_17 : decode cX13_isPrime 17 = .ok (.istore_n 1, 1) := dw_at cX13_isPrime_k0 (p := 17) rfl (by decide +kernel)
theorem dmX13_isPrime_18 : decode cX13_isPrime 18 = .ok (.iconst 2, 1) := dw_at cX13_isPrime_k0 (p := 18) rfl (by decide +kernel)
theorem dmX13_isPrime_19 : decode cX13_isPrime 19 = .ok (.istore_n 2, 1) := dw_at cX13_isPrime_k0 (p := 19) rfl (by decide +kernel)
theorem dmX13_isPrime_20 : decode cX13_isPrime 20 = .ok (.iload_n 1, 1) := dw_at cX13_isPrime_k0 (p := 20) rfl (by decide +kernel)
theorem dmX13_isPrime_21 : decode cX13_isPrime 21 = .ok (.ifCond .eq 28, 3) := dw_at cX13_isPrime_k0 (p := 21) rfl (by decide +kernel)
theorem dmX13_isPrime_24 : decode cX13_isPrime 24 = .ok (.iload_n 2, 1) := dw_at cX13_isPrime_k1 (p := 0) rfl (by decide +kernel)
theorem dmX13_isPrime_25 : decode cX13_isPrime 25 = .ok (.iload_n 2, 1) := dw_at cX13_isPrime_k1 (p := 1) rfl (by decide +kernel)
theorem dmX13_isPrime_26 : decode cX13_isPrime 26 = .ok (.imul, 1) := dw_at cX13_isPrime_k1 (p := 2) rfl (by decide +kernel)
theorem dmX13_isPrime_27 : decode cX13_isPrime 27 = .ok (.iload_n 0, 1) := dw_at cX13_isPrime_k1 (p := 3) rfl (by decide +kernel)
theorem dmX13_isPrime_28 : decode cX13_isPrime 28 = .ok (.if_icmp .gt 21, 3) := dw_at cX13_isPrime_k1 (p := 4) rfl (by decide +kernel)
theorem dmX13_isPrime_31 : decode cX13_isPrime 31 = .ok (.iload_n 0, 1) := dw_at cX13_isPrime_k1 (p := 7) rfl (by decide +kernel)
theorem dmX13_isPrime_32 : decode cX13_isPrime 32 = .ok (.iload_n 2, 1) := dw_at cX13_isPrime_k1 (p := 8) rfl (by decide +kernel)
theorem dmX13_isPrime_33 : decode cX13_isPrime 33 = .ok (.irem, 1) := dw_at cX13_isPrime_k1 (p := 9) rfl (by decide +kernel)
theorem dmX13_isPrime_34 : decode cX13_isPrime 34 = .ok (.ifCond .eq 7, 3) := dw_at cX13_isPrime_k1 (p := 10) rfl (by decide +kernel)
theorem dmX13_isPrime_37 : decode cX13_isPrime 37 = .ok (.iconst 1, 1) := dw_at cX13_isPrime_k1 (p := 13) rfl (by decide +kernel)
theorem dmX13_isPrime_38 : decode cX13_isPrime 38 = .ok (.goto 4, 3) := dw_at cX13_isPrime_k1 (p := 14) rfl (by decide +kernel)
theorem dmX13_isPrime_41 : decode cX13_isPrime 41 = .ok (.iconst 0, 1) := dw_at cX13_isPrime_k1 (p := 17) rfl (by decide +kernel)
theorem dmX13_isPrime_42 : decode cX13_isPrime 42 = .ok (.istore_n 1, 1) := dw_at cX13_isPrime_k1 (p := 18) rfl (by decide +kernel)
theorem dmX13_isPrime_43 : decode cX13_isPrime 43 = .ok (.iinc 2 1, 3) := dw_at cX13_isPrime_k1 (p := 19) rfl (by decide +kernel)
theorem dmX13_isPrime_46 : decode cX13_isPrime 46 = .ok (.goto (-26), 3) := dw_at cX13_isPrime_k1 (p := 22) rfl (by decide +kernel)
theorem dmX13_isPrime_49 : decode cX13_isPrime 49 = .ok (.iload_n 1, 1) := dw_at cX13_isPrime_k1 (p := 25) rfl (by decide +kernel)
theorem dmX13_isPrime_50 : decode cX13_isPrime 50 = .ok (.ireturn, 1) := dw_at cX13_isPrime_k1 (p := 26) rfl (by decide +kernel)
def qm_X13_isPrime_0 (K : Nat) (go : Nat → Int32 → Int32 → Int32 → Int32 → ow_MS → Option (Int32 × ow_MS)) (x0 : Int32) (x1 : Int32) (x2 : Int32) (t0 : Int32) (z : ow_MS) : Option (Int32 × ow_MS) :=
 (if x0 < 2 then go 1 x0 0 0 0 z
 else (if 997 < x0 then go 1 x0 0 0 0 z
 else go 2 x0 0 0 1 z))
def qm_X13_isPrime_1 (K : Nat) (go : Nat → Int32 → Int32 → Int32 → Int32 → ow_MS → Option (Int32 × ow_MS)) (x0 : Int32) (x1 : Int32) (x2 : Int32) (t0 : Int32) (z : ow_MS) : Option (Int32 × ow_MS) :=
 go 2 x0 0 0 0 z
def qm_X13_isPrime_2 (K : Nat) (go : Nat → Int32 → Int32 → Int32 → Int32 → ow_MS → Option (Int32 × ow_MS)) (x0 : Int32) (x1 : Int32) (x2 : Int32) (t0 : Int32) (z : ow_MS) : Option (Int32 × ow_MS) :=
 go 3 x0 t0 2 0 z
def qm_X13_isPrime_3 (K : Nat) (go : Nat → Int32 → Int32 → Int32 → Int32 → ow_MS → Option (Int32 × ow_MS)) (x0 : Int32) (x1 : Int32) (x2 : Int32) (t0 : Int32) (z : ow_MS) : Option (Int32 × ow_MS) :=
 (if x1 = 0 then okZ x1 (some (x1, z))
 else (if x0 < (x2 * x2) then okZ x1 (some (x1, z))
 else nzI x2 ((if (x0 - x0 / x2 * x2) = 0 then go 4 x0 x1 x2 0 z
 else go 4 x0 x1 x2 1 z))))
def qm_X13_isPrime_4 (K : Nat) (go : Nat → Int32 → Int32 → Int32 → Int32 → ow_MS → Option (Int32 × ow_MS)) (x0 : Int32) (x1 : Int32) (x2 : Int32) (t0 : Int32) (z : ow_MS) : Option (Int32 × ow_MS) :=
 go 3 x0 t0 (x2 + 1) 0 z
def qb_X13_isPrime (K : Nat) (go : Nat → Int32 → Int32 → Int32 → Int32 → ow_MS → Option (Int32 × ow_MS)) (L : Nat) (x0 : Int32) (x1 : Int32) (x2 : Int32) (t0 : Int32) (z : ow_MS) : Option (Int32 × ow_MS) := match L with
  | 0 => qm_X13_isPrime_0 K go x0 x1 x2 t0 z
  | 1 => qm_X13_isPrime_1 K go x0 x1 x2 t0 z
  | 2 => qm_X13_isPrime_2 K go x0 x1 x2 t0 z
  | 3 => qm_X13_isPrime_3 K go x0 x1 x2 t0 z
  | 4 => qm_X13_isPrime_4 K go x0 x1 x2 t0 z
  | _ => none
def q_X13_isPrime (K : Nat) : Nat → Nat → Int32 → Int32 → Int32 → Int32 → ow_MS → Option (Int32 × ow_MS)
  | 0 => fun _ _ _ _ _ _ => none
  | k + 1 => qb_X13_isPrime K (q_X13_isPrime K k)
def qe_X13_isPrime (K : Nat) (x0 : Int32) (z : ow_MS) : Option (Int32 × ow_MS) := q_X13_isPrime K K 0 x0 0 0 0 z
abbrev wm_X13_isPrime : List Cond := .code yX13_isPrime cX13_isPrime 3 (some .boolean) :: wM
theorem cd_X13_isPrime : yX13_isPrime.cls ≠ "java/lang/invoke/MethodHandle" ∧ yX13_isPrime.cls ≠ "java/lang/invoke/VarHandle" ∧ (parseMethodDescriptor yX13_isPrime.desc).map (fun d => d.parameters.length) = some 1 := by decide +kernel
set_option maxHeartbeats 4000000 in
set_option maxRecDepth 100000 in
theorem km_X13_isPrime (l : Launch) (D : va_G) (q : ow_Q5) (u : Nat → Nat) (hU : tw_inj mX u) (K : Nat) (x0 : Int32)  (z z1 : ow_MS) (r : Int32) (hq : qe_X13_isPrime K x0 z = some (r, z1)) : Met l yX13_isPrime wm_X13_isPrime ({ frames := 0, cells := 0, slots := 0, locals := 0 } : Room) (va_Pc [.int x0] (mw_pre D q u z)) (va_Qi (fun x (_ : Unit) => x = r) (fun _ t => va_P D vwCl (tw mX q u z1) t.heap) (tw_A mX u)) 0 0 (tw_A mX u) := by
  refine Met.ofW (cc := cX13_isPrime) (maxL := 3) (ret := (some .boolean)) (by decide) rfl ?_
  intro p e s m args below meth c s₁ B hml hv
  obtain ⟨rfl, hP, hK, hN⟩ := hv
  have hx := B.exec
  have hb := B.bytes
  have hr := B.returns
  have hts := atoms_spec (ws := wm_X13_isPrime) B.pre
  have hT : ∀ w ∈ wM, w.before ([.int x0] : List Value).toArray s = true := fun w h => hts w (List.mem_cons_of_mem _ h)
  have hown : s.vm.findClass RX13 = some m.cls := findClass_of_methodNamed B.named
  have hlocks := B.notSynchronized
  have hM : tw_M D vwCl mX q s.heap u z s.heap [] := ⟨hP, va_S.rf⟩
  have hl := lv_entry ([.int x0]) (n := 3) (Nat.le_of_ble_eq_true rfl)
  rw [lg_entry_eq]
  generalize (lg_sl ([.int x0]) ++ List.replicate (3 - (lg_sl ([.int x0])).length) Slot.unset).toArray = ls at hl ⊢
  have hl : lv_has ls 3 [(0, .int x0)] := hl
  refine ow_named (fun QQ hQQ => ?_)
  generalize ([.int x0] : List Value).toArray = args at hts hT hQQ ⊢
  have key : ∀ k : Nat, (∀ (x0 : Int32) (x1 : Int32) (x2 : Int32) (t0 : Int32) (z : ow_MS) (H : Heap) (locs : List Loc) (ls : Array Slot), tw_M D vwCl mX q s.heap u z H locs → lv_has ls 3 [(0, .int x0)] → q_X13_isPrime K k 0 x0 x1 x2 t0 z = some (r, z1) → W p l e ({ frames := 0, cells := 0, slots := 0, locals := 0 } : Room) s m args below meth c H locs 0 0 QQ (F0 m 0 ls [])) ∧ (∀ (x0 : Int32) (x1 : Int32) (x2 : Int32) (t0 : Int32) (z : ow_MS) (H : Heap) (locs : List Loc) (ls : Array Slot), tw_M D vwCl mX q s.heap u z H locs → lv_has ls 3 [(0, .int x0)] → q_X13_isPrime K k 1 x0 x1 x2 t0 z = some (r, z1) → W p l e ({ frames := 0, cells := 0, slots := 0, locals := 0 } : Room) s m args below meth c H locs 0 0 QQ (F0 m 16 ls [])) ∧ (∀ (x0 : Int32) (x1 : Int32) (x2 : Int32) (t0 : Int32) (z : ow_MS) (H : Heap) (locs : List Loc) (ls : Array Slot), tw_M D vwCl mX q s.heap u z H locs → lv_has ls 3 [(0, .int x0)] → q_X13_isPrime K k 2 x0 x1 x2 t0 z = some (r, z1) → W p l e ({ frames := 0, cells := 0, slots := 0, locals := 0 } : Room) s m args below meth c H locs 0 0 QQ (F0 m 17 ls [.int t0])) ∧ (∀ (x0 : Int32) (x1 : Int32) (x2 : Int32) (t0 : Int32) (z : ow_MS) (H : Heap) (locs : List Loc) (ls : Array Slot), tw_M D vwCl mX q s.heap u z H locs → lv_has ls 3 [(0, .int x0), (1, .int x1), (2, .int x2)] → q_X13_isPrime K k 3 x0 x1 x2 t0 z = some (r, z1) → W p l e ({ frames := 0, cells := 0, slots := 0, locals := 0 } : Room) s m args below meth c H locs 0 0 QQ (F0 m 20 ls [])) ∧ (∀ (x0 : Int32) (x1 : Int32) (x2 : Int32) (t0 : Int32) (z : ow_MS) (H : Heap) (locs : List Loc) (ls : Array Slot), tw_M D vwCl mX q s.heap u z H locs → lv_has ls 3 [(0, .int x0), (1, .int x1), (2, .int x2)] → q_X13_isPrime K k 4 x0 x1 x2 t0 z = some (r, z1) → W p l e ({ frames := 0, cells := 0, slots := 0, locals := 0 } : Room) s m args below meth c H locs 0 0 QQ (F0 m 42 ls [.int t0])) := by
    intro k
    induction k with
    | zero => exact ⟨fun _ _ _ _ _ _ _ _  _ _ hq => tw_no hq, fun _ _ _ _ _ _ _ _  _ _ hq => tw_no hq, fun _ _ _ _ _ _ _ _  _ _ hq => tw_no hq, fun _ _ _ _ _ _ _ _  _ _ hq => tw_no hq, fun _ _ _ _ _ _ _ _  _ _ hq => tw_no hq⟩
    | succ k ih =>
      obtain ⟨ih_0, ih_1, ih_2, ih_3, ih_4⟩ := ih
      refine ⟨?_, ?_, ?_, ?_, ?_⟩
      · intro x0 x1 x2 t0 z H locs ls  hM hl hq
        have hq : qm_X13_isPrime_0 K (q_X13_isPrime K k) x0 x1 x2 t0 z = some (r, z1) := hq
        unfold qm_X13_isPrime_0 at hq
        refine lv_iload_n hx hb dmX13_isPrime_0 rfl (lv_at hl 0 rfl) ?_
        refine lv_iconst (v := 2) hx hb dmX13_isPrime_1 (by decide) ?_
        refine lv_icmp_lt (tgt := 16) hx hb dmX13_isPrime_2 (by decide) (fun hc => ?_) (fun hc => ?_)
        · have hq := tw_it hq hc
          exact ih_1 x0 0 0 0 z H locs ls hM (lv_sub hl [0] rfl) hq
        · have hq := tw_if hq hc
          refine lv_iload_n hx hb dmX13_isPrime_5 rfl (lv_at hl 0 rfl) ?_
          refine lv_sipush (v := 997) hx hb dmX13_isPrime_6 (by decide) ?_
          refine lv_icmp_gt (tgt := 16) hx hb dmX13_isPrime_9 (by decide) (fun hc => ?_) (fun hc => ?_)
          · have hq := tw_it hq hc
            exact ih_1 x0 0 0 0 z H locs ls hM (lv_sub hl [0] rfl) hq
          · have hq := tw_if hq hc
            refine lv_iconst (v := 1) hx hb dmX13_isPrime_12 (by decide) ?_
            refine lv_goto (tgt := 17) hx hb dmX13_isPrime_13 (by decide) ?_
            exact ih_2 x0 0 0 1 z H locs ls hM (lv_sub hl [0] rfl) hq
      · intro x0 x1 x2 t0 z H locs ls  hM hl hq
        have hq : qm_X13_isPrime_1 K (q_X13_isPrime K k) x0 x1 x2 t0 z = some (r, z1) := hq
        unfold qm_X13_isPrime_1 at hq
        refine lv_iconst (v := 0) hx hb dmX13_isPrime_16 (by decide) ?_
        exact ih_2 x0 0 0 0 z H locs ls hM (lv_sub hl [0] rfl) hq
      · intro x0 x1 x2 t0 z H locs ls  hM hl hq
        have hq : qm_X13_isPrime_2 K (q_X13_isPrime K k) x0 x1 x2 t0 z = some (r, z1) := hq
        unfold qm_X13_isPrime_2 at hq
        refine lv_istore_n (lv' := [(1, .int t0), (0, .int x0)]) hx hb dmX13_isPrime_17 rfl hl (by decide) rfl (fun ls hl => ?_)
        refine lv_iconst (v := 2) hx hb dmX13_isPrime_18 (by decide) ?_
        refine lv_istore_n (lv' := [(2, .int 2), (1, .int t0), (0, .int x0)]) hx hb dmX13_isPrime_19 rfl hl (by decide) rfl (fun ls hl => ?_)
        exact ih_3 x0 t0 2 0 z H locs ls hM (lv_sub hl [2, 1, 0] rfl) hq
      · intro x0 x1 x2 t0 z H locs ls  hM hl hq
        have hq : qm_X13_isPrime_3 K (q_X13_isPrime K k) x0 x1 x2 t0 z = some (r, z1) := hq
        unfold qm_X13_isPrime_3 at hq
        refine lv_iload_n hx hb dmX13_isPrime_20 rfl (lv_at hl 1 rfl) ?_
        refine lv_if_eq (tgt := 49) hx hb dmX13_isPrime_21 (by decide) (fun hc => ?_) (fun hc => ?_)
        · have hq := tw_it hq hc
          refine lv_iload_n hx hb dmX13_isPrime_49 rfl (lv_at hl 1 rfl) ?_
          obtain ⟨hz, hq⟩ := tw_gZ hq
          exact mw_zret hx hb hr hlocks hM hz hq hQQ dmX13_isPrime_50
        · have hq := tw_if hq hc
          refine lv_iload_n hx hb dmX13_isPrime_24 rfl (lv_at hl 2 rfl) ?_
          refine lv_iload_n hx hb dmX13_isPrime_25 rfl (lv_at hl 2 rfl) ?_
          refine lv_imul hx hb dmX13_isPrime_26 ?_
          refine lv_iload_n hx hb dmX13_isPrime_27 rfl (lv_at hl 0 rfl) ?_
          refine lv_icmp_gt (tgt := 49) hx hb dmX13_isPrime_28 (by decide) (fun hc => ?_) (fun hc => ?_)
          · have hq := tw_it hq hc
            refine lv_iload_n hx hb dmX13_isPrime_49 rfl (lv_at hl 1 rfl) ?_
            obtain ⟨hz, hq⟩ := tw_gZ hq
            exact mw_zret hx hb hr hlocks hM hz hq hQQ dmX13_isPrime_50
          · have hq := tw_if hq hc
            refine lv_iload_n hx hb dmX13_isPrime_31 rfl (lv_at hl 0 rfl) ?_
            refine lv_iload_n hx hb dmX13_isPrime_32 rfl (lv_at hl 2 rfl) ?_
            obtain ⟨hz, hq⟩ := tw_nzI hq
            refine lv_irem hx hb dmX13_isPrime_33 hz ?_
            refine lv_if_eq (tgt := 41) hx hb dmX13_isPrime_34 (by decide) (fun hc => ?_) (fun hc => ?_)
            · have hq := tw_it hq hc
              refine lv_iconst (v := 0) hx hb dmX13_isPrime_41 (by decide) ?_
              exact ih_4 x0 x1 x2 0 z H locs ls hM (lv_sub hl [0, 1, 2] rfl) hq
            · have hq := tw_if hq hc
              refine lv_iconst (v := 1) hx hb dmX13_isPrime_37 (by decide) ?_
              refine lv_goto (tgt := 42) hx hb dmX13_isPrime_38 (by decide) ?_
              exact ih_4 x0 x1 x2 1 z H locs ls hM (lv_sub hl [0, 1, 2] rfl) hq
      · intro x0 x1 x2 t0 z H locs ls  hM hl hq
        have hq : qm_X13_isPrime_4 K (q_X13_isPrime K k) x0 x1 x2 t0 z = some (r, z1) := hq
        unfold qm_X13_isPrime_4 at hq
        refine lv_istore_n (lv' := [(1, .int t0), (0, .int x0), (2, .int x2)]) hx hb dmX13_isPrime_42 rfl hl (by decide) rfl (fun ls hl => ?_)
        refine lv_iinc (v := (x2 + 1)) (lv' := [(2, .int (x2 + 1)), (1, .int t0), (0, .int x0)]) hx hb dmX13_isPrime_43 hl (k := 2) rfl rfl (by decide) rfl (fun ls hl => ?_)
        refine lv_goto (tgt := 20) hx hb dmX13_isPrime_46 (by decide) ?_
        exact ih_3 x0 t0 (x2 + 1) 0 z H locs ls hM (lv_sub hl [2, 1, 0] rfl) hq
  exact (key K).1 x0 0 0 0 z s.heap [] ls  hM (lv_sub hl [0] rfl) hq
theorem dmX13_chain_0 : decode cX13_chain 0 = .ok (.aload_n 0, 1) := dw_at cX13_chain_k0 (p := 0) rfl (by decide +kernel)
theorem dmX13_chain_1 : decode cX13_chain 1 = .ok (.iconst 0, 1) := dw_at cX13_chain_k0 (p := 1) rfl (by decide +kernel)
theorem dmX13_chain_2 : decode cX13_chain 2 = .ok (.putfield 1, 3) := dw_at cX13_chain_k0 (p := 2) rfl (by decide +kernel)
theorem dmX13_chain_5 : decode cX13_chain 5 = .ok (.aload_n 0, 1) := dw_at cX13_chain_k0 (p := 5) rfl (by decide +kernel)
theorem dmX13_chain_6 : decode cX13_chain 6 = .ok (.iload_n 1, 1) := dw_at cX13_chain_k0 (p := 6) rfl (by decide +kernel)
theorem dmX13_chain_7 : decode cX13_chain 7 = .ok (.invokevirtual 423, 3) := dw_at cX13_chain_k0 (p := 7) rfl (by decide +kernel)
theorem dmX13_chain_10 : decode cX13_chain 10 = .ok (.ifCond .ne 9, 3) := dw_at cX13_chain_k0 (p := 10) rfl (by decide +kernel)
theorem dmX13_chain_13 : decode cX13_chain 13 = .ok (.aload_n 0, 1) := dw_at cX13_chain_k0 (p := 13) rfl (by decide +kernel)
theorem dmX13_chain_14 : decode cX13_chain 14 = .ok (.iconst 1, 1) := dw_at cX13_chain_k0 (p := 14) rfl (by decide +kernel)
theorem dmX13_chain_15 : decode cX13_chain 15 = .ok (.invokevirtual 403, 3) := dw_at cX13_chain_k0 (p := 15) rfl (by decide +kernel)
theorem dmX13_chain_18 : decode cX13_chain 18 = .ok (.ireturn, 1) := dw_at cX13_chain_k0 (p := 18) rfl (by decide +kernel)
theorem dmX13_chain_19 : decode cX13_chain 19 = .ok (.iload_n 2, 1) := dw_at cX13_chain_k0 (p := 19) rfl (by decide +kernel)
theorem dmX13_chain_20 : decode cX13_chain 20 = .ok (.invokestatic 709, 3) := dw_at cX13_chain_k0 (p := 20) rfl (by decide +kernel)
theorem dmX13_chain_23 : decode cX13_chain 23 = .ok (.ifCond .ne 9, 3) := dw_at cX13_chain_k0 (p := 23) rfl (by decide +kernel)
theorem dmX13_chain_26 : decode cX13_chain 26 = .ok (.aload_n 0, 1) := dw_at cX13_chain_k1 (p := 0) rfl (by decide +kernel)
theorem dmX13_chain_27 : decode cX13_chain 27 = .ok (.iconst 2, 1) := dw_at cX13_chain_k1 (p := 1) rfl (by decide +kernel)
theorem dmX13_chain_28 : decode cX13_chain 28 = .ok (.invokevirtual 403, 3) := dw_at cX13_chain_k1 (p := 2) rfl (by decide +kernel)
theorem dmX13_chain_31 : decode cX13_chain 31 = .ok (.ireturn, 1) := dw_at cX13_chain_k1 (p := 5) rfl (by decide +kernel)
theorem dmX13_chain_32 : decode cX13_chain 32 = .ok (.aload_n 0, 1) := dw_at cX13_chain_k1 (p := 6) rfl (by decide +kernel)
theorem dmX13_chain_33 : decode cX13_chain 33 = .ok (.iload_n 1, 1) := dw_at cX13_chain_k1 (p := 7) rfl (by decide +kernel)
theorem dmX13_chain_34 : decode cX13_chain 34 = .ok (.aload_n 0, 1) := dw_at cX13_chain_k1 (p := 8) rfl (by decide +kernel)
theorem dmX13_chain_35 : decode cX13_chain 35 = .ok (.getfield 114, 3) := dw_at cX13_chain_k1 (p := 9) rfl (by decide +kernel)
theorem dmX13_chain_38 : decode cX13_chain 38 = .ok (.invokevirtual 434, 3) := dw_at cX13_chain_k1 (p := 12) rfl (by decide +kernel)
theorem dmX13_chain_41 : decode cX13_chain 41 = .ok (.aload_n 0, 1) := dw_at cX13_chain_k1 (p := 15) rfl (by decide +kernel)
theorem dmX13_chain_42 : decode cX13_chain 42 = .ok (.getfield 114, 3) := dw_at cX13_chain_k1 (p := 16) rfl (by decide +kernel)
theorem dmX13_chain_45 : decode cX13_chain 45 = .ok (.invokevirtual 75, 3) := dw_at cX13_chain_k1 (p := 19) rfl (by decide +kernel)
theorem dmX13_chain_48 : decode cX13_chain 48 = .ok (.aload_n 0, 1) := dw_at cX13_chain_k1 (p := 22) rfl (by decide +kernel)
theorem dmX13_chain_49 : decode cX13_chain 49 = .ok (.getfield 114, 3) := dw_at cX13_chain_k1 (p := 23) rfl (by decide +kernel)
theorem dmX13_chain_52 : decode cX13_chain 52 = .ok (.getfield 44, 3) := dw_at cX13_chain_k2 (p := 0) rfl (by decide +kernel)
theorem dmX13_chain_55 : decode cX13_chain 55 = .ok (.iconst 2, 1) := dw_at cX13_chain_k2 (p := 3) rfl (by decide +kernel)
theorem dmX13_chain_56 : decode cX13_chain 56 = .ok (.idiv, 1) := dw_at cX13_chain_k2 (p := 4) rfl (by decide +kernel)
theorem dmX13_chain_57 : decode cX13_chain 57 = .ok (.istore_n 3, 1) := dw_at cX13_chain_k2 (p := 5) rfl (by decide +kernel)
theorem dmX13_chain_58 : decode cX13_chain 58 = .ok (.iload_n 3, 1) := dw_at cX13_chain_k2 (p := 6) rfl (by decide +kernel)
theorem dmX13_chain_59 : decode cX13_chain 59 = .ok (.aload_n 0, 1) := dw_at cX13_chain_k2 (p := 7) rfl (by decide +kernel)
theorem dmX13_chain_60 : decode cX13_chain 60 = .ok (.getfield 114, 3) := dw_at cX13_chain_k2 (p := 8) rfl (by decide +kernel)
theorem dmX13_chain_63 : decode cX13_chain 63 = .ok (.getfield 78, 3) := dw_at cX13_chain_k2 (p := 11) rfl (by decide +kernel)
theorem dmX13_chain_66 : decode cX13_chain 66 = .ok (.iadd, 1) := dw_at cX13_chain_k2 (p := 14) rfl (by decide +kernel)
theorem dmX13_chain_67 : decode cX13_chain 67 = .ok (.bipush 9, 2) := dw_at cX13_chain_k2 (p := 15) rfl (by decide +kernel)
theorem dmX13_chain_69 : decode cX13_chain 69 = .ok (.if_icmp .le 9, 3) := dw_at cX13_chain_k2 (p := 17) rfl (by decide +kernel)
theorem dmX13_chain_72 : decode cX13_chain 72 = .ok (.aload_n 0, 1) := dw_at cX13_chain_k2 (p := 20) rfl (by decide +kernel)
theorem dmX13_chain_73 : decode cX13_chain 73 = .ok (.iconst 3, 1) := dw_at cX13_chain_k2 (p := 21) rfl (by decide +kernel)
theorem dmX13_chain_74 : decode cX13_chain 74 = .ok (.invokevirtual 403, 3) := dw_at cX13_chain_k2 (p := 22) rfl (by decide +kernel)
theorem dmX13_chain_77 : decode cX13_chain 77 = .ok (.ireturn, 1) := dw_at cX13_chain_k3 (p := 0) rfl (by decide +kernel)
theorem dmX13_chain_78 : decode cX13_chain 78 = .ok (.aload_n 0, 1) := dw_at cX13_chain_k3 (p := 1) rfl (by decide +kernel)
theorem dmX13_chain_79 : decode cX13_chain 79 = .ok (.iload_n 3, 1) := dw_at cX13_chain_k3 (p := 2) rfl (by decide +kernel)
theorem dmX13_chain_80 : decode cX13_chain 80 = .ok (.aload_n 0, 1) := dw_at cX13_chain_k3 (p := 3) rfl (by decide +kernel)
theorem dmX13_chain_81 : decode cX13_chain 81 = .ok (.getfield 114, 3) := dw_at cX13_chain_k3 (p := 4) rfl (by decide +kernel)
theorem dmX13_chain_84 : decode cX13_chain 84 = .ok (.invokestatic 442, 3) := dw_at cX13_chain_k3 (p := 7) rfl (by decide +kernel)
theorem dmX13_chain_87 : decode cX13_chain 87 = .ok (.isub, 1) := dw_at cX13_chain_k3 (p := 10) rfl (by decide +kernel)
theorem dmX13_chain_88 : decode cX13_chain 88 = .ok (.iconst 2, 1) := dw_at cX13_chain_k3 (p := 11) rfl (by decide +kernel)
theorem dmX13_chain_89 : decode cX13_chain 89 = .ok (.idiv, 1) := dw_at cX13_chain_k3 (p := 12) rfl (by decide +kernel)
theorem dmX13_chain_90 : decode cX13_chain 90 = .ok (.putfield 690, 3) := dw_at cX13_chain_k3 (p := 13) rfl (by decide +kernel)
theorem dmX13_chain_93 : decode cX13_chain 93 = .ok (.aload_n 0, 1) := dw_at cX13_chain_k3 (p := 16) rfl (by decide +kernel)
theorem dmX13_chain_94 : decode cX13_chain 94 = .ok (.aload_n 0, 1) := dw_at cX13_chain_k3 (p := 17) rfl (by decide +kernel)
theorem dmX13_chain_95 : decode cX13_chain 95 = .ok (.getfield 114, 3) := dw_at cX13_chain_k3 (p := 18) rfl (by decide +kernel)
theorem dmX13_chain_98 : decode cX13_chain 98 = .ok (.invokevirtual 712, 3) := dw_at cX13_chain_k3 (p := 21) rfl (by decide +kernel)
theorem dmX13_chain_101 : decode cX13_chain 101 = .ok (.aload_n 0, 1) := dw_at cX13_chain_k4 (p := 0) rfl (by decide +kernel)
theorem dmX13_chain_102 : decode cX13_chain 102 = .ok (.iload_n 3, 1) := dw_at cX13_chain_k4 (p := 1) rfl (by decide +kernel)
theorem dmX13_chain_103 : decode cX13_chain 103 = .ok (.invokevirtual 715, 3) := dw_at cX13_chain_k4 (p := 2) rfl (by decide +kernel)
theorem dmX13_chain_106 : decode cX13_chain 106 = .ok (.iconst 0, 1) := dw_at cX13_chain_k4 (p := 5) rfl (by decide +kernel)
theorem dmX13_chain_107 : decode cX13_chain 107 = .ok (.istore 4, 2) := dw_at cX13_chain_k4 (p := 6) rfl (by decide +kernel)
theorem dmX13_chain_109 : decode cX13_chain 109 = .ok (.iconst 0, 1) := dw_at cX13_chain_k4 (p := 8) rfl (by decide +kernel)
theorem dmX13_chain_110 : decode cX13_chain 110 = .ok (.istore 5, 2) := dw_at cX13_chain_k4 (p := 9) rfl (by decide +kernel)
theorem dmX13_chain_112 : decode cX13_chain 112 = .ok (.iload 5, 2) := dw_at cX13_chain_k4 (p := 11) rfl (by decide +kernel)
theorem dmX13_chain_114 : decode cX13_chain 114 = .ok (.bipush 80, 2) := dw_at cX13_chain_k4 (p := 13) rfl (by decide +kernel)
theorem dmX13_chain_116 : decode cX13_chain 116 = .ok (.if_icmp .ge 141, 3) := dw_at cX13_chain_k4 (p := 15) rfl (by decide +kernel)
theorem dmX13_chain_119 : decode cX13_chain 119 = .ok (.iconst 0, 1) := dw_at cX13_chain_k4 (p := 18) rfl (by decide +kernel)
theorem dmX13_chain_120 : decode cX13_chain 120 = .ok (.istore 6, 2) := dw_at cX13_chain_k4 (p := 19) rfl (by decide +kernel)
theorem dmX13_chain_122 : decode cX13_chain 122 = .ok (.iload 6, 2) := dw_at cX13_chain_k4 (p := 21) rfl (by decide +kernel)
theorem dmX13_chain_124 : decode cX13_chain 124 = .ok (.iload_n 3, 1) := dw_at cX13_chain_k4 (p := 23) rfl (by decide +kernel)
theorem dmX13_chain_125 : decode cX13_chain 125 = .ok (.if_icmp .ge 35, 3) := dw_at cX13_chain_k5 (p := 0) rfl (by decide +kernel)
theorem dmX13_chain_128 : decode cX13_chain 128 = .ok (.aload_n 0, 1) := dw_at cX13_chain_k5 (p := 3) rfl (by decide +kernel)
theorem dmX13_chain_129 : decode cX13_chain 129 = .ok (.getfield 301, 3) := dw_at cX13_chain_k5 (p := 4) rfl (by decide +kernel)
theorem dmX13_chain_132 : decode cX13_chain 132 = .ok (.bipush 80, 2) := dw_at cX13_chain_k5 (p := 7) rfl (by decide +kernel)
theorem dmX13_chain_134 : decode cX13_chain 134 = .ok (.iload 6, 2) := dw_at cX13_chain_k5 (p := 9) rfl (by decide +kernel)
theorem dmX13_chain_136 : decode cX13_chain 136 = .ok (.imul, 1) := dw_at cX13_chain_k5 (p := 11) rfl (by decide +kernel)
theorem dmX13_chain_137 : decode cX13_chain 137 = .ok (.iload 5, 2) := dw_at cX13_chain_k5 (p := 12) rfl (by decide +kernel)
theorem dmX13_chain_139 : decode cX13_chain 139 = .ok (.iadd, 1) := dw_at cX13_chain_k5 (p := 14) rfl (by decide +kernel)
theorem dmX13_chain_140 : decode cX13_chain 140 = .ok (.aload_n 0, 1) := dw_at cX13_chain_k5 (p := 15) rfl (by decide +kernel)
theorem dmX13_chain_141 : decode cX13_chain 141 = .ok (.aload_n 0, 1) := dw_at cX13_chain_k5 (p := 16) rfl (by decide +kernel)
theorem dmX13_chain_142 : decode cX13_chain 142 = .ok (.getfield 114, 3) := dw_at cX13_chain_k5 (p := 17) rfl (by decide +kernel)
theorem dmX13_chain_145 : decode cX13_chain 145 = .ok (.iload 6, 2) := dw_at cX13_chain_k5 (p := 20) rfl (by decide +kernel)
theorem dmX13_chain_147 : decode cX13_chain 147 = .ok (.iload 5, 2) := dw_at cX13_chain_k5 (p := 22) rfl (by decide +kernel)
theorem dmX13_chain_149 : decode cX13_chain 149 = .ok (.iload_n 2, 1) := dw_at cX13_chain_k6 (p := 0) rfl (by decide +kernel)
theorem dmX13_chain_150 : decode cX13_chain 150 = .ok (.invokevirtual 718, 3) := dw_at cX13_chain_k6 (p := 1) rfl (by decide +kernel)
theorem dmX13_chain_153 : decode cX13_chain 153 = .ok (.iastore, 1) := dw_at cX13_chain_k6 (p := 4) rfl (by decide +kernel)
theorem dmX13_chain_154 : decode cX13_chain 154 = .ok (.iinc 6 1, 3) := dw_at cX13_chain_k6 (p := 5) rfl (by decide +kernel)
theorem dmX13_chain_157 : decode cX13_chain 157 = .ok (.goto (-35), 3) := dw_at cX13_chain_k6 (p := 8) rfl (by decide +kernel)
theorem dmX13_chain_160 : decode cX13_chain 160 = .ok (.iconst 0, 1) := dw_at cX13_chain_k6 (p := 11) rfl (by decide +kernel)
theorem dmX13_chain_161 : decode cX13_chain 161 = .ok (.istore 6, 2) := dw_at cX13_chain_k6 (p := 12) rfl (by decide +kernel)
theorem dmX13_chain_163 : decode cX13_chain 163 = .ok (.iload 6, 2) := dw_at cX13_chain_k6 (p := 14) rfl (by decide +kernel)
theorem dmX13_chain_165 : decode cX13_chain 165 = .ok (.iload_n 3, 1) := dw_at cX13_chain_k6 (p := 16) rfl (by decide +kernel)
theorem dmX13_chain_166 : decode cX13_chain 166 = .ok (.if_icmp .gt 85, 3) := dw_at cX13_chain_k6 (p := 17) rfl (by decide +kernel)
theorem dmX13_chain_169 : decode cX13_chain 169 = .ok (.aload_n 0, 1) := dw_at cX13_chain_k6 (p := 20) rfl (by decide +kernel)
theorem dmX13_chain_170 : decode cX13_chain 170 = .ok (.getfield 298, 3) := dw_at cX13_chain_k6 (p := 21) rfl (by decide +kernel)
theorem dmX13_chain_173 : decode cX13_chain 173 = .ok (.bipush 80, 2) := dw_at cX13_chain_k7 (p := 0) rfl (by decide +kernel)
theorem dmX13_chain_175 : decode cX13_chain 175 = .ok (.iload 6, 2) := dw_at cX13_chain_k7 (p := 2) rfl (by decide +kernel)
theorem dmX13_chain_177 : decode cX13_chain 177 = .ok (.imul, 1) := dw_at cX13_chain_k7 (p := 4) rfl (by decide +kernel)
theorem dmX13_chain_178 : decode cX13_chain 178 = .ok (.iload 5, 2) := dw_at cX13_chain_k7 (p := 5) rfl (by decide +kernel)
theorem dmX13_chain_180 : decode cX13_chain 180 = .ok (.iadd, 1) := dw_at cX13_chain_k7 (p := 7) rfl (by decide +kernel)
theorem dmX13_chain_181 : decode cX13_chain 181 = .ok (.iaload, 1) := dw_at cX13_chain_k7 (p := 8) rfl (by decide +kernel)
theorem dmX13_chain_182 : decode cX13_chain 182 = .ok (.aload_n 0, 1) := dw_at cX13_chain_k7 (p := 9) rfl (by decide +kernel)
theorem dmX13_chain_183 : decode cX13_chain 183 = .ok (.getfield 301, 3) := dw_at cX13_chain_k7 (p := 10) rfl (by decide +kernel)
theorem dmX13_chain_186 : decode cX13_chain 186 = .ok (.bipush 80, 2) := dw_at cX13_chain_k7 (p := 13) rfl (by decide +kernel)
theorem dmX13_chain_188 : decode cX13_chain 188 = .ok (.iload 6, 2) := dw_at cX13_chain_k7 (p := 15) rfl (by decide +kernel)
theorem dmX13_chain_190 : decode cX13_chain 190 = .ok (.imul, 1) := dw_at cX13_chain_k7 (p := 17) rfl (by decide +kernel)
theorem dmX13_chain_191 : decode cX13_chain 191 = .ok (.iload 5, 2) := dw_at cX13_chain_k7 (p := 18) rfl (by decide +kernel)
theorem dmX13_chain_193 : decode cX13_chain 193 = .ok (.iadd, 1) := dw_at cX13_chain_k7 (p := 20) rfl (by decide +kernel)
theorem dmX13_chain_194 : decode cX13_chain 194 = .ok (.iaload, 1) := dw_at cX13_chain_k7 (p := 21) rfl (by decide +kernel)
theorem dmX13_chain_195 : decode cX13_chain 195 = .ok (.isub, 1) := dw_at cX13_chain_k7 (p := 22) rfl (by decide +kernel)
theorem dmX13_chain_196 : decode cX13_chain 196 = .ok (.iload 6, 2) := dw_at cX13_chain_k7 (p := 23) rfl (by decide +kernel)
theorem dmX13_chain_198 : decode cX13_chain 198 = .ok (.ifCond .ne 7, 3) := dw_at cX13_chain_k8 (p := 0) rfl (by decide +kernel)
theorem dmX13_chain_201 : decode cX13_chain 201 = .ok (.iconst 0, 1) := dw_at cX13_chain_k8 (p := 3) rfl (by decide +kernel)
theorem dmX13_chain_202 : decode cX13_chain 202 = .ok (.goto 18, 3) := dw_at cX13_chain_k8 (p := 4) rfl (by decide +kernel)
theorem dmX13_chain_205 : decode cX13_chain 205 = .ok (.aload_n 0, 1) := dw_at cX13_chain_k8 (p := 7) rfl (by decide +kernel)
theorem dmX13_chain_206 : decode cX13_chain 206 = .ok (.getfield 301, 3) := dw_at cX13_chain_k8 (p := 8) rfl (by decide +kernel)
theorem dmX13_chain_209 : decode cX13_chain 209 = .ok (.bipush 80, 2) := dw_at cX13_chain_k8 (p := 11) rfl (by decide +kernel)
theorem dmX13_chain_211 : decode cX13_chain 211 = .ok (.iload 6, 2) := dw_at cX13_chain_k8 (p := 13) rfl (by decide +kernel)
theorem dmX13_chain_213 : decode cX13_chain 213 = .ok (.iconst 1, 1) := dw_at cX13_chain_k8 (p := 15) rfl (by decide +kernel)
theorem dmX13_chain_214 : decode cX13_chain 214 = .ok (.isub, 1) := dw_at cX13_chain_k8 (p := 16) rfl (by decide +kernel)
theorem dmX13_chain_215 : decode cX13_chain 215 = .ok (.imul, 1) := dw_at cX13_chain_k8 (p := 17) rfl (by decide +kernel)
theorem dmX13_chain_216 : decode cX13_chain 216 = .ok (.iload 5, 2) := dw_at cX13_chain_k8 (p := 18) rfl (by decide +kernel)
theorem dmX13_chain_218 : decode cX13_chain 218 = .ok (.iadd, 1) := dw_at cX13_chain_k8 (p := 20) rfl (by decide +kernel)
theorem dmX13_chain_219 : decode cX13_chain 219 = .ok (.iaload, 1) := dw_at cX13_chain_k8 (p := 21) rfl (by decide +kernel)
theorem dmX13_chain_220 : decode cX13_chain 220 = .ok (.isub, 1) := dw_at cX13_chain_k8 (p := 22) rfl (by decide +kernel)
theorem dmX13_chain_221 : decode cX13_chain 221 = .ok (.istore 7, 2) := dw_at cX13_chain_k8 (p := 23) rfl (by decide +kernel)
theorem dmX13_chain_223 : decode cX13_chain 223 = .ok (.aload_n 0, 1) := dw_at cX13_chain_k9 (p := 0) rfl (by decide +kernel)
theorem dmX13_chain_224 : decode cX13_chain 224 = .ok (.getfield 304, 3) := dw_at cX13_chain_k9 (p := 1) rfl (by decide +kernel)
theorem dmX13_chain_227 : decode cX13_chain 227 = .ok (.bipush 80, 2) := dw_at cX13_chain_k9 (p := 4) rfl (by decide +kernel)
theorem dmX13_chain_229 : decode cX13_chain 229 = .ok (.iload 6, 2) := dw_at cX13_chain_k9 (p := 6) rfl (by decide +kernel)
theorem dmX13_chain_231 : decode cX13_chain 231 = .ok (.imul, 1) := dw_at cX13_chain_k9 (p := 8) rfl (by decide +kernel)
theorem dmX13_chain_232 : decode cX13_chain 232 = .ok (.iload 5, 2) := dw_at cX13_chain_k9 (p := 9) rfl (by decide +kernel)
theorem dmX13_chain_234 : decode cX13_chain 234 = .ok (.iadd, 1) := dw_at cX13_chain_k9 (p := 11) rfl (by decide +kernel)
theorem dmX13_chain_235 : decode cX13_chain 235 = .ok (.iload 7, 2) := dw_at cX13_chain_k9 (p := 12) rfl (by decide +kernel)
theorem dmX13_chain_237 : decode cX13_chain 237 = .ok (.iastore, 1) := dw_at cX13_chain_k9 (p := 14) rfl (by decide +kernel)
theorem dmX13_chain_238 : decode cX13_chain 238 = .ok (.iload 4, 2) := dw_at cX13_chain_k9 (p := 15) rfl (by decide +kernel)
theorem dmX13_chain_240 : decode cX13_chain 240 = .ok (.iload 7, 2) := dw_at cX13_chain_k9 (p := 17) rfl (by decide +kernel)
theorem dmX13_chain_242 : decode cX13_chain 242 = .ok (.iadd, 1) := dw_at cX13_chain_k9 (p := 19) rfl (by decide +kernel)
theorem dmX13_chain_243 : decode cX13_chain 243 = .ok (.istore 4, 2) := dw_at cX13_chain_k9 (p := 20) rfl (by decide +kernel)
theorem dmX13_chain_245 : decode cX13_chain 245 = .ok (.iinc 6 1, 3) := dw_at cX13_chain_k9 (p := 22) rfl (by decide +kernel)
theorem dmX13_chain_248 : decode cX13_chain 248 = .ok (.goto (-85), 3) := dw_at cX13_chain_k10 (p := 0) rfl (by decide +kernel)
theorem dmX13_chain_251 : decode cX13_chain 251 = .ok (.iinc 5 1, 3) := dw_at cX13_chain_k10 (p := 3) rfl (by decide +kernel)
theorem dmX13_chain_254 : decode cX13_chain 254 = .ok (.goto (-142), 3) := dw_at cX13_chain_k10 (p := 6) rfl (by decide +kernel)
theorem dmX13_chain_257 : decode cX13_chain 257 = .ok (.iload 4, 2) := dw_at cX13_chain_k10 (p := 9) rfl (by decide +kernel)
theorem dmX13_chain_259 : decode cX13_chain 259 = .ok (.ireturn, 1) := dw_at cX13_chain_k10 (p := 11) rfl (by decide +kernel)
def qm_X13_chain_0 (K : Nat) (go : Nat → Int32 → Int32 → Int32 → Int32 → Int32 → Int32 → Int32 → Int32 → ow_MS → Option (Int32 × ow_MS)) (x1 : Int32) (x2 : Int32) (x3 : Int32) (x4 : Int32) (x5 : Int32) (x6 : Int32) (t0 : Int32) (t1 : Int32) (z : ow_MS) : Option (Int32 × ow_MS) :=
 wrF z 1 0 fun z1 => cs1 (qe_X13_has K x1 z1) fun v3 z2 => (if v3 = 0 then cs1 (qe_X13_fails K 1 z2) fun v20 z19 => some (v20, z19)
 else cs1 (qe_X13_isPrime K x2 z2) fun v5 z4 => (if v5 = 0 then cs1 (qe_X13_fails K 2 z4) fun v18 z17 => some (v18, z17)
 else cs0 (qe_X13_open K x1 1000 z4) fun z6 => cs0 (qe_X12_split K 1000 z6) fun z7 => rdF z7 (1000 + 1) fun v8 => nzI 2 (rdF z7 (1000 + 13) fun v9 => (if ((v8 / 2) + v9) ≤ 9 then cs1 (qe_X13_writheOf K 1000 z7) fun v11 z10 => nzI 2 (wrF z10 88 (((v8 / 2) - v11) / 2) fun z12 => cs0 (qe_X13_makeStates K 1000 z12) fun z13 => cs0 (qe_X13_placeAll K (v8 / 2) z13) fun z14 => go 1 x1 x2 (v8 / 2) 0 0 0 0 0 z14)
 else cs1 (qe_X13_fails K 3 z7) fun v16 z15 => some (v16, z15)))))
def qm_X13_chain_1 (K : Nat) (go : Nat → Int32 → Int32 → Int32 → Int32 → Int32 → Int32 → Int32 → Int32 → ow_MS → Option (Int32 × ow_MS)) (x1 : Int32) (x2 : Int32) (x3 : Int32) (x4 : Int32) (x5 : Int32) (x6 : Int32) (t0 : Int32) (t1 : Int32) (z : ow_MS) : Option (Int32 × ow_MS) :=
 (if 80 ≤ x5 then some (x4, z)
 else go 2 x1 x2 x3 x4 x5 0 0 0 z)
def qm_X13_chain_2 (K : Nat) (go : Nat → Int32 → Int32 → Int32 → Int32 → Int32 → Int32 → Int32 → Int32 → ow_MS → Option (Int32 × ow_MS)) (x1 : Int32) (x2 : Int32) (x3 : Int32) (x4 : Int32) (x5 : Int32) (x6 : Int32) (t0 : Int32) (t1 : Int32) (z : ow_MS) : Option (Int32 × ow_MS) :=
 (if x3 ≤ x6 then go 3 x1 x2 x3 x4 x5 0 0 0 z
 else cs1 (qe_X13_rankOf K 1000 x6 x5 x2 z) fun v22 z21 => wrI mX z21 86 ((80 * x6) + x5) v22 fun z23 => go 2 x1 x2 x3 x4 x5 (x6 + 1) 0 0 z23)
def qm_X13_chain_3 (K : Nat) (go : Nat → Int32 → Int32 → Int32 → Int32 → Int32 → Int32 → Int32 → Int32 → ow_MS → Option (Int32 × ow_MS)) (x1 : Int32) (x2 : Int32) (x3 : Int32) (x4 : Int32) (x5 : Int32) (x6 : Int32) (t0 : Int32) (t1 : Int32) (z : ow_MS) : Option (Int32 × ow_MS) :=
 (if x3 < x6 then go 1 x1 x2 x3 x4 (x5 + 1) 0 0 0 z
 else rdI mX z 85 ((80 * x6) + x5) fun v24 => rdI mX z 86 ((80 * x6) + x5) fun v25 => (if x6 = 0 then go 4 x1 x2 x3 x4 x5 x6 0 (v24 - v25) z
 else rdI mX z 86 ((80 * (x6 - 1)) + x5) fun v26 => go 4 x1 x2 x3 x4 x5 x6 v26 (v24 - v25) z))
def qm_X13_chain_4 (K : Nat) (go : Nat → Int32 → Int32 → Int32 → Int32 → Int32 → Int32 → Int32 → Int32 → ow_MS → Option (Int32 × ow_MS)) (x1 : Int32) (x2 : Int32) (x3 : Int32) (x4 : Int32) (x5 : Int32) (x6 : Int32) (t0 : Int32) (t1 : Int32) (z : ow_MS) : Option (Int32 × ow_MS) :=
 wrI mX z 87 ((80 * x6) + x5) (t1 - t0) fun z27 => go 3 x1 x2 x3 (x4 + (t1 - t0)) x5 (x6 + 1) 0 0 z27
def qb_X13_chain (K : Nat) (go : Nat → Int32 → Int32 → Int32 → Int32 → Int32 → Int32 → Int32 → Int32 → ow_MS → Option (Int32 × ow_MS)) (L : Nat) (x1 : Int32) (x2 : Int32) (x3 : Int32) (x4 : Int32) (x5 : Int32) (x6 : Int32) (t0 : Int32) (t1 : Int32) (z : ow_MS) : Option (Int32 × ow_MS) := match L with
  | 0 => qm_X13_chain_0 K go x1 x2 x3 x4 x5 x6 t0 t1 z
  | 1 => qm_X13_chain_1 K go x1 x2 x3 x4 x5 x6 t0 t1 z
  | 2 => qm_X13_chain_2 K go x1 x2 x3 x4 x5 x6 t0 t1 z
  | 3 => qm_X13_chain_3 K go x1 x2 x3 x4 x5 x6 t0 t1 z
  | 4 => qm_X13_chain_4 K go x1 x2 x3 x4 x5 x6 t0 t1 z
  | _ => none
def q_X13_chain (K : Nat) : Nat → Nat → Int32 → Int32 → Int32 → Int32 → Int32 → Int32 → Int32 → Int32 → ow_MS → Option (Int32 × ow_MS)
  | 0 => fun _ _ _ _ _ _ _ _ _ _ => none
  | k + 1 => qb_X13_chain K (q_X13_chain K k)
def qe_X13_chain (K : Nat) (x1 : Int32) (x2 : Int32) (z : ow_MS) : Option (Int32 × ow_MS) := q_X13_chain K K 0 x1 x2 0 0 0 0 0 0 z
abbrev wm_X13_chain : List Cond := .code yX13_chain cX13_chain 8 (some .int) :: wM
theorem cd_X13_chain : yX13_chain.cls = RX13 ∧ yX13_chain.cls ≠ "java/lang/invoke/MethodHandle" ∧ yX13_chain.cls ≠ "java/lang/invoke/VarHandle" ∧ (parseMethodDescriptor yX13_chain.desc).map (fun d => d.parameters.length) = some 2 := by decide +kernel
set_option maxHeartbeats 4000000 in
set_option maxRecDepth 100000 in
theorem km_X13_chain (l : Launch) (D : va_G) (q : ow_Q5) (u : Nat → Nat) (hU : tw_inj mX u) (K : Nat) (x1 : Int32) (x2 : Int32)  (z z1 : ow_MS) (r : Int32) (hq : qe_X13_chain K x1 x2 z = some (r, z1)) : Met l yX13_chain wm_X13_chain ({ frames := 4, cells := 0, slots := 0, locals := 111 } : Room) (va_Pc [.ref (u 0), .int x1, .int x2] (mw_pre D q u z)) (va_Qi (fun x (_ : Unit) => x = r) (fun _ t => va_P D vwCl (tw mX q u z1) t.heap) (tw_A mX u)) 0 0 (tw_A mX u) := by
  refine Met.ofW (cc := cX13_chain) (maxL := 8) (ret := (some .int)) (by decide) rfl ?_
  intro p e s m args below meth c s₁ B hml hv
  obtain ⟨rfl, hP, hK, hN⟩ := hv
  have hx := B.exec
  have hb := B.bytes
  have hr := B.returns
  have hts := atoms_spec (ws := wm_X13_chain) B.pre
  have hT : ∀ w ∈ wM, w.before ([.ref (u 0), .int x1, .int x2] : List Value).toArray s = true := fun w h => hts w (List.mem_cons_of_mem _ h)
  have hown : s.vm.findClass RX13 = some m.cls := findClass_of_methodNamed B.named
  have hlocks := B.notSynchronized
  have hM : tw_M D vwCl mX q s.heap u z s.heap [] := ⟨hP, va_S.rf⟩
  have hl := lv_entry ([.ref (u 0), .int x1, .int x2]) (n := 8) (Nat.le_of_ble_eq_true rfl)
  rw [lg_entry_eq]
  generalize (lg_sl ([.ref (u 0), .int x1, .int x2]) ++ List.replicate (8 - (lg_sl ([.ref (u 0), .int x1, .int x2])).length) Slot.unset).toArray = ls at hl ⊢
  have hl : lv_has ls 8 [(0, .ref (u 0)), (1, .int x1), (2, .int x2)] := hl
  refine ow_named (fun QQ hQQ => ?_)
  generalize ([.ref (u 0), .int x1, .int x2] : List Value).toArray = args at hts hT hQQ ⊢
  have key : ∀ k : Nat, (∀ (x1 : Int32) (x2 : Int32) (x3 : Int32) (x4 : Int32) (x5 : Int32) (x6 : Int32) (t0 : Int32) (t1 : Int32) (z : ow_MS) (H : Heap) (locs : List Loc) (ls : Array Slot), tw_M D vwCl mX q s.heap u z H locs → lv_has ls 8 [(0, .ref (u 0)), (1, .int x1), (2, .int x2)] → q_X13_chain K k 0 x1 x2 x3 x4 x5 x6 t0 t1 z = some (r, z1) → W p l e ({ frames := 4, cells := 0, slots := 0, locals := 111 } : Room) s m args below meth c H locs 0 0 QQ (F0 m 0 ls [])) ∧ (∀ (x1 : Int32) (x2 : Int32) (x3 : Int32) (x4 : Int32) (x5 : Int32) (x6 : Int32) (t0 : Int32) (t1 : Int32) (z : ow_MS) (H : Heap) (locs : List Loc) (ls : Array Slot), tw_M D vwCl mX q s.heap u z H locs → lv_has ls 8 [(0, .ref (u 0)), (1, .int x1), (2, .int x2), (3, .int x3), (4, .int x4), (5, .int x5)] → q_X13_chain K k 1 x1 x2 x3 x4 x5 x6 t0 t1 z = some (r, z1) → W p l e ({ frames := 4, cells := 0, slots := 0, locals := 111 } : Room) s m args below meth c H locs 0 0 QQ (F0 m 112 ls [])) ∧ (∀ (x1 : Int32) (x2 : Int32) (x3 : Int32) (x4 : Int32) (x5 : Int32) (x6 : Int32) (t0 : Int32) (t1 : Int32) (z : ow_MS) (H : Heap) (locs : List Loc) (ls : Array Slot), tw_M D vwCl mX q s.heap u z H locs → lv_has ls 8 [(0, .ref (u 0)), (1, .int x1), (2, .int x2), (3, .int x3), (4, .int x4), (5, .int x5), (6, .int x6)] → q_X13_chain K k 2 x1 x2 x3 x4 x5 x6 t0 t1 z = some (r, z1) → W p l e ({ frames := 4, cells := 0, slots := 0, locals := 111 } : Room) s m args below meth c H locs 0 0 QQ (F0 m 122 ls [])) ∧ (∀ (x1 : Int32) (x2 : Int32) (x3 : Int32) (x4 : Int32) (x5 : Int32) (x6 : Int32) (t0 : Int32) (t1 : Int32) (z : ow_MS) (H : Heap) (locs : List Loc) (ls : Array Slot), tw_M D vwCl mX q s.heap u z H locs → lv_has ls 8 [(0, .ref (u 0)), (1, .int x1), (2, .int x2), (3, .int x3), (4, .int x4), (5, .int x5), (6, .int x6)] → q_X13_chain K k 3 x1 x2 x3 x4 x5 x6 t0 t1 z = some (r, z1) → W p l e ({ frames := 4, cells := 0, slots := 0, locals := 111 } : Room) s m args below meth c H locs 0 0 QQ (F0 m 163 ls [])) ∧ (∀ (x1 : Int32) (x2 : Int32) (x3 : Int32) (x4 : Int32) (x5 : Int32) (x6 : Int32) (t0 : Int32) (t1 : Int32) (z : ow_MS) (H : Heap) (locs : List Loc) (ls : Array Slot), tw_M D vwCl mX q s.heap u z H locs → lv_has ls 8 [(0, .ref (u 0)), (1, .int x1), (2, .int x2), (3, .int x3), (4, .int x4), (5, .int x5), (6, .int x6)] → q_X13_chain K k 4 x1 x2 x3 x4 x5 x6 t0 t1 z = some (r, z1) → W p l e ({ frames := 4, cells := 0, slots := 0, locals := 111 } : Room) s m args below meth c H locs 0 0 QQ (F0 m 220 ls [.int t0, .int t1])) := by
    intro k
    induction k with
    | zero => exact ⟨fun _ _ _ _ _ _ _ _ _ _ _ _  _ _ hq => tw_no hq, fun _ _ _ _ _ _ _ _ _ _ _ _  _ _ hq => tw_no hq, fun _ _ _ _ _ _ _ _ _ _ _ _  _ _ hq => tw_no hq, fun _ _ _ _ _ _ _ _ _ _ _ _  _ _ hq => tw_no hq, fun _ _ _ _ _ _ _ _ _ _ _ _  _ _ hq => tw_no hq⟩
    | succ k ih =>
      obtain ⟨ih_0, ih_1, ih_2, ih_3, ih_4⟩ := ih
      refine ⟨?_, ?_, ?_, ?_, ?_⟩
      · intro x1 x2 x3 x4 x5 x6 t0 t1 z H locs ls  hM hl hq
        have hq : qm_X13_chain_0 K (q_X13_chain K k) x1 x2 x3 x4 x5 x6 t0 t1 z = some (r, z1) := hq
        unfold qm_X13_chain_0 at hq
        refine lv_aload_n hx hb dmX13_chain_0 rfl (lv_at hl 0 rfl) ?_
        refine lv_iconst (v := 0) hx hb dmX13_chain_1 (by decide) ?_
        refine mp13_1 hx hb hT hown hK hM hU hq dmX13_chain_2 (fun z1 H locs hM hq => ?_)
        refine lv_aload_n hx hb dmX13_chain_5 rfl (lv_at hl 0 rfl) ?_
        refine lv_iload_n hx hb dmX13_chain_6 rfl (lv_at hl 1 rfl) ?_
        obtain ⟨v3, z2, hcq, hq⟩ := tw_cl1 hq
        refine tw_cali hM (va_runV (As := [.int x1]) (rest := []) ⟨hx, hb, hml, hown, hts⟩ (km_X13_has l D q u hU K x1 z1 z2 v3 hcq) (cwV 1 hts (tw_gV wM_good wq_127 wq_128 wq_129 wq_61 wq_90) rfl rfl rfl cd_X13_has ⟨(Nat.le_of_ble_eq_true rfl), (Nat.le_of_ble_eq_true rfl)⟩) (mw_preV hK hN hM mo_0 rfl) rfl rfl hl.1 rfl (lv_room (Nat.le_of_ble_eq_true rfl)) dmX13_chain_7 ⟨(Nat.le_of_ble_eq_true rfl), (Nat.le_of_ble_eq_true rfl)⟩) (fun H locs hM => ?_)
        refine lv_if_ne (tgt := 19) hx hb dmX13_chain_10 (by decide) (fun hc => ?_) (fun hc => ?_)
        · have hq := tw_if hq hc
          refine lv_iload_n hx hb dmX13_chain_19 rfl (lv_at hl 2 rfl) ?_
          obtain ⟨v5, z4, hcq, hq⟩ := tw_cl1 hq
          refine tw_cali hM (va_runS (As := [.int x2]) (rest := []) ⟨hx, hb, hml, hown, hts⟩ (km_X13_isPrime l D q u hU K x2 z2 z4 v5 hcq) (va_cwS 1 hts (tw_gS wM_good wq_464 wq_465 wq_61 wq_463) rfl rfl rfl cd_X13_isPrime ⟨(Nat.le_of_ble_eq_true rfl), (Nat.le_of_ble_eq_true rfl)⟩) (mw_preS hK hN hM) rfl rfl hl.1 rfl (lv_room (Nat.le_of_ble_eq_true rfl)) dmX13_chain_20 ⟨(Nat.le_of_ble_eq_true rfl), (Nat.le_of_ble_eq_true rfl)⟩) (fun H locs hM => ?_)
          refine lv_if_ne (tgt := 32) hx hb dmX13_chain_23 (by decide) (fun hc => ?_) (fun hc => ?_)
          · have hq := tw_if hq hc
            refine lv_aload_n hx hb dmX13_chain_32 rfl (lv_at hl 0 rfl) ?_
            refine lv_iload_n hx hb dmX13_chain_33 rfl (lv_at hl 1 rfl) ?_
            refine lv_aload_n hx hb dmX13_chain_34 rfl (lv_at hl 0 rfl) ?_
            refine mg13_114 hx hb hT hown hK hM dmX13_chain_35 ?_
            obtain ⟨z6, hcq, hq⟩ := tw_cl0 hq
            refine tw_calv hM (va_runV (As := [.int x1, .ref (u 1000)]) (rest := []) ⟨hx, hb, hml, hown, hts⟩ (km_X13_open l D q u hU K x1 1000 mw_n1 z4 z6 hcq) (cwV 2 hts (tw_gV wM_good wq_138 wq_139 wq_140 wq_61 wq_136) rfl rfl rfl cd_X13_open ⟨(Nat.le_of_ble_eq_true rfl), (Nat.le_of_ble_eq_true rfl)⟩) (mw_preV hK hN hM mo_0 rfl) rfl rfl hl.1 rfl (lv_room (Nat.le_of_ble_eq_true rfl)) dmX13_chain_38 ⟨(Nat.le_of_ble_eq_true rfl), (Nat.le_of_ble_eq_true rfl)⟩) (fun H locs hM => ?_)
            refine lv_aload_n hx hb dmX13_chain_41 rfl (lv_at hl 0 rfl) ?_
            refine mg13_114 hx hb hT hown hK hM dmX13_chain_42 ?_
            obtain ⟨z7, hcq, hq⟩ := tw_cl0 hq
            refine tw_calv hM (va_runV (As := []) (rest := []) ⟨hx, hb, hml, hown, hts⟩ (km_X12_split l D q u hU K 1000 mw_n1 z6 z7 hcq) (cwV 0 hts (tw_gV wM_good wq_80 wq_39 wq_40 wq_13 wq_33) rfl rfl rfl cd_X12_split ⟨(Nat.le_of_ble_eq_true rfl), (Nat.le_of_ble_eq_true rfl)⟩) (mw_preV hK hN hM (mo_n mw_n1) rfl) rfl rfl hl.1 rfl (lv_room (Nat.le_of_ble_eq_true rfl)) dmX13_chain_45 ⟨(Nat.le_of_ble_eq_true rfl), (Nat.le_of_ble_eq_true rfl)⟩) (fun H locs hM => ?_)
            refine lv_aload_n hx hb dmX13_chain_48 rfl (lv_at hl 0 rfl) ?_
            refine mg13_114 hx hb hT hown hK hM dmX13_chain_49 ?_
            refine mg13_44 hx hb hT hown hK hM hN mw_n1 hq dmX13_chain_52 (fun v8 hq => ?_)
            refine lv_iconst (v := 2) hx hb dmX13_chain_55 (by decide) ?_
            obtain ⟨hz, hq⟩ := tw_nzI hq
            refine lv_idiv hx hb dmX13_chain_56 hz ?_
            refine lv_istore_n (lv' := [(3, .int (v8 / 2)), (0, .ref (u 0)), (1, .int x1), (2, .int x2)]) hx hb dmX13_chain_57 rfl hl (by decide) rfl (fun ls hl => ?_)
            refine lv_iload_n hx hb dmX13_chain_58 rfl (lv_at hl 0 rfl) ?_
            refine lv_aload_n hx hb dmX13_chain_59 rfl (lv_at hl 1 rfl) ?_
            refine mg13_114 hx hb hT hown hK hM dmX13_chain_60 ?_
            refine mg13_78 hx hb hT hown hK hM hN mw_n1 hq dmX13_chain_63 (fun v9 hq => ?_)
            refine lv_iadd hx hb dmX13_chain_66 ?_
            refine lv_bipush (v := 9) hx hb dmX13_chain_67 (by decide) ?_
            refine lv_icmp_le (tgt := 78) hx hb dmX13_chain_69 (by decide) (fun hc => ?_) (fun hc => ?_)
            · have hq := tw_it hq hc
              refine lv_aload_n hx hb dmX13_chain_78 rfl (lv_at hl 1 rfl) ?_
              refine lv_iload_n hx hb dmX13_chain_79 rfl (lv_at hl 0 rfl) ?_
              refine lv_aload_n hx hb dmX13_chain_80 rfl (lv_at hl 1 rfl) ?_
              refine mg13_114 hx hb hT hown hK hM dmX13_chain_81 ?_
              obtain ⟨v11, z10, hcq, hq⟩ := tw_cl1 hq
              refine tw_cali hM (va_runS (As := [.ref (u 1000)]) (rest := [.int (v8 / 2), .ref (u 0)]) ⟨hx, hb, hml, hown, hts⟩ (km_X13_writheOf l D q u hU K 1000 mw_n1 z7 z10 v11 hcq) (va_cwS 1 hts (tw_gS wM_good wq_144 wq_145 wq_61 wq_133) rfl rfl rfl cd_X13_writheOf ⟨(Nat.le_of_ble_eq_true rfl), (Nat.le_of_ble_eq_true rfl)⟩) (mw_preS hK hN hM) rfl rfl hl.1 rfl (lv_room (Nat.le_of_ble_eq_true rfl)) dmX13_chain_84 ⟨(Nat.le_of_ble_eq_true rfl), (Nat.le_of_ble_eq_true rfl)⟩) (fun H locs hM => ?_)
              refine lv_isub hx hb dmX13_chain_87 ?_
              refine lv_iconst (v := 2) hx hb dmX13_chain_88 (by decide) ?_
              obtain ⟨hz, hq⟩ := tw_nzI hq
              refine lv_idiv hx hb dmX13_chain_89 hz ?_
              refine mp13_690 hx hb hT hown hK hM hU hq dmX13_chain_90 (fun z12 H locs hM hq => ?_)
              refine lv_aload_n hx hb dmX13_chain_93 rfl (lv_at hl 1 rfl) ?_
              refine lv_aload_n hx hb dmX13_chain_94 rfl (lv_at hl 1 rfl) ?_
              refine mg13_114 hx hb hT hown hK hM dmX13_chain_95 ?_
              obtain ⟨z13, hcq, hq⟩ := tw_cl0 hq
              refine tw_calv hM (va_runV (As := [.ref (u 1000)]) (rest := []) ⟨hx, hb, hml, hown, hts⟩ (km_X13_makeStates l D q u hU K 1000 mw_n1 z12 z13 hcq) (cwV 1 hts (tw_gV wM_good wq_466 wq_467 wq_468 wq_61 wq_435) rfl rfl rfl cd_X13_makeStates ⟨(Nat.le_of_ble_eq_true rfl), (Nat.le_of_ble_eq_true rfl)⟩) (mw_preV hK hN hM mo_0 rfl) rfl rfl hl.1 rfl (lv_room (Nat.le_of_ble_eq_true rfl)) dmX13_chain_98 ⟨(Nat.le_of_ble_eq_true rfl), (Nat.le_of_ble_eq_true rfl)⟩) (fun H locs hM => ?_)
              refine lv_aload_n hx hb dmX13_chain_101 rfl (lv_at hl 1 rfl) ?_
              refine lv_iload_n hx hb dmX13_chain_102 rfl (lv_at hl 0 rfl) ?_
              obtain ⟨z14, hcq, hq⟩ := tw_cl0 hq
              refine tw_calv hM (va_runV (As := [.int (v8 / 2)]) (rest := []) ⟨hx, hb, hml, hown, hts⟩ (km_X13_placeAll l D q u hU K (v8 / 2) z13 z14 hcq) (cwV 1 hts (tw_gV wM_good wq_469 wq_470 wq_471 wq_61 wq_445) rfl rfl rfl cd_X13_placeAll ⟨(Nat.le_of_ble_eq_true rfl), (Nat.le_of_ble_eq_true rfl)⟩) (mw_preV hK hN hM mo_0 rfl) rfl rfl hl.1 rfl (lv_room (Nat.le_of_ble_eq_true rfl)) dmX13_chain_103 ⟨(Nat.le_of_ble_eq_true rfl), (Nat.le_of_ble_eq_true rfl)⟩) (fun H locs hM => ?_)
              refine lv_iconst (v := 0) hx hb dmX13_chain_106 (by decide) ?_
              refine lv_istore (lv' := [(4, .int 0), (3, .int (v8 / 2)), (0, .ref (u 0)), (1, .int x1), (2, .int x2)]) hx hb dmX13_chain_107 hl (by decide) rfl (fun ls hl => ?_)
              refine lv_iconst (v := 0) hx hb dmX13_chain_109 (by decide) ?_
              refine lv_istore (lv' := [(5, .int 0), (4, .int 0), (3, .int (v8 / 2)), (0, .ref (u 0)), (1, .int x1), (2, .int x2)]) hx hb dmX13_chain_110 hl (by decide) rfl (fun ls hl => ?_)
              exact ih_1 x1 x2 (v8 / 2) 0 0 0 0 0 z14 H locs ls hM (lv_sub hl [3, 4, 5, 2, 1, 0] rfl) hq
            · have hq := tw_if hq hc
              refine lv_aload_n hx hb dmX13_chain_72 rfl (lv_at hl 1 rfl) ?_
              refine lv_iconst (v := 3) hx hb dmX13_chain_73 (by decide) ?_
              obtain ⟨v16, z15, hcq, hq⟩ := tw_cl1 hq
              refine tw_cali hM (va_runV (As := [.int 3]) (rest := []) ⟨hx, hb, hml, hown, hts⟩ (km_X13_fails l D q u hU K 3 z7 z15 v16 hcq) (cwV 1 hts (tw_gV wM_good wq_103 wq_104 wq_105 wq_61 wq_50) rfl rfl rfl cd_X13_fails ⟨(Nat.le_of_ble_eq_true rfl), (Nat.le_of_ble_eq_true rfl)⟩) (mw_preV hK hN hM mo_0 rfl) rfl rfl hl.1 rfl (lv_room (Nat.le_of_ble_eq_true rfl)) dmX13_chain_74 ⟨(Nat.le_of_ble_eq_true rfl), (Nat.le_of_ble_eq_true rfl)⟩) (fun H locs hM => ?_)
              exact mw_iret hx hb hr hlocks hM hq hQQ dmX13_chain_77
          · have hq := tw_it hq hc
            refine lv_aload_n hx hb dmX13_chain_26 rfl (lv_at hl 0 rfl) ?_
            refine lv_iconst (v := 2) hx hb dmX13_chain_27 (by decide) ?_
            obtain ⟨v18, z17, hcq, hq⟩ := tw_cl1 hq
            refine tw_cali hM (va_runV (As := [.int 2]) (rest := []) ⟨hx, hb, hml, hown, hts⟩ (km_X13_fails l D q u hU K 2 z4 z17 v18 hcq) (cwV 1 hts (tw_gV wM_good wq_103 wq_104 wq_105 wq_61 wq_50) rfl rfl rfl cd_X13_fails ⟨(Nat.le_of_ble_eq_true rfl), (Nat.le_of_ble_eq_true rfl)⟩) (mw_preV hK hN hM mo_0 rfl) rfl rfl hl.1 rfl (lv_room (Nat.le_of_ble_eq_true rfl)) dmX13_chain_28 ⟨(Nat.le_of_ble_eq_true rfl), (Nat.le_of_ble_eq_true rfl)⟩) (fun H locs hM => ?_)
            exact mw_iret hx hb hr hlocks hM hq hQQ dmX13_chain_31
        · have hq := tw_it hq hc
          refine lv_aload_n hx hb dmX13_chain_13 rfl (lv_at hl 0 rfl) ?_
          refine lv_iconst (v := 1) hx hb dmX13_chain_14 (by decide) ?_
          obtain ⟨v20, z19, hcq, hq⟩ := tw_cl1 hq
          refine tw_cali hM (va_runV (As := [.int 1]) (rest := []) ⟨hx, hb, hml, hown, hts⟩ (km_X13_fails l D q u hU K 1 z2 z19 v20 hcq) (cwV 1 hts (tw_gV wM_good wq_103 wq_104 wq_105 wq_61 wq_50) rfl rfl rfl cd_X13_fails ⟨(Nat.le_of_ble_eq_true rfl), (Nat.le_of_ble_eq_true rfl)⟩) (mw_preV hK hN hM mo_0 rfl) rfl rfl hl.1 rfl (lv_room (Nat.le_of_ble_eq_true rfl)) dmX13_chain_15 ⟨(Nat.le_of_ble_eq_true rfl), (Nat.le_of_ble_eq_true rfl)⟩) (fun H locs hM => ?_)
          exact mw_iret hx hb hr hlocks hM hq hQQ dmX13_chain_18
      · intro x1 x2 x3 x4 x5 x6 t0 t1 z H locs ls  hM hl hq
        have hq : qm_X13_chain_1 K (q_X13_chain K k) x1 x2 x3 x4 x5 x6 t0 t1 z = some (r, z1) := hq
        unfold qm_X13_chain_1 at hq
        refine lv_iload hx hb dmX13_chain_112 (lv_at hl 5 rfl) ?_
        refine lv_bipush (v := 80) hx hb dmX13_chain_114 (by decide) ?_
        refine lv_icmp_ge (tgt := 257) hx hb dmX13_chain_116 (by decide) (fun hc => ?_) (fun hc => ?_)
        · have hq := tw_it hq hc
          refine lv_iload hx hb dmX13_chain_257 (lv_at hl 4 rfl) ?_
          exact mw_iret hx hb hr hlocks hM hq hQQ dmX13_chain_259
        · have hq := tw_if hq hc
          refine lv_iconst (v := 0) hx hb dmX13_chain_119 (by decide) ?_
          refine lv_istore (lv' := [(6, .int 0), (0, .ref (u 0)), (1, .int x1), (2, .int x2), (3, .int x3), (4, .int x4), (5, .int x5)]) hx hb dmX13_chain_120 hl (by decide) rfl (fun ls hl => ?_)
          exact ih_2 x1 x2 x3 x4 x5 0 0 0 z H locs ls hM (lv_sub hl [1, 2, 3, 4, 5, 6, 0] rfl) hq
      · intro x1 x2 x3 x4 x5 x6 t0 t1 z H locs ls  hM hl hq
        have hq : qm_X13_chain_2 K (q_X13_chain K k) x1 x2 x3 x4 x5 x6 t0 t1 z = some (r, z1) := hq
        unfold qm_X13_chain_2 at hq
        refine lv_iload hx hb dmX13_chain_122 (lv_at hl 6 rfl) ?_
        refine lv_iload_n hx hb dmX13_chain_124 rfl (lv_at hl 3 rfl) ?_
        refine lv_icmp_ge (tgt := 160) hx hb dmX13_chain_125 (by decide) (fun hc => ?_) (fun hc => ?_)
        · have hq := tw_it hq hc
          refine lv_iconst (v := 0) hx hb dmX13_chain_160 (by decide) ?_
          refine lv_istore (lv' := [(6, .int 0), (0, .ref (u 0)), (1, .int x1), (2, .int x2), (3, .int x3), (4, .int x4), (5, .int x5)]) hx hb dmX13_chain_161 hl (by decide) rfl (fun ls hl => ?_)
          exact ih_3 x1 x2 x3 x4 x5 0 0 0 z H locs ls hM (lv_sub hl [1, 2, 3, 4, 5, 6, 0] rfl) hq
        · have hq := tw_if hq hc
          refine lv_aload_n hx hb dmX13_chain_128 rfl (lv_at hl 0 rfl) ?_
          refine mg13_301 hx hb hT hown hK hM dmX13_chain_129 ?_
          refine lv_bipush (v := 80) hx hb dmX13_chain_132 (by decide) ?_
          refine lv_iload hx hb dmX13_chain_134 (lv_at hl 6 rfl) ?_
          refine lv_imul hx hb dmX13_chain_136 ?_
          refine lv_iload hx hb dmX13_chain_137 (lv_at hl 5 rfl) ?_
          refine lv_iadd hx hb dmX13_chain_139 ?_
          refine lv_aload_n hx hb dmX13_chain_140 rfl (lv_at hl 0 rfl) ?_
          refine lv_aload_n hx hb dmX13_chain_141 rfl (lv_at hl 0 rfl) ?_
          refine mg13_114 hx hb hT hown hK hM dmX13_chain_142 ?_
          refine lv_iload hx hb dmX13_chain_145 (lv_at hl 6 rfl) ?_
          refine lv_iload hx hb dmX13_chain_147 (lv_at hl 5 rfl) ?_
          refine lv_iload_n hx hb dmX13_chain_149 rfl (lv_at hl 2 rfl) ?_
          obtain ⟨v22, z21, hcq, hq⟩ := tw_cl1 hq
          refine tw_cali hM (va_runV (As := [.ref (u 1000), .int x6, .int x5, .int x2]) (rest := [.int ((80 * x6) + x5), .ref (u 86)]) ⟨hx, hb, hml, hown, hts⟩ (km_X13_rankOf l D q u hU K 1000 x6 x5 x2 mw_n1 z z21 v22 hcq) (cwV 4 hts (tw_gV wM_good wq_472 wq_473 wq_474 wq_61 wq_462) rfl rfl rfl cd_X13_rankOf ⟨(Nat.le_of_ble_eq_true rfl), (Nat.le_of_ble_eq_true rfl)⟩) (mw_preV hK hN hM mo_0 rfl) rfl rfl hl.1 rfl (lv_room (Nat.le_of_ble_eq_true rfl)) dmX13_chain_150 ⟨(Nat.le_of_ble_eq_true rfl), (Nat.le_of_ble_eq_true rfl)⟩) (fun H locs hM => ?_)
          refine tw_iast mX_ok hU hx hb hK hM mr_86 hq dmX13_chain_153 (fun z23 H locs hM hq => ?_)
          refine lv_iinc (v := (x6 + 1)) (lv' := [(6, .int (x6 + 1)), (0, .ref (u 0)), (1, .int x1), (2, .int x2), (3, .int x3), (4, .int x4), (5, .int x5)]) hx hb dmX13_chain_154 hl (k := 6) rfl rfl (by decide) rfl (fun ls hl => ?_)
          refine lv_goto (tgt := 122) hx hb dmX13_chain_157 (by decide) ?_
          exact ih_2 x1 x2 x3 x4 x5 (x6 + 1) 0 0 z23 H locs ls hM (lv_sub hl [1, 2, 3, 4, 5, 6, 0] rfl) hq
      · intro x1 x2 x3 x4 x5 x6 t0 t1 z H locs ls  hM hl hq
        have hq : qm_X13_chain_3 K (q_X13_chain K k) x1 x2 x3 x4 x5 x6 t0 t1 z = some (r, z1) := hq
        unfold qm_X13_chain_3 at hq
        refine lv_iload hx hb dmX13_chain_163 (lv_at hl 6 rfl) ?_
        refine lv_iload_n hx hb dmX13_chain_165 rfl (lv_at hl 3 rfl) ?_
        refine lv_icmp_gt (tgt := 251) hx hb dmX13_chain_166 (by decide) (fun hc => ?_) (fun hc => ?_)
        · have hq := tw_it hq hc
          refine lv_iinc (v := (x5 + 1)) (lv' := [(5, .int (x5 + 1)), (0, .ref (u 0)), (1, .int x1), (2, .int x2), (3, .int x3), (4, .int x4), (6, .int x6)]) hx hb dmX13_chain_251 hl (k := 5) rfl rfl (by decide) rfl (fun ls hl => ?_)
          refine lv_goto (tgt := 112) hx hb dmX13_chain_254 (by decide) ?_
          exact ih_1 x1 x2 x3 x4 (x5 + 1) 0 0 0 z H locs ls hM (lv_sub hl [1, 2, 3, 4, 5, 0] rfl) hq
        · have hq := tw_if hq hc
          refine lv_aload_n hx hb dmX13_chain_169 rfl (lv_at hl 0 rfl) ?_
          refine mg13_298 hx hb hT hown hK hM dmX13_chain_170 ?_
          refine lv_bipush (v := 80) hx hb dmX13_chain_173 (by decide) ?_
          refine lv_iload hx hb dmX13_chain_175 (lv_at hl 6 rfl) ?_
          refine lv_imul hx hb dmX13_chain_177 ?_
          refine lv_iload hx hb dmX13_chain_178 (lv_at hl 5 rfl) ?_
          refine lv_iadd hx hb dmX13_chain_180 ?_
          refine tw_iald mX_ok hx hb hK hM mr_85 hq dmX13_chain_181 (fun v24 hq => ?_)
          refine lv_aload_n hx hb dmX13_chain_182 rfl (lv_at hl 0 rfl) ?_
          refine mg13_301 hx hb hT hown hK hM dmX13_chain_183 ?_
          refine lv_bipush (v := 80) hx hb dmX13_chain_186 (by decide) ?_
          refine lv_iload hx hb dmX13_chain_188 (lv_at hl 6 rfl) ?_
          refine lv_imul hx hb dmX13_chain_190 ?_
          refine lv_iload hx hb dmX13_chain_191 (lv_at hl 5 rfl) ?_
          refine lv_iadd hx hb dmX13_chain_193 ?_
          refine tw_iald mX_ok hx hb hK hM mr_86 hq dmX13_chain_194 (fun v25 hq => ?_)
          refine lv_isub hx hb dmX13_chain_195 ?_
          refine lv_iload hx hb dmX13_chain_196 (lv_at hl 6 rfl) ?_
          refine lv_if_ne (tgt := 205) hx hb dmX13_chain_198 (by decide) (fun hc => ?_) (fun hc => ?_)
          · have hq := tw_if hq hc
            refine lv_aload_n hx hb dmX13_chain_205 rfl (lv_at hl 0 rfl) ?_
            refine mg13_301 hx hb hT hown hK hM dmX13_chain_206 ?_
            refine lv_bipush (v := 80) hx hb dmX13_chain_209 (by decide) ?_
            refine lv_iload hx hb dmX13_chain_211 (lv_at hl 6 rfl) ?_
            refine lv_iconst (v := 1) hx hb dmX13_chain_213 (by decide) ?_
            refine lv_isub hx hb dmX13_chain_214 ?_
            refine lv_imul hx hb dmX13_chain_215 ?_
            refine lv_iload hx hb dmX13_chain_216 (lv_at hl 5 rfl) ?_
            refine lv_iadd hx hb dmX13_chain_218 ?_
            refine tw_iald mX_ok hx hb hK hM mr_86 hq dmX13_chain_219 (fun v26 hq => ?_)
            exact ih_4 x1 x2 x3 x4 x5 x6 v26 (v24 - v25) z H locs ls hM (lv_sub hl [0, 1, 2, 3, 4, 5, 6] rfl) hq
          · have hq := tw_it hq hc
            refine lv_iconst (v := 0) hx hb dmX13_chain_201 (by decide) ?_
            refine lv_goto (tgt := 220) hx hb dmX13_chain_202 (by decide) ?_
            exact ih_4 x1 x2 x3 x4 x5 x6 0 (v24 - v25) z H locs ls hM (lv_sub hl [0, 1, 2, 3, 4, 5, 6] rfl) hq
      · intro x1 x2 x3 x4 x5 x6 t0 t1 z H locs ls  hM hl hq
        have hq : qm_X13_chain_4 K (q_X13_chain K k) x1 x2 x3 x4 x5 x6 t0 t1 z = some (r, z1) := hq
        unfold qm_X13_chain_4 at hq
        refine lv_isub hx hb dmX13_chain_220 ?_
        refine lv_istore (lv' := [(7, .int (t1 - t0)), (0, .ref (u 0)), (1, .int x1), (2, .int x2), (3, .int x3), (4, .int x4), (5, .int x5), (6, .int x6)]) hx hb dmX13_chain_221 hl (by decide) rfl (fun ls hl => ?_)
        refine lv_aload_n hx hb dmX13_chain_223 rfl (lv_at hl 1 rfl) ?_
        refine mg13_304 hx hb hT hown hK hM dmX13_chain_224 ?_
        refine lv_bipush (v := 80) hx hb dmX13_chain_227 (by decide) ?_
        refine lv_iload hx hb dmX13_chain_229 (lv_at hl 7 rfl) ?_
        refine lv_imul hx hb dmX13_chain_231 ?_
        refine lv_iload hx hb dmX13_chain_232 (lv_at hl 6 rfl) ?_
        refine lv_iadd hx hb dmX13_chain_234 ?_
        refine lv_iload hx hb dmX13_chain_235 (lv_at hl 0 rfl) ?_
        refine tw_iast mX_ok hU hx hb hK hM mr_87 hq dmX13_chain_237 (fun z27 H locs hM hq => ?_)
        refine lv_iload hx hb dmX13_chain_238 (lv_at hl 5 rfl) ?_
        refine lv_iload hx hb dmX13_chain_240 (lv_at hl 0 rfl) ?_
        refine lv_iadd hx hb dmX13_chain_242 ?_
        refine lv_istore (lv' := [(4, .int (x4 + (t1 - t0))), (7, .int (t1 - t0)), (0, .ref (u 0)), (1, .int x1), (2, .int x2), (3, .int x3), (5, .int x5), (6, .int x6)]) hx hb dmX13_chain_243 hl (by decide) rfl (fun ls hl => ?_)
        refine lv_iinc (v := (x6 + 1)) (lv' := [(6, .int (x6 + 1)), (4, .int (x4 + (t1 - t0))), (7, .int (t1 - t0)), (0, .ref (u 0)), (1, .int x1), (2, .int x2), (3, .int x3), (5, .int x5)]) hx hb dmX13_chain_245 hl (k := 7) rfl rfl (by decide) rfl (fun ls hl => ?_)
        refine lv_goto (tgt := 163) hx hb dmX13_chain_248 (by decide) ?_
        exact ih_3 x1 x2 x3 (x4 + (t1 - t0)) x5 (x6 + 1) 0 0 z27 H locs ls hM (lv_sub hl [3, 4, 5, 6, 1, 7, 0] rfl) hq
  exact (key K).1 x1 x2 0 0 0 0 0 0 z s.heap [] ls  hM (lv_sub hl [0, 1, 2] rfl) hq
theorem dmX13_rank_0 : decode cX13_rank 0 = .ok (.aload_n 0, 1) := dw_at cX13_rank_k0 (p := 0) rfl (by decide +kernel)
theorem dmX13_rank_1 : decode cX13_rank 1 = .ok (.iconst 0, 1) := dw_at cX13_rank_k0 (p := 1) rfl (by decide +kernel)
theorem dmX13_rank_2 : decode cX13_rank 2 = .ok (.putfield 1, 3) := dw_at cX13_rank_k0 (p := 2) rfl (by decide +kernel)
theorem dmX13_rank_5 : decode cX13_rank 5 = .ok (.iload_n 1, 1) := dw_at cX13_rank_k0 (p := 5) rfl (by decide +kernel)
theorem dmX13_rank_6 : decode cX13_rank 6 = .ok (.i2l, 1) := dw_at cX13_rank_k0 (p := 6) rfl (by decide +kernel)
theorem dmX13_rank_7 : decode cX13_rank 7 = .ok (.aload_n 0, 1) := dw_at cX13_rank_k0 (p := 7) rfl (by decide +kernel)
theorem dmX13_rank_8 : decode cX13_rank 8 = .ok (.getfield 690, 3) := dw_at cX13_rank_k0 (p := 8) rfl (by decide +kernel)
theorem dmX13_rank_11 : decode cX13_rank 11 = .ok (.i2l, 1) := dw_at cX13_rank_k0 (p := 11) rfl (by decide +kernel)
theorem dmX13_rank_12 : decode cX13_rank 12 = .ok (.ladd, 1) := dw_at cX13_rank_k0 (p := 12) rfl (by decide +kernel)
theorem dmX13_rank_13 : decode cX13_rank 13 = .ok (.lstore_n 3, 1) := dw_at cX13_rank_k0 (p := 13) rfl (by decide +kernel)
theorem dmX13_rank_14 : decode cX13_rank 14 = .ok (.lload_n 3, 1) := dw_at cX13_rank_k0 (p := 14) rfl (by decide +kernel)
theorem dmX13_rank_15 : decode cX13_rank 15 = .ok (.lconst 0, 1) := dw_at cX13_rank_k0 (p := 15) rfl (by decide +kernel)
theorem dmX13_rank_16 : decode cX13_rank 16 = .ok (.lcmp, 1) := dw_at cX13_rank_k0 (p := 16) rfl (by decide +kernel)
theorem dmX13_rank_17 : decode cX13_rank 17 = .ok (.ifCond .lt 23, 3) := dw_at cX13_rank_k0 (p := 17) rfl (by decide +kernel)
theorem dmX13_rank_20 : decode cX13_rank 20 = .ok (.lload_n 3, 1) := dw_at cX13_rank_k0 (p := 20) rfl (by decide +kernel)
theorem dmX13_rank_21 : decode cX13_rank 21 = .ok (.ldc2_w 722, 3) := dw_at cX13_rank_k0 (p := 21) rfl (by decide +kernel)
theorem dmX13_rank_24 : decode cX13_rank 24 = .ok (.lcmp, 1) := dw_at cX13_rank_k1 (p := 0) rfl (by decide +kernel)
theorem dmX13_rank_25 : decode cX13_rank 25 = .ok (.ifCond .gt 15, 3) := dw_at cX13_rank_k1 (p := 1) rfl (by decide +kernel)
theorem dmX13_rank_28 : decode cX13_rank 28 = .ok (.iload_n 2, 1) := dw_at cX13_rank_k1 (p := 4) rfl (by decide +kernel)
theorem dmX13_rank_29 : decode cX13_rank 29 = .ok (.bipush (-40), 2) := dw_at cX13_rank_k1 (p := 5) rfl (by decide +kernel)
theorem dmX13_rank_31 : decode cX13_rank 31 = .ok (.if_icmp .lt 9, 3) := dw_at cX13_rank_k1 (p := 7) rfl (by decide +kernel)
theorem dmX13_rank_34 : decode cX13_rank 34 = .ok (.iload_n 2, 1) := dw_at cX13_rank_k1 (p := 10) rfl (by decide +kernel)
theorem dmX13_rank_35 : decode cX13_rank 35 = .ok (.bipush 40, 2) := dw_at cX13_rank_k1 (p := 11) rfl (by decide +kernel)
theorem dmX13_rank_37 : decode cX13_rank 37 = .ok (.if_icmp .lt 7, 3) := dw_at cX13_rank_k1 (p := 13) rfl (by decide +kernel)
theorem dmX13_rank_40 : decode cX13_rank 40 = .ok (.iconst 0, 1) := dw_at cX13_rank_k1 (p := 16) rfl (by decide +kernel)
theorem dmX13_rank_41 : decode cX13_rank 41 = .ok (.goto 18, 3) := dw_at cX13_rank_k1 (p := 17) rfl (by decide +kernel)
theorem dmX13_rank_44 : decode cX13_rank 44 = .ok (.aload_n 0, 1) := dw_at cX13_rank_k1 (p := 20) rfl (by decide +kernel)
theorem dmX13_rank_45 : decode cX13_rank 45 = .ok (.getfield 304, 3) := dw_at cX13_rank_k1 (p := 21) rfl (by decide +kernel)
theorem dmX13_rank_48 : decode cX13_rank 48 = .ok (.bipush 80, 2) := dw_at cX13_rank_k2 (p := 0) rfl (by decide +kernel)
theorem dmX13_rank_50 : decode cX13_rank 50 = .ok (.lload_n 3, 1) := dw_at cX13_rank_k2 (p := 2) rfl (by decide +kernel)
theorem dmX13_rank_51 : decode cX13_rank 51 = .ok (.l2i, 1) := dw_at cX13_rank_k2 (p := 3) rfl (by decide +kernel)
theorem dmX13_rank_52 : decode cX13_rank 52 = .ok (.imul, 1) := dw_at cX13_rank_k2 (p := 4) rfl (by decide +kernel)
theorem dmX13_rank_53 : decode cX13_rank 53 = .ok (.iload_n 2, 1) := dw_at cX13_rank_k2 (p := 5) rfl (by decide +kernel)
theorem dmX13_rank_54 : decode cX13_rank 54 = .ok (.iadd, 1) := dw_at cX13_rank_k2 (p := 6) rfl (by decide +kernel)
theorem dmX13_rank_55 : decode cX13_rank 55 = .ok (.bipush 40, 2) := dw_at cX13_rank_k2 (p := 7) rfl (by decide +kernel)
theorem dmX13_rank_57 : decode cX13_rank 57 = .ok (.iadd, 1) := dw_at cX13_rank_k2 (p := 9) rfl (by decide +kernel)
theorem dmX13_rank_58 : decode cX13_rank 58 = .ok (.iaload, 1) := dw_at cX13_rank_k2 (p := 10) rfl (by decide +kernel)
theorem dmX13_rank_59 : decode cX13_rank 59 = .ok (.ireturn, 1) := dw_at cX13_rank_k2 (p := 11) rfl (by decide +kernel)
def qm_X13_rank_0 (K : Nat) (go : Nat → Int32 → Int32 → Int64 → ow_MS → Option (Int32 × ow_MS)) (x1 : Int32) (x2 : Int32) (w3 : Int64) (z : ow_MS) : Option (Int32 × ow_MS) :=
 wrF z 1 0 fun z1 => rdF z1 88 fun v2 => (if (lg_cmp (x1.toInt64 + v2.toInt64) 0) < 0 then go 1 x1 x2 (x1.toInt64 + v2.toInt64) z1
 else (if 0 < (lg_cmp (x1.toInt64 + v2.toInt64) 9) then go 1 x1 x2 (x1.toInt64 + v2.toInt64) z1
 else (if x2 < (-40) then go 1 x1 x2 (x1.toInt64 + v2.toInt64) z1
 else (if x2 < 40 then rdI mX z1 87 (((80 * ((x1.toInt64 + v2.toInt64).toInt32)) + x2) + 40) fun v3 => some (v3, z1)
 else go 1 x1 x2 (x1.toInt64 + v2.toInt64) z1))))
def qm_X13_rank_1 (K : Nat) (go : Nat → Int32 → Int32 → Int64 → ow_MS → Option (Int32 × ow_MS)) (x1 : Int32) (x2 : Int32) (w3 : Int64) (z : ow_MS) : Option (Int32 × ow_MS) :=
 some (0, z)
def qb_X13_rank (K : Nat) (go : Nat → Int32 → Int32 → Int64 → ow_MS → Option (Int32 × ow_MS)) (L : Nat) (x1 : Int32) (x2 : Int32) (w3 : Int64) (z : ow_MS) : Option (Int32 × ow_MS) := match L with
  | 0 => qm_X13_rank_0 K go x1 x2 w3 z
  | 1 => qm_X13_rank_1 K go x1 x2 w3 z
  | _ => none
def q_X13_rank (K : Nat) : Nat → Nat → Int32 → Int32 → Int64 → ow_MS → Option (Int32 × ow_MS)
  | 0 => fun _ _ _ _ _ => none
  | k + 1 => qb_X13_rank K (q_X13_rank K k)
def qe_X13_rank (K : Nat) (x1 : Int32) (x2 : Int32) (z : ow_MS) : Option (Int32 × ow_MS) := q_X13_rank K K 0 x1 x2 0 z
abbrev wm_X13_rank : List Cond := .code yX13_rank cX13_rank 5 (some .int) :: wM
theorem cd_X13_rank : yX13_rank.cls = RX13 ∧ yX13_rank.cls ≠ "java/lang/invoke/MethodHandle" ∧ yX13_rank.cls ≠ "java/lang/invoke/VarHandle" ∧ (parseMethodDescriptor yX13_rank.desc).map (fun d => d.parameters.length) = some 2 := by decide +kernel
set_option maxHeartbeats 4000000 in
set_option maxRecDepth 100000 in
theorem km_X13_rank (l : Launch) (D : va_G) (q : ow_Q5) (u : Nat → Nat) (hU : tw_inj mX u) (K : Nat) (x1 : Int32) (x2 : Int32)  (z z1 : ow_MS) (r : Int32) (hq : qe_X13_rank K x1 x2 z = some (r, z1)) : Met l yX13_rank wm_X13_rank ({ frames := 0, cells := 0, slots := 0, locals := 0 } : Room) (va_Pc [.ref (u 0), .int x1, .int x2] (mw_pre D q u z)) (va_Qi (fun x (_ : Unit) => x = r) (fun _ t => va_P D vwCl (tw mX q u z1) t.heap) (tw_A mX u)) 0 0 (tw_A mX u) := by
  refine Met.ofW (cc := cX13_rank) (maxL := 5) (ret := (some .int)) (by decide) rfl ?_
  intro p e s m args below meth c s₁ B hml hv
  obtain ⟨rfl, hP, hK, hN⟩ := hv
  have hx := B.exec
  have hb := B.bytes
  have hr := B.returns
  have hts := atoms_spec (ws := wm_X13_rank) B.pre
  have hT : ∀ w ∈ wM, w.before ([.ref (u 0), .int x1, .int x2] : List Value).toArray s = true := fun w h => hts w (List.mem_cons_of_mem _ h)
  have hown : s.vm.findClass RX13 = some m.cls := findClass_of_methodNamed B.named
  have hlocks := B.notSynchronized
  have hM : tw_M D vwCl mX q s.heap u z s.heap [] := ⟨hP, va_S.rf⟩
  have hl := lv_entry ([.ref (u 0), .int x1, .int x2]) (n := 5) (Nat.le_of_ble_eq_true rfl)
  rw [lg_entry_eq]
  generalize (lg_sl ([.ref (u 0), .int x1, .int x2]) ++ List.replicate (5 - (lg_sl ([.ref (u 0), .int x1, .int x2])).length) Slot.unset).toArray = ls at hl ⊢
  have hl : lv_has ls 5 [(0, .ref (u 0)), (1, .int x1), (2, .int x2)] := hl
  refine ow_named (fun QQ hQQ => ?_)
  generalize ([.ref (u 0), .int x1, .int x2] : List Value).toArray = args at hts hT hQQ ⊢
  have key : ∀ k : Nat, (∀ (x1 : Int32) (x2 : Int32) (w3 : Int64) (z : ow_MS) (H : Heap) (locs : List Loc) (ls : Array Slot), tw_M D vwCl mX q s.heap u z H locs → lv_has ls 5 [(0, .ref (u 0)), (1, .int x1), (2, .int x2)] → q_X13_rank K k 0 x1 x2 w3 z = some (r, z1) → W p l e ({ frames := 0, cells := 0, slots := 0, locals := 0 } : Room) s m args below meth c H locs 0 0 QQ (F0 m 0 ls [])) ∧ (∀ (x1 : Int32) (x2 : Int32) (w3 : Int64) (z : ow_MS) (H : Heap) (locs : List Loc) (ls : Array Slot), tw_M D vwCl mX q s.heap u z H locs → lv_has ls 5 [(0, .ref (u 0)), (1, .int x1), (2, .int x2), (3, .long w3)] → q_X13_rank K k 1 x1 x2 w3 z = some (r, z1) → W p l e ({ frames := 0, cells := 0, slots := 0, locals := 0 } : Room) s m args below meth c H locs 0 0 QQ (F0 m 40 ls [])) := by
    intro k
    induction k with
    | zero => exact ⟨fun _ _ _ _ _ _ _  _ _ hq => tw_no hq, fun _ _ _ _ _ _ _  _ _ hq => tw_no hq⟩
    | succ k ih =>
      obtain ⟨ih_0, ih_1⟩ := ih
      refine ⟨?_, ?_⟩
      · intro x1 x2 w3 z H locs ls  hM hl hq
        have hq : qm_X13_rank_0 K (q_X13_rank K k) x1 x2 w3 z = some (r, z1) := hq
        unfold qm_X13_rank_0 at hq
        refine lv_aload_n hx hb dmX13_rank_0 rfl (lv_at hl 0 rfl) ?_
        refine lv_iconst (v := 0) hx hb dmX13_rank_1 (by decide) ?_
        refine mp13_1 hx hb hT hown hK hM hU hq dmX13_rank_2 (fun z1 H locs hM hq => ?_)
        refine lv_iload_n hx hb dmX13_rank_5 rfl (lv_at hl 1 rfl) ?_
        refine lv_i2l hx hb dmX13_rank_6 rfl ?_
        refine lv_aload_n hx hb dmX13_rank_7 rfl (lv_at hl 0 rfl) ?_
        refine mg13_690 hx hb hT hown hK hM hq dmX13_rank_8 (fun v2 hq => ?_)
        refine lv_i2l hx hb dmX13_rank_11 rfl ?_
        refine lv_ladd hx hb dmX13_rank_12 ?_
        refine lv_lstore_n (lv' := [(3, .long (x1.toInt64 + v2.toInt64)), (0, .ref (u 0)), (1, .int x1), (2, .int x2)]) hx hb dmX13_rank_13 rfl hl (by decide) rfl (fun ls hl => ?_)
        refine lv_lload_n hx hb dmX13_rank_14 rfl (lv_at hl 0 rfl) ?_
        refine lv_lconst (v := 0) hx hb dmX13_rank_15 rfl ?_
        refine W.lcmp hx hb dmX13_rank_16 ?_
        refine lv_if_lt (tgt := 40) hx hb dmX13_rank_17 (by decide) (fun hc => ?_) (fun hc => ?_)
        · have hq := tw_it hq hc
          exact ih_1 x1 x2 (x1.toInt64 + v2.toInt64) z1 H locs ls hM (lv_sub hl [1, 2, 3, 0] rfl) hq
        · have hq := tw_if hq hc
          refine lv_lload_n hx hb dmX13_rank_20 rfl (lv_at hl 0 rfl) ?_
          refine lv_ldc2 (v := 9) hx hb hown (hT _ wq_476) dmX13_rank_21 ?_
          refine W.lcmp hx hb dmX13_rank_24 ?_
          refine lv_if_gt (tgt := 40) hx hb dmX13_rank_25 (by decide) (fun hc => ?_) (fun hc => ?_)
          · have hq := tw_it hq hc
            exact ih_1 x1 x2 (x1.toInt64 + v2.toInt64) z1 H locs ls hM (lv_sub hl [1, 2, 3, 0] rfl) hq
          · have hq := tw_if hq hc
            refine lv_iload_n hx hb dmX13_rank_28 rfl (lv_at hl 3 rfl) ?_
            refine lv_bipush (v := (-40)) hx hb dmX13_rank_29 (by decide) ?_
            refine lv_icmp_lt (tgt := 40) hx hb dmX13_rank_31 (by decide) (fun hc => ?_) (fun hc => ?_)
            · have hq := tw_it hq hc
              exact ih_1 x1 x2 (x1.toInt64 + v2.toInt64) z1 H locs ls hM (lv_sub hl [1, 2, 3, 0] rfl) hq
            · have hq := tw_if hq hc
              refine lv_iload_n hx hb dmX13_rank_34 rfl (lv_at hl 3 rfl) ?_
              refine lv_bipush (v := 40) hx hb dmX13_rank_35 (by decide) ?_
              refine lv_icmp_lt (tgt := 44) hx hb dmX13_rank_37 (by decide) (fun hc => ?_) (fun hc => ?_)
              · have hq := tw_it hq hc
                refine lv_aload_n hx hb dmX13_rank_44 rfl (lv_at hl 1 rfl) ?_
                refine mg13_304 hx hb hT hown hK hM dmX13_rank_45 ?_
                refine lv_bipush (v := 80) hx hb dmX13_rank_48 (by decide) ?_
                refine lv_lload_n hx hb dmX13_rank_50 rfl (lv_at hl 0 rfl) ?_
                refine lv_l2i hx hb dmX13_rank_51 rfl ?_
                refine lv_imul hx hb dmX13_rank_52 ?_
                refine lv_iload_n hx hb dmX13_rank_53 rfl (lv_at hl 3 rfl) ?_
                refine lv_iadd hx hb dmX13_rank_54 ?_
                refine lv_bipush (v := 40) hx hb dmX13_rank_55 (by decide) ?_
                refine lv_iadd hx hb dmX13_rank_57 ?_
                refine tw_iald mX_ok hx hb hK hM mr_87 hq dmX13_rank_58 (fun v3 hq => ?_)
                exact mw_iret hx hb hr hlocks hM hq hQQ dmX13_rank_59
              · have hq := tw_if hq hc
                exact ih_1 x1 x2 (x1.toInt64 + v2.toInt64) z1 H locs ls hM (lv_sub hl [1, 2, 3, 0] rfl) hq
      · intro x1 x2 w3 z H locs ls  hM hl hq
        have hq : qm_X13_rank_1 K (q_X13_rank K k) x1 x2 w3 z = some (r, z1) := hq
        unfold qm_X13_rank_1 at hq
        refine lv_iconst (v := 0) hx hb dmX13_rank_40 (by decide) ?_
        refine lv_goto (tgt := 59) hx hb dmX13_rank_41 (by decide) ?_
        exact mw_iret hx hb hr hlocks hM hq hQQ dmX13_rank_59
  exact (key K).1 x1 x2 0 z s.heap [] ls  hM (lv_sub hl [0, 1, 2] rfl) hq
theorem dmX13_hasBraid_0 : decode cX13_hasBraid 0 = .ok (.iload_n 1, 1) := by decide +kernel
theorem dmX13_hasBraid_1 : decode cX13_hasBraid 1 = .ok (.ifCond .lt 22, 3) := by decide +kernel
theorem dmX13_hasBraid_4 : decode cX13_hasBraid 4 = .ok (.iload_n 1, 1) := by decide +kernel
theorem dmX13_hasBraid_5 : decode cX13_hasBraid 5 = .ok (.bipush 20, 2) := by decide +kernel
theorem dmX13_hasBraid_7 : decode cX13_hasBraid 7 = .ok (.if_icmp .ge 16, 3) := by decide +kernel
theorem dmX13_hasBraid_10 : decode cX13_hasBraid 10 = .ok (.aload_n 0, 1) := by decide +kernel
theorem dmX13_hasBraid_11 : decode cX13_hasBraid 11 = .ok (.getfield 326, 3) := by decide +kernel
theorem dmX13_hasBraid_14 : decode cX13_hasBraid 14 = .ok (.iload_n 1, 1) := by decide +kernel
theorem dmX13_hasBraid_15 : decode cX13_hasBraid 15 = .ok (.iaload, 1) := by decide +kernel
theorem dmX13_hasBraid_16 : decode cX13_hasBraid 16 = .ok (.ifCond .le 7, 3) := by decide +kernel
theorem dmX13_hasBraid_19 : decode cX13_hasBraid 19 = .ok (.iconst 1, 1) := by decide +kernel
theorem dmX13_hasBraid_20 : decode cX13_hasBraid 20 = .ok (.goto 4, 3) := by decide +kernel
theorem dmX13_hasBraid_23 : decode cX13_hasBraid 23 = .ok (.iconst 0, 1) := by decide +kernel
theorem dmX13_hasBraid_24 : decode cX13_hasBraid 24 = .ok (.ireturn, 1) := by decide +kernel
def qm_X13_hasBraid_0 (K : Nat) (x1 : Int32) (z : ow_MS) : Option (Int32 × ow_MS) :=
 (if x1 < 0 then okZ 0 (some (0, z))
 else (if 20 ≤ x1 then okZ 0 (some (0, z))
 else rdI mX z 96 x1 fun v1 => (if v1 ≤ 0 then okZ 0 (some (0, z))
 else okZ 1 (some (1, z)))))
def qe_X13_hasBraid (K : Nat) (x1 : Int32) (z : ow_MS) : Option (Int32 × ow_MS) := qm_X13_hasBraid_0 K x1 z
abbrev wm_X13_hasBraid : List Cond := .code yX13_hasBraid cX13_hasBraid 2 (some .boolean) :: wM
theorem cd_X13_hasBraid : yX13_hasBraid.cls = RX13 ∧ yX13_hasBraid.cls ≠ "java/lang/invoke/MethodHandle" ∧ yX13_hasBraid.cls ≠ "java/lang/invoke/VarHandle" ∧ (parseMethodDescriptor yX13_hasBraid.desc).map (fun d => d.parameters.length) = some 1 := by decide +kernel
set_option maxHeartbeats 4000000 in
set_option maxRecDepth 100000 in
theorem km_X13_hasBraid (l : Launch) (D : va_G) (q : ow_Q5) (u : Nat → Nat) (hU : tw_inj mX u) (K : Nat) (x1 : Int32)  (z z1 : ow_MS) (r : Int32) (hq : qe_X13_hasBraid K x1 z = some (r, z1)) : Met l yX13_hasBraid wm_X13_hasBraid ({ frames := 0, cells := 0, slots := 0, locals := 0 } : Room) (va_Pc [.ref (u 0), .int x1] (mw_pre D q u z)) (va_Qi (fun x (_ : Unit) => x = r) (fun _ t => va_P D vwCl (tw mX q u z1) t.heap) (tw_A mX u)) 0 0 (tw_A mX u) := by
  refine Met.ofW (cc := cX13_hasBraid) (maxL := 2) (ret := (some .boolean)) (by decide) rfl ?_
  intro p e s m args below meth c s₁ B hml hv
  obtain ⟨rfl, hP, hK, hN⟩ := hv
  have hx := B.exec
  have hb := B.bytes
  have hr := B.returns
  have hts := atoms_spec (ws := wm_X13_hasBraid) B.pre
  have hT : ∀ w ∈ wM, w.before ([.ref (u 0), .int x1] : List Value).toArray s = true := fun w h => hts w (List.mem_cons_of_mem _ h)
  have hown : s.vm.findClass RX13 = some m.cls := findClass_of_methodNamed B.named
  have hlocks := B.notSynchronized
  have hM : tw_M D vwCl mX q s.heap u z s.heap [] := ⟨hP, va_S.rf⟩
  have hl := lv_entry ([.ref (u 0), .int x1]) (n := 2) (Nat.le_of_ble_eq_true rfl)
  rw [lg_entry_eq]
  generalize (lg_sl ([.ref (u 0), .int x1]) ++ List.replicate (2 - (lg_sl ([.ref (u 0), .int x1])).length) Slot.unset).toArray = ls at hl ⊢
  have hl : lv_has ls 2 [(0, .ref (u 0)), (1, .int x1)] := hl
  refine ow_named (fun QQ hQQ => ?_)
  generalize ([.ref (u 0), .int x1] : List Value).toArray = args at hts hT hQQ ⊢
  have hq : qm_X13_hasBraid_0 K x1 z = some (r, z1) := hq
  unfold qm_X13_hasBraid_0 at hq
  suffices key : ∀ (H : Heap) (locs : List Loc), tw_M D vwCl mX q s.heap u z H locs → W p l e ({ frames := 0, cells := 0, slots := 0, locals := 0 } : Room) s m args below meth c H locs 0 0 QQ (F0 m 0 ls []) from key s.heap [] hM
  intro H locs hM
  refine lv_iload_n hx hb dmX13_hasBraid_0 rfl (lv_at hl 1 rfl) ?_
  refine lv_if_lt (tgt := 23) hx hb dmX13_hasBraid_1 (by decide) (fun hc => ?_) (fun hc => ?_)
  · have hq := tw_it hq hc
    refine lv_iconst (v := 0) hx hb dmX13_hasBraid_23 (by decide) ?_
    obtain ⟨hz, hq⟩ := tw_gZ hq
    exact mw_zret hx hb hr hlocks hM hz hq hQQ dmX13_hasBraid_24
  · have hq := tw_if hq hc
    refine lv_iload_n hx hb dmX13_hasBraid_4 rfl (lv_at hl 1 rfl) ?_
    refine lv_bipush (v := 20) hx hb dmX13_hasBraid_5 (by decide) ?_
    refine lv_icmp_ge (tgt := 23) hx hb dmX13_hasBraid_7 (by decide) (fun hc => ?_) (fun hc => ?_)
    · have hq := tw_it hq hc
      refine lv_iconst (v := 0) hx hb dmX13_hasBraid_23 (by decide) ?_
      obtain ⟨hz, hq⟩ := tw_gZ hq
      exact mw_zret hx hb hr hlocks hM hz hq hQQ dmX13_hasBraid_24
    · have hq := tw_if hq hc
      refine lv_aload_n hx hb dmX13_hasBraid_10 rfl (lv_at hl 0 rfl) ?_
      refine mg13_326 hx hb hT hown hK hM dmX13_hasBraid_11 ?_
      refine lv_iload_n hx hb dmX13_hasBraid_14 rfl (lv_at hl 1 rfl) ?_
      refine tw_iald mX_ok hx hb hK hM mr_96 hq dmX13_hasBraid_15 (fun v1 hq => ?_)
      refine lv_if_le (tgt := 23) hx hb dmX13_hasBraid_16 (by decide) (fun hc => ?_) (fun hc => ?_)
      · have hq := tw_it hq hc
        refine lv_iconst (v := 0) hx hb dmX13_hasBraid_23 (by decide) ?_
        obtain ⟨hz, hq⟩ := tw_gZ hq
        exact mw_zret hx hb hr hlocks hM hz hq hQQ dmX13_hasBraid_24
      · have hq := tw_if hq hc
        refine lv_iconst (v := 1) hx hb dmX13_hasBraid_19 (by decide) ?_
        refine lv_goto (tgt := 24) hx hb dmX13_hasBraid_20 (by decide) ?_
        obtain ⟨hz, hq⟩ := tw_gZ hq
        exact mw_zret hx hb hr hlocks hM hz hq hQQ dmX13_hasBraid_24
theorem dmX13_freeBraid_0 : decode cX13_freeBraid 0 = .ok (.iconst 0, 1) := by decide +kernel
theorem dmX13_freeBraid_1 : decode cX13_freeBraid 1 = .ok (.istore_n 1, 1) := by decide +kernel
theorem dmX13_freeBraid_2 : decode cX13_freeBraid 2 = .ok (.iload_n 1, 1) := by decide +kernel
theorem dmX13_freeBraid_3 : decode cX13_freeBraid 3 = .ok (.bipush 20, 2) := by decide +kernel
theorem dmX13_freeBraid_5 : decode cX13_freeBraid 5 = .ok (.if_icmp .ge 18, 3) := by decide +kernel
theorem dmX13_freeBraid_8 : decode cX13_freeBraid 8 = .ok (.aload_n 0, 1) := by decide +kernel
theorem dmX13_freeBraid_9 : decode cX13_freeBraid 9 = .ok (.getfield 326, 3) := by decide +kernel
theorem dmX13_freeBraid_12 : decode cX13_freeBraid 12 = .ok (.iload_n 1, 1) := by decide +kernel
theorem dmX13_freeBraid_13 : decode cX13_freeBraid 13 = .ok (.iaload, 1) := by decide +kernel
theorem dmX13_freeBraid_14 : decode cX13_freeBraid 14 = .ok (.ifCond .le 9, 3) := by decide +kernel
theorem dmX13_freeBraid_17 : decode cX13_freeBraid 17 = .ok (.iinc 1 1, 3) := by decide +kernel
theorem dmX13_freeBraid_20 : decode cX13_freeBraid 20 = .ok (.goto (-18), 3) := by decide +kernel
theorem dmX13_freeBraid_23 : decode cX13_freeBraid 23 = .ok (.iload_n 1, 1) := by decide +kernel
theorem dmX13_freeBraid_24 : decode cX13_freeBraid 24 = .ok (.bipush 20, 2) := by decide +kernel
theorem dmX13_freeBraid_26 : decode cX13_freeBraid 26 = .ok (.if_icmp .ge 7, 3) := by decide +kernel
theorem dmX13_freeBraid_29 : decode cX13_freeBraid 29 = .ok (.iload_n 1, 1) := by decide +kernel
theorem dmX13_freeBraid_30 : decode cX13_freeBraid 30 = .ok (.goto 4, 3) := by decide +kernel
theorem dmX13_freeBraid_33 : decode cX13_freeBraid 33 = .ok (.iconst (-1), 1) := by decide +kernel
theorem dmX13_freeBraid_34 : decode cX13_freeBraid 34 = .ok (.ireturn, 1) := by decide +kernel
def qm_X13_freeBraid_0 (K : Nat) (go : Nat → Int32 → ow_MS → Option (Int32 × ow_MS)) (x1 : Int32) (z : ow_MS) : Option (Int32 × ow_MS) :=
 go 1 0 z
def qm_X13_freeBraid_1 (K : Nat) (go : Nat → Int32 → ow_MS → Option (Int32 × ow_MS)) (x1 : Int32) (z : ow_MS) : Option (Int32 × ow_MS) :=
 (if 20 ≤ x1 then go 2 x1 z
 else rdI mX z 96 x1 fun v1 => (if v1 ≤ 0 then go 2 x1 z
 else go 1 (x1 + 1) z))
def qm_X13_freeBraid_2 (K : Nat) (go : Nat → Int32 → ow_MS → Option (Int32 × ow_MS)) (x1 : Int32) (z : ow_MS) : Option (Int32 × ow_MS) :=
 (if 20 ≤ x1 then some ((-1), z)
 else some (x1, z))
def qb_X13_freeBraid (K : Nat) (go : Nat → Int32 → ow_MS → Option (Int32 × ow_MS)) (L : Nat) (x1 : Int32) (z : ow_MS) : Option (Int32 × ow_MS) := match L with
  | 0 => qm_X13_freeBraid_0 K go x1 z
  | 1 => qm_X13_freeBraid_1 K go x1 z
  | 2 => qm_X13_freeBraid_2 K go x1 z
  | _ => none
def q_X13_freeBraid (K : Nat) : Nat → Nat → Int32 → ow_MS → Option (Int32 × ow_MS)
  | 0 => fun _ _ _ => none
  | k + 1 => qb_X13_freeBraid K (q_X13_freeBraid K k)
def qe_X13_freeBraid (K : Nat)  (z : ow_MS) : Option (Int32 × ow_MS) := q_X13_freeBraid K K 0 0 z
abbrev wm_X13_freeBraid : List Cond := .code yX13_freeBraid cX13_freeBraid 2 (some .int) :: wM
theorem cd_X13_freeBraid : yX13_freeBraid.cls = RX13 ∧ yX13_freeBraid.cls ≠ "java/lang/invoke/MethodHandle" ∧ yX13_freeBraid.cls ≠ "java/lang/invoke/VarHandle" ∧ (parseMethodDescriptor yX13_freeBraid.desc).map (fun d => d.parameters.length) = some 0 := by decide +kernel
set_option maxHeartbeats 4000000 in
set_option maxRecDepth 100000 in
theorem km_X13_freeBraid (l : Launch) (D : va_G) (q : ow_Q5) (u : Nat → Nat) (hU : tw_inj mX u) (K : Nat)   (z z1 : ow_MS) (r : Int32) (hq : qe_X13_freeBraid K  z = some (r, z1)) : Met l yX13_freeBraid wm_X13_freeBraid ({ frames := 0, cells := 0, slots := 0, locals := 0 } : Room) (va_Pc [.ref (u 0)] (mw_pre D q u z)) (va_Qi (fun x (_ : Unit) => x = r) (fun _ t => va_P D vwCl (tw mX q u z1) t.heap) (tw_A mX u)) 0 0 (tw_A mX u) := by
  refine Met.ofW (cc := cX13_freeBraid) (maxL := 2) (ret := (some .int)) (by decide) rfl ?_
  intro p e s m args below meth c s₁ B hml hv
  obtain ⟨rfl, hP, hK, hN⟩ := hv
  have hx := B.exec
  have hb := B.bytes
  have hr := B.returns
  have hts := atoms_spec (ws := wm_X13_freeBraid) B.pre
  have hT : ∀ w ∈ wM, w.before ([.ref (u 0)] : List Value).toArray s = true := fun w h => hts w (List.mem_cons_of_mem _ h)
  have hown : s.vm.findClass RX13 = some m.cls := findClass_of_methodNamed B.named
  have hlocks := B.notSynchronized
  have hM : tw_M D vwCl mX q s.heap u z s.heap [] := ⟨hP, va_S.rf⟩
  have hl := lv_entry ([.ref (u 0)]) (n := 2) (Nat.le_of_ble_eq_true rfl)
  rw [lg_entry_eq]
  generalize (lg_sl ([.ref (u 0)]) ++ List.replicate (2 - (lg_sl ([.ref (u 0)])).length) Slot.unset).toArray = ls at hl ⊢
  have hl : lv_has ls 2 [(0, .ref (u 0))] := hl
  refine ow_named (fun QQ hQQ => ?_)
  generalize ([.ref (u 0)] : List Value).toArray = args at hts hT hQQ ⊢
  have key : ∀ k : Nat, (∀ (x1 : Int32) (z : ow_MS) (H : Heap) (locs : List Loc) (ls : Array Slot), tw_M D vwCl mX q s.heap u z H locs → lv_has ls 2 [(0, .ref (u 0))] → q_X13_freeBraid K k 0 x1 z = some (r, z1) → W p l e ({ frames := 0, cells := 0, slots := 0, locals := 0 } : Room) s m args below meth c H locs 0 0 QQ (F0 m 0 ls [])) ∧ (∀ (x1 : Int32) (z : ow_MS) (H : Heap) (locs : List Loc) (ls : Array Slot), tw_M D vwCl mX q s.heap u z H locs → lv_has ls 2 [(0, .ref (u 0)), (1, .int x1)] → q_X13_freeBraid K k 1 x1 z = some (r, z1) → W p l e ({ frames := 0, cells := 0, slots := 0, locals := 0 } : Room) s m args below meth c H locs 0 0 QQ (F0 m 2 ls [])) ∧ (∀ (x1 : Int32) (z : ow_MS) (H : Heap) (locs : List Loc) (ls : Array Slot), tw_M D vwCl mX q s.heap u z H locs → lv_has ls 2 [(0, .ref (u 0)), (1, .int x1)] → q_X13_freeBraid K k 2 x1 z = some (r, z1) → W p l e ({ frames := 0, cells := 0, slots := 0, locals := 0 } : Room) s m args below meth c H locs 0 0 QQ (F0 m 23 ls [])) := by
    intro k
    induction k with
    | zero => exact ⟨fun _ _ _ _ _  _ _ hq => tw_no hq, fun _ _ _ _ _  _ _ hq => tw_no hq, fun _ _ _ _ _  _ _ hq => tw_no hq⟩
    | succ k ih =>
      obtain ⟨ih_0, ih_1, ih_2⟩ := ih
      refine ⟨?_, ?_, ?_⟩
      · intro x1 z H locs ls  hM hl hq
        have hq : qm_X13_freeBraid_0 K (q_X13_freeBraid K k) x1 z = some (r, z1) := hq
        unfold qm_X13_freeBraid_0 at hq
        refine lv_iconst (v := 0) hx hb dmX13_freeBraid_0 (by decide) ?_
        refine lv_istore_n (lv' := [(1, .int 0), (0, .ref (u 0))]) hx hb dmX13_freeBraid_1 rfl hl (by decide) rfl (fun ls hl => ?_)
        exact ih_1 0 z H locs ls hM (lv_sub hl [1, 0] rfl) hq
      · intro x1 z H locs ls  hM hl hq
        have hq : qm_X13_freeBraid_1 K (q_X13_freeBraid K k) x1 z = some (r, z1) := hq
        unfold qm_X13_freeBraid_1 at hq
        refine lv_iload_n hx hb dmX13_freeBraid_2 rfl (lv_at hl 1 rfl) ?_
        refine lv_bipush (v := 20) hx hb dmX13_freeBraid_3 (by decide) ?_
        refine lv_icmp_ge (tgt := 23) hx hb dmX13_freeBraid_5 (by decide) (fun hc => ?_) (fun hc => ?_)
        · have hq := tw_it hq hc
          exact ih_2 x1 z H locs ls hM (lv_sub hl [0, 1] rfl) hq
        · have hq := tw_if hq hc
          refine lv_aload_n hx hb dmX13_freeBraid_8 rfl (lv_at hl 0 rfl) ?_
          refine mg13_326 hx hb hT hown hK hM dmX13_freeBraid_9 ?_
          refine lv_iload_n hx hb dmX13_freeBraid_12 rfl (lv_at hl 1 rfl) ?_
          refine tw_iald mX_ok hx hb hK hM mr_96 hq dmX13_freeBraid_13 (fun v1 hq => ?_)
          refine lv_if_le (tgt := 23) hx hb dmX13_freeBraid_14 (by decide) (fun hc => ?_) (fun hc => ?_)
          · have hq := tw_it hq hc
            exact ih_2 x1 z H locs ls hM (lv_sub hl [0, 1] rfl) hq
          · have hq := tw_if hq hc
            refine lv_iinc (v := (x1 + 1)) (lv' := [(1, .int (x1 + 1)), (0, .ref (u 0))]) hx hb dmX13_freeBraid_17 hl (k := 1) rfl rfl (by decide) rfl (fun ls hl => ?_)
            refine lv_goto (tgt := 2) hx hb dmX13_freeBraid_20 (by decide) ?_
            exact ih_1 (x1 + 1) z H locs ls hM (lv_sub hl [1, 0] rfl) hq
      · intro x1 z H locs ls  hM hl hq
        have hq : qm_X13_freeBraid_2 K (q_X13_freeBraid K k) x1 z = some (r, z1) := hq
        unfold qm_X13_freeBraid_2 at hq
        refine lv_iload_n hx hb dmX13_freeBraid_23 rfl (lv_at hl 1 rfl) ?_
        refine lv_bipush (v := 20) hx hb dmX13_freeBraid_24 (by decide) ?_
        refine lv_icmp_ge (tgt := 33) hx hb dmX13_freeBraid_26 (by decide) (fun hc => ?_) (fun hc => ?_)
        · have hq := tw_it hq hc
          refine lv_iconst (v := (-1)) hx hb dmX13_freeBraid_33 (by decide) ?_
          exact mw_iret hx hb hr hlocks hM hq hQQ dmX13_freeBraid_34
        · have hq := tw_if hq hc
          refine lv_iload_n hx hb dmX13_freeBraid_29 rfl (lv_at hl 1 rfl) ?_
          refine lv_goto (tgt := 34) hx hb dmX13_freeBraid_30 (by decide) ?_
          exact mw_iret hx hb hr hlocks hM hq hQQ dmX13_freeBraid_34
  exact (key K).1 0 z s.heap [] ls  hM (lv_sub hl [0] rfl) hq
theorem dmX13_braid_0 : decode cX13_braid 0 = .ok (.aload_n 0, 1) := dw_at cX13_braid_k0 (p := 0) rfl (by decide +kernel)
theorem dmX13_braid_1 : decode cX13_braid 1 = .ok (.iconst 0, 1) := dw_at cX13_braid_k0 (p := 1) rfl (by decide +kernel)
theorem dmX13_braid_2 : decode cX13_braid 2 = .ok (.putfield 1, 3) := dw_at cX13_braid_k0 (p := 2) rfl (by decide +kernel)
theorem dmX13_braid_5 : decode cX13_braid 5 = .ok (.iload_n 1, 1) := dw_at cX13_braid_k0 (p := 5) rfl (by decide +kernel)
theorem dmX13_braid_6 : decode cX13_braid 6 = .ok (.iconst 2, 1) := dw_at cX13_braid_k0 (p := 6) rfl (by decide +kernel)
theorem dmX13_braid_7 : decode cX13_braid 7 = .ok (.if_icmp .lt 8, 3) := dw_at cX13_braid_k0 (p := 7) rfl (by decide +kernel)
theorem dmX13_braid_10 : decode cX13_braid 10 = .ok (.iload_n 1, 1) := dw_at cX13_braid_k0 (p := 10) rfl (by decide +kernel)
theorem dmX13_braid_11 : decode cX13_braid 11 = .ok (.iconst 5, 1) := dw_at cX13_braid_k0 (p := 11) rfl (by decide +kernel)
theorem dmX13_braid_12 : decode cX13_braid 12 = .ok (.if_icmp .le 9, 3) := dw_at cX13_braid_k0 (p := 12) rfl (by decide +kernel)
theorem dmX13_braid_15 : decode cX13_braid 15 = .ok (.aload_n 0, 1) := dw_at cX13_braid_k0 (p := 15) rfl (by decide +kernel)
theorem dmX13_braid_16 : decode cX13_braid 16 = .ok (.iconst 1, 1) := dw_at cX13_braid_k0 (p := 16) rfl (by decide +kernel)
theorem dmX13_braid_17 : decode cX13_braid 17 = .ok (.invokevirtual 403, 3) := dw_at cX13_braid_k0 (p := 17) rfl (by decide +kernel)
theorem dmX13_braid_20 : decode cX13_braid 20 = .ok (.ireturn, 1) := dw_at cX13_braid_k0 (p := 20) rfl (by decide +kernel)
theorem dmX13_braid_21 : decode cX13_braid 21 = .ok (.aload_n 0, 1) := dw_at cX13_braid_k0 (p := 21) rfl (by decide +kernel)
theorem dmX13_braid_22 : decode cX13_braid 22 = .ok (.invokevirtual 736, 3) := dw_at cX13_braid_k0 (p := 22) rfl (by decide +kernel)
theorem dmX13_braid_25 : decode cX13_braid 25 = .ok (.istore_n 2, 1) := dw_at cX13_braid_k1 (p := 0) rfl (by decide +kernel)
theorem dmX13_braid_26 : decode cX13_braid 26 = .ok (.iload_n 2, 1) := dw_at cX13_braid_k1 (p := 1) rfl (by decide +kernel)
theorem dmX13_braid_27 : decode cX13_braid 27 = .ok (.iconst (-1), 1) := dw_at cX13_braid_k1 (p := 2) rfl (by decide +kernel)
theorem dmX13_braid_28 : decode cX13_braid 28 = .ok (.if_icmp .ne 9, 3) := dw_at cX13_braid_k1 (p := 3) rfl (by decide +kernel)
theorem dmX13_braid_31 : decode cX13_braid 31 = .ok (.aload_n 0, 1) := dw_at cX13_braid_k1 (p := 6) rfl (by decide +kernel)
theorem dmX13_braid_32 : decode cX13_braid 32 = .ok (.iconst 2, 1) := dw_at cX13_braid_k1 (p := 7) rfl (by decide +kernel)
theorem dmX13_braid_33 : decode cX13_braid 33 = .ok (.invokevirtual 403, 3) := dw_at cX13_braid_k1 (p := 8) rfl (by decide +kernel)
theorem dmX13_braid_36 : decode cX13_braid 36 = .ok (.ireturn, 1) := dw_at cX13_braid_k1 (p := 11) rfl (by decide +kernel)
theorem dmX13_braid_37 : decode cX13_braid 37 = .ok (.iconst (-1), 1) := dw_at cX13_braid_k1 (p := 12) rfl (by decide +kernel)
theorem dmX13_braid_38 : decode cX13_braid 38 = .ok (.istore_n 3, 1) := dw_at cX13_braid_k1 (p := 13) rfl (by decide +kernel)
theorem dmX13_braid_39 : decode cX13_braid 39 = .ok (.iconst 0, 1) := dw_at cX13_braid_k1 (p := 14) rfl (by decide +kernel)
theorem dmX13_braid_40 : decode cX13_braid 40 = .ok (.istore 4, 2) := dw_at cX13_braid_k1 (p := 15) rfl (by decide +kernel)
theorem dmX13_braid_42 : decode cX13_braid 42 = .ok (.iload 4, 2) := dw_at cX13_braid_k1 (p := 17) rfl (by decide +kernel)
theorem dmX13_braid_44 : decode cX13_braid 44 = .ok (.aload_n 0, 1) := dw_at cX13_braid_k1 (p := 19) rfl (by decide +kernel)
theorem dmX13_braid_45 : decode cX13_braid 45 = .ok (.getfield 400, 3) := dw_at cX13_braid_k1 (p := 20) rfl (by decide +kernel)
theorem dmX13_braid_48 : decode cX13_braid 48 = .ok (.if_icmp .ge 117, 3) := dw_at cX13_braid_k1 (p := 23) rfl (by decide +kernel)
theorem dmX13_braid_51 : decode cX13_braid 51 = .ok (.iload_n 3, 1) := dw_at cX13_braid_k2 (p := 0) rfl (by decide +kernel)
theorem dmX13_braid_52 : decode cX13_braid 52 = .ok (.iconst (-1), 1) := dw_at cX13_braid_k2 (p := 1) rfl (by decide +kernel)
theorem dmX13_braid_53 : decode cX13_braid 53 = .ok (.if_icmp .ne 112, 3) := dw_at cX13_braid_k2 (p := 2) rfl (by decide +kernel)
theorem dmX13_braid_56 : decode cX13_braid 56 = .ok (.aload_n 0, 1) := dw_at cX13_braid_k2 (p := 5) rfl (by decide +kernel)
theorem dmX13_braid_57 : decode cX13_braid 57 = .ok (.getfield 106, 3) := dw_at cX13_braid_k2 (p := 6) rfl (by decide +kernel)
theorem dmX13_braid_60 : decode cX13_braid 60 = .ok (.iload 4, 2) := dw_at cX13_braid_k2 (p := 9) rfl (by decide +kernel)
theorem dmX13_braid_62 : decode cX13_braid 62 = .ok (.baload, 1) := dw_at cX13_braid_k2 (p := 11) rfl (by decide +kernel)
theorem dmX13_braid_63 : decode cX13_braid 63 = .ok (.bipush 97, 2) := dw_at cX13_braid_k2 (p := 12) rfl (by decide +kernel)
theorem dmX13_braid_65 : decode cX13_braid 65 = .ok (.isub, 1) := dw_at cX13_braid_k2 (p := 14) rfl (by decide +kernel)
theorem dmX13_braid_66 : decode cX13_braid 66 = .ok (.istore 5, 2) := dw_at cX13_braid_k2 (p := 15) rfl (by decide +kernel)
theorem dmX13_braid_68 : decode cX13_braid 68 = .ok (.aload_n 0, 1) := dw_at cX13_braid_k2 (p := 17) rfl (by decide +kernel)
theorem dmX13_braid_69 : decode cX13_braid 69 = .ok (.getfield 106, 3) := dw_at cX13_braid_k2 (p := 18) rfl (by decide +kernel)
theorem dmX13_braid_72 : decode cX13_braid 72 = .ok (.iload 4, 2) := dw_at cX13_braid_k2 (p := 21) rfl (by decide +kernel)
theorem dmX13_braid_74 : decode cX13_braid 74 = .ok (.baload, 1) := dw_at cX13_braid_k2 (p := 23) rfl (by decide +kernel)
theorem dmX13_braid_75 : decode cX13_braid 75 = .ok (.bipush 65, 2) := dw_at cX13_braid_k3 (p := 0) rfl (by decide +kernel)
theorem dmX13_braid_77 : decode cX13_braid 77 = .ok (.isub, 1) := dw_at cX13_braid_k3 (p := 2) rfl (by decide +kernel)
theorem dmX13_braid_78 : decode cX13_braid 78 = .ok (.istore 6, 2) := dw_at cX13_braid_k3 (p := 3) rfl (by decide +kernel)
theorem dmX13_braid_80 : decode cX13_braid 80 = .ok (.iload 5, 2) := dw_at cX13_braid_k3 (p := 5) rfl (by decide +kernel)
theorem dmX13_braid_82 : decode cX13_braid 82 = .ok (.ifCond .lt 11, 3) := dw_at cX13_braid_k3 (p := 7) rfl (by decide +kernel)
theorem dmX13_braid_85 : decode cX13_braid 85 = .ok (.iload 5, 2) := dw_at cX13_braid_k3 (p := 10) rfl (by decide +kernel)
theorem dmX13_braid_87 : decode cX13_braid 87 = .ok (.iload_n 1, 1) := dw_at cX13_braid_k3 (p := 12) rfl (by decide +kernel)
theorem dmX13_braid_88 : decode cX13_braid 88 = .ok (.iconst 1, 1) := dw_at cX13_braid_k3 (p := 13) rfl (by decide +kernel)
theorem dmX13_braid_89 : decode cX13_braid 89 = .ok (.isub, 1) := dw_at cX13_braid_k3 (p := 14) rfl (by decide +kernel)
theorem dmX13_braid_90 : decode cX13_braid 90 = .ok (.if_icmp .lt 16, 3) := dw_at cX13_braid_k3 (p := 15) rfl (by decide +kernel)
theorem dmX13_braid_93 : decode cX13_braid 93 = .ok (.iload 6, 2) := dw_at cX13_braid_k3 (p := 18) rfl (by decide +kernel)
theorem dmX13_braid_95 : decode cX13_braid 95 = .ok (.ifCond .lt 15, 3) := dw_at cX13_braid_k3 (p := 20) rfl (by decide +kernel)
theorem dmX13_braid_98 : decode cX13_braid 98 = .ok (.iload 6, 2) := dw_at cX13_braid_k3 (p := 23) rfl (by decide +kernel)
theorem dmX13_braid_100 : decode cX13_braid 100 = .ok (.iload_n 1, 1) := dw_at cX13_braid_k4 (p := 0) rfl (by decide +kernel)
theorem dmX13_braid_101 : decode cX13_braid 101 = .ok (.iconst 1, 1) := dw_at cX13_braid_k4 (p := 1) rfl (by decide +kernel)
theorem dmX13_braid_102 : decode cX13_braid 102 = .ok (.isub, 1) := dw_at cX13_braid_k4 (p := 2) rfl (by decide +kernel)
theorem dmX13_braid_103 : decode cX13_braid 103 = .ok (.if_icmp .ge 7, 3) := dw_at cX13_braid_k4 (p := 3) rfl (by decide +kernel)
theorem dmX13_braid_106 : decode cX13_braid 106 = .ok (.iconst 1, 1) := dw_at cX13_braid_k4 (p := 6) rfl (by decide +kernel)
theorem dmX13_braid_107 : decode cX13_braid 107 = .ok (.goto 4, 3) := dw_at cX13_braid_k4 (p := 7) rfl (by decide +kernel)
theorem dmX13_braid_110 : decode cX13_braid 110 = .ok (.iconst 0, 1) := dw_at cX13_braid_k4 (p := 10) rfl (by decide +kernel)
theorem dmX13_braid_111 : decode cX13_braid 111 = .ok (.istore 7, 2) := dw_at cX13_braid_k4 (p := 11) rfl (by decide +kernel)
theorem dmX13_braid_113 : decode cX13_braid 113 = .ok (.iload 4, 2) := dw_at cX13_braid_k4 (p := 13) rfl (by decide +kernel)
theorem dmX13_braid_115 : decode cX13_braid 115 = .ok (.bipush 16, 2) := dw_at cX13_braid_k4 (p := 15) rfl (by decide +kernel)
theorem dmX13_braid_117 : decode cX13_braid 117 = .ok (.if_icmp .eq 8, 3) := dw_at cX13_braid_k4 (p := 17) rfl (by decide +kernel)
theorem dmX13_braid_120 : decode cX13_braid 120 = .ok (.iload 7, 2) := dw_at cX13_braid_k4 (p := 20) rfl (by decide +kernel)
theorem dmX13_braid_122 : decode cX13_braid 122 = .ok (.ifCond .ne 9, 3) := dw_at cX13_braid_k4 (p := 22) rfl (by decide +kernel)
theorem dmX13_braid_125 : decode cX13_braid 125 = .ok (.iload 4, 2) := dw_at cX13_braid_k5 (p := 0) rfl (by decide +kernel)
theorem dmX13_braid_127 : decode cX13_braid 127 = .ok (.istore_n 3, 1) := dw_at cX13_braid_k5 (p := 2) rfl (by decide +kernel)
theorem dmX13_braid_128 : decode cX13_braid 128 = .ok (.goto 31, 3) := dw_at cX13_braid_k5 (p := 3) rfl (by decide +kernel)
theorem dmX13_braid_131 : decode cX13_braid 131 = .ok (.aload_n 0, 1) := dw_at cX13_braid_k5 (p := 6) rfl (by decide +kernel)
theorem dmX13_braid_132 : decode cX13_braid 132 = .ok (.getfield 320, 3) := dw_at cX13_braid_k5 (p := 7) rfl (by decide +kernel)
theorem dmX13_braid_135 : decode cX13_braid 135 = .ok (.bipush 16, 2) := dw_at cX13_braid_k5 (p := 10) rfl (by decide +kernel)
theorem dmX13_braid_137 : decode cX13_braid 137 = .ok (.iload_n 2, 1) := dw_at cX13_braid_k5 (p := 12) rfl (by decide +kernel)
theorem dmX13_braid_138 : decode cX13_braid 138 = .ok (.imul, 1) := dw_at cX13_braid_k5 (p := 13) rfl (by decide +kernel)
theorem dmX13_braid_139 : decode cX13_braid 139 = .ok (.iload 4, 2) := dw_at cX13_braid_k5 (p := 14) rfl (by decide +kernel)
theorem dmX13_braid_141 : decode cX13_braid 141 = .ok (.iadd, 1) := dw_at cX13_braid_k5 (p := 16) rfl (by decide +kernel)
theorem dmX13_braid_142 : decode cX13_braid 142 = .ok (.iload 5, 2) := dw_at cX13_braid_k5 (p := 17) rfl (by decide +kernel)
theorem dmX13_braid_144 : decode cX13_braid 144 = .ok (.ifCond .lt 10, 3) := dw_at cX13_braid_k5 (p := 19) rfl (by decide +kernel)
theorem dmX13_braid_147 : decode cX13_braid 147 = .ok (.iload 5, 2) := dw_at cX13_braid_k5 (p := 22) rfl (by decide +kernel)
theorem dmX13_braid_149 : decode cX13_braid 149 = .ok (.iconst 1, 1) := dw_at cX13_braid_k6 (p := 0) rfl (by decide +kernel)
theorem dmX13_braid_150 : decode cX13_braid 150 = .ok (.iadd, 1) := dw_at cX13_braid_k6 (p := 1) rfl (by decide +kernel)
theorem dmX13_braid_151 : decode cX13_braid 151 = .ok (.goto 7, 3) := dw_at cX13_braid_k6 (p := 2) rfl (by decide +kernel)
theorem dmX13_braid_154 : decode cX13_braid 154 = .ok (.iconst (-1), 1) := dw_at cX13_braid_k6 (p := 5) rfl (by decide +kernel)
theorem dmX13_braid_155 : decode cX13_braid 155 = .ok (.iload 6, 2) := dw_at cX13_braid_k6 (p := 6) rfl (by decide +kernel)
theorem dmX13_braid_157 : decode cX13_braid 157 = .ok (.isub, 1) := dw_at cX13_braid_k6 (p := 8) rfl (by decide +kernel)
theorem dmX13_braid_158 : decode cX13_braid 158 = .ok (.iastore, 1) := dw_at cX13_braid_k6 (p := 9) rfl (by decide +kernel)
theorem dmX13_braid_159 : decode cX13_braid 159 = .ok (.iinc 4 1, 3) := dw_at cX13_braid_k6 (p := 10) rfl (by decide +kernel)
theorem dmX13_braid_162 : decode cX13_braid 162 = .ok (.goto (-120), 3) := dw_at cX13_braid_k6 (p := 13) rfl (by decide +kernel)
theorem dmX13_braid_165 : decode cX13_braid 165 = .ok (.aload_n 0, 1) := dw_at cX13_braid_k6 (p := 16) rfl (by decide +kernel)
theorem dmX13_braid_166 : decode cX13_braid 166 = .ok (.getfield 400, 3) := dw_at cX13_braid_k6 (p := 17) rfl (by decide +kernel)
theorem dmX13_braid_169 : decode cX13_braid 169 = .ok (.istore 4, 2) := dw_at cX13_braid_k6 (p := 20) rfl (by decide +kernel)
theorem dmX13_braid_171 : decode cX13_braid 171 = .ok (.aload_n 0, 1) := dw_at cX13_braid_k6 (p := 22) rfl (by decide +kernel)
theorem dmX13_braid_172 : decode cX13_braid 172 = .ok (.iconst 0, 1) := dw_at cX13_braid_k6 (p := 23) rfl (by decide +kernel)
theorem dmX13_braid_173 : decode cX13_braid 173 = .ok (.putfield 400, 3) := dw_at cX13_braid_k7 (p := 0) rfl (by decide +kernel)
theorem dmX13_braid_176 : decode cX13_braid 176 = .ok (.iload_n 3, 1) := dw_at cX13_braid_k7 (p := 3) rfl (by decide +kernel)
theorem dmX13_braid_177 : decode cX13_braid 177 = .ok (.iconst (-1), 1) := dw_at cX13_braid_k7 (p := 4) rfl (by decide +kernel)
theorem dmX13_braid_178 : decode cX13_braid 178 = .ok (.if_icmp .eq 7, 3) := dw_at cX13_braid_k7 (p := 5) rfl (by decide +kernel)
theorem dmX13_braid_181 : decode cX13_braid 181 = .ok (.iconst (-1), 1) := dw_at cX13_braid_k7 (p := 8) rfl (by decide +kernel)
theorem dmX13_braid_182 : decode cX13_braid 182 = .ok (.iload_n 3, 1) := dw_at cX13_braid_k7 (p := 9) rfl (by decide +kernel)
theorem dmX13_braid_183 : decode cX13_braid 183 = .ok (.isub, 1) := dw_at cX13_braid_k7 (p := 10) rfl (by decide +kernel)
theorem dmX13_braid_184 : decode cX13_braid 184 = .ok (.ireturn, 1) := dw_at cX13_braid_k7 (p := 11) rfl (by decide +kernel)
theorem dmX13_braid_185 : decode cX13_braid 185 = .ok (.aload_n 0, 1) := dw_at cX13_braid_k7 (p := 12) rfl (by decide +kernel)
theorem dmX13_braid_186 : decode cX13_braid 186 = .ok (.getfield 323, 3) := dw_at cX13_braid_k7 (p := 13) rfl (by decide +kernel)
theorem dmX13_braid_189 : decode cX13_braid 189 = .ok (.iload_n 2, 1) := dw_at cX13_braid_k7 (p := 16) rfl (by decide +kernel)
theorem dmX13_braid_190 : decode cX13_braid 190 = .ok (.iload 4, 2) := dw_at cX13_braid_k7 (p := 17) rfl (by decide +kernel)
theorem dmX13_braid_192 : decode cX13_braid 192 = .ok (.iastore, 1) := dw_at cX13_braid_k7 (p := 19) rfl (by decide +kernel)
theorem dmX13_braid_193 : decode cX13_braid 193 = .ok (.aload_n 0, 1) := dw_at cX13_braid_k7 (p := 20) rfl (by decide +kernel)
theorem dmX13_braid_194 : decode cX13_braid 194 = .ok (.getfield 326, 3) := dw_at cX13_braid_k7 (p := 21) rfl (by decide +kernel)
theorem dmX13_braid_197 : decode cX13_braid 197 = .ok (.iload_n 2, 1) := dw_at cX13_braid_k7 (p := 24) rfl (by decide +kernel)
theorem dmX13_braid_198 : decode cX13_braid 198 = .ok (.iload_n 1, 1) := dw_at cX13_braid_k7 (p := 25) rfl (by decide +kernel)
theorem dmX13_braid_199 : decode cX13_braid 199 = .ok (.iastore, 1) := dw_at cX13_braid_k7 (p := 26) rfl (by decide +kernel)
theorem dmX13_braid_200 : decode cX13_braid 200 = .ok (.iload_n 2, 1) := dw_at cX13_braid_k7 (p := 27) rfl (by decide +kernel)
theorem dmX13_braid_201 : decode cX13_braid 201 = .ok (.ireturn, 1) := dw_at cX13_braid_k7 (p := 28) rfl (by decide +kernel)
def qm_X13_braid_0 (K : Nat) (go : Nat → Int32 → Int32 → Int32 → Int32 → Int32 → Int32 → Int32 → Int32 → Int32 → ow_MS → Option (Int32 × ow_MS)) (x1 : Int32) (x2 : Int32) (x3 : Int32) (x4 : Int32) (x5 : Int32) (x6 : Int32) (x7 : Int32) (t0 : Int32) (t1 : Int32) (z : ow_MS) : Option (Int32 × ow_MS) :=
 wrF z 1 0 fun z1 => (if x1 < 2 then go 1 x1 0 0 0 0 0 0 0 0 z1
 else (if x1 ≤ 5 then cs1 (qe_X13_freeBraid K z1) fun v3 z2 => (if v3 = (-1) then cs1 (qe_X13_fails K 2 z2) fun v5 z4 => some (v5, z4)
 else go 2 x1 v3 (-1) 0 0 0 0 0 0 z2)
 else go 1 x1 0 0 0 0 0 0 0 0 z1))
def qm_X13_braid_1 (K : Nat) (go : Nat → Int32 → Int32 → Int32 → Int32 → Int32 → Int32 → Int32 → Int32 → Int32 → ow_MS → Option (Int32 × ow_MS)) (x1 : Int32) (x2 : Int32) (x3 : Int32) (x4 : Int32) (x5 : Int32) (x6 : Int32) (x7 : Int32) (t0 : Int32) (t1 : Int32) (z : ow_MS) : Option (Int32 × ow_MS) :=
 cs1 (qe_X13_fails K 1 z) fun v7 z6 => some (v7, z6)
def qm_X13_braid_2 (K : Nat) (go : Nat → Int32 → Int32 → Int32 → Int32 → Int32 → Int32 → Int32 → Int32 → Int32 → ow_MS → Option (Int32 × ow_MS)) (x1 : Int32) (x2 : Int32) (x3 : Int32) (x4 : Int32) (x5 : Int32) (x6 : Int32) (x7 : Int32) (t0 : Int32) (t1 : Int32) (z : ow_MS) : Option (Int32 × ow_MS) :=
 rdF z 11 fun v8 => (if v8 ≤ x4 then go 10 x1 x2 x3 x4 0 0 0 0 0 z
 else (if x3 = (-1) then rdI mX z 10 x4 fun v9 => rdI mX z 10 x4 fun v10 => (if (v9 - 97) < 0 then go 3 x1 x2 x3 x4 (v9 - 97) (v10 - 65) 0 0 0 z
 else (if (v9 - 97) < (x1 - 1) then go 4 x1 x2 x3 x4 (v9 - 97) (v10 - 65) 0 0 0 z
 else go 3 x1 x2 x3 x4 (v9 - 97) (v10 - 65) 0 0 0 z))
 else go 10 x1 x2 x3 x4 0 0 0 0 0 z))
def qm_X13_braid_3 (K : Nat) (go : Nat → Int32 → Int32 → Int32 → Int32 → Int32 → Int32 → Int32 → Int32 → Int32 → ow_MS → Option (Int32 × ow_MS)) (x1 : Int32) (x2 : Int32) (x3 : Int32) (x4 : Int32) (x5 : Int32) (x6 : Int32) (x7 : Int32) (t0 : Int32) (t1 : Int32) (z : ow_MS) : Option (Int32 × ow_MS) :=
 (if x6 < 0 then go 5 x1 x2 x3 x4 x5 x6 0 0 0 z
 else (if (x1 - 1) ≤ x6 then go 5 x1 x2 x3 x4 x5 x6 0 0 0 z
 else go 4 x1 x2 x3 x4 x5 x6 0 0 0 z))
def qm_X13_braid_4 (K : Nat) (go : Nat → Int32 → Int32 → Int32 → Int32 → Int32 → Int32 → Int32 → Int32 → Int32 → ow_MS → Option (Int32 × ow_MS)) (x1 : Int32) (x2 : Int32) (x3 : Int32) (x4 : Int32) (x5 : Int32) (x6 : Int32) (x7 : Int32) (t0 : Int32) (t1 : Int32) (z : ow_MS) : Option (Int32 × ow_MS) :=
 go 6 x1 x2 x3 x4 x5 x6 0 1 0 z
def qm_X13_braid_5 (K : Nat) (go : Nat → Int32 → Int32 → Int32 → Int32 → Int32 → Int32 → Int32 → Int32 → Int32 → ow_MS → Option (Int32 × ow_MS)) (x1 : Int32) (x2 : Int32) (x3 : Int32) (x4 : Int32) (x5 : Int32) (x6 : Int32) (x7 : Int32) (t0 : Int32) (t1 : Int32) (z : ow_MS) : Option (Int32 × ow_MS) :=
 go 6 x1 x2 x3 x4 x5 x6 0 0 0 z
def qm_X13_braid_6 (K : Nat) (go : Nat → Int32 → Int32 → Int32 → Int32 → Int32 → Int32 → Int32 → Int32 → Int32 → ow_MS → Option (Int32 × ow_MS)) (x1 : Int32) (x2 : Int32) (x3 : Int32) (x4 : Int32) (x5 : Int32) (x6 : Int32) (x7 : Int32) (t0 : Int32) (t1 : Int32) (z : ow_MS) : Option (Int32 × ow_MS) :=
 (if x4 = 16 then go 7 x1 x2 x3 x4 x5 x6 t0 0 0 z
 else (if t0 = 0 then go 7 x1 x2 x3 x4 x5 x6 t0 0 0 z
 else (if x5 < 0 then go 8 x1 x2 x3 x4 x5 x6 t0 ((-1) - x6) ((16 * x2) + x4) z
 else go 8 x1 x2 x3 x4 x5 x6 t0 (x5 + 1) ((16 * x2) + x4) z)))
def qm_X13_braid_7 (K : Nat) (go : Nat → Int32 → Int32 → Int32 → Int32 → Int32 → Int32 → Int32 → Int32 → Int32 → ow_MS → Option (Int32 × ow_MS)) (x1 : Int32) (x2 : Int32) (x3 : Int32) (x4 : Int32) (x5 : Int32) (x6 : Int32) (x7 : Int32) (t0 : Int32) (t1 : Int32) (z : ow_MS) : Option (Int32 × ow_MS) :=
 go 9 x1 x2 x4 x4 x5 x6 x7 0 0 z
def qm_X13_braid_8 (K : Nat) (go : Nat → Int32 → Int32 → Int32 → Int32 → Int32 → Int32 → Int32 → Int32 → Int32 → ow_MS → Option (Int32 × ow_MS)) (x1 : Int32) (x2 : Int32) (x3 : Int32) (x4 : Int32) (x5 : Int32) (x6 : Int32) (x7 : Int32) (t0 : Int32) (t1 : Int32) (z : ow_MS) : Option (Int32 × ow_MS) :=
 wrI mX z 94 t1 t0 fun z11 => go 9 x1 x2 x3 x4 x5 x6 x7 0 0 z11
def qm_X13_braid_9 (K : Nat) (go : Nat → Int32 → Int32 → Int32 → Int32 → Int32 → Int32 → Int32 → Int32 → Int32 → ow_MS → Option (Int32 × ow_MS)) (x1 : Int32) (x2 : Int32) (x3 : Int32) (x4 : Int32) (x5 : Int32) (x6 : Int32) (x7 : Int32) (t0 : Int32) (t1 : Int32) (z : ow_MS) : Option (Int32 × ow_MS) :=
 go 2 x1 x2 x3 (x4 + 1) 0 0 0 0 0 z
def qm_X13_braid_10 (K : Nat) (go : Nat → Int32 → Int32 → Int32 → Int32 → Int32 → Int32 → Int32 → Int32 → Int32 → ow_MS → Option (Int32 × ow_MS)) (x1 : Int32) (x2 : Int32) (x3 : Int32) (x4 : Int32) (x5 : Int32) (x6 : Int32) (x7 : Int32) (t0 : Int32) (t1 : Int32) (z : ow_MS) : Option (Int32 × ow_MS) :=
 rdF z 11 fun v12 => wrF z 11 0 fun z13 => (if x3 = (-1) then wrI mX z13 95 x2 v12 fun z14 => wrI mX z14 96 x2 x1 fun z15 => some (x2, z15)
 else some (((-1) - x3), z13))
def qb_X13_braid (K : Nat) (go : Nat → Int32 → Int32 → Int32 → Int32 → Int32 → Int32 → Int32 → Int32 → Int32 → ow_MS → Option (Int32 × ow_MS)) (L : Nat) (x1 : Int32) (x2 : Int32) (x3 : Int32) (x4 : Int32) (x5 : Int32) (x6 : Int32) (x7 : Int32) (t0 : Int32) (t1 : Int32) (z : ow_MS) : Option (Int32 × ow_MS) := match L with
  | 0 => qm_X13_braid_0 K go x1 x2 x3 x4 x5 x6 x7 t0 t1 z
  | 1 => qm_X13_braid_1 K go x1 x2 x3 x4 x5 x6 x7 t0 t1 z
  | 2 => qm_X13_braid_2 K go x1 x2 x3 x4 x5 x6 x7 t0 t1 z
  | 3 => qm_X13_braid_3 K go x1 x2 x3 x4 x5 x6 x7 t0 t1 z
  | 4 => qm_X13_braid_4 K go x1 x2 x3 x4 x5 x6 x7 t0 t1 z
  | 5 => qm_X13_braid_5 K go x1 x2 x3 x4 x5 x6 x7 t0 t1 z
  | 6 => qm_X13_braid_6 K go x1 x2 x3 x4 x5 x6 x7 t0 t1 z
  | 7 => qm_X13_braid_7 K go x1 x2 x3 x4 x5 x6 x7 t0 t1 z
  | 8 => qm_X13_braid_8 K go x1 x2 x3 x4 x5 x6 x7 t0 t1 z
  | 9 => qm_X13_braid_9 K go x1 x2 x3 x4 x5 x6 x7 t0 t1 z
  | 10 => qm_X13_braid_10 K go x1 x2 x3 x4 x5 x6 x7 t0 t1 z
  | _ => none
def q_X13_braid (K : Nat) : Nat → Nat → Int32 → Int32 → Int32 → Int32 → Int32 → Int32 → Int32 → Int32 → Int32 → ow_MS → Option (Int32 × ow_MS)
  | 0 => fun _ _ _ _ _ _ _ _ _ _ _ => none
  | k + 1 => qb_X13_braid K (q_X13_braid K k)
def qe_X13_braid (K : Nat) (x1 : Int32) (z : ow_MS) : Option (Int32 × ow_MS) := q_X13_braid K K 0 x1 0 0 0 0 0 0 0 0 z
abbrev wm_X13_braid : List Cond := .code yX13_braid cX13_braid 8 (some .int) :: wM
theorem cd_X13_braid : yX13_braid.cls = RX13 ∧ yX13_braid.cls ≠ "java/lang/invoke/MethodHandle" ∧ yX13_braid.cls ≠ "java/lang/invoke/VarHandle" ∧ (parseMethodDescriptor yX13_braid.desc).map (fun d => d.parameters.length) = some 1 := by decide +kernel
set_option maxHeartbeats 4000000 in
set_option maxRecDepth 100000 in
theorem km_X13_braid (l : Launch) (D : va_G) (q : ow_Q5) (u : Nat → Nat) (hU : tw_inj mX u) (K : Nat) (x1 : Int32)  (z z1 : ow_MS) (r : Int32) (hq : qe_X13_braid K x1 z = some (r, z1)) : Met l yX13_braid wm_X13_braid ({ frames := 1, cells := 0, slots := 0, locals := 21 } : Room) (va_Pc [.ref (u 0), .int x1] (mw_pre D q u z)) (va_Qi (fun x (_ : Unit) => x = r) (fun _ t => va_P D vwCl (tw mX q u z1) t.heap) (tw_A mX u)) 0 0 (tw_A mX u) := by
  refine Met.ofW (cc := cX13_braid) (maxL := 8) (ret := (some .int)) (by decide) rfl ?_
  intro p e s m args below meth c s₁ B hml hv
  obtain ⟨rfl, hP, hK, hN⟩ := hv
  have hx := B.exec
  have hb := B.bytes
  have hr := B.returns
  have hts := atoms_spec (ws := wm_X13_braid) B.pre
  have hT : ∀ w ∈ wM, w.before ([.ref (u 0), .int x1] : List Value).toArray s = true := fun w h => hts w (List.mem_cons_of_mem _ h)
  have hown : s.vm.findClass RX13 = some m.cls := findClass_of_methodNamed B.named
  have hlocks := B.notSynchronized
  have hM : tw_M D vwCl mX q s.heap u z s.heap [] := ⟨hP, va_S.rf⟩
  have hl := lv_entry ([.ref (u 0), .int x1]) (n := 8) (Nat.le_of_ble_eq_true rfl)
  rw [lg_entry_eq]
  generalize (lg_sl ([.ref (u 0), .int x1]) ++ List.replicate (8 - (lg_sl ([.ref (u 0), .int x1])).length) Slot.unset).toArray = ls at hl ⊢
  have hl : lv_has ls 8 [(0, .ref (u 0)), (1, .int x1)] := hl
  refine ow_named (fun QQ hQQ => ?_)
  generalize ([.ref (u 0), .int x1] : List Value).toArray = args at hts hT hQQ ⊢
  have key : ∀ k : Nat, (∀ (x1 : Int32) (x2 : Int32) (x3 : Int32) (x4 : Int32) (x5 : Int32) (x6 : Int32) (x7 : Int32) (t0 : Int32) (t1 : Int32) (z : ow_MS) (H : Heap) (locs : List Loc) (ls : Array Slot), tw_M D vwCl mX q s.heap u z H locs → lv_has ls 8 [(0, .ref (u 0)), (1, .int x1)] → q_X13_braid K k 0 x1 x2 x3 x4 x5 x6 x7 t0 t1 z = some (r, z1) → W p l e ({ frames := 1, cells := 0, slots := 0, locals := 21 } : Room) s m args below meth c H locs 0 0 QQ (F0 m 0 ls [])) ∧ (∀ (x1 : Int32) (x2 : Int32) (x3 : Int32) (x4 : Int32) (x5 : Int32) (x6 : Int32) (x7 : Int32) (t0 : Int32) (t1 : Int32) (z : ow_MS) (H : Heap) (locs : List Loc) (ls : Array Slot), tw_M D vwCl mX q s.heap u z H locs → lv_has ls 8 [(0, .ref (u 0)), (1, .int x1)] → q_X13_braid K k 1 x1 x2 x3 x4 x5 x6 x7 t0 t1 z = some (r, z1) → W p l e ({ frames := 1, cells := 0, slots := 0, locals := 21 } : Room) s m args below meth c H locs 0 0 QQ (F0 m 15 ls [])) ∧ (∀ (x1 : Int32) (x2 : Int32) (x3 : Int32) (x4 : Int32) (x5 : Int32) (x6 : Int32) (x7 : Int32) (t0 : Int32) (t1 : Int32) (z : ow_MS) (H : Heap) (locs : List Loc) (ls : Array Slot), tw_M D vwCl mX q s.heap u z H locs → lv_has ls 8 [(0, .ref (u 0)), (1, .int x1), (2, .int x2), (3, .int x3), (4, .int x4)] → q_X13_braid K k 2 x1 x2 x3 x4 x5 x6 x7 t0 t1 z = some (r, z1) → W p l e ({ frames := 1, cells := 0, slots := 0, locals := 21 } : Room) s m args below meth c H locs 0 0 QQ (F0 m 42 ls [])) ∧ (∀ (x1 : Int32) (x2 : Int32) (x3 : Int32) (x4 : Int32) (x5 : Int32) (x6 : Int32) (x7 : Int32) (t0 : Int32) (t1 : Int32) (z : ow_MS) (H : Heap) (locs : List Loc) (ls : Array Slot), tw_M D vwCl mX q s.heap u z H locs → lv_has ls 8 [(0, .ref (u 0)), (1, .int x1), (2, .int x2), (3, .int x3), (4, .int x4), (5, .int x5), (6, .int x6)] → q_X13_braid K k 3 x1 x2 x3 x4 x5 x6 x7 t0 t1 z = some (r, z1) → W p l e ({ frames := 1, cells := 0, slots := 0, locals := 21 } : Room) s m args below meth c H locs 0 0 QQ (F0 m 93 ls [])) ∧ (∀ (x1 : Int32) (x2 : Int32) (x3 : Int32) (x4 : Int32) (x5 : Int32) (x6 : Int32) (x7 : Int32) (t0 : Int32) (t1 : Int32) (z : ow_MS) (H : Heap) (locs : List Loc) (ls : Array Slot), tw_M D vwCl mX q s.heap u z H locs → lv_has ls 8 [(0, .ref (u 0)), (1, .int x1), (2, .int x2), (3, .int x3), (4, .int x4), (5, .int x5), (6, .int x6)] → q_X13_braid K k 4 x1 x2 x3 x4 x5 x6 x7 t0 t1 z = some (r, z1) → W p l e ({ frames := 1, cells := 0, slots := 0, locals := 21 } : Room) s m args below meth c H locs 0 0 QQ (F0 m 106 ls [])) ∧ (∀ (x1 : Int32) (x2 : Int32) (x3 : Int32) (x4 : Int32) (x5 : Int32) (x6 : Int32) (x7 : Int32) (t0 : Int32) (t1 : Int32) (z : ow_MS) (H : Heap) (locs : List Loc) (ls : Array Slot), tw_M D vwCl mX q s.heap u z H locs → lv_has ls 8 [(0, .ref (u 0)), (1, .int x1), (2, .int x2), (3, .int x3), (4, .int x4), (5, .int x5), (6, .int x6)] → q_X13_braid K k 5 x1 x2 x3 x4 x5 x6 x7 t0 t1 z = some (r, z1) → W p l e ({ frames := 1, cells := 0, slots := 0, locals := 21 } : Room) s m args below meth c H locs 0 0 QQ (F0 m 110 ls [])) ∧ (∀ (x1 : Int32) (x2 : Int32) (x3 : Int32) (x4 : Int32) (x5 : Int32) (x6 : Int32) (x7 : Int32) (t0 : Int32) (t1 : Int32) (z : ow_MS) (H : Heap) (locs : List Loc) (ls : Array Slot), tw_M D vwCl mX q s.heap u z H locs → lv_has ls 8 [(0, .ref (u 0)), (1, .int x1), (2, .int x2), (3, .int x3), (4, .int x4), (5, .int x5), (6, .int x6)] → q_X13_braid K k 6 x1 x2 x3 x4 x5 x6 x7 t0 t1 z = some (r, z1) → W p l e ({ frames := 1, cells := 0, slots := 0, locals := 21 } : Room) s m args below meth c H locs 0 0 QQ (F0 m 111 ls [.int t0])) ∧ (∀ (x1 : Int32) (x2 : Int32) (x3 : Int32) (x4 : Int32) (x5 : Int32) (x6 : Int32) (x7 : Int32) (t0 : Int32) (t1 : Int32) (z : ow_MS) (H : Heap) (locs : List Loc) (ls : Array Slot), tw_M D vwCl mX q s.heap u z H locs → lv_has ls 8 [(0, .ref (u 0)), (1, .int x1), (2, .int x2), (3, .int x3), (4, .int x4), (5, .int x5), (6, .int x6), (7, .int x7)] → q_X13_braid K k 7 x1 x2 x3 x4 x5 x6 x7 t0 t1 z = some (r, z1) → W p l e ({ frames := 1, cells := 0, slots := 0, locals := 21 } : Room) s m args below meth c H locs 0 0 QQ (F0 m 125 ls [])) ∧ (∀ (x1 : Int32) (x2 : Int32) (x3 : Int32) (x4 : Int32) (x5 : Int32) (x6 : Int32) (x7 : Int32) (t0 : Int32) (t1 : Int32) (z : ow_MS) (H : Heap) (locs : List Loc) (ls : Array Slot), tw_M D vwCl mX q s.heap u z H locs → lv_has ls 8 [(0, .ref (u 0)), (1, .int x1), (2, .int x2), (3, .int x3), (4, .int x4), (5, .int x5), (6, .int x6), (7, .int x7)] → q_X13_braid K k 8 x1 x2 x3 x4 x5 x6 x7 t0 t1 z = some (r, z1) → W p l e ({ frames := 1, cells := 0, slots := 0, locals := 21 } : Room) s m args below meth c H locs 0 0 QQ (F0 m 158 ls [.int t0, .int t1, .ref (u 94)])) ∧ (∀ (x1 : Int32) (x2 : Int32) (x3 : Int32) (x4 : Int32) (x5 : Int32) (x6 : Int32) (x7 : Int32) (t0 : Int32) (t1 : Int32) (z : ow_MS) (H : Heap) (locs : List Loc) (ls : Array Slot), tw_M D vwCl mX q s.heap u z H locs → lv_has ls 8 [(0, .ref (u 0)), (1, .int x1), (2, .int x2), (3, .int x3), (4, .int x4), (5, .int x5), (6, .int x6), (7, .int x7)] → q_X13_braid K k 9 x1 x2 x3 x4 x5 x6 x7 t0 t1 z = some (r, z1) → W p l e ({ frames := 1, cells := 0, slots := 0, locals := 21 } : Room) s m args below meth c H locs 0 0 QQ (F0 m 159 ls [])) ∧ (∀ (x1 : Int32) (x2 : Int32) (x3 : Int32) (x4 : Int32) (x5 : Int32) (x6 : Int32) (x7 : Int32) (t0 : Int32) (t1 : Int32) (z : ow_MS) (H : Heap) (locs : List Loc) (ls : Array Slot), tw_M D vwCl mX q s.heap u z H locs → lv_has ls 8 [(0, .ref (u 0)), (1, .int x1), (2, .int x2), (3, .int x3), (4, .int x4)] → q_X13_braid K k 10 x1 x2 x3 x4 x5 x6 x7 t0 t1 z = some (r, z1) → W p l e ({ frames := 1, cells := 0, slots := 0, locals := 21 } : Room) s m args below meth c H locs 0 0 QQ (F0 m 165 ls [])) := by
    intro k
    induction k with
    | zero => exact ⟨fun _ _ _ _ _ _ _ _ _ _ _ _ _  _ _ hq => tw_no hq, fun _ _ _ _ _ _ _ _ _ _ _ _ _  _ _ hq => tw_no hq, fun _ _ _ _ _ _ _ _ _ _ _ _ _  _ _ hq => tw_no hq, fun _ _ _ _ _ _ _ _ _ _ _ _ _  _ _ hq => tw_no hq, fun _ _ _ _ _ _ _ _ _ _ _ _ _  _ _ hq => tw_no hq, fun _ _ _ _ _ _ _ _ _ _ _ _ _  _ _ hq => tw_no hq, fun _ _ _ _ _ _ _ _ _ _ _ _ _  _ _ hq => tw_no hq, fun _ _ _ _ _ _ _ _ _ _ _ _ _  _ _ hq => tw_no hq, fun _ _ _ _ _ _ _ _ _ _ _ _ _  _ _ hq => tw_no hq, fun _ _ _ _ _ _ _ _ _ _ _ _ _  _ _ hq => tw_no hq, fun _ _ _ _ _ _ _ _ _ _ _ _ _  _ _ hq => tw_no hq⟩
    | succ k ih =>
      obtain ⟨ih_0, ih_1, ih_2, ih_3, ih_4, ih_5, ih_6, ih_7, ih_8, ih_9, ih_10⟩ := ih
      refine ⟨?_, ?_, ?_, ?_, ?_, ?_, ?_, ?_, ?_, ?_, ?_⟩
      · intro x1 x2 x3 x4 x5 x6 x7 t0 t1 z H locs ls  hM hl hq
        have hq : qm_X13_braid_0 K (q_X13_braid K k) x1 x2 x3 x4 x5 x6 x7 t0 t1 z = some (r, z1) := hq
        unfold qm_X13_braid_0 at hq
        refine lv_aload_n hx hb dmX13_braid_0 rfl (lv_at hl 0 rfl) ?_
        refine lv_iconst (v := 0) hx hb dmX13_braid_1 (by decide) ?_
        refine mp13_1 hx hb hT hown hK hM hU hq dmX13_braid_2 (fun z1 H locs hM hq => ?_)
        refine lv_iload_n hx hb dmX13_braid_5 rfl (lv_at hl 1 rfl) ?_
        refine lv_iconst (v := 2) hx hb dmX13_braid_6 (by decide) ?_
        refine lv_icmp_lt (tgt := 15) hx hb dmX13_braid_7 (by decide) (fun hc => ?_) (fun hc => ?_)
        · have hq := tw_it hq hc
          exact ih_1 x1 0 0 0 0 0 0 0 0 z1 H locs ls hM (lv_sub hl [0, 1] rfl) hq
        · have hq := tw_if hq hc
          refine lv_iload_n hx hb dmX13_braid_10 rfl (lv_at hl 1 rfl) ?_
          refine lv_iconst (v := 5) hx hb dmX13_braid_11 (by decide) ?_
          refine lv_icmp_le (tgt := 21) hx hb dmX13_braid_12 (by decide) (fun hc => ?_) (fun hc => ?_)
          · have hq := tw_it hq hc
            refine lv_aload_n hx hb dmX13_braid_21 rfl (lv_at hl 0 rfl) ?_
            obtain ⟨v3, z2, hcq, hq⟩ := tw_cl1 hq
            refine tw_cali hM (va_runV (As := []) (rest := []) ⟨hx, hb, hml, hown, hts⟩ (km_X13_freeBraid l D q u hU K z1 z2 v3 hcq) (cwV 0 hts (tw_gV wM_good wq_486 wq_487 wq_488 wq_61 wq_483) rfl rfl rfl cd_X13_freeBraid ⟨(Nat.le_of_ble_eq_true rfl), (Nat.le_of_ble_eq_true rfl)⟩) (mw_preV hK hN hM mo_0 rfl) rfl rfl hl.1 rfl (lv_room (Nat.le_of_ble_eq_true rfl)) dmX13_braid_22 ⟨(Nat.le_of_ble_eq_true rfl), (Nat.le_of_ble_eq_true rfl)⟩) (fun H locs hM => ?_)
            refine lv_istore_n (lv' := [(2, .int v3), (0, .ref (u 0)), (1, .int x1)]) hx hb dmX13_braid_25 rfl hl (by decide) rfl (fun ls hl => ?_)
            refine lv_iload_n hx hb dmX13_braid_26 rfl (lv_at hl 0 rfl) ?_
            refine lv_iconst (v := (-1)) hx hb dmX13_braid_27 (by decide) ?_
            refine lv_icmp_ne (tgt := 37) hx hb dmX13_braid_28 (by decide) (fun hc => ?_) (fun hc => ?_)
            · have hq := tw_if hq hc
              refine lv_iconst (v := (-1)) hx hb dmX13_braid_37 (by decide) ?_
              refine lv_istore_n (lv' := [(3, .int (-1)), (2, .int v3), (0, .ref (u 0)), (1, .int x1)]) hx hb dmX13_braid_38 rfl hl (by decide) rfl (fun ls hl => ?_)
              refine lv_iconst (v := 0) hx hb dmX13_braid_39 (by decide) ?_
              refine lv_istore (lv' := [(4, .int 0), (3, .int (-1)), (2, .int v3), (0, .ref (u 0)), (1, .int x1)]) hx hb dmX13_braid_40 hl (by decide) rfl (fun ls hl => ?_)
              exact ih_2 x1 v3 (-1) 0 0 0 0 0 0 z2 H locs ls hM (lv_sub hl [3, 4, 2, 1, 0] rfl) hq
            · have hq := tw_it hq hc
              refine lv_aload_n hx hb dmX13_braid_31 rfl (lv_at hl 1 rfl) ?_
              refine lv_iconst (v := 2) hx hb dmX13_braid_32 (by decide) ?_
              obtain ⟨v5, z4, hcq, hq⟩ := tw_cl1 hq
              refine tw_cali hM (va_runV (As := [.int 2]) (rest := []) ⟨hx, hb, hml, hown, hts⟩ (km_X13_fails l D q u hU K 2 z2 z4 v5 hcq) (cwV 1 hts (tw_gV wM_good wq_103 wq_104 wq_105 wq_61 wq_50) rfl rfl rfl cd_X13_fails ⟨(Nat.le_of_ble_eq_true rfl), (Nat.le_of_ble_eq_true rfl)⟩) (mw_preV hK hN hM mo_0 rfl) rfl rfl hl.1 rfl (lv_room (Nat.le_of_ble_eq_true rfl)) dmX13_braid_33 ⟨(Nat.le_of_ble_eq_true rfl), (Nat.le_of_ble_eq_true rfl)⟩) (fun H locs hM => ?_)
              exact mw_iret hx hb hr hlocks hM hq hQQ dmX13_braid_36
          · have hq := tw_if hq hc
            exact ih_1 x1 0 0 0 0 0 0 0 0 z1 H locs ls hM (lv_sub hl [0, 1] rfl) hq
      · intro x1 x2 x3 x4 x5 x6 x7 t0 t1 z H locs ls  hM hl hq
        have hq : qm_X13_braid_1 K (q_X13_braid K k) x1 x2 x3 x4 x5 x6 x7 t0 t1 z = some (r, z1) := hq
        unfold qm_X13_braid_1 at hq
        refine lv_aload_n hx hb dmX13_braid_15 rfl (lv_at hl 0 rfl) ?_
        refine lv_iconst (v := 1) hx hb dmX13_braid_16 (by decide) ?_
        obtain ⟨v7, z6, hcq, hq⟩ := tw_cl1 hq
        refine tw_cali hM (va_runV (As := [.int 1]) (rest := []) ⟨hx, hb, hml, hown, hts⟩ (km_X13_fails l D q u hU K 1 z z6 v7 hcq) (cwV 1 hts (tw_gV wM_good wq_103 wq_104 wq_105 wq_61 wq_50) rfl rfl rfl cd_X13_fails ⟨(Nat.le_of_ble_eq_true rfl), (Nat.le_of_ble_eq_true rfl)⟩) (mw_preV hK hN hM mo_0 rfl) rfl rfl hl.1 rfl (lv_room (Nat.le_of_ble_eq_true rfl)) dmX13_braid_17 ⟨(Nat.le_of_ble_eq_true rfl), (Nat.le_of_ble_eq_true rfl)⟩) (fun H locs hM => ?_)
        exact mw_iret hx hb hr hlocks hM hq hQQ dmX13_braid_20
      · intro x1 x2 x3 x4 x5 x6 x7 t0 t1 z H locs ls  hM hl hq
        have hq : qm_X13_braid_2 K (q_X13_braid K k) x1 x2 x3 x4 x5 x6 x7 t0 t1 z = some (r, z1) := hq
        unfold qm_X13_braid_2 at hq
        refine lv_iload hx hb dmX13_braid_42 (lv_at hl 4 rfl) ?_
        refine lv_aload_n hx hb dmX13_braid_44 rfl (lv_at hl 0 rfl) ?_
        refine mg13_400 hx hb hT hown hK hM hq dmX13_braid_45 (fun v8 hq => ?_)
        refine lv_icmp_ge (tgt := 165) hx hb dmX13_braid_48 (by decide) (fun hc => ?_) (fun hc => ?_)
        · have hq := tw_it hq hc
          exact ih_10 x1 x2 x3 x4 0 0 0 0 0 z H locs ls hM (lv_sub hl [0, 1, 2, 3, 4] rfl) hq
        · have hq := tw_if hq hc
          refine lv_iload_n hx hb dmX13_braid_51 rfl (lv_at hl 3 rfl) ?_
          refine lv_iconst (v := (-1)) hx hb dmX13_braid_52 (by decide) ?_
          refine lv_icmp_ne (tgt := 165) hx hb dmX13_braid_53 (by decide) (fun hc => ?_) (fun hc => ?_)
          · have hq := tw_if hq hc
            exact ih_10 x1 x2 x3 x4 0 0 0 0 0 z H locs ls hM (lv_sub hl [0, 1, 2, 3, 4] rfl) hq
          · have hq := tw_it hq hc
            refine lv_aload_n hx hb dmX13_braid_56 rfl (lv_at hl 0 rfl) ?_
            refine mg13_106 hx hb hT hown hK hM dmX13_braid_57 ?_
            refine lv_iload hx hb dmX13_braid_60 (lv_at hl 4 rfl) ?_
            refine tw_bald mX_ok hx hb hK hM mr_10 hq dmX13_braid_62 (fun v9 hq => ?_)
            refine lv_bipush (v := 97) hx hb dmX13_braid_63 (by decide) ?_
            refine lv_isub hx hb dmX13_braid_65 ?_
            refine lv_istore (lv' := [(5, .int (v9 - 97)), (0, .ref (u 0)), (1, .int x1), (2, .int x2), (3, .int x3), (4, .int x4)]) hx hb dmX13_braid_66 hl (by decide) rfl (fun ls hl => ?_)
            refine lv_aload_n hx hb dmX13_braid_68 rfl (lv_at hl 1 rfl) ?_
            refine mg13_106 hx hb hT hown hK hM dmX13_braid_69 ?_
            refine lv_iload hx hb dmX13_braid_72 (lv_at hl 5 rfl) ?_
            refine tw_bald mX_ok hx hb hK hM mr_10 hq dmX13_braid_74 (fun v10 hq => ?_)
            refine lv_bipush (v := 65) hx hb dmX13_braid_75 (by decide) ?_
            refine lv_isub hx hb dmX13_braid_77 ?_
            refine lv_istore (lv' := [(6, .int (v10 - 65)), (5, .int (v9 - 97)), (0, .ref (u 0)), (1, .int x1), (2, .int x2), (3, .int x3), (4, .int x4)]) hx hb dmX13_braid_78 hl (by decide) rfl (fun ls hl => ?_)
            refine lv_iload hx hb dmX13_braid_80 (lv_at hl 1 rfl) ?_
            refine lv_if_lt (tgt := 93) hx hb dmX13_braid_82 (by decide) (fun hc => ?_) (fun hc => ?_)
            · have hq := tw_it hq hc
              exact ih_3 x1 x2 x3 x4 (v9 - 97) (v10 - 65) 0 0 0 z H locs ls hM (lv_sub hl [2, 3, 4, 5, 6, 1, 0] rfl) hq
            · have hq := tw_if hq hc
              refine lv_iload hx hb dmX13_braid_85 (lv_at hl 1 rfl) ?_
              refine lv_iload_n hx hb dmX13_braid_87 rfl (lv_at hl 3 rfl) ?_
              refine lv_iconst (v := 1) hx hb dmX13_braid_88 (by decide) ?_
              refine lv_isub hx hb dmX13_braid_89 ?_
              refine lv_icmp_lt (tgt := 106) hx hb dmX13_braid_90 (by decide) (fun hc => ?_) (fun hc => ?_)
              · have hq := tw_it hq hc
                exact ih_4 x1 x2 x3 x4 (v9 - 97) (v10 - 65) 0 0 0 z H locs ls hM (lv_sub hl [2, 3, 4, 5, 6, 1, 0] rfl) hq
              · have hq := tw_if hq hc
                exact ih_3 x1 x2 x3 x4 (v9 - 97) (v10 - 65) 0 0 0 z H locs ls hM (lv_sub hl [2, 3, 4, 5, 6, 1, 0] rfl) hq
      · intro x1 x2 x3 x4 x5 x6 x7 t0 t1 z H locs ls  hM hl hq
        have hq : qm_X13_braid_3 K (q_X13_braid K k) x1 x2 x3 x4 x5 x6 x7 t0 t1 z = some (r, z1) := hq
        unfold qm_X13_braid_3 at hq
        refine lv_iload hx hb dmX13_braid_93 (lv_at hl 6 rfl) ?_
        refine lv_if_lt (tgt := 110) hx hb dmX13_braid_95 (by decide) (fun hc => ?_) (fun hc => ?_)
        · have hq := tw_it hq hc
          exact ih_5 x1 x2 x3 x4 x5 x6 0 0 0 z H locs ls hM (lv_sub hl [0, 1, 2, 3, 4, 5, 6] rfl) hq
        · have hq := tw_if hq hc
          refine lv_iload hx hb dmX13_braid_98 (lv_at hl 6 rfl) ?_
          refine lv_iload_n hx hb dmX13_braid_100 rfl (lv_at hl 1 rfl) ?_
          refine lv_iconst (v := 1) hx hb dmX13_braid_101 (by decide) ?_
          refine lv_isub hx hb dmX13_braid_102 ?_
          refine lv_icmp_ge (tgt := 110) hx hb dmX13_braid_103 (by decide) (fun hc => ?_) (fun hc => ?_)
          · have hq := tw_it hq hc
            exact ih_5 x1 x2 x3 x4 x5 x6 0 0 0 z H locs ls hM (lv_sub hl [0, 1, 2, 3, 4, 5, 6] rfl) hq
          · have hq := tw_if hq hc
            exact ih_4 x1 x2 x3 x4 x5 x6 0 0 0 z H locs ls hM (lv_sub hl [0, 1, 2, 3, 4, 5, 6] rfl) hq
      · intro x1 x2 x3 x4 x5 x6 x7 t0 t1 z H locs ls  hM hl hq
        have hq : qm_X13_braid_4 K (q_X13_braid K k) x1 x2 x3 x4 x5 x6 x7 t0 t1 z = some (r, z1) := hq
        unfold qm_X13_braid_4 at hq
        refine lv_iconst (v := 1) hx hb dmX13_braid_106 (by decide) ?_
        refine lv_goto (tgt := 111) hx hb dmX13_braid_107 (by decide) ?_
        exact ih_6 x1 x2 x3 x4 x5 x6 0 1 0 z H locs ls hM (lv_sub hl [0, 1, 2, 3, 4, 5, 6] rfl) hq
      · intro x1 x2 x3 x4 x5 x6 x7 t0 t1 z H locs ls  hM hl hq
        have hq : qm_X13_braid_5 K (q_X13_braid K k) x1 x2 x3 x4 x5 x6 x7 t0 t1 z = some (r, z1) := hq
        unfold qm_X13_braid_5 at hq
        refine lv_iconst (v := 0) hx hb dmX13_braid_110 (by decide) ?_
        exact ih_6 x1 x2 x3 x4 x5 x6 0 0 0 z H locs ls hM (lv_sub hl [0, 1, 2, 3, 4, 5, 6] rfl) hq
      · intro x1 x2 x3 x4 x5 x6 x7 t0 t1 z H locs ls  hM hl hq
        have hq : qm_X13_braid_6 K (q_X13_braid K k) x1 x2 x3 x4 x5 x6 x7 t0 t1 z = some (r, z1) := hq
        unfold qm_X13_braid_6 at hq
        refine lv_istore (lv' := [(7, .int t0), (0, .ref (u 0)), (1, .int x1), (2, .int x2), (3, .int x3), (4, .int x4), (5, .int x5), (6, .int x6)]) hx hb dmX13_braid_111 hl (by decide) rfl (fun ls hl => ?_)
        refine lv_iload hx hb dmX13_braid_113 (lv_at hl 5 rfl) ?_
        refine lv_bipush (v := 16) hx hb dmX13_braid_115 (by decide) ?_
        refine lv_icmp_eq (tgt := 125) hx hb dmX13_braid_117 (by decide) (fun hc => ?_) (fun hc => ?_)
        · have hq := tw_it hq hc
          exact ih_7 x1 x2 x3 x4 x5 x6 t0 0 0 z H locs ls hM (lv_sub hl [1, 2, 3, 4, 5, 6, 7, 0] rfl) hq
        · have hq := tw_if hq hc
          refine lv_iload hx hb dmX13_braid_120 (lv_at hl 0 rfl) ?_
          refine lv_if_ne (tgt := 131) hx hb dmX13_braid_122 (by decide) (fun hc => ?_) (fun hc => ?_)
          · have hq := tw_if hq hc
            refine lv_aload_n hx hb dmX13_braid_131 rfl (lv_at hl 1 rfl) ?_
            refine mg13_320 hx hb hT hown hK hM dmX13_braid_132 ?_
            refine lv_bipush (v := 16) hx hb dmX13_braid_135 (by decide) ?_
            refine lv_iload_n hx hb dmX13_braid_137 rfl (lv_at hl 3 rfl) ?_
            refine lv_imul hx hb dmX13_braid_138 ?_
            refine lv_iload hx hb dmX13_braid_139 (lv_at hl 5 rfl) ?_
            refine lv_iadd hx hb dmX13_braid_141 ?_
            refine lv_iload hx hb dmX13_braid_142 (lv_at hl 6 rfl) ?_
            refine lv_if_lt (tgt := 154) hx hb dmX13_braid_144 (by decide) (fun hc => ?_) (fun hc => ?_)
            · have hq := tw_it hq hc
              refine lv_iconst (v := (-1)) hx hb dmX13_braid_154 (by decide) ?_
              refine lv_iload hx hb dmX13_braid_155 (lv_at hl 7 rfl) ?_
              refine lv_isub hx hb dmX13_braid_157 ?_
              exact ih_8 x1 x2 x3 x4 x5 x6 t0 ((-1) - x6) ((16 * x2) + x4) z H locs ls hM (lv_sub hl [1, 2, 3, 4, 5, 6, 7, 0] rfl) hq
            · have hq := tw_if hq hc
              refine lv_iload hx hb dmX13_braid_147 (lv_at hl 6 rfl) ?_
              refine lv_iconst (v := 1) hx hb dmX13_braid_149 (by decide) ?_
              refine lv_iadd hx hb dmX13_braid_150 ?_
              refine lv_goto (tgt := 158) hx hb dmX13_braid_151 (by decide) ?_
              exact ih_8 x1 x2 x3 x4 x5 x6 t0 (x5 + 1) ((16 * x2) + x4) z H locs ls hM (lv_sub hl [1, 2, 3, 4, 5, 6, 7, 0] rfl) hq
          · have hq := tw_it hq hc
            exact ih_7 x1 x2 x3 x4 x5 x6 t0 0 0 z H locs ls hM (lv_sub hl [1, 2, 3, 4, 5, 6, 7, 0] rfl) hq
      · intro x1 x2 x3 x4 x5 x6 x7 t0 t1 z H locs ls  hM hl hq
        have hq : qm_X13_braid_7 K (q_X13_braid K k) x1 x2 x3 x4 x5 x6 x7 t0 t1 z = some (r, z1) := hq
        unfold qm_X13_braid_7 at hq
        refine lv_iload hx hb dmX13_braid_125 (lv_at hl 4 rfl) ?_
        refine lv_istore_n (lv' := [(3, .int x4), (0, .ref (u 0)), (1, .int x1), (2, .int x2), (4, .int x4), (5, .int x5), (6, .int x6), (7, .int x7)]) hx hb dmX13_braid_127 rfl hl (by decide) rfl (fun ls hl => ?_)
        refine lv_goto (tgt := 159) hx hb dmX13_braid_128 (by decide) ?_
        exact ih_9 x1 x2 x4 x4 x5 x6 x7 0 0 z H locs ls hM (lv_sub hl [1, 2, 3, 0, 4, 5, 6, 7] rfl) hq
      · intro x1 x2 x3 x4 x5 x6 x7 t0 t1 z H locs ls  hM hl hq
        have hq : qm_X13_braid_8 K (q_X13_braid K k) x1 x2 x3 x4 x5 x6 x7 t0 t1 z = some (r, z1) := hq
        unfold qm_X13_braid_8 at hq
        refine tw_iast mX_ok hU hx hb hK hM mr_94 hq dmX13_braid_158 (fun z11 H locs hM hq => ?_)
        exact ih_9 x1 x2 x3 x4 x5 x6 x7 0 0 z11 H locs ls hM (lv_sub hl [0, 1, 2, 3, 4, 5, 6, 7] rfl) hq
      · intro x1 x2 x3 x4 x5 x6 x7 t0 t1 z H locs ls  hM hl hq
        have hq : qm_X13_braid_9 K (q_X13_braid K k) x1 x2 x3 x4 x5 x6 x7 t0 t1 z = some (r, z1) := hq
        unfold qm_X13_braid_9 at hq
        refine lv_iinc (v := (x4 + 1)) (lv' := [(4, .int (x4 + 1)), (0, .ref (u 0)), (1, .int x1), (2, .int x2), (3, .int x3), (5, .int x5), (6, .int x6), (7, .int x7)]) hx hb dmX13_braid_159 hl (k := 4) rfl rfl (by decide) rfl (fun ls hl => ?_)
        refine lv_goto (tgt := 42) hx hb dmX13_braid_162 (by decide) ?_
        exact ih_2 x1 x2 x3 (x4 + 1) 0 0 0 0 0 z H locs ls hM (lv_sub hl [1, 2, 3, 4, 0] rfl) hq
      · intro x1 x2 x3 x4 x5 x6 x7 t0 t1 z H locs ls  hM hl hq
        have hq : qm_X13_braid_10 K (q_X13_braid K k) x1 x2 x3 x4 x5 x6 x7 t0 t1 z = some (r, z1) := hq
        unfold qm_X13_braid_10 at hq
        refine lv_aload_n hx hb dmX13_braid_165 rfl (lv_at hl 0 rfl) ?_
        refine mg13_400 hx hb hT hown hK hM hq dmX13_braid_166 (fun v12 hq => ?_)
        refine lv_istore (lv' := [(4, .int v12), (0, .ref (u 0)), (1, .int x1), (2, .int x2), (3, .int x3)]) hx hb dmX13_braid_169 hl (by decide) rfl (fun ls hl => ?_)
        refine lv_aload_n hx hb dmX13_braid_171 rfl (lv_at hl 1 rfl) ?_
        refine lv_iconst (v := 0) hx hb dmX13_braid_172 (by decide) ?_
        refine mp13_400 hx hb hT hown hK hM hU hq dmX13_braid_173 (fun z13 H locs hM hq => ?_)
        refine lv_iload_n hx hb dmX13_braid_176 rfl (lv_at hl 4 rfl) ?_
        refine lv_iconst (v := (-1)) hx hb dmX13_braid_177 (by decide) ?_
        refine lv_icmp_eq (tgt := 185) hx hb dmX13_braid_178 (by decide) (fun hc => ?_) (fun hc => ?_)
        · have hq := tw_it hq hc
          refine lv_aload_n hx hb dmX13_braid_185 rfl (lv_at hl 1 rfl) ?_
          refine mg13_323 hx hb hT hown hK hM dmX13_braid_186 ?_
          refine lv_iload_n hx hb dmX13_braid_189 rfl (lv_at hl 3 rfl) ?_
          refine lv_iload hx hb dmX13_braid_190 (lv_at hl 0 rfl) ?_
          refine tw_iast mX_ok hU hx hb hK hM mr_95 hq dmX13_braid_192 (fun z14 H locs hM hq => ?_)
          refine lv_aload_n hx hb dmX13_braid_193 rfl (lv_at hl 1 rfl) ?_
          refine mg13_326 hx hb hT hown hK hM dmX13_braid_194 ?_
          refine lv_iload_n hx hb dmX13_braid_197 rfl (lv_at hl 3 rfl) ?_
          refine lv_iload_n hx hb dmX13_braid_198 rfl (lv_at hl 2 rfl) ?_
          refine tw_iast mX_ok hU hx hb hK hM mr_96 hq dmX13_braid_199 (fun z15 H locs hM hq => ?_)
          refine lv_iload_n hx hb dmX13_braid_200 rfl (lv_at hl 3 rfl) ?_
          exact mw_iret hx hb hr hlocks hM hq hQQ dmX13_braid_201
        · have hq := tw_if hq hc
          refine lv_iconst (v := (-1)) hx hb dmX13_braid_181 (by decide) ?_
          refine lv_iload_n hx hb dmX13_braid_182 rfl (lv_at hl 4 rfl) ?_
          refine lv_isub hx hb dmX13_braid_183 ?_
          exact mw_iret hx hb hr hlocks hM hq hQQ dmX13_braid_184
  exact (key K).1 x1 0 0 0 0 0 0 0 0 z s.heap [] ls  hM (lv_sub hl [0, 1] rfl) hq
