theorem dmX13_thrown_0 : decode cX13_thrown 0 = .ok (.aload_n 0, 1) := by decide +kernel
theorem dmX13_thrown_1 : decode cX13_thrown 1 = .ok (.getfield 1, 3) := by decide +kernel
theorem dmX13_thrown_4 : decode cX13_thrown 4 = .ok (.ireturn, 1) := by decide +kernel
def qm_X13_thrown_0 (K : Nat)  (z : ow_MS) : Option (Int32 × ow_MS) :=
 rdF z 1 fun v1 => some (v1, z)
def qe_X13_thrown (K : Nat)  (z : ow_MS) : Option (Int32 × ow_MS) := qm_X13_thrown_0 K z
abbrev wm_X13_thrown : List Cond := .code yX13_thrown cX13_thrown 1 (some .int) :: wM
theorem cd_X13_thrown : yX13_thrown.cls = RX13 ∧ yX13_thrown.cls ≠ "java/lang/invoke/MethodHandle" ∧ yX13_thrown.cls ≠ "java/lang/invoke/VarHandle" ∧ (parseMethodDescriptor yX13_thrown.desc).map (fun d => d.parameters.length) = some 0 := by decide +kernel
set_option maxHeartbeats 4000000 in
set_option maxRecDepth 100000 in
theorem km_X13_thrown (l : Launch) (D : va_G) (q : ow_Q5) (u : Nat → Nat) (hU : tw_inj mX u) (K : Nat)   (z z1 : ow_MS) (r : Int32) (hq : qe_X13_thrown K  z = some (r, z1)) : Met l yX13_thrown wm_X13_thrown ({ frames := 0, cells := 0, slots := 0, locals := 0 } : Room) (va_Pc [.ref (u 0)] (mw_pre D q u z)) (va_Qi (fun x (_ : Unit) => x = r) (fun _ t => va_P D vwCl (tw mX q u z1) t.heap) (tw_A mX u)) 0 0 (tw_A mX u) := by
  refine Met.ofW (cc := cX13_thrown) (maxL := 1) (ret := (some .int)) (by decide) rfl ?_
  intro p e s m args below meth c s₁ B hml hv
  obtain ⟨rfl, hP, hK, hN⟩ := hv
  have hx := B.exec
  have hb := B.bytes
  have hr := B.returns
  have hts := atoms_spec (ws := wm_X13_thrown) B.pre
  have hT : ∀ w ∈ wM, w.before ([.ref (u 0)] : List Value).toArray s = true := fun w h => hts w (List.mem_cons_of_mem _ h)
  have hown : s.vm.findClass RX13 = some m.cls := findClass_of_methodNamed B.named
  have hlocks := B.notSynchronized
  have hM : tw_M D vwCl mX q s.heap u z s.heap [] := ⟨hP, va_S.rf⟩
  have hl := lv_entry ([.ref (u 0)]) (n := 1) (Nat.le_of_ble_eq_true rfl)
  rw [lg_entry_eq]
  generalize (lg_sl ([.ref (u 0)]) ++ List.replicate (1 - (lg_sl ([.ref (u 0)])).length) Slot.unset).toArray = ls at hl ⊢
  have hl : lv_has ls 1 [(0, .ref (u 0))] := hl
  refine ow_named (fun QQ hQQ => ?_)
  generalize ([.ref (u 0)] : List Value).toArray = args at hts hT hQQ ⊢
  have hq : qm_X13_thrown_0 K  z = some (r, z1) := hq
  unfold qm_X13_thrown_0 at hq
  suffices key : ∀ (H : Heap) (locs : List Loc), tw_M D vwCl mX q s.heap u z H locs → W p l e ({ frames := 0, cells := 0, slots := 0, locals := 0 } : Room) s m args below meth c H locs 0 0 QQ (F0 m 0 ls []) from key s.heap [] hM
  intro H locs hM
  refine lv_aload_n hx hb dmX13_thrown_0 rfl (lv_at hl 0 rfl) ?_
  refine mg13_1 hx hb hT hown hK hM hq dmX13_thrown_1 (fun v1 hq => ?_)
  exact mw_iret hx hb hr hlocks hM hq hQQ dmX13_thrown_4
theorem dmX13_fails_0 : decode cX13_fails 0 = .ok (.aload_n 0, 1) := by decide +kernel
theorem dmX13_fails_1 : decode cX13_fails 1 = .ok (.iload_n 1, 1) := by decide +kernel
theorem dmX13_fails_2 : decode cX13_fails 2 = .ok (.putfield 1, 3) := by decide +kernel
theorem dmX13_fails_5 : decode cX13_fails 5 = .ok (.iconst 0, 1) := by decide +kernel
theorem dmX13_fails_6 : decode cX13_fails 6 = .ok (.ireturn, 1) := by decide +kernel
def qm_X13_fails_0 (K : Nat) (x1 : Int32) (z : ow_MS) : Option (Int32 × ow_MS) :=
 wrF z 1 x1 fun z1 => some (0, z1)
def qe_X13_fails (K : Nat) (x1 : Int32) (z : ow_MS) : Option (Int32 × ow_MS) := qm_X13_fails_0 K x1 z
abbrev wm_X13_fails : List Cond := .code yX13_fails cX13_fails 2 (some .int) :: wM
theorem cd_X13_fails : yX13_fails.cls = RX13 ∧ yX13_fails.cls ≠ "java/lang/invoke/MethodHandle" ∧ yX13_fails.cls ≠ "java/lang/invoke/VarHandle" ∧ (parseMethodDescriptor yX13_fails.desc).map (fun d => d.parameters.length) = some 1 := by decide +kernel
set_option maxHeartbeats 4000000 in
set_option maxRecDepth 100000 in
theorem km_X13_fails (l : Launch) (D : va_G) (q : ow_Q5) (u : Nat → Nat) (hU : tw_inj mX u) (K : Nat) (x1 : Int32)  (z z1 : ow_MS) (r : Int32) (hq : qe_X13_fails K x1 z = some (r, z1)) : Met l yX13_fails wm_X13_fails ({ frames := 0, cells := 0, slots := 0, locals := 0 } : Room) (va_Pc [.ref (u 0), .int x1] (mw_pre D q u z)) (va_Qi (fun x (_ : Unit) => x = r) (fun _ t => va_P D vwCl (tw mX q u z1) t.heap) (tw_A mX u)) 0 0 (tw_A mX u) := by
  refine Met.ofW (cc := cX13_fails) (maxL := 2) (ret := (some .int)) (by decide) rfl ?_
  intro p e s m args below meth c s₁ B hml hv
  obtain ⟨rfl, hP, hK, hN⟩ := hv
  have hx := B.exec
  have hb := B.bytes
  have hr := B.returns
  have hts := atoms_spec (ws := wm_X13_fails) B.pre
  have hT : ∀ w ∈ wM, w.before ([.ref (u 0), .int x1] : List Value).toArray s = true := fun w h => hts w (List.mem_cons_of_mem _ h)
  have hown : s.vm.findClass RX13 = some m.cls := findClass_of_methodNamed B.named
  have hlocks := B.notSynchronized
  have hM : tw_M D vwCl mX q s.heap u z s.heap [] := ⟨hP, va_S.rf⟩
  have hl := lv_entry ([.ref (u 0), .int x1]) (n := 2) (Nat.le_of_ble_eq_true rfl)
  rw [lg_entry_eq]
  generalize (lg_sl ([.ref (u 0), .int x1]) ++ List.replicate (2 - (lg_sl ([.ref (u 0), .int x1])).length) Slot.unset).toArray = ls at hl ⊢
  have hl : lv_has ls 2 [(0, .ref (u 0)), (1, .int x1)] := hl
  refine ow_named (fun QQ hQQ => ?_)
  generalize ([.ref (u 0), .int x1] : List Value).toArray = args at hts hT hQQ ⊢
  have hq : qm_X13_fails_0 K x1 z = some (r, z1) := hq
  unfold qm_X13_fails_0 at hq
  suffices key : ∀ (H : Heap) (locs : List Loc), tw_M D vwCl mX q s.heap u z H locs → W p l e ({ frames := 0, cells := 0, slots := 0, locals := 0 } : Room) s m args below meth c H locs 0 0 QQ (F0 m 0 ls []) from key s.heap [] hM
  intro H locs hM
  refine lv_aload_n hx hb dmX13_fails_0 rfl (lv_at hl 0 rfl) ?_
  refine lv_iload_n hx hb dmX13_fails_1 rfl (lv_at hl 1 rfl) ?_
  refine mp13_1 hx hb hT hown hK hM hU hq dmX13_fails_2 (fun z1 H locs hM hq => ?_)
  refine lv_iconst (v := 0) hx hb dmX13_fails_5 (by decide) ?_
  exact mw_iret hx hb hr hlocks hM hq hQQ dmX13_fails_6
theorem dmX13_rowFrom_0 : decode cX13_rowFrom 0 = .ok (.iconst 0, 1) := dw_at cX13_rowFrom_k0 (p := 0) rfl (by decide +kernel)
theorem dmX13_rowFrom_1 : decode cX13_rowFrom 1 = .ok (.istore_n 3, 1) := dw_at cX13_rowFrom_k0 (p := 1) rfl (by decide +kernel)
theorem dmX13_rowFrom_2 : decode cX13_rowFrom 2 = .ok (.iload_n 3, 1) := dw_at cX13_rowFrom_k0 (p := 2) rfl (by decide +kernel)
theorem dmX13_rowFrom_3 : decode cX13_rowFrom 3 = .ok (.bipush 40, 2) := dw_at cX13_rowFrom_k0 (p := 3) rfl (by decide +kernel)
theorem dmX13_rowFrom_5 : decode cX13_rowFrom 5 = .ok (.if_icmp .ge 23, 3) := dw_at cX13_rowFrom_k0 (p := 5) rfl (by decide +kernel)
theorem dmX13_rowFrom_8 : decode cX13_rowFrom 8 = .ok (.aload_n 0, 1) := dw_at cX13_rowFrom_k0 (p := 8) rfl (by decide +kernel)
theorem dmX13_rowFrom_9 : decode cX13_rowFrom 9 = .ok (.getfield 7, 3) := dw_at cX13_rowFrom_k0 (p := 9) rfl (by decide +kernel)
theorem dmX13_rowFrom_12 : decode cX13_rowFrom 12 = .ok (.iload_n 3, 1) := dw_at cX13_rowFrom_k0 (p := 12) rfl (by decide +kernel)
theorem dmX13_rowFrom_13 : decode cX13_rowFrom 13 = .ok (.iconst 0, 1) := dw_at cX13_rowFrom_k0 (p := 13) rfl (by decide +kernel)
theorem dmX13_rowFrom_14 : decode cX13_rowFrom 14 = .ok (.iastore, 1) := dw_at cX13_rowFrom_k0 (p := 14) rfl (by decide +kernel)
theorem dmX13_rowFrom_15 : decode cX13_rowFrom 15 = .ok (.aload_n 0, 1) := dw_at cX13_rowFrom_k0 (p := 15) rfl (by decide +kernel)
theorem dmX13_rowFrom_16 : decode cX13_rowFrom 16 = .ok (.getfield 11, 3) := dw_at cX13_rowFrom_k0 (p := 16) rfl (by decide +kernel)
theorem dmX13_rowFrom_19 : decode cX13_rowFrom 19 = .ok (.iload_n 3, 1) := dw_at cX13_rowFrom_k0 (p := 19) rfl (by decide +kernel)
theorem dmX13_rowFrom_20 : decode cX13_rowFrom 20 = .ok (.iconst 0, 1) := dw_at cX13_rowFrom_k0 (p := 20) rfl (by decide +kernel)
theorem dmX13_rowFrom_21 : decode cX13_rowFrom 21 = .ok (.bastore, 1) := dw_at cX13_rowFrom_k0 (p := 21) rfl (by decide +kernel)
theorem dmX13_rowFrom_22 : decode cX13_rowFrom 22 = .ok (.iinc 3 1, 3) := dw_at cX13_rowFrom_k0 (p := 22) rfl (by decide +kernel)
theorem dmX13_rowFrom_25 : decode cX13_rowFrom 25 = .ok (.goto (-23), 3) := dw_at cX13_rowFrom_k1 (p := 0) rfl (by decide +kernel)
theorem dmX13_rowFrom_28 : decode cX13_rowFrom 28 = .ok (.aload_n 0, 1) := dw_at cX13_rowFrom_k1 (p := 3) rfl (by decide +kernel)
theorem dmX13_rowFrom_29 : decode cX13_rowFrom 29 = .ok (.iconst 0, 1) := dw_at cX13_rowFrom_k1 (p := 4) rfl (by decide +kernel)
theorem dmX13_rowFrom_30 : decode cX13_rowFrom 30 = .ok (.putfield 15, 3) := dw_at cX13_rowFrom_k1 (p := 5) rfl (by decide +kernel)
theorem dmX13_rowFrom_33 : decode cX13_rowFrom 33 = .ok (.iconst 0, 1) := dw_at cX13_rowFrom_k1 (p := 8) rfl (by decide +kernel)
theorem dmX13_rowFrom_34 : decode cX13_rowFrom 34 = .ok (.istore_n 3, 1) := dw_at cX13_rowFrom_k1 (p := 9) rfl (by decide +kernel)
theorem dmX13_rowFrom_35 : decode cX13_rowFrom 35 = .ok (.iload_n 2, 1) := dw_at cX13_rowFrom_k1 (p := 10) rfl (by decide +kernel)
theorem dmX13_rowFrom_36 : decode cX13_rowFrom 36 = .ok (.istore 4, 2) := dw_at cX13_rowFrom_k1 (p := 11) rfl (by decide +kernel)
theorem dmX13_rowFrom_38 : decode cX13_rowFrom 38 = .ok (.iload 4, 2) := dw_at cX13_rowFrom_k1 (p := 13) rfl (by decide +kernel)
theorem dmX13_rowFrom_40 : decode cX13_rowFrom 40 = .ok (.iconst (-1), 1) := dw_at cX13_rowFrom_k1 (p := 15) rfl (by decide +kernel)
theorem dmX13_rowFrom_41 : decode cX13_rowFrom 41 = .ok (.if_icmp .eq 208, 3) := dw_at cX13_rowFrom_k1 (p := 16) rfl (by decide +kernel)
theorem dmX13_rowFrom_44 : decode cX13_rowFrom 44 = .ok (.aload_n 0, 1) := dw_at cX13_rowFrom_k1 (p := 19) rfl (by decide +kernel)
theorem dmX13_rowFrom_45 : decode cX13_rowFrom 45 = .ok (.getfield 11, 3) := dw_at cX13_rowFrom_k1 (p := 20) rfl (by decide +kernel)
theorem dmX13_rowFrom_48 : decode cX13_rowFrom 48 = .ok (.aload_n 1, 1) := dw_at cX13_rowFrom_k1 (p := 23) rfl (by decide +kernel)
theorem dmX13_rowFrom_49 : decode cX13_rowFrom 49 = .ok (.getfield 18, 3) := dw_at cX13_rowFrom_k2 (p := 0) rfl (by decide +kernel)
theorem dmX13_rowFrom_52 : decode cX13_rowFrom 52 = .ok (.iload 4, 2) := dw_at cX13_rowFrom_k2 (p := 3) rfl (by decide +kernel)
theorem dmX13_rowFrom_54 : decode cX13_rowFrom 54 = .ok (.iaload, 1) := dw_at cX13_rowFrom_k2 (p := 5) rfl (by decide +kernel)
theorem dmX13_rowFrom_55 : decode cX13_rowFrom 55 = .ok (.iconst 1, 1) := dw_at cX13_rowFrom_k2 (p := 6) rfl (by decide +kernel)
theorem dmX13_rowFrom_56 : decode cX13_rowFrom 56 = .ok (.bastore, 1) := dw_at cX13_rowFrom_k2 (p := 7) rfl (by decide +kernel)
theorem dmX13_rowFrom_57 : decode cX13_rowFrom 57 = .ok (.iload 4, 2) := dw_at cX13_rowFrom_k2 (p := 8) rfl (by decide +kernel)
theorem dmX13_rowFrom_59 : decode cX13_rowFrom 59 = .ok (.istore 5, 2) := dw_at cX13_rowFrom_k2 (p := 10) rfl (by decide +kernel)
theorem dmX13_rowFrom_61 : decode cX13_rowFrom 61 = .ok (.aload_n 1, 1) := dw_at cX13_rowFrom_k2 (p := 12) rfl (by decide +kernel)
theorem dmX13_rowFrom_62 : decode cX13_rowFrom 62 = .ok (.getfield 23, 3) := dw_at cX13_rowFrom_k2 (p := 13) rfl (by decide +kernel)
theorem dmX13_rowFrom_65 : decode cX13_rowFrom 65 = .ok (.iload 5, 2) := dw_at cX13_rowFrom_k2 (p := 16) rfl (by decide +kernel)
theorem dmX13_rowFrom_67 : decode cX13_rowFrom 67 = .ok (.iaload, 1) := dw_at cX13_rowFrom_k2 (p := 18) rfl (by decide +kernel)
theorem dmX13_rowFrom_68 : decode cX13_rowFrom 68 = .ok (.istore 6, 2) := dw_at cX13_rowFrom_k2 (p := 19) rfl (by decide +kernel)
theorem dmX13_rowFrom_70 : decode cX13_rowFrom 70 = .ok (.aload_n 0, 1) := dw_at cX13_rowFrom_k2 (p := 21) rfl (by decide +kernel)
theorem dmX13_rowFrom_71 : decode cX13_rowFrom 71 = .ok (.getfield 7, 3) := dw_at cX13_rowFrom_k2 (p := 22) rfl (by decide +kernel)
theorem dmX13_rowFrom_74 : decode cX13_rowFrom 74 = .ok (.iload 6, 2) := dw_at cX13_rowFrom_k3 (p := 0) rfl (by decide +kernel)
theorem dmX13_rowFrom_76 : decode cX13_rowFrom 76 = .ok (.iaload, 1) := dw_at cX13_rowFrom_k3 (p := 2) rfl (by decide +kernel)
theorem dmX13_rowFrom_77 : decode cX13_rowFrom 77 = .ok (.ifCond .ne 22, 3) := dw_at cX13_rowFrom_k3 (p := 3) rfl (by decide +kernel)
theorem dmX13_rowFrom_80 : decode cX13_rowFrom 80 = .ok (.iinc 3 1, 3) := dw_at cX13_rowFrom_k3 (p := 6) rfl (by decide +kernel)
theorem dmX13_rowFrom_83 : decode cX13_rowFrom 83 = .ok (.aload_n 0, 1) := dw_at cX13_rowFrom_k3 (p := 9) rfl (by decide +kernel)
theorem dmX13_rowFrom_84 : decode cX13_rowFrom 84 = .ok (.getfield 7, 3) := dw_at cX13_rowFrom_k3 (p := 10) rfl (by decide +kernel)
theorem dmX13_rowFrom_87 : decode cX13_rowFrom 87 = .ok (.iload 6, 2) := dw_at cX13_rowFrom_k3 (p := 13) rfl (by decide +kernel)
theorem dmX13_rowFrom_89 : decode cX13_rowFrom 89 = .ok (.iload_n 3, 1) := dw_at cX13_rowFrom_k3 (p := 15) rfl (by decide +kernel)
theorem dmX13_rowFrom_90 : decode cX13_rowFrom 90 = .ok (.iastore, 1) := dw_at cX13_rowFrom_k3 (p := 16) rfl (by decide +kernel)
theorem dmX13_rowFrom_91 : decode cX13_rowFrom 91 = .ok (.aload_n 0, 1) := dw_at cX13_rowFrom_k3 (p := 17) rfl (by decide +kernel)
theorem dmX13_rowFrom_92 : decode cX13_rowFrom 92 = .ok (.getfield 26, 3) := dw_at cX13_rowFrom_k3 (p := 18) rfl (by decide +kernel)
theorem dmX13_rowFrom_95 : decode cX13_rowFrom 95 = .ok (.iload_n 3, 1) := dw_at cX13_rowFrom_k3 (p := 21) rfl (by decide +kernel)
theorem dmX13_rowFrom_96 : decode cX13_rowFrom 96 = .ok (.iload 5, 2) := dw_at cX13_rowFrom_k3 (p := 22) rfl (by decide +kernel)
theorem dmX13_rowFrom_98 : decode cX13_rowFrom 98 = .ok (.iastore, 1) := dw_at cX13_rowFrom_k4 (p := 0) rfl (by decide +kernel)
theorem dmX13_rowFrom_99 : decode cX13_rowFrom 99 = .ok (.aload_n 0, 1) := dw_at cX13_rowFrom_k4 (p := 1) rfl (by decide +kernel)
theorem dmX13_rowFrom_100 : decode cX13_rowFrom 100 = .ok (.dup, 1) := dw_at cX13_rowFrom_k4 (p := 2) rfl (by decide +kernel)
theorem dmX13_rowFrom_101 : decode cX13_rowFrom 101 = .ok (.getfield 15, 3) := dw_at cX13_rowFrom_k4 (p := 3) rfl (by decide +kernel)
theorem dmX13_rowFrom_104 : decode cX13_rowFrom 104 = .ok (.iconst 1, 1) := dw_at cX13_rowFrom_k4 (p := 6) rfl (by decide +kernel)
theorem dmX13_rowFrom_105 : decode cX13_rowFrom 105 = .ok (.iadd, 1) := dw_at cX13_rowFrom_k4 (p := 7) rfl (by decide +kernel)
theorem dmX13_rowFrom_106 : decode cX13_rowFrom 106 = .ok (.putfield 15, 3) := dw_at cX13_rowFrom_k4 (p := 8) rfl (by decide +kernel)
theorem dmX13_rowFrom_109 : decode cX13_rowFrom 109 = .ok (.aload_n 0, 1) := dw_at cX13_rowFrom_k4 (p := 11) rfl (by decide +kernel)
theorem dmX13_rowFrom_110 : decode cX13_rowFrom 110 = .ok (.getfield 29, 3) := dw_at cX13_rowFrom_k4 (p := 12) rfl (by decide +kernel)
theorem dmX13_rowFrom_113 : decode cX13_rowFrom 113 = .ok (.aload_n 0, 1) := dw_at cX13_rowFrom_k4 (p := 15) rfl (by decide +kernel)
theorem dmX13_rowFrom_114 : decode cX13_rowFrom 114 = .ok (.getfield 15, 3) := dw_at cX13_rowFrom_k4 (p := 16) rfl (by decide +kernel)
theorem dmX13_rowFrom_117 : decode cX13_rowFrom 117 = .ok (.iconst 4, 1) := dw_at cX13_rowFrom_k4 (p := 19) rfl (by decide +kernel)
theorem dmX13_rowFrom_118 : decode cX13_rowFrom 118 = .ok (.aload_n 0, 1) := dw_at cX13_rowFrom_k4 (p := 20) rfl (by decide +kernel)
theorem dmX13_rowFrom_119 : decode cX13_rowFrom 119 = .ok (.getfield 7, 3) := dw_at cX13_rowFrom_k4 (p := 21) rfl (by decide +kernel)
theorem dmX13_rowFrom_122 : decode cX13_rowFrom 122 = .ok (.iload 6, 2) := dw_at cX13_rowFrom_k5 (p := 0) rfl (by decide +kernel)
theorem dmX13_rowFrom_124 : decode cX13_rowFrom 124 = .ok (.iaload, 1) := dw_at cX13_rowFrom_k5 (p := 2) rfl (by decide +kernel)
theorem dmX13_rowFrom_125 : decode cX13_rowFrom 125 = .ok (.imul, 1) := dw_at cX13_rowFrom_k5 (p := 3) rfl (by decide +kernel)
theorem dmX13_rowFrom_126 : decode cX13_rowFrom 126 = .ok (.iconst 2, 1) := dw_at cX13_rowFrom_k5 (p := 4) rfl (by decide +kernel)
theorem dmX13_rowFrom_127 : decode cX13_rowFrom 127 = .ok (.aload_n 1, 1) := dw_at cX13_rowFrom_k5 (p := 5) rfl (by decide +kernel)
theorem dmX13_rowFrom_128 : decode cX13_rowFrom 128 = .ok (.getfield 32, 3) := dw_at cX13_rowFrom_k5 (p := 6) rfl (by decide +kernel)
theorem dmX13_rowFrom_131 : decode cX13_rowFrom 131 = .ok (.iload 5, 2) := dw_at cX13_rowFrom_k5 (p := 9) rfl (by decide +kernel)
theorem dmX13_rowFrom_133 : decode cX13_rowFrom 133 = .ok (.iaload, 1) := dw_at cX13_rowFrom_k5 (p := 11) rfl (by decide +kernel)
theorem dmX13_rowFrom_134 : decode cX13_rowFrom 134 = .ok (.imul, 1) := dw_at cX13_rowFrom_k5 (p := 12) rfl (by decide +kernel)
theorem dmX13_rowFrom_135 : decode cX13_rowFrom 135 = .ok (.iadd, 1) := dw_at cX13_rowFrom_k5 (p := 13) rfl (by decide +kernel)
theorem dmX13_rowFrom_136 : decode cX13_rowFrom 136 = .ok (.aload_n 1, 1) := dw_at cX13_rowFrom_k5 (p := 14) rfl (by decide +kernel)
theorem dmX13_rowFrom_137 : decode cX13_rowFrom 137 = .ok (.getfield 35, 3) := dw_at cX13_rowFrom_k5 (p := 15) rfl (by decide +kernel)
theorem dmX13_rowFrom_140 : decode cX13_rowFrom 140 = .ok (.iload 6, 2) := dw_at cX13_rowFrom_k5 (p := 18) rfl (by decide +kernel)
theorem dmX13_rowFrom_142 : decode cX13_rowFrom 142 = .ok (.iaload, 1) := dw_at cX13_rowFrom_k5 (p := 20) rfl (by decide +kernel)
theorem dmX13_rowFrom_143 : decode cX13_rowFrom 143 = .ok (.ifCond .ge 7, 3) := dw_at cX13_rowFrom_k5 (p := 21) rfl (by decide +kernel)
theorem dmX13_rowFrom_146 : decode cX13_rowFrom 146 = .ok (.iconst 1, 1) := dw_at cX13_rowFrom_k6 (p := 0) rfl (by decide +kernel)
theorem dmX13_rowFrom_147 : decode cX13_rowFrom 147 = .ok (.goto 4, 3) := dw_at cX13_rowFrom_k6 (p := 1) rfl (by decide +kernel)
theorem dmX13_rowFrom_150 : decode cX13_rowFrom 150 = .ok (.iconst 0, 1) := dw_at cX13_rowFrom_k6 (p := 4) rfl (by decide +kernel)
theorem dmX13_rowFrom_151 : decode cX13_rowFrom 151 = .ok (.iadd, 1) := dw_at cX13_rowFrom_k6 (p := 5) rfl (by decide +kernel)
theorem dmX13_rowFrom_152 : decode cX13_rowFrom 152 = .ok (.iastore, 1) := dw_at cX13_rowFrom_k6 (p := 6) rfl (by decide +kernel)
theorem dmX13_rowFrom_153 : decode cX13_rowFrom 153 = .ok (.aload_n 1, 1) := dw_at cX13_rowFrom_k6 (p := 7) rfl (by decide +kernel)
theorem dmX13_rowFrom_154 : decode cX13_rowFrom 154 = .ok (.getfield 38, 3) := dw_at cX13_rowFrom_k6 (p := 8) rfl (by decide +kernel)
theorem dmX13_rowFrom_157 : decode cX13_rowFrom 157 = .ok (.iload 5, 2) := dw_at cX13_rowFrom_k6 (p := 11) rfl (by decide +kernel)
theorem dmX13_rowFrom_159 : decode cX13_rowFrom 159 = .ok (.iaload, 1) := dw_at cX13_rowFrom_k6 (p := 13) rfl (by decide +kernel)
theorem dmX13_rowFrom_160 : decode cX13_rowFrom 160 = .ok (.istore 5, 2) := dw_at cX13_rowFrom_k6 (p := 14) rfl (by decide +kernel)
theorem dmX13_rowFrom_162 : decode cX13_rowFrom 162 = .ok (.iload 5, 2) := dw_at cX13_rowFrom_k6 (p := 16) rfl (by decide +kernel)
theorem dmX13_rowFrom_164 : decode cX13_rowFrom 164 = .ok (.iload 4, 2) := dw_at cX13_rowFrom_k6 (p := 18) rfl (by decide +kernel)
theorem dmX13_rowFrom_166 : decode cX13_rowFrom 166 = .ok (.if_icmp .ne (-105), 3) := dw_at cX13_rowFrom_k6 (p := 20) rfl (by decide +kernel)
theorem dmX13_rowFrom_169 : decode cX13_rowFrom 169 = .ok (.aload_n 0, 1) := dw_at cX13_rowFrom_k6 (p := 23) rfl (by decide +kernel)
theorem dmX13_rowFrom_170 : decode cX13_rowFrom 170 = .ok (.dup, 1) := dw_at cX13_rowFrom_k7 (p := 0) rfl (by decide +kernel)
theorem dmX13_rowFrom_171 : decode cX13_rowFrom 171 = .ok (.getfield 15, 3) := dw_at cX13_rowFrom_k7 (p := 1) rfl (by decide +kernel)
theorem dmX13_rowFrom_174 : decode cX13_rowFrom 174 = .ok (.iconst 1, 1) := dw_at cX13_rowFrom_k7 (p := 4) rfl (by decide +kernel)
theorem dmX13_rowFrom_175 : decode cX13_rowFrom 175 = .ok (.iadd, 1) := dw_at cX13_rowFrom_k7 (p := 5) rfl (by decide +kernel)
theorem dmX13_rowFrom_176 : decode cX13_rowFrom 176 = .ok (.putfield 15, 3) := dw_at cX13_rowFrom_k7 (p := 6) rfl (by decide +kernel)
theorem dmX13_rowFrom_179 : decode cX13_rowFrom 179 = .ok (.aload_n 0, 1) := dw_at cX13_rowFrom_k7 (p := 9) rfl (by decide +kernel)
theorem dmX13_rowFrom_180 : decode cX13_rowFrom 180 = .ok (.getfield 29, 3) := dw_at cX13_rowFrom_k7 (p := 10) rfl (by decide +kernel)
theorem dmX13_rowFrom_183 : decode cX13_rowFrom 183 = .ok (.aload_n 0, 1) := dw_at cX13_rowFrom_k7 (p := 13) rfl (by decide +kernel)
theorem dmX13_rowFrom_184 : decode cX13_rowFrom 184 = .ok (.getfield 15, 3) := dw_at cX13_rowFrom_k7 (p := 14) rfl (by decide +kernel)
theorem dmX13_rowFrom_187 : decode cX13_rowFrom 187 = .ok (.iconst 0, 1) := dw_at cX13_rowFrom_k7 (p := 17) rfl (by decide +kernel)
theorem dmX13_rowFrom_188 : decode cX13_rowFrom 188 = .ok (.iastore, 1) := dw_at cX13_rowFrom_k7 (p := 18) rfl (by decide +kernel)
theorem dmX13_rowFrom_189 : decode cX13_rowFrom 189 = .ok (.iconst (-1), 1) := dw_at cX13_rowFrom_k7 (p := 19) rfl (by decide +kernel)
theorem dmX13_rowFrom_190 : decode cX13_rowFrom 190 = .ok (.istore 4, 2) := dw_at cX13_rowFrom_k7 (p := 20) rfl (by decide +kernel)
theorem dmX13_rowFrom_192 : decode cX13_rowFrom 192 = .ok (.iconst 1, 1) := dw_at cX13_rowFrom_k7 (p := 22) rfl (by decide +kernel)
theorem dmX13_rowFrom_193 : decode cX13_rowFrom 193 = .ok (.istore 6, 2) := dw_at cX13_rowFrom_k7 (p := 23) rfl (by decide +kernel)
theorem dmX13_rowFrom_195 : decode cX13_rowFrom 195 = .ok (.iload 6, 2) := dw_at cX13_rowFrom_k8 (p := 0) rfl (by decide +kernel)
theorem dmX13_rowFrom_197 : decode cX13_rowFrom 197 = .ok (.iload_n 3, 1) := dw_at cX13_rowFrom_k8 (p := 2) rfl (by decide +kernel)
theorem dmX13_rowFrom_198 : decode cX13_rowFrom 198 = .ok (.if_icmp .gt 48, 3) := dw_at cX13_rowFrom_k8 (p := 3) rfl (by decide +kernel)
theorem dmX13_rowFrom_201 : decode cX13_rowFrom 201 = .ok (.iload 4, 2) := dw_at cX13_rowFrom_k8 (p := 6) rfl (by decide +kernel)
theorem dmX13_rowFrom_203 : decode cX13_rowFrom 203 = .ok (.iconst (-1), 1) := dw_at cX13_rowFrom_k8 (p := 8) rfl (by decide +kernel)
theorem dmX13_rowFrom_204 : decode cX13_rowFrom 204 = .ok (.if_icmp .ne 42, 3) := dw_at cX13_rowFrom_k8 (p := 9) rfl (by decide +kernel)
theorem dmX13_rowFrom_207 : decode cX13_rowFrom 207 = .ok (.aload_n 1, 1) := dw_at cX13_rowFrom_k8 (p := 12) rfl (by decide +kernel)
theorem dmX13_rowFrom_208 : decode cX13_rowFrom 208 = .ok (.getfield 41, 3) := dw_at cX13_rowFrom_k8 (p := 13) rfl (by decide +kernel)
theorem dmX13_rowFrom_211 : decode cX13_rowFrom 211 = .ok (.aload_n 0, 1) := dw_at cX13_rowFrom_k8 (p := 16) rfl (by decide +kernel)
theorem dmX13_rowFrom_212 : decode cX13_rowFrom 212 = .ok (.getfield 26, 3) := dw_at cX13_rowFrom_k8 (p := 17) rfl (by decide +kernel)
theorem dmX13_rowFrom_215 : decode cX13_rowFrom 215 = .ok (.iload 6, 2) := dw_at cX13_rowFrom_k8 (p := 20) rfl (by decide +kernel)
theorem dmX13_rowFrom_217 : decode cX13_rowFrom 217 = .ok (.iaload, 1) := dw_at cX13_rowFrom_k8 (p := 22) rfl (by decide +kernel)
theorem dmX13_rowFrom_218 : decode cX13_rowFrom 218 = .ok (.iaload, 1) := dw_at cX13_rowFrom_k8 (p := 23) rfl (by decide +kernel)
theorem dmX13_rowFrom_219 : decode cX13_rowFrom 219 = .ok (.istore 7, 2) := dw_at cX13_rowFrom_k9 (p := 0) rfl (by decide +kernel)
theorem dmX13_rowFrom_221 : decode cX13_rowFrom 221 = .ok (.aload_n 0, 1) := dw_at cX13_rowFrom_k9 (p := 2) rfl (by decide +kernel)
theorem dmX13_rowFrom_222 : decode cX13_rowFrom 222 = .ok (.getfield 11, 3) := dw_at cX13_rowFrom_k9 (p := 3) rfl (by decide +kernel)
theorem dmX13_rowFrom_225 : decode cX13_rowFrom 225 = .ok (.aload_n 1, 1) := dw_at cX13_rowFrom_k9 (p := 6) rfl (by decide +kernel)
theorem dmX13_rowFrom_226 : decode cX13_rowFrom 226 = .ok (.getfield 18, 3) := dw_at cX13_rowFrom_k9 (p := 7) rfl (by decide +kernel)
theorem dmX13_rowFrom_229 : decode cX13_rowFrom 229 = .ok (.iload 7, 2) := dw_at cX13_rowFrom_k9 (p := 10) rfl (by decide +kernel)
theorem dmX13_rowFrom_231 : decode cX13_rowFrom 231 = .ok (.iaload, 1) := dw_at cX13_rowFrom_k9 (p := 12) rfl (by decide +kernel)
theorem dmX13_rowFrom_232 : decode cX13_rowFrom 232 = .ok (.baload, 1) := dw_at cX13_rowFrom_k9 (p := 13) rfl (by decide +kernel)
theorem dmX13_rowFrom_233 : decode cX13_rowFrom 233 = .ok (.ifCond .ne 7, 3) := dw_at cX13_rowFrom_k9 (p := 14) rfl (by decide +kernel)
theorem dmX13_rowFrom_236 : decode cX13_rowFrom 236 = .ok (.iload 7, 2) := dw_at cX13_rowFrom_k9 (p := 17) rfl (by decide +kernel)
theorem dmX13_rowFrom_238 : decode cX13_rowFrom 238 = .ok (.istore 4, 2) := dw_at cX13_rowFrom_k9 (p := 19) rfl (by decide +kernel)
theorem dmX13_rowFrom_240 : decode cX13_rowFrom 240 = .ok (.iinc 6 1, 3) := dw_at cX13_rowFrom_k9 (p := 21) rfl (by decide +kernel)
theorem dmX13_rowFrom_243 : decode cX13_rowFrom 243 = .ok (.goto (-48), 3) := dw_at cX13_rowFrom_k10 (p := 0) rfl (by decide +kernel)
theorem dmX13_rowFrom_246 : decode cX13_rowFrom 246 = .ok (.goto (-208), 3) := dw_at cX13_rowFrom_k10 (p := 3) rfl (by decide +kernel)
theorem dmX13_rowFrom_249 : decode cX13_rowFrom 249 = .ok (.aload_n 0, 1) := dw_at cX13_rowFrom_k10 (p := 6) rfl (by decide +kernel)
theorem dmX13_rowFrom_250 : decode cX13_rowFrom 250 = .ok (.getfield 29, 3) := dw_at cX13_rowFrom_k10 (p := 7) rfl (by decide +kernel)
theorem dmX13_rowFrom_253 : decode cX13_rowFrom 253 = .ok (.iconst 0, 1) := dw_at cX13_rowFrom_k10 (p := 10) rfl (by decide +kernel)
theorem dmX13_rowFrom_254 : decode cX13_rowFrom 254 = .ok (.aload_n 0, 1) := dw_at cX13_rowFrom_k10 (p := 11) rfl (by decide +kernel)
theorem dmX13_rowFrom_255 : decode cX13_rowFrom 255 = .ok (.getfield 15, 3) := dw_at cX13_rowFrom_k10 (p := 12) rfl (by decide +kernel)
theorem dmX13_rowFrom_258 : decode cX13_rowFrom 258 = .ok (.iastore, 1) := dw_at cX13_rowFrom_k10 (p := 15) rfl (by decide +kernel)
theorem dmX13_rowFrom_259 : decode cX13_rowFrom 259 = .ok (.return_, 1) := dw_at cX13_rowFrom_k10 (p := 16) rfl (by decide +kernel)
def qm_X13_rowFrom_0 (K : Nat) (go : Nat → Int32 → Int32 → Int32 → Int32 → Int32 → Int32 → Nat → Int32 → Int32 → Int32 → ow_MS → Option ow_MS) (x2 : Int32) (x3 : Int32) (x4 : Int32) (x5 : Int32) (x6 : Int32) (x7 : Int32) (r1 : Nat) (t0 : Int32) (t1 : Int32) (t2 : Int32) (z : ow_MS) : Option ow_MS :=
 go 1 x2 0 0 0 0 0 r1 0 0 0 z
def qm_X13_rowFrom_1 (K : Nat) (go : Nat → Int32 → Int32 → Int32 → Int32 → Int32 → Int32 → Nat → Int32 → Int32 → Int32 → ow_MS → Option ow_MS) (x2 : Int32) (x3 : Int32) (x4 : Int32) (x5 : Int32) (x6 : Int32) (x7 : Int32) (r1 : Nat) (t0 : Int32) (t1 : Int32) (t2 : Int32) (z : ow_MS) : Option ow_MS :=
 (if 40 ≤ x3 then wrF z 3 0 fun z1 => go 2 x2 0 x2 0 0 0 r1 0 0 0 z1
 else wrI mX z 4 x3 0 fun z2 => wrZ mX z2 6 x3 0 fun z3 => go 1 x2 (x3 + 1) 0 0 0 0 r1 0 0 0 z3)
def qm_X13_rowFrom_2 (K : Nat) (go : Nat → Int32 → Int32 → Int32 → Int32 → Int32 → Int32 → Nat → Int32 → Int32 → Int32 → ow_MS → Option ow_MS) (x2 : Int32) (x3 : Int32) (x4 : Int32) (x5 : Int32) (x6 : Int32) (x7 : Int32) (r1 : Nat) (t0 : Int32) (t1 : Int32) (t2 : Int32) (z : ow_MS) : Option ow_MS :=
 (if x4 = (-1) then rdF z 3 fun v4 => wrI mX z 2 0 v4 fun z5 => some z5
 else rdI mX z (r1 + 8) x4 fun v6 => wrZ mX z 6 v6 1 fun z7 => go 3 x2 x3 x4 x4 0 0 r1 0 0 0 z7)
def qm_X13_rowFrom_3 (K : Nat) (go : Nat → Int32 → Int32 → Int32 → Int32 → Int32 → Int32 → Nat → Int32 → Int32 → Int32 → ow_MS → Option ow_MS) (x2 : Int32) (x3 : Int32) (x4 : Int32) (x5 : Int32) (x6 : Int32) (x7 : Int32) (r1 : Nat) (t0 : Int32) (t1 : Int32) (t2 : Int32) (z : ow_MS) : Option ow_MS :=
 rdI mX z (r1 + 4) x5 fun v8 => rdI mX z 4 v8 fun v9 => (if v9 = 0 then wrI mX z 4 v8 (x3 + 1) fun z10 => wrI mX z10 5 (x3 + 1) x5 fun z11 => go 4 x2 (x3 + 1) x4 x5 v8 0 r1 0 0 0 z11
 else go 4 x2 x3 x4 x5 v8 0 r1 0 0 0 z)
def qm_X13_rowFrom_4 (K : Nat) (go : Nat → Int32 → Int32 → Int32 → Int32 → Int32 → Int32 → Nat → Int32 → Int32 → Int32 → ow_MS → Option ow_MS) (x2 : Int32) (x3 : Int32) (x4 : Int32) (x5 : Int32) (x6 : Int32) (x7 : Int32) (r1 : Nat) (t0 : Int32) (t1 : Int32) (t2 : Int32) (z : ow_MS) : Option ow_MS :=
 rdF z 3 fun v12 => wrF z 3 (v12 + 1) fun z13 => rdF z13 3 fun v14 => rdI mX z13 4 x6 fun v15 => rdI mX z13 (r1 + 5) x5 fun v16 => rdI mX z13 (r1 + 6) x6 fun v17 => (if 0 ≤ v17 then go 5 x2 x3 x4 x5 x6 0 r1 0 ((4 * v15) + (2 * v16)) v14 z13
 else go 5 x2 x3 x4 x5 x6 0 r1 1 ((4 * v15) + (2 * v16)) v14 z13)
def qm_X13_rowFrom_5 (K : Nat) (go : Nat → Int32 → Int32 → Int32 → Int32 → Int32 → Int32 → Nat → Int32 → Int32 → Int32 → ow_MS → Option ow_MS) (x2 : Int32) (x3 : Int32) (x4 : Int32) (x5 : Int32) (x6 : Int32) (x7 : Int32) (r1 : Nat) (t0 : Int32) (t1 : Int32) (t2 : Int32) (z : ow_MS) : Option ow_MS :=
 wrI mX z 2 t2 (t1 + t0) fun z18 => rdI mX z18 (r1 + 9) x5 fun v19 => (if v19 = x4 then rdF z18 3 fun v20 => wrF z18 3 (v20 + 1) fun z21 => rdF z21 3 fun v22 => wrI mX z21 2 v22 0 fun z23 => go 6 x2 x3 (-1) v19 1 0 r1 0 0 0 z23
 else go 3 x2 x3 x4 v19 0 0 r1 0 0 0 z18)
def qm_X13_rowFrom_6 (K : Nat) (go : Nat → Int32 → Int32 → Int32 → Int32 → Int32 → Int32 → Nat → Int32 → Int32 → Int32 → ow_MS → Option ow_MS) (x2 : Int32) (x3 : Int32) (x4 : Int32) (x5 : Int32) (x6 : Int32) (x7 : Int32) (r1 : Nat) (t0 : Int32) (t1 : Int32) (t2 : Int32) (z : ow_MS) : Option ow_MS :=
 (if x3 < x6 then go 8 x2 x3 x4 x5 x6 0 r1 0 0 0 z
 else (if x4 = (-1) then rdI mX z 5 x6 fun v24 => rdI mX z (r1 + 7) v24 fun v25 => rdI mX z (r1 + 8) v25 fun v26 => rdI mX z 6 v26 fun v27 => (if v27 = 0 then go 7 x2 x3 v25 x5 x6 v25 r1 0 0 0 z
 else go 7 x2 x3 x4 x5 x6 v25 r1 0 0 0 z)
 else go 8 x2 x3 x4 x5 x6 0 r1 0 0 0 z))
def qm_X13_rowFrom_7 (K : Nat) (go : Nat → Int32 → Int32 → Int32 → Int32 → Int32 → Int32 → Nat → Int32 → Int32 → Int32 → ow_MS → Option ow_MS) (x2 : Int32) (x3 : Int32) (x4 : Int32) (x5 : Int32) (x6 : Int32) (x7 : Int32) (r1 : Nat) (t0 : Int32) (t1 : Int32) (t2 : Int32) (z : ow_MS) : Option ow_MS :=
 go 6 x2 x3 x4 x5 (x6 + 1) 0 r1 0 0 0 z
def qm_X13_rowFrom_8 (K : Nat) (go : Nat → Int32 → Int32 → Int32 → Int32 → Int32 → Int32 → Nat → Int32 → Int32 → Int32 → ow_MS → Option ow_MS) (x2 : Int32) (x3 : Int32) (x4 : Int32) (x5 : Int32) (x6 : Int32) (x7 : Int32) (r1 : Nat) (t0 : Int32) (t1 : Int32) (t2 : Int32) (z : ow_MS) : Option ow_MS :=
 go 2 x2 x3 x4 0 0 0 r1 0 0 0 z
def qb_X13_rowFrom (K : Nat) (go : Nat → Int32 → Int32 → Int32 → Int32 → Int32 → Int32 → Nat → Int32 → Int32 → Int32 → ow_MS → Option ow_MS) (L : Nat) (x2 : Int32) (x3 : Int32) (x4 : Int32) (x5 : Int32) (x6 : Int32) (x7 : Int32) (r1 : Nat) (t0 : Int32) (t1 : Int32) (t2 : Int32) (z : ow_MS) : Option ow_MS := match L with
  | 0 => qm_X13_rowFrom_0 K go x2 x3 x4 x5 x6 x7 r1 t0 t1 t2 z
  | 1 => qm_X13_rowFrom_1 K go x2 x3 x4 x5 x6 x7 r1 t0 t1 t2 z
  | 2 => qm_X13_rowFrom_2 K go x2 x3 x4 x5 x6 x7 r1 t0 t1 t2 z
  | 3 => qm_X13_rowFrom_3 K go x2 x3 x4 x5 x6 x7 r1 t0 t1 t2 z
  | 4 => qm_X13_rowFrom_4 K go x2 x3 x4 x5 x6 x7 r1 t0 t1 t2 z
  | 5 => qm_X13_rowFrom_5 K go x2 x3 x4 x5 x6 x7 r1 t0 t1 t2 z
  | 6 => qm_X13_rowFrom_6 K go x2 x3 x4 x5 x6 x7 r1 t0 t1 t2 z
  | 7 => qm_X13_rowFrom_7 K go x2 x3 x4 x5 x6 x7 r1 t0 t1 t2 z
  | 8 => qm_X13_rowFrom_8 K go x2 x3 x4 x5 x6 x7 r1 t0 t1 t2 z
  | _ => none
def q_X13_rowFrom (K : Nat) : Nat → Nat → Int32 → Int32 → Int32 → Int32 → Int32 → Int32 → Nat → Int32 → Int32 → Int32 → ow_MS → Option ow_MS
  | 0 => fun _ _ _ _ _ _ _ _ _ _ _ _ => none
  | k + 1 => qb_X13_rowFrom K (q_X13_rowFrom K k)
def qe_X13_rowFrom (K : Nat) (r1 : Nat) (x2 : Int32) (z : ow_MS) : Option ow_MS := q_X13_rowFrom K K 0 x2 0 0 0 0 0 r1 0 0 0 z
abbrev wm_X13_rowFrom : List Cond := .code yX13_rowFrom cX13_rowFrom 8 none :: wM
theorem cd_X13_rowFrom : yX13_rowFrom.cls = RX13 ∧ yX13_rowFrom.cls ≠ "java/lang/invoke/MethodHandle" ∧ yX13_rowFrom.cls ≠ "java/lang/invoke/VarHandle" ∧ (parseMethodDescriptor yX13_rowFrom.desc).map (fun d => d.parameters.length) = some 2 := by decide +kernel
set_option maxHeartbeats 4000000 in
set_option maxRecDepth 100000 in
theorem km_X13_rowFrom (l : Launch) (D : va_G) (q : ow_Q5) (u : Nat → Nat) (hU : tw_inj mX u) (K : Nat) (r1 : Nat) (x2 : Int32) (hr1 : mw_net r1) (z z1 : ow_MS) (hq : qe_X13_rowFrom K r1 x2 z = some z1) : Met l yX13_rowFrom wm_X13_rowFrom ({ frames := 0, cells := 0, slots := 0, locals := 0 } : Room) (va_Pc [.ref (u 0), .ref (u r1), .int x2] (mw_pre D q u z)) (va_Qv (fun (_ : Unit) => True) (fun _ t => va_P D vwCl (tw mX q u z1) t.heap) (tw_A mX u)) 0 0 (tw_A mX u) := by
  refine Met.ofW (cc := cX13_rowFrom) (maxL := 8) (ret := none) (by decide) rfl ?_
  intro p e s m args below meth c s₁ B hml hv
  obtain ⟨rfl, hP, hK, hN⟩ := hv
  have hx := B.exec
  have hb := B.bytes
  have hr := B.returns
  have hts := atoms_spec (ws := wm_X13_rowFrom) B.pre
  have hT : ∀ w ∈ wM, w.before ([.ref (u 0), .ref (u r1), .int x2] : List Value).toArray s = true := fun w h => hts w (List.mem_cons_of_mem _ h)
  have hown : s.vm.findClass RX13 = some m.cls := findClass_of_methodNamed B.named
  have hlocks := B.notSynchronized
  have hM : tw_M D vwCl mX q s.heap u z s.heap [] := ⟨hP, va_S.rf⟩
  have hl := lv_entry ([.ref (u 0), .ref (u r1), .int x2]) (n := 8) (Nat.le_of_ble_eq_true rfl)
  rw [lg_entry_eq]
  generalize (lg_sl ([.ref (u 0), .ref (u r1), .int x2]) ++ List.replicate (8 - (lg_sl ([.ref (u 0), .ref (u r1), .int x2])).length) Slot.unset).toArray = ls at hl ⊢
  have hl : lv_has ls 8 [(0, .ref (u 0)), (1, .ref (u r1)), (2, .int x2)] := hl
  refine ow_named (fun QQ hQQ => ?_)
  generalize ([.ref (u 0), .ref (u r1), .int x2] : List Value).toArray = args at hts hT hQQ ⊢
  have key : ∀ k : Nat, (∀ (x2 : Int32) (x3 : Int32) (x4 : Int32) (x5 : Int32) (x6 : Int32) (x7 : Int32) (r1 : Nat) (t0 : Int32) (t1 : Int32) (t2 : Int32) (z : ow_MS) (H : Heap) (locs : List Loc) (ls : Array Slot), mw_net r1 → tw_M D vwCl mX q s.heap u z H locs → lv_has ls 8 [(0, .ref (u 0)), (1, .ref (u r1)), (2, .int x2)] → q_X13_rowFrom K k 0 x2 x3 x4 x5 x6 x7 r1 t0 t1 t2 z = some z1 → W p l e ({ frames := 0, cells := 0, slots := 0, locals := 0 } : Room) s m args below meth c H locs 0 0 QQ (F0 m 0 ls [])) ∧ (∀ (x2 : Int32) (x3 : Int32) (x4 : Int32) (x5 : Int32) (x6 : Int32) (x7 : Int32) (r1 : Nat) (t0 : Int32) (t1 : Int32) (t2 : Int32) (z : ow_MS) (H : Heap) (locs : List Loc) (ls : Array Slot), mw_net r1 → tw_M D vwCl mX q s.heap u z H locs → lv_has ls 8 [(0, .ref (u 0)), (1, .ref (u r1)), (2, .int x2), (3, .int x3)] → q_X13_rowFrom K k 1 x2 x3 x4 x5 x6 x7 r1 t0 t1 t2 z = some z1 → W p l e ({ frames := 0, cells := 0, slots := 0, locals := 0 } : Room) s m args below meth c H locs 0 0 QQ (F0 m 2 ls [])) ∧ (∀ (x2 : Int32) (x3 : Int32) (x4 : Int32) (x5 : Int32) (x6 : Int32) (x7 : Int32) (r1 : Nat) (t0 : Int32) (t1 : Int32) (t2 : Int32) (z : ow_MS) (H : Heap) (locs : List Loc) (ls : Array Slot), mw_net r1 → tw_M D vwCl mX q s.heap u z H locs → lv_has ls 8 [(0, .ref (u 0)), (1, .ref (u r1)), (2, .int x2), (3, .int x3), (4, .int x4)] → q_X13_rowFrom K k 2 x2 x3 x4 x5 x6 x7 r1 t0 t1 t2 z = some z1 → W p l e ({ frames := 0, cells := 0, slots := 0, locals := 0 } : Room) s m args below meth c H locs 0 0 QQ (F0 m 38 ls [])) ∧ (∀ (x2 : Int32) (x3 : Int32) (x4 : Int32) (x5 : Int32) (x6 : Int32) (x7 : Int32) (r1 : Nat) (t0 : Int32) (t1 : Int32) (t2 : Int32) (z : ow_MS) (H : Heap) (locs : List Loc) (ls : Array Slot), mw_net r1 → tw_M D vwCl mX q s.heap u z H locs → lv_has ls 8 [(0, .ref (u 0)), (1, .ref (u r1)), (2, .int x2), (3, .int x3), (4, .int x4), (5, .int x5)] → q_X13_rowFrom K k 3 x2 x3 x4 x5 x6 x7 r1 t0 t1 t2 z = some z1 → W p l e ({ frames := 0, cells := 0, slots := 0, locals := 0 } : Room) s m args below meth c H locs 0 0 QQ (F0 m 61 ls [])) ∧ (∀ (x2 : Int32) (x3 : Int32) (x4 : Int32) (x5 : Int32) (x6 : Int32) (x7 : Int32) (r1 : Nat) (t0 : Int32) (t1 : Int32) (t2 : Int32) (z : ow_MS) (H : Heap) (locs : List Loc) (ls : Array Slot), mw_net r1 → tw_M D vwCl mX q s.heap u z H locs → lv_has ls 8 [(0, .ref (u 0)), (1, .ref (u r1)), (2, .int x2), (3, .int x3), (4, .int x4), (5, .int x5), (6, .int x6)] → q_X13_rowFrom K k 4 x2 x3 x4 x5 x6 x7 r1 t0 t1 t2 z = some z1 → W p l e ({ frames := 0, cells := 0, slots := 0, locals := 0 } : Room) s m args below meth c H locs 0 0 QQ (F0 m 99 ls [])) ∧ (∀ (x2 : Int32) (x3 : Int32) (x4 : Int32) (x5 : Int32) (x6 : Int32) (x7 : Int32) (r1 : Nat) (t0 : Int32) (t1 : Int32) (t2 : Int32) (z : ow_MS) (H : Heap) (locs : List Loc) (ls : Array Slot), mw_net r1 → tw_M D vwCl mX q s.heap u z H locs → lv_has ls 8 [(0, .ref (u 0)), (1, .ref (u r1)), (2, .int x2), (3, .int x3), (4, .int x4), (5, .int x5), (6, .int x6)] → q_X13_rowFrom K k 5 x2 x3 x4 x5 x6 x7 r1 t0 t1 t2 z = some z1 → W p l e ({ frames := 0, cells := 0, slots := 0, locals := 0 } : Room) s m args below meth c H locs 0 0 QQ (F0 m 151 ls [.int t0, .int t1, .int t2, .ref (u 2)])) ∧ (∀ (x2 : Int32) (x3 : Int32) (x4 : Int32) (x5 : Int32) (x6 : Int32) (x7 : Int32) (r1 : Nat) (t0 : Int32) (t1 : Int32) (t2 : Int32) (z : ow_MS) (H : Heap) (locs : List Loc) (ls : Array Slot), mw_net r1 → tw_M D vwCl mX q s.heap u z H locs → lv_has ls 8 [(0, .ref (u 0)), (1, .ref (u r1)), (2, .int x2), (3, .int x3), (4, .int x4), (5, .int x5), (6, .int x6)] → q_X13_rowFrom K k 6 x2 x3 x4 x5 x6 x7 r1 t0 t1 t2 z = some z1 → W p l e ({ frames := 0, cells := 0, slots := 0, locals := 0 } : Room) s m args below meth c H locs 0 0 QQ (F0 m 195 ls [])) ∧ (∀ (x2 : Int32) (x3 : Int32) (x4 : Int32) (x5 : Int32) (x6 : Int32) (x7 : Int32) (r1 : Nat) (t0 : Int32) (t1 : Int32) (t2 : Int32) (z : ow_MS) (H : Heap) (locs : List Loc) (ls : Array Slot), mw_net r1 → tw_M D vwCl mX q s.heap u z H locs → lv_has ls 8 [(0, .ref (u 0)), (1, .ref (u r1)), (2, .int x2), (3, .int x3), (4, .int x4), (5, .int x5), (6, .int x6), (7, .int x7)] → q_X13_rowFrom K k 7 x2 x3 x4 x5 x6 x7 r1 t0 t1 t2 z = some z1 → W p l e ({ frames := 0, cells := 0, slots := 0, locals := 0 } : Room) s m args below meth c H locs 0 0 QQ (F0 m 240 ls [])) ∧ (∀ (x2 : Int32) (x3 : Int32) (x4 : Int32) (x5 : Int32) (x6 : Int32) (x7 : Int32) (r1 : Nat) (t0 : Int32) (t1 : Int32) (t2 : Int32) (z : ow_MS) (H : Heap) (locs : List Loc) (ls : Array Slot), mw_net r1 → tw_M D vwCl mX q s.heap u z H locs → lv_has ls 8 [(0, .ref (u 0)), (1, .ref (u r1)), (2, .int x2), (3, .int x3), (4, .int x4), (5, .int x5), (6, .int x6)] → q_X13_rowFrom K k 8 x2 x3 x4 x5 x6 x7 r1 t0 t1 t2 z = some z1 → W p l e ({ frames := 0, cells := 0, slots := 0, locals := 0 } : Room) s m args below meth c H locs 0 0 QQ (F0 m 246 ls [])) := by
    intro k
    induction k with
    | zero => exact ⟨fun _ _ _ _ _ _ _ _ _ _ _ _ _ _ _ _ _ hq => tw_no hq, fun _ _ _ _ _ _ _ _ _ _ _ _ _ _ _ _ _ hq => tw_no hq, fun _ _ _ _ _ _ _ _ _ _ _ _ _ _ _ _ _ hq => tw_no hq, fun _ _ _ _ _ _ _ _ _ _ _ _ _ _ _ _ _ hq => tw_no hq, fun _ _ _ _ _ _ _ _ _ _ _ _ _ _ _ _ _ hq => tw_no hq, fun _ _ _ _ _ _ _ _ _ _ _ _ _ _ _ _ _ hq => tw_no hq, fun _ _ _ _ _ _ _ _ _ _ _ _ _ _ _ _ _ hq => tw_no hq, fun _ _ _ _ _ _ _ _ _ _ _ _ _ _ _ _ _ hq => tw_no hq, fun _ _ _ _ _ _ _ _ _ _ _ _ _ _ _ _ _ hq => tw_no hq⟩
    | succ k ih =>
      obtain ⟨ih_0, ih_1, ih_2, ih_3, ih_4, ih_5, ih_6, ih_7, ih_8⟩ := ih
      refine ⟨?_, ?_, ?_, ?_, ?_, ?_, ?_, ?_, ?_⟩
      · intro x2 x3 x4 x5 x6 x7 r1 t0 t1 t2 z H locs ls hr1 hM hl hq
        have hq : qm_X13_rowFrom_0 K (q_X13_rowFrom K k) x2 x3 x4 x5 x6 x7 r1 t0 t1 t2 z = some z1 := hq
        unfold qm_X13_rowFrom_0 at hq
        refine lv_iconst (v := 0) hx hb dmX13_rowFrom_0 (by decide) ?_
        refine lv_istore_n (lv' := [(3, .int 0), (0, .ref (u 0)), (1, .ref (u r1)), (2, .int x2)]) hx hb dmX13_rowFrom_1 rfl hl (by decide) rfl (fun ls hl => ?_)
        exact ih_1 x2 0 0 0 0 0 r1 0 0 0 z H locs ls hr1 hM (lv_sub hl [1, 2, 3, 0] rfl) hq
      · intro x2 x3 x4 x5 x6 x7 r1 t0 t1 t2 z H locs ls hr1 hM hl hq
        have hq : qm_X13_rowFrom_1 K (q_X13_rowFrom K k) x2 x3 x4 x5 x6 x7 r1 t0 t1 t2 z = some z1 := hq
        unfold qm_X13_rowFrom_1 at hq
        refine lv_iload_n hx hb dmX13_rowFrom_2 rfl (lv_at hl 3 rfl) ?_
        refine lv_bipush (v := 40) hx hb dmX13_rowFrom_3 (by decide) ?_
        refine lv_icmp_ge (tgt := 28) hx hb dmX13_rowFrom_5 (by decide) (fun hc => ?_) (fun hc => ?_)
        · have hq := tw_it hq hc
          refine lv_aload_n hx hb dmX13_rowFrom_28 rfl (lv_at hl 0 rfl) ?_
          refine lv_iconst (v := 0) hx hb dmX13_rowFrom_29 (by decide) ?_
          refine mp13_15 hx hb hT hown hK hM hU hq dmX13_rowFrom_30 (fun z1 H locs hM hq => ?_)
          refine lv_iconst (v := 0) hx hb dmX13_rowFrom_33 (by decide) ?_
          refine lv_istore_n (lv' := [(3, .int 0), (0, .ref (u 0)), (1, .ref (u r1)), (2, .int x2)]) hx hb dmX13_rowFrom_34 rfl hl (by decide) rfl (fun ls hl => ?_)
          refine lv_iload_n hx hb dmX13_rowFrom_35 rfl (lv_at hl 3 rfl) ?_
          refine lv_istore (lv' := [(4, .int x2), (3, .int 0), (0, .ref (u 0)), (1, .ref (u r1)), (2, .int x2)]) hx hb dmX13_rowFrom_36 hl (by decide) rfl (fun ls hl => ?_)
          exact ih_2 x2 0 x2 0 0 0 r1 0 0 0 z1 H locs ls hr1 hM (lv_sub hl [2, 3, 4, 1, 0] rfl) hq
        · have hq := tw_if hq hc
          refine lv_aload_n hx hb dmX13_rowFrom_8 rfl (lv_at hl 0 rfl) ?_
          refine mg13_7 hx hb hT hown hK hM dmX13_rowFrom_9 ?_
          refine lv_iload_n hx hb dmX13_rowFrom_12 rfl (lv_at hl 3 rfl) ?_
          refine lv_iconst (v := 0) hx hb dmX13_rowFrom_13 (by decide) ?_
          refine tw_iast mX_ok hU hx hb hK hM mr_4 hq dmX13_rowFrom_14 (fun z2 H locs hM hq => ?_)
          refine lv_aload_n hx hb dmX13_rowFrom_15 rfl (lv_at hl 0 rfl) ?_
          refine mg13_11 hx hb hT hown hK hM dmX13_rowFrom_16 ?_
          refine lv_iload_n hx hb dmX13_rowFrom_19 rfl (lv_at hl 3 rfl) ?_
          refine lv_iconst (v := 0) hx hb dmX13_rowFrom_20 (by decide) ?_
          refine tw_zast mX_ok hU hx hb hK hM mr_6 hq dmX13_rowFrom_21 (fun z3 H locs hM hq => ?_)
          refine lv_iinc (v := (x3 + 1)) (lv' := [(3, .int (x3 + 1)), (0, .ref (u 0)), (1, .ref (u r1)), (2, .int x2)]) hx hb dmX13_rowFrom_22 hl (k := 3) rfl rfl (by decide) rfl (fun ls hl => ?_)
          refine lv_goto (tgt := 2) hx hb dmX13_rowFrom_25 (by decide) ?_
          exact ih_1 x2 (x3 + 1) 0 0 0 0 r1 0 0 0 z3 H locs ls hr1 hM (lv_sub hl [1, 2, 3, 0] rfl) hq
      · intro x2 x3 x4 x5 x6 x7 r1 t0 t1 t2 z H locs ls hr1 hM hl hq
        have hq : qm_X13_rowFrom_2 K (q_X13_rowFrom K k) x2 x3 x4 x5 x6 x7 r1 t0 t1 t2 z = some z1 := hq
        unfold qm_X13_rowFrom_2 at hq
        refine lv_iload hx hb dmX13_rowFrom_38 (lv_at hl 4 rfl) ?_
        refine lv_iconst (v := (-1)) hx hb dmX13_rowFrom_40 (by decide) ?_
        refine lv_icmp_eq (tgt := 249) hx hb dmX13_rowFrom_41 (by decide) (fun hc => ?_) (fun hc => ?_)
        · have hq := tw_it hq hc
          refine lv_aload_n hx hb dmX13_rowFrom_249 rfl (lv_at hl 0 rfl) ?_
          refine mg13_29 hx hb hT hown hK hM dmX13_rowFrom_250 ?_
          refine lv_iconst (v := 0) hx hb dmX13_rowFrom_253 (by decide) ?_
          refine lv_aload_n hx hb dmX13_rowFrom_254 rfl (lv_at hl 0 rfl) ?_
          refine mg13_15 hx hb hT hown hK hM hq dmX13_rowFrom_255 (fun v4 hq => ?_)
          refine tw_iast mX_ok hU hx hb hK hM mr_2 hq dmX13_rowFrom_258 (fun z5 H locs hM hq => ?_)
          exact mw_vret hx hb hr hlocks hM hq hQQ dmX13_rowFrom_259
        · have hq := tw_if hq hc
          refine lv_aload_n hx hb dmX13_rowFrom_44 rfl (lv_at hl 0 rfl) ?_
          refine mg13_11 hx hb hT hown hK hM dmX13_rowFrom_45 ?_
          refine lv_aload_n hx hb dmX13_rowFrom_48 rfl (lv_at hl 1 rfl) ?_
          refine mg13_18 hx hb hT hown hK hM hN hr1 dmX13_rowFrom_49 ?_
          refine lv_iload hx hb dmX13_rowFrom_52 (lv_at hl 4 rfl) ?_
          refine tw_iald mX_ok hx hb hK hM (mrn_8 hr1) hq dmX13_rowFrom_54 (fun v6 hq => ?_)
          refine lv_iconst (v := 1) hx hb dmX13_rowFrom_55 (by decide) ?_
          refine tw_zast mX_ok hU hx hb hK hM mr_6 hq dmX13_rowFrom_56 (fun z7 H locs hM hq => ?_)
          refine lv_iload hx hb dmX13_rowFrom_57 (lv_at hl 4 rfl) ?_
          refine lv_istore (lv' := [(5, .int x4), (0, .ref (u 0)), (1, .ref (u r1)), (2, .int x2), (3, .int x3), (4, .int x4)]) hx hb dmX13_rowFrom_59 hl (by decide) rfl (fun ls hl => ?_)
          exact ih_3 x2 x3 x4 x4 0 0 r1 0 0 0 z7 H locs ls hr1 hM (lv_sub hl [1, 2, 3, 4, 5, 0] rfl) hq
      · intro x2 x3 x4 x5 x6 x7 r1 t0 t1 t2 z H locs ls hr1 hM hl hq
        have hq : qm_X13_rowFrom_3 K (q_X13_rowFrom K k) x2 x3 x4 x5 x6 x7 r1 t0 t1 t2 z = some z1 := hq
        unfold qm_X13_rowFrom_3 at hq
        refine lv_aload_n hx hb dmX13_rowFrom_61 rfl (lv_at hl 1 rfl) ?_
        refine mg13_23 hx hb hT hown hK hM hN hr1 dmX13_rowFrom_62 ?_
        refine lv_iload hx hb dmX13_rowFrom_65 (lv_at hl 5 rfl) ?_
        refine tw_iald mX_ok hx hb hK hM (mrn_4 hr1) hq dmX13_rowFrom_67 (fun v8 hq => ?_)
        refine lv_istore (lv' := [(6, .int v8), (0, .ref (u 0)), (1, .ref (u r1)), (2, .int x2), (3, .int x3), (4, .int x4), (5, .int x5)]) hx hb dmX13_rowFrom_68 hl (by decide) rfl (fun ls hl => ?_)
        refine lv_aload_n hx hb dmX13_rowFrom_70 rfl (lv_at hl 1 rfl) ?_
        refine mg13_7 hx hb hT hown hK hM dmX13_rowFrom_71 ?_
        refine lv_iload hx hb dmX13_rowFrom_74 (lv_at hl 0 rfl) ?_
        refine tw_iald mX_ok hx hb hK hM mr_4 hq dmX13_rowFrom_76 (fun v9 hq => ?_)
        refine lv_if_ne (tgt := 99) hx hb dmX13_rowFrom_77 (by decide) (fun hc => ?_) (fun hc => ?_)
        · have hq := tw_if hq hc
          exact ih_4 x2 x3 x4 x5 v8 0 r1 0 0 0 z H locs ls hr1 hM (lv_sub hl [1, 2, 3, 4, 5, 6, 0] rfl) hq
        · have hq := tw_it hq hc
          refine lv_iinc (v := (x3 + 1)) (lv' := [(3, .int (x3 + 1)), (6, .int v8), (0, .ref (u 0)), (1, .ref (u r1)), (2, .int x2), (4, .int x4), (5, .int x5)]) hx hb dmX13_rowFrom_80 hl (k := 4) rfl rfl (by decide) rfl (fun ls hl => ?_)
          refine lv_aload_n hx hb dmX13_rowFrom_83 rfl (lv_at hl 2 rfl) ?_
          refine mg13_7 hx hb hT hown hK hM dmX13_rowFrom_84 ?_
          refine lv_iload hx hb dmX13_rowFrom_87 (lv_at hl 1 rfl) ?_
          refine lv_iload_n hx hb dmX13_rowFrom_89 rfl (lv_at hl 0 rfl) ?_
          refine tw_iast mX_ok hU hx hb hK hM mr_4 hq dmX13_rowFrom_90 (fun z10 H locs hM hq => ?_)
          refine lv_aload_n hx hb dmX13_rowFrom_91 rfl (lv_at hl 2 rfl) ?_
          refine mg13_26 hx hb hT hown hK hM dmX13_rowFrom_92 ?_
          refine lv_iload_n hx hb dmX13_rowFrom_95 rfl (lv_at hl 0 rfl) ?_
          refine lv_iload hx hb dmX13_rowFrom_96 (lv_at hl 6 rfl) ?_
          refine tw_iast mX_ok hU hx hb hK hM mr_5 hq dmX13_rowFrom_98 (fun z11 H locs hM hq => ?_)
          exact ih_4 x2 (x3 + 1) x4 x5 v8 0 r1 0 0 0 z11 H locs ls hr1 hM (lv_sub hl [2, 3, 4, 0, 5, 6, 1] rfl) hq
      · intro x2 x3 x4 x5 x6 x7 r1 t0 t1 t2 z H locs ls hr1 hM hl hq
        have hq : qm_X13_rowFrom_4 K (q_X13_rowFrom K k) x2 x3 x4 x5 x6 x7 r1 t0 t1 t2 z = some z1 := hq
        unfold qm_X13_rowFrom_4 at hq
        refine lv_aload_n hx hb dmX13_rowFrom_99 rfl (lv_at hl 0 rfl) ?_
        refine lv_dup hx hb dmX13_rowFrom_100 rfl ?_
        refine mg13_15 hx hb hT hown hK hM hq dmX13_rowFrom_101 (fun v12 hq => ?_)
        refine lv_iconst (v := 1) hx hb dmX13_rowFrom_104 (by decide) ?_
        refine lv_iadd hx hb dmX13_rowFrom_105 ?_
        refine mp13_15 hx hb hT hown hK hM hU hq dmX13_rowFrom_106 (fun z13 H locs hM hq => ?_)
        refine lv_aload_n hx hb dmX13_rowFrom_109 rfl (lv_at hl 0 rfl) ?_
        refine mg13_29 hx hb hT hown hK hM dmX13_rowFrom_110 ?_
        refine lv_aload_n hx hb dmX13_rowFrom_113 rfl (lv_at hl 0 rfl) ?_
        refine mg13_15 hx hb hT hown hK hM hq dmX13_rowFrom_114 (fun v14 hq => ?_)
        refine lv_iconst (v := 4) hx hb dmX13_rowFrom_117 (by decide) ?_
        refine lv_aload_n hx hb dmX13_rowFrom_118 rfl (lv_at hl 0 rfl) ?_
        refine mg13_7 hx hb hT hown hK hM dmX13_rowFrom_119 ?_
        refine lv_iload hx hb dmX13_rowFrom_122 (lv_at hl 6 rfl) ?_
        refine tw_iald mX_ok hx hb hK hM mr_4 hq dmX13_rowFrom_124 (fun v15 hq => ?_)
        refine lv_imul hx hb dmX13_rowFrom_125 ?_
        refine lv_iconst (v := 2) hx hb dmX13_rowFrom_126 (by decide) ?_
        refine lv_aload_n hx hb dmX13_rowFrom_127 rfl (lv_at hl 1 rfl) ?_
        refine mg13_32 hx hb hT hown hK hM hN hr1 dmX13_rowFrom_128 ?_
        refine lv_iload hx hb dmX13_rowFrom_131 (lv_at hl 5 rfl) ?_
        refine tw_iald mX_ok hx hb hK hM (mrn_5 hr1) hq dmX13_rowFrom_133 (fun v16 hq => ?_)
        refine lv_imul hx hb dmX13_rowFrom_134 ?_
        refine lv_iadd hx hb dmX13_rowFrom_135 ?_
        refine lv_aload_n hx hb dmX13_rowFrom_136 rfl (lv_at hl 1 rfl) ?_
        refine mg13_35 hx hb hT hown hK hM hN hr1 dmX13_rowFrom_137 ?_
        refine lv_iload hx hb dmX13_rowFrom_140 (lv_at hl 6 rfl) ?_
        refine tw_iald mX_ok hx hb hK hM (mrn_6 hr1) hq dmX13_rowFrom_142 (fun v17 hq => ?_)
        refine lv_if_ge (tgt := 150) hx hb dmX13_rowFrom_143 (by decide) (fun hc => ?_) (fun hc => ?_)
        · have hq := tw_it hq hc
          refine lv_iconst (v := 0) hx hb dmX13_rowFrom_150 (by decide) ?_
          exact ih_5 x2 x3 x4 x5 x6 0 r1 0 ((4 * v15) + (2 * v16)) v14 z13 H locs ls hr1 hM (lv_sub hl [0, 1, 2, 3, 4, 5, 6] rfl) hq
        · have hq := tw_if hq hc
          refine lv_iconst (v := 1) hx hb dmX13_rowFrom_146 (by decide) ?_
          refine lv_goto (tgt := 151) hx hb dmX13_rowFrom_147 (by decide) ?_
          exact ih_5 x2 x3 x4 x5 x6 0 r1 1 ((4 * v15) + (2 * v16)) v14 z13 H locs ls hr1 hM (lv_sub hl [0, 1, 2, 3, 4, 5, 6] rfl) hq
      · intro x2 x3 x4 x5 x6 x7 r1 t0 t1 t2 z H locs ls hr1 hM hl hq
        have hq : qm_X13_rowFrom_5 K (q_X13_rowFrom K k) x2 x3 x4 x5 x6 x7 r1 t0 t1 t2 z = some z1 := hq
        unfold qm_X13_rowFrom_5 at hq
        refine lv_iadd hx hb dmX13_rowFrom_151 ?_
        refine tw_iast mX_ok hU hx hb hK hM mr_2 hq dmX13_rowFrom_152 (fun z18 H locs hM hq => ?_)
        refine lv_aload_n hx hb dmX13_rowFrom_153 rfl (lv_at hl 1 rfl) ?_
        refine mg13_38 hx hb hT hown hK hM hN hr1 dmX13_rowFrom_154 ?_
        refine lv_iload hx hb dmX13_rowFrom_157 (lv_at hl 5 rfl) ?_
        refine tw_iald mX_ok hx hb hK hM (mrn_9 hr1) hq dmX13_rowFrom_159 (fun v19 hq => ?_)
        refine lv_istore (lv' := [(5, .int v19), (0, .ref (u 0)), (1, .ref (u r1)), (2, .int x2), (3, .int x3), (4, .int x4), (6, .int x6)]) hx hb dmX13_rowFrom_160 hl (by decide) rfl (fun ls hl => ?_)
        refine lv_iload hx hb dmX13_rowFrom_162 (lv_at hl 0 rfl) ?_
        refine lv_iload hx hb dmX13_rowFrom_164 (lv_at hl 5 rfl) ?_
        refine lv_icmp_ne (tgt := 61) hx hb dmX13_rowFrom_166 (by decide) (fun hc => ?_) (fun hc => ?_)
        · have hq := tw_if hq hc
          exact ih_3 x2 x3 x4 v19 0 0 r1 0 0 0 z18 H locs ls hr1 hM (lv_sub hl [1, 2, 3, 4, 5, 0] rfl) hq
        · have hq := tw_it hq hc
          refine lv_aload_n hx hb dmX13_rowFrom_169 rfl (lv_at hl 1 rfl) ?_
          refine lv_dup hx hb dmX13_rowFrom_170 rfl ?_
          refine mg13_15 hx hb hT hown hK hM hq dmX13_rowFrom_171 (fun v20 hq => ?_)
          refine lv_iconst (v := 1) hx hb dmX13_rowFrom_174 (by decide) ?_
          refine lv_iadd hx hb dmX13_rowFrom_175 ?_
          refine mp13_15 hx hb hT hown hK hM hU hq dmX13_rowFrom_176 (fun z21 H locs hM hq => ?_)
          refine lv_aload_n hx hb dmX13_rowFrom_179 rfl (lv_at hl 1 rfl) ?_
          refine mg13_29 hx hb hT hown hK hM dmX13_rowFrom_180 ?_
          refine lv_aload_n hx hb dmX13_rowFrom_183 rfl (lv_at hl 1 rfl) ?_
          refine mg13_15 hx hb hT hown hK hM hq dmX13_rowFrom_184 (fun v22 hq => ?_)
          refine lv_iconst (v := 0) hx hb dmX13_rowFrom_187 (by decide) ?_
          refine tw_iast mX_ok hU hx hb hK hM mr_2 hq dmX13_rowFrom_188 (fun z23 H locs hM hq => ?_)
          refine lv_iconst (v := (-1)) hx hb dmX13_rowFrom_189 (by decide) ?_
          refine lv_istore (lv' := [(4, .int (-1)), (5, .int v19), (0, .ref (u 0)), (1, .ref (u r1)), (2, .int x2), (3, .int x3), (6, .int x6)]) hx hb dmX13_rowFrom_190 hl (by decide) rfl (fun ls hl => ?_)
          refine lv_iconst (v := 1) hx hb dmX13_rowFrom_192 (by decide) ?_
          refine lv_istore (lv' := [(6, .int 1), (4, .int (-1)), (5, .int v19), (0, .ref (u 0)), (1, .ref (u r1)), (2, .int x2), (3, .int x3)]) hx hb dmX13_rowFrom_193 hl (by decide) rfl (fun ls hl => ?_)
          exact ih_6 x2 x3 (-1) v19 1 0 r1 0 0 0 z23 H locs ls hr1 hM (lv_sub hl [3, 4, 5, 6, 1, 2, 0] rfl) hq
      · intro x2 x3 x4 x5 x6 x7 r1 t0 t1 t2 z H locs ls hr1 hM hl hq
        have hq : qm_X13_rowFrom_6 K (q_X13_rowFrom K k) x2 x3 x4 x5 x6 x7 r1 t0 t1 t2 z = some z1 := hq
        unfold qm_X13_rowFrom_6 at hq
        refine lv_iload hx hb dmX13_rowFrom_195 (lv_at hl 6 rfl) ?_
        refine lv_iload_n hx hb dmX13_rowFrom_197 rfl (lv_at hl 3 rfl) ?_
        refine lv_icmp_gt (tgt := 246) hx hb dmX13_rowFrom_198 (by decide) (fun hc => ?_) (fun hc => ?_)
        · have hq := tw_it hq hc
          exact ih_8 x2 x3 x4 x5 x6 0 r1 0 0 0 z H locs ls hr1 hM (lv_sub hl [0, 1, 2, 3, 4, 5, 6] rfl) hq
        · have hq := tw_if hq hc
          refine lv_iload hx hb dmX13_rowFrom_201 (lv_at hl 4 rfl) ?_
          refine lv_iconst (v := (-1)) hx hb dmX13_rowFrom_203 (by decide) ?_
          refine lv_icmp_ne (tgt := 246) hx hb dmX13_rowFrom_204 (by decide) (fun hc => ?_) (fun hc => ?_)
          · have hq := tw_if hq hc
            exact ih_8 x2 x3 x4 x5 x6 0 r1 0 0 0 z H locs ls hr1 hM (lv_sub hl [0, 1, 2, 3, 4, 5, 6] rfl) hq
          · have hq := tw_it hq hc
            refine lv_aload_n hx hb dmX13_rowFrom_207 rfl (lv_at hl 1 rfl) ?_
            refine mg13_41 hx hb hT hown hK hM hN hr1 dmX13_rowFrom_208 ?_
            refine lv_aload_n hx hb dmX13_rowFrom_211 rfl (lv_at hl 0 rfl) ?_
            refine mg13_26 hx hb hT hown hK hM dmX13_rowFrom_212 ?_
            refine lv_iload hx hb dmX13_rowFrom_215 (lv_at hl 6 rfl) ?_
            refine tw_iald mX_ok hx hb hK hM mr_5 hq dmX13_rowFrom_217 (fun v24 hq => ?_)
            refine tw_iald mX_ok hx hb hK hM (mrn_7 hr1) hq dmX13_rowFrom_218 (fun v25 hq => ?_)
            refine lv_istore (lv' := [(7, .int v25), (0, .ref (u 0)), (1, .ref (u r1)), (2, .int x2), (3, .int x3), (4, .int x4), (5, .int x5), (6, .int x6)]) hx hb dmX13_rowFrom_219 hl (by decide) rfl (fun ls hl => ?_)
            refine lv_aload_n hx hb dmX13_rowFrom_221 rfl (lv_at hl 1 rfl) ?_
            refine mg13_11 hx hb hT hown hK hM dmX13_rowFrom_222 ?_
            refine lv_aload_n hx hb dmX13_rowFrom_225 rfl (lv_at hl 2 rfl) ?_
            refine mg13_18 hx hb hT hown hK hM hN hr1 dmX13_rowFrom_226 ?_
            refine lv_iload hx hb dmX13_rowFrom_229 (lv_at hl 0 rfl) ?_
            refine tw_iald mX_ok hx hb hK hM (mrn_8 hr1) hq dmX13_rowFrom_231 (fun v26 hq => ?_)
            refine tw_zald mX_ok hx hb hK hM mr_6 hq dmX13_rowFrom_232 (fun v27 hq => ?_)
            refine lv_if_ne (tgt := 240) hx hb dmX13_rowFrom_233 (by decide) (fun hc => ?_) (fun hc => ?_)
            · have hq := tw_if hq hc
              exact ih_7 x2 x3 x4 x5 x6 v25 r1 0 0 0 z H locs ls hr1 hM (lv_sub hl [1, 2, 3, 4, 5, 6, 7, 0] rfl) hq
            · have hq := tw_it hq hc
              refine lv_iload hx hb dmX13_rowFrom_236 (lv_at hl 0 rfl) ?_
              refine lv_istore (lv' := [(4, .int v25), (7, .int v25), (0, .ref (u 0)), (1, .ref (u r1)), (2, .int x2), (3, .int x3), (5, .int x5), (6, .int x6)]) hx hb dmX13_rowFrom_238 hl (by decide) rfl (fun ls hl => ?_)
              exact ih_7 x2 x3 v25 x5 x6 v25 r1 0 0 0 z H locs ls hr1 hM (lv_sub hl [2, 3, 4, 5, 0, 6, 7, 1] rfl) hq
      · intro x2 x3 x4 x5 x6 x7 r1 t0 t1 t2 z H locs ls hr1 hM hl hq
        have hq : qm_X13_rowFrom_7 K (q_X13_rowFrom K k) x2 x3 x4 x5 x6 x7 r1 t0 t1 t2 z = some z1 := hq
        unfold qm_X13_rowFrom_7 at hq
        refine lv_iinc (v := (x6 + 1)) (lv' := [(6, .int (x6 + 1)), (0, .ref (u 0)), (1, .ref (u r1)), (2, .int x2), (3, .int x3), (4, .int x4), (5, .int x5), (7, .int x7)]) hx hb dmX13_rowFrom_240 hl (k := 6) rfl rfl (by decide) rfl (fun ls hl => ?_)
        refine lv_goto (tgt := 195) hx hb dmX13_rowFrom_243 (by decide) ?_
        exact ih_6 x2 x3 x4 x5 (x6 + 1) 0 r1 0 0 0 z H locs ls hr1 hM (lv_sub hl [1, 2, 3, 4, 5, 6, 0] rfl) hq
      · intro x2 x3 x4 x5 x6 x7 r1 t0 t1 t2 z H locs ls hr1 hM hl hq
        have hq : qm_X13_rowFrom_8 K (q_X13_rowFrom K k) x2 x3 x4 x5 x6 x7 r1 t0 t1 t2 z = some z1 := hq
        unfold qm_X13_rowFrom_8 at hq
        refine lv_goto (tgt := 38) hx hb dmX13_rowFrom_246 (by decide) ?_
        exact ih_2 x2 x3 x4 0 0 0 r1 0 0 0 z H locs ls hr1 hM (lv_sub hl [0, 1, 2, 3, 4] rfl) hq
  exact (key K).1 x2 0 0 0 0 0 r1 0 0 0 z s.heap [] ls hr1 hM (lv_sub hl [0, 1, 2] rfl) hq
theorem dmX13_isBelow_0 : decode cX13_isBelow 0 = .ok (.aload_n 0, 1) := dw_at cX13_isBelow_k0 (p := 0) rfl (by decide +kernel)
theorem dmX13_isBelow_1 : decode cX13_isBelow 1 = .ok (.iload_n 1, 1) := dw_at cX13_isBelow_k0 (p := 1) rfl (by decide +kernel)
theorem dmX13_isBelow_2 : decode cX13_isBelow 2 = .ok (.iaload, 1) := dw_at cX13_isBelow_k0 (p := 2) rfl (by decide +kernel)
theorem dmX13_isBelow_3 : decode cX13_isBelow 3 = .ok (.aload_n 2, 1) := dw_at cX13_isBelow_k0 (p := 3) rfl (by decide +kernel)
theorem dmX13_isBelow_4 : decode cX13_isBelow 4 = .ok (.iload_n 3, 1) := dw_at cX13_isBelow_k0 (p := 4) rfl (by decide +kernel)
theorem dmX13_isBelow_5 : decode cX13_isBelow 5 = .ok (.iaload, 1) := dw_at cX13_isBelow_k0 (p := 5) rfl (by decide +kernel)
theorem dmX13_isBelow_6 : decode cX13_isBelow 6 = .ok (.invokestatic 61, 3) := dw_at cX13_isBelow_k0 (p := 6) rfl (by decide +kernel)
theorem dmX13_isBelow_9 : decode cX13_isBelow 9 = .ok (.istore 4, 2) := dw_at cX13_isBelow_k0 (p := 9) rfl (by decide +kernel)
theorem dmX13_isBelow_11 : decode cX13_isBelow 11 = .ok (.iconst 1, 1) := dw_at cX13_isBelow_k0 (p := 11) rfl (by decide +kernel)
theorem dmX13_isBelow_12 : decode cX13_isBelow 12 = .ok (.istore 5, 2) := dw_at cX13_isBelow_k0 (p := 12) rfl (by decide +kernel)
theorem dmX13_isBelow_14 : decode cX13_isBelow 14 = .ok (.iload 5, 2) := dw_at cX13_isBelow_k0 (p := 14) rfl (by decide +kernel)
theorem dmX13_isBelow_16 : decode cX13_isBelow 16 = .ok (.iload 4, 2) := dw_at cX13_isBelow_k0 (p := 16) rfl (by decide +kernel)
theorem dmX13_isBelow_18 : decode cX13_isBelow 18 = .ok (.if_icmp .gt 45, 3) := dw_at cX13_isBelow_k0 (p := 18) rfl (by decide +kernel)
theorem dmX13_isBelow_21 : decode cX13_isBelow 21 = .ok (.aload_n 0, 1) := dw_at cX13_isBelow_k0 (p := 21) rfl (by decide +kernel)
theorem dmX13_isBelow_22 : decode cX13_isBelow 22 = .ok (.iload_n 1, 1) := dw_at cX13_isBelow_k0 (p := 22) rfl (by decide +kernel)
theorem dmX13_isBelow_23 : decode cX13_isBelow 23 = .ok (.iload 5, 2) := dw_at cX13_isBelow_k0 (p := 23) rfl (by decide +kernel)
theorem dmX13_isBelow_25 : decode cX13_isBelow 25 = .ok (.iadd, 1) := dw_at cX13_isBelow_k1 (p := 0) rfl (by decide +kernel)
theorem dmX13_isBelow_26 : decode cX13_isBelow 26 = .ok (.iaload, 1) := dw_at cX13_isBelow_k1 (p := 1) rfl (by decide +kernel)
theorem dmX13_isBelow_27 : decode cX13_isBelow 27 = .ok (.aload_n 2, 1) := dw_at cX13_isBelow_k1 (p := 2) rfl (by decide +kernel)
theorem dmX13_isBelow_28 : decode cX13_isBelow 28 = .ok (.iload_n 3, 1) := dw_at cX13_isBelow_k1 (p := 3) rfl (by decide +kernel)
theorem dmX13_isBelow_29 : decode cX13_isBelow 29 = .ok (.iload 5, 2) := dw_at cX13_isBelow_k1 (p := 4) rfl (by decide +kernel)
theorem dmX13_isBelow_31 : decode cX13_isBelow 31 = .ok (.iadd, 1) := dw_at cX13_isBelow_k1 (p := 6) rfl (by decide +kernel)
theorem dmX13_isBelow_32 : decode cX13_isBelow 32 = .ok (.iaload, 1) := dw_at cX13_isBelow_k1 (p := 7) rfl (by decide +kernel)
theorem dmX13_isBelow_33 : decode cX13_isBelow 33 = .ok (.if_icmp .eq 24, 3) := dw_at cX13_isBelow_k1 (p := 8) rfl (by decide +kernel)
theorem dmX13_isBelow_36 : decode cX13_isBelow 36 = .ok (.aload_n 0, 1) := dw_at cX13_isBelow_k1 (p := 11) rfl (by decide +kernel)
theorem dmX13_isBelow_37 : decode cX13_isBelow 37 = .ok (.iload_n 1, 1) := dw_at cX13_isBelow_k1 (p := 12) rfl (by decide +kernel)
theorem dmX13_isBelow_38 : decode cX13_isBelow 38 = .ok (.iload 5, 2) := dw_at cX13_isBelow_k1 (p := 13) rfl (by decide +kernel)
theorem dmX13_isBelow_40 : decode cX13_isBelow 40 = .ok (.iadd, 1) := dw_at cX13_isBelow_k1 (p := 15) rfl (by decide +kernel)
theorem dmX13_isBelow_41 : decode cX13_isBelow 41 = .ok (.iaload, 1) := dw_at cX13_isBelow_k1 (p := 16) rfl (by decide +kernel)
theorem dmX13_isBelow_42 : decode cX13_isBelow 42 = .ok (.aload_n 2, 1) := dw_at cX13_isBelow_k1 (p := 17) rfl (by decide +kernel)
theorem dmX13_isBelow_43 : decode cX13_isBelow 43 = .ok (.iload_n 3, 1) := dw_at cX13_isBelow_k1 (p := 18) rfl (by decide +kernel)
theorem dmX13_isBelow_44 : decode cX13_isBelow 44 = .ok (.iload 5, 2) := dw_at cX13_isBelow_k1 (p := 19) rfl (by decide +kernel)
theorem dmX13_isBelow_46 : decode cX13_isBelow 46 = .ok (.iadd, 1) := dw_at cX13_isBelow_k1 (p := 21) rfl (by decide +kernel)
theorem dmX13_isBelow_47 : decode cX13_isBelow 47 = .ok (.iaload, 1) := dw_at cX13_isBelow_k1 (p := 22) rfl (by decide +kernel)
theorem dmX13_isBelow_48 : decode cX13_isBelow 48 = .ok (.if_icmp .ge 7, 3) := dw_at cX13_isBelow_k1 (p := 23) rfl (by decide +kernel)
theorem dmX13_isBelow_51 : decode cX13_isBelow 51 = .ok (.iconst 1, 1) := dw_at cX13_isBelow_k2 (p := 0) rfl (by decide +kernel)
theorem dmX13_isBelow_52 : decode cX13_isBelow 52 = .ok (.goto 4, 3) := dw_at cX13_isBelow_k2 (p := 1) rfl (by decide +kernel)
theorem dmX13_isBelow_55 : decode cX13_isBelow 55 = .ok (.iconst 0, 1) := dw_at cX13_isBelow_k2 (p := 4) rfl (by decide +kernel)
theorem dmX13_isBelow_56 : decode cX13_isBelow 56 = .ok (.ireturn, 1) := dw_at cX13_isBelow_k2 (p := 5) rfl (by decide +kernel)
theorem dmX13_isBelow_57 : decode cX13_isBelow 57 = .ok (.iinc 5 1, 3) := dw_at cX13_isBelow_k2 (p := 6) rfl (by decide +kernel)
theorem dmX13_isBelow_60 : decode cX13_isBelow 60 = .ok (.goto (-46), 3) := dw_at cX13_isBelow_k2 (p := 9) rfl (by decide +kernel)
theorem dmX13_isBelow_63 : decode cX13_isBelow 63 = .ok (.aload_n 0, 1) := dw_at cX13_isBelow_k2 (p := 12) rfl (by decide +kernel)
theorem dmX13_isBelow_64 : decode cX13_isBelow 64 = .ok (.iload_n 1, 1) := dw_at cX13_isBelow_k2 (p := 13) rfl (by decide +kernel)
theorem dmX13_isBelow_65 : decode cX13_isBelow 65 = .ok (.iaload, 1) := dw_at cX13_isBelow_k2 (p := 14) rfl (by decide +kernel)
theorem dmX13_isBelow_66 : decode cX13_isBelow 66 = .ok (.aload_n 2, 1) := dw_at cX13_isBelow_k2 (p := 15) rfl (by decide +kernel)
theorem dmX13_isBelow_67 : decode cX13_isBelow 67 = .ok (.iload_n 3, 1) := dw_at cX13_isBelow_k2 (p := 16) rfl (by decide +kernel)
theorem dmX13_isBelow_68 : decode cX13_isBelow 68 = .ok (.iaload, 1) := dw_at cX13_isBelow_k2 (p := 17) rfl (by decide +kernel)
theorem dmX13_isBelow_69 : decode cX13_isBelow 69 = .ok (.if_icmp .ge 7, 3) := dw_at cX13_isBelow_k2 (p := 18) rfl (by decide +kernel)
theorem dmX13_isBelow_72 : decode cX13_isBelow 72 = .ok (.iconst 1, 1) := dw_at cX13_isBelow_k2 (p := 21) rfl (by decide +kernel)
theorem dmX13_isBelow_73 : decode cX13_isBelow 73 = .ok (.goto 4, 3) := dw_at cX13_isBelow_k2 (p := 22) rfl (by decide +kernel)
theorem dmX13_isBelow_76 : decode cX13_isBelow 76 = .ok (.iconst 0, 1) := dw_at cX13_isBelow_k2 (p := 25) rfl (by decide +kernel)
theorem dmX13_isBelow_77 : decode cX13_isBelow 77 = .ok (.ireturn, 1) := dw_at cX13_isBelow_k2 (p := 26) rfl (by decide +kernel)
def qm_X13_isBelow_0 (K : Nat) (go : Nat → Int32 → Int32 → Int32 → Int32 → Nat → Nat → ow_MS → Option (Int32 × ow_MS)) (x1 : Int32) (x3 : Int32) (x4 : Int32) (x5 : Int32) (r0 : Nat) (r2 : Nat) (z : ow_MS) : Option (Int32 × ow_MS) :=
 rdI mX z r0 x1 fun v1 => rdI mX z r2 x3 fun v2 => go 1 x1 x3 (if v2 < v1 then v2 else v1) 1 r0 r2 z
def qm_X13_isBelow_1 (K : Nat) (go : Nat → Int32 → Int32 → Int32 → Int32 → Nat → Nat → ow_MS → Option (Int32 × ow_MS)) (x1 : Int32) (x3 : Int32) (x4 : Int32) (x5 : Int32) (r0 : Nat) (r2 : Nat) (z : ow_MS) : Option (Int32 × ow_MS) :=
 (if x4 < x5 then rdI mX z r0 x1 fun v3 => rdI mX z r2 x3 fun v4 => (if v4 ≤ v3 then okZ 0 (some (0, z))
 else okZ 1 (some (1, z)))
 else rdI mX z r0 (x1 + x5) fun v5 => rdI mX z r2 (x3 + x5) fun v6 => (if v5 = v6 then go 1 x1 x3 x4 (x5 + 1) r0 r2 z
 else rdI mX z r0 (x1 + x5) fun v7 => rdI mX z r2 (x3 + x5) fun v8 => (if v8 ≤ v7 then okZ 0 (some (0, z))
 else okZ 1 (some (1, z)))))
def qb_X13_isBelow (K : Nat) (go : Nat → Int32 → Int32 → Int32 → Int32 → Nat → Nat → ow_MS → Option (Int32 × ow_MS)) (L : Nat) (x1 : Int32) (x3 : Int32) (x4 : Int32) (x5 : Int32) (r0 : Nat) (r2 : Nat) (z : ow_MS) : Option (Int32 × ow_MS) := match L with
  | 0 => qm_X13_isBelow_0 K go x1 x3 x4 x5 r0 r2 z
  | 1 => qm_X13_isBelow_1 K go x1 x3 x4 x5 r0 r2 z
  | _ => none
def q_X13_isBelow (K : Nat) : Nat → Nat → Int32 → Int32 → Int32 → Int32 → Nat → Nat → ow_MS → Option (Int32 × ow_MS)
  | 0 => fun _ _ _ _ _ _ _ _ => none
  | k + 1 => qb_X13_isBelow K (q_X13_isBelow K k)
def qe_X13_isBelow (K : Nat) (r0 : Nat) (x1 : Int32) (r2 : Nat) (x3 : Int32) (z : ow_MS) : Option (Int32 × ow_MS) := q_X13_isBelow K K 0 x1 x3 0 0 r0 r2 z
abbrev wm_X13_isBelow : List Cond := .code yX13_isBelow cX13_isBelow 6 (some .boolean) :: wM
theorem cd_X13_isBelow : yX13_isBelow.cls ≠ "java/lang/invoke/MethodHandle" ∧ yX13_isBelow.cls ≠ "java/lang/invoke/VarHandle" ∧ (parseMethodDescriptor yX13_isBelow.desc).map (fun d => d.parameters.length) = some 4 := by decide +kernel
set_option maxHeartbeats 4000000 in
set_option maxRecDepth 100000 in
theorem km_X13_isBelow (l : Launch) (D : va_G) (q : ow_Q5) (u : Nat → Nat) (hU : tw_inj mX u) (K : Nat) (r0 : Nat) (x1 : Int32) (r2 : Nat) (x3 : Int32) (hr0 : tw_in mX r0 0) (hr2 : tw_in mX r2 0) (z z1 : ow_MS) (r : Int32) (hq : qe_X13_isBelow K r0 x1 r2 x3 z = some (r, z1)) : Met l yX13_isBelow wm_X13_isBelow ({ frames := 1, cells := 0, slots := 0, locals := 29 } : Room) (va_Pc [.ref (u r0), .int x1, .ref (u r2), .int x3] (mw_pre D q u z)) (va_Qi (fun x (_ : Unit) => x = r) (fun _ t => va_P D vwCl (tw mX q u z1) t.heap) (tw_A mX u)) 0 0 (tw_A mX u) := by
  refine Met.ofW (cc := cX13_isBelow) (maxL := 6) (ret := (some .boolean)) (by decide) rfl ?_
  intro p e s m args below meth c s₁ B hml hv
  obtain ⟨rfl, hP, hK, hN⟩ := hv
  have hx := B.exec
  have hb := B.bytes
  have hr := B.returns
  have hts := atoms_spec (ws := wm_X13_isBelow) B.pre
  have hT : ∀ w ∈ wM, w.before ([.ref (u r0), .int x1, .ref (u r2), .int x3] : List Value).toArray s = true := fun w h => hts w (List.mem_cons_of_mem _ h)
  have hown : s.vm.findClass RX13 = some m.cls := findClass_of_methodNamed B.named
  have hlocks := B.notSynchronized
  have hM : tw_M D vwCl mX q s.heap u z s.heap [] := ⟨hP, va_S.rf⟩
  have hl := lv_entry ([.ref (u r0), .int x1, .ref (u r2), .int x3]) (n := 6) (Nat.le_of_ble_eq_true rfl)
  rw [lg_entry_eq]
  generalize (lg_sl ([.ref (u r0), .int x1, .ref (u r2), .int x3]) ++ List.replicate (6 - (lg_sl ([.ref (u r0), .int x1, .ref (u r2), .int x3])).length) Slot.unset).toArray = ls at hl ⊢
  have hl : lv_has ls 6 [(0, .ref (u r0)), (1, .int x1), (2, .ref (u r2)), (3, .int x3)] := hl
  refine ow_named (fun QQ hQQ => ?_)
  generalize ([.ref (u r0), .int x1, .ref (u r2), .int x3] : List Value).toArray = args at hts hT hQQ ⊢
  have key : ∀ k : Nat, (∀ (x1 : Int32) (x3 : Int32) (x4 : Int32) (x5 : Int32) (r0 : Nat) (r2 : Nat) (z : ow_MS) (H : Heap) (locs : List Loc) (ls : Array Slot), tw_in mX r0 0 → tw_in mX r2 0 → tw_M D vwCl mX q s.heap u z H locs → lv_has ls 6 [(0, .ref (u r0)), (1, .int x1), (2, .ref (u r2)), (3, .int x3)] → q_X13_isBelow K k 0 x1 x3 x4 x5 r0 r2 z = some (r, z1) → W p l e ({ frames := 1, cells := 0, slots := 0, locals := 29 } : Room) s m args below meth c H locs 0 0 QQ (F0 m 0 ls [])) ∧ (∀ (x1 : Int32) (x3 : Int32) (x4 : Int32) (x5 : Int32) (r0 : Nat) (r2 : Nat) (z : ow_MS) (H : Heap) (locs : List Loc) (ls : Array Slot), tw_in mX r0 0 → tw_in mX r2 0 → tw_M D vwCl mX q s.heap u z H locs → lv_has ls 6 [(0, .ref (u r0)), (1, .int x1), (2, .ref (u r2)), (3, .int x3), (4, .int x4), (5, .int x5)] → q_X13_isBelow K k 1 x1 x3 x4 x5 r0 r2 z = some (r, z1) → W p l e ({ frames := 1, cells := 0, slots := 0, locals := 29 } : Room) s m args below meth c H locs 0 0 QQ (F0 m 14 ls [])) := by
    intro k
    induction k with
    | zero => exact ⟨fun _ _ _ _ _ _ _ _ _ _ _ _ _ _ hq => tw_no hq, fun _ _ _ _ _ _ _ _ _ _ _ _ _ _ hq => tw_no hq⟩
    | succ k ih =>
      obtain ⟨ih_0, ih_1⟩ := ih
      refine ⟨?_, ?_⟩
      · intro x1 x3 x4 x5 r0 r2 z H locs ls hr0 hr2 hM hl hq
        have hq : qm_X13_isBelow_0 K (q_X13_isBelow K k) x1 x3 x4 x5 r0 r2 z = some (r, z1) := hq
        unfold qm_X13_isBelow_0 at hq
        refine lv_aload_n hx hb dmX13_isBelow_0 rfl (lv_at hl 0 rfl) ?_
        refine lv_iload_n hx hb dmX13_isBelow_1 rfl (lv_at hl 1 rfl) ?_
        refine tw_iald mX_ok hx hb hK hM hr0 hq dmX13_isBelow_2 (fun v1 hq => ?_)
        refine lv_aload_n hx hb dmX13_isBelow_3 rfl (lv_at hl 2 rfl) ?_
        refine lv_iload_n hx hb dmX13_isBelow_4 rfl (lv_at hl 3 rfl) ?_
        refine tw_iald mX_ok hx hb hK hM hr2 hq dmX13_isBelow_5 (fun v2 hq => ?_)
        refine va_mmin hx hb (by rw [hml]; exact hl.1.symm) hown (hT _ wq_65) (hT _ wq_66) (hT _ wq_67) (hT _ wq_68) (Nat.le_of_ble_eq_true rfl) (by decide) (Nat.le_of_ble_eq_true rfl) (Nat.le_of_ble_eq_true rfl) dmX13_isBelow_6 ?_
        refine lv_istore (lv' := [(4, .int (if v2 < v1 then v2 else v1)), (0, .ref (u r0)), (1, .int x1), (2, .ref (u r2)), (3, .int x3)]) hx hb dmX13_isBelow_9 hl (by decide) rfl (fun ls hl => ?_)
        refine lv_iconst (v := 1) hx hb dmX13_isBelow_11 (by decide) ?_
        refine lv_istore (lv' := [(5, .int 1), (4, .int (if v2 < v1 then v2 else v1)), (0, .ref (u r0)), (1, .int x1), (2, .ref (u r2)), (3, .int x3)]) hx hb dmX13_isBelow_12 hl (by decide) rfl (fun ls hl => ?_)
        exact ih_1 x1 x3 (if v2 < v1 then v2 else v1) 1 r0 r2 z H locs ls hr0 hr2 hM (lv_sub hl [2, 3, 4, 5, 1, 0] rfl) hq
      · intro x1 x3 x4 x5 r0 r2 z H locs ls hr0 hr2 hM hl hq
        have hq : qm_X13_isBelow_1 K (q_X13_isBelow K k) x1 x3 x4 x5 r0 r2 z = some (r, z1) := hq
        unfold qm_X13_isBelow_1 at hq
        refine lv_iload hx hb dmX13_isBelow_14 (lv_at hl 5 rfl) ?_
        refine lv_iload hx hb dmX13_isBelow_16 (lv_at hl 4 rfl) ?_
        refine lv_icmp_gt (tgt := 63) hx hb dmX13_isBelow_18 (by decide) (fun hc => ?_) (fun hc => ?_)
        · have hq := tw_it hq hc
          refine lv_aload_n hx hb dmX13_isBelow_63 rfl (lv_at hl 0 rfl) ?_
          refine lv_iload_n hx hb dmX13_isBelow_64 rfl (lv_at hl 1 rfl) ?_
          refine tw_iald mX_ok hx hb hK hM hr0 hq dmX13_isBelow_65 (fun v3 hq => ?_)
          refine lv_aload_n hx hb dmX13_isBelow_66 rfl (lv_at hl 2 rfl) ?_
          refine lv_iload_n hx hb dmX13_isBelow_67 rfl (lv_at hl 3 rfl) ?_
          refine tw_iald mX_ok hx hb hK hM hr2 hq dmX13_isBelow_68 (fun v4 hq => ?_)
          refine lv_icmp_ge (tgt := 76) hx hb dmX13_isBelow_69 (by decide) (fun hc => ?_) (fun hc => ?_)
          · have hq := tw_it hq hc
            refine lv_iconst (v := 0) hx hb dmX13_isBelow_76 (by decide) ?_
            obtain ⟨hz, hq⟩ := tw_gZ hq
            exact mw_zret hx hb hr hlocks hM hz hq hQQ dmX13_isBelow_77
          · have hq := tw_if hq hc
            refine lv_iconst (v := 1) hx hb dmX13_isBelow_72 (by decide) ?_
            refine lv_goto (tgt := 77) hx hb dmX13_isBelow_73 (by decide) ?_
            obtain ⟨hz, hq⟩ := tw_gZ hq
            exact mw_zret hx hb hr hlocks hM hz hq hQQ dmX13_isBelow_77
        · have hq := tw_if hq hc
          refine lv_aload_n hx hb dmX13_isBelow_21 rfl (lv_at hl 0 rfl) ?_
          refine lv_iload_n hx hb dmX13_isBelow_22 rfl (lv_at hl 1 rfl) ?_
          refine lv_iload hx hb dmX13_isBelow_23 (lv_at hl 5 rfl) ?_
          refine lv_iadd hx hb dmX13_isBelow_25 ?_
          refine tw_iald mX_ok hx hb hK hM hr0 hq dmX13_isBelow_26 (fun v5 hq => ?_)
          refine lv_aload_n hx hb dmX13_isBelow_27 rfl (lv_at hl 2 rfl) ?_
          refine lv_iload_n hx hb dmX13_isBelow_28 rfl (lv_at hl 3 rfl) ?_
          refine lv_iload hx hb dmX13_isBelow_29 (lv_at hl 5 rfl) ?_
          refine lv_iadd hx hb dmX13_isBelow_31 ?_
          refine tw_iald mX_ok hx hb hK hM hr2 hq dmX13_isBelow_32 (fun v6 hq => ?_)
          refine lv_icmp_eq (tgt := 57) hx hb dmX13_isBelow_33 (by decide) (fun hc => ?_) (fun hc => ?_)
          · have hq := tw_it hq hc
            refine lv_iinc (v := (x5 + 1)) (lv' := [(5, .int (x5 + 1)), (0, .ref (u r0)), (1, .int x1), (2, .ref (u r2)), (3, .int x3), (4, .int x4)]) hx hb dmX13_isBelow_57 hl (k := 5) rfl rfl (by decide) rfl (fun ls hl => ?_)
            refine lv_goto (tgt := 14) hx hb dmX13_isBelow_60 (by decide) ?_
            exact ih_1 x1 x3 x4 (x5 + 1) r0 r2 z H locs ls hr0 hr2 hM (lv_sub hl [1, 2, 3, 4, 5, 0] rfl) hq
          · have hq := tw_if hq hc
            refine lv_aload_n hx hb dmX13_isBelow_36 rfl (lv_at hl 0 rfl) ?_
            refine lv_iload_n hx hb dmX13_isBelow_37 rfl (lv_at hl 1 rfl) ?_
            refine lv_iload hx hb dmX13_isBelow_38 (lv_at hl 5 rfl) ?_
            refine lv_iadd hx hb dmX13_isBelow_40 ?_
            refine tw_iald mX_ok hx hb hK hM hr0 hq dmX13_isBelow_41 (fun v7 hq => ?_)
            refine lv_aload_n hx hb dmX13_isBelow_42 rfl (lv_at hl 2 rfl) ?_
            refine lv_iload_n hx hb dmX13_isBelow_43 rfl (lv_at hl 3 rfl) ?_
            refine lv_iload hx hb dmX13_isBelow_44 (lv_at hl 5 rfl) ?_
            refine lv_iadd hx hb dmX13_isBelow_46 ?_
            refine tw_iald mX_ok hx hb hK hM hr2 hq dmX13_isBelow_47 (fun v8 hq => ?_)
            refine lv_icmp_ge (tgt := 55) hx hb dmX13_isBelow_48 (by decide) (fun hc => ?_) (fun hc => ?_)
            · have hq := tw_it hq hc
              refine lv_iconst (v := 0) hx hb dmX13_isBelow_55 (by decide) ?_
              obtain ⟨hz, hq⟩ := tw_gZ hq
              exact mw_zret hx hb hr hlocks hM hz hq hQQ dmX13_isBelow_56
            · have hq := tw_if hq hc
              refine lv_iconst (v := 1) hx hb dmX13_isBelow_51 (by decide) ?_
              refine lv_goto (tgt := 56) hx hb dmX13_isBelow_52 (by decide) ?_
              obtain ⟨hz, hq⟩ := tw_gZ hq
              exact mw_zret hx hb hr hlocks hM hz hq hQQ dmX13_isBelow_56
  exact (key K).1 x1 x3 0 0 r0 r2 z s.heap [] ls hr0 hr2 hM (lv_sub hl [0, 1, 2, 3] rfl) hq
theorem dmX13_leastOf_0 : decode cX13_leastOf 0 = .ok (.iconst 0, 1) := dw_at cX13_leastOf_k0 (p := 0) rfl (by decide +kernel)
theorem dmX13_leastOf_1 : decode cX13_leastOf 1 = .ok (.istore 4, 2) := dw_at cX13_leastOf_k0 (p := 1) rfl (by decide +kernel)
theorem dmX13_leastOf_3 : decode cX13_leastOf 3 = .ok (.iconst 0, 1) := dw_at cX13_leastOf_k0 (p := 3) rfl (by decide +kernel)
theorem dmX13_leastOf_4 : decode cX13_leastOf 4 = .ok (.istore 5, 2) := dw_at cX13_leastOf_k0 (p := 4) rfl (by decide +kernel)
theorem dmX13_leastOf_6 : decode cX13_leastOf 6 = .ok (.iload 5, 2) := dw_at cX13_leastOf_k0 (p := 6) rfl (by decide +kernel)
theorem dmX13_leastOf_8 : decode cX13_leastOf 8 = .ok (.aload_n 1, 1) := dw_at cX13_leastOf_k0 (p := 8) rfl (by decide +kernel)
theorem dmX13_leastOf_9 : decode cX13_leastOf 9 = .ok (.getfield 44, 3) := dw_at cX13_leastOf_k0 (p := 9) rfl (by decide +kernel)
theorem dmX13_leastOf_12 : decode cX13_leastOf 12 = .ok (.if_icmp .ge 91, 3) := dw_at cX13_leastOf_k0 (p := 12) rfl (by decide +kernel)
theorem dmX13_leastOf_15 : decode cX13_leastOf 15 = .ok (.aload_n 1, 1) := dw_at cX13_leastOf_k0 (p := 15) rfl (by decide +kernel)
theorem dmX13_leastOf_16 : decode cX13_leastOf 16 = .ok (.getfield 47, 3) := dw_at cX13_leastOf_k0 (p := 16) rfl (by decide +kernel)
theorem dmX13_leastOf_19 : decode cX13_leastOf 19 = .ok (.aload_n 1, 1) := dw_at cX13_leastOf_k0 (p := 19) rfl (by decide +kernel)
theorem dmX13_leastOf_20 : decode cX13_leastOf 20 = .ok (.getfield 18, 3) := dw_at cX13_leastOf_k0 (p := 20) rfl (by decide +kernel)
theorem dmX13_leastOf_23 : decode cX13_leastOf 23 = .ok (.iload 5, 2) := dw_at cX13_leastOf_k0 (p := 23) rfl (by decide +kernel)
theorem dmX13_leastOf_25 : decode cX13_leastOf 25 = .ok (.iaload, 1) := dw_at cX13_leastOf_k1 (p := 0) rfl (by decide +kernel)
theorem dmX13_leastOf_26 : decode cX13_leastOf 26 = .ok (.iaload, 1) := dw_at cX13_leastOf_k1 (p := 1) rfl (by decide +kernel)
theorem dmX13_leastOf_27 : decode cX13_leastOf 27 = .ok (.iload_n 2, 1) := dw_at cX13_leastOf_k1 (p := 2) rfl (by decide +kernel)
theorem dmX13_leastOf_28 : decode cX13_leastOf 28 = .ok (.if_icmp .ne 69, 3) := dw_at cX13_leastOf_k1 (p := 3) rfl (by decide +kernel)
theorem dmX13_leastOf_31 : decode cX13_leastOf 31 = .ok (.iinc 4 1, 3) := dw_at cX13_leastOf_k1 (p := 6) rfl (by decide +kernel)
theorem dmX13_leastOf_34 : decode cX13_leastOf 34 = .ok (.aload_n 0, 1) := dw_at cX13_leastOf_k1 (p := 9) rfl (by decide +kernel)
theorem dmX13_leastOf_35 : decode cX13_leastOf 35 = .ok (.aload_n 1, 1) := dw_at cX13_leastOf_k1 (p := 10) rfl (by decide +kernel)
theorem dmX13_leastOf_36 : decode cX13_leastOf 36 = .ok (.iload 5, 2) := dw_at cX13_leastOf_k1 (p := 11) rfl (by decide +kernel)
theorem dmX13_leastOf_38 : decode cX13_leastOf 38 = .ok (.invokevirtual 50, 3) := dw_at cX13_leastOf_k1 (p := 13) rfl (by decide +kernel)
theorem dmX13_leastOf_41 : decode cX13_leastOf 41 = .ok (.iload 4, 2) := dw_at cX13_leastOf_k1 (p := 16) rfl (by decide +kernel)
theorem dmX13_leastOf_43 : decode cX13_leastOf 43 = .ok (.iconst 1, 1) := dw_at cX13_leastOf_k1 (p := 18) rfl (by decide +kernel)
theorem dmX13_leastOf_44 : decode cX13_leastOf 44 = .ok (.if_icmp .eq 19, 3) := dw_at cX13_leastOf_k1 (p := 19) rfl (by decide +kernel)
theorem dmX13_leastOf_47 : decode cX13_leastOf 47 = .ok (.aload_n 0, 1) := dw_at cX13_leastOf_k1 (p := 22) rfl (by decide +kernel)
theorem dmX13_leastOf_48 : decode cX13_leastOf 48 = .ok (.getfield 29, 3) := dw_at cX13_leastOf_k1 (p := 23) rfl (by decide +kernel)
theorem dmX13_leastOf_51 : decode cX13_leastOf 51 = .ok (.iconst 0, 1) := dw_at cX13_leastOf_k2 (p := 0) rfl (by decide +kernel)
theorem dmX13_leastOf_52 : decode cX13_leastOf 52 = .ok (.aload_n 0, 1) := dw_at cX13_leastOf_k2 (p := 1) rfl (by decide +kernel)
theorem dmX13_leastOf_53 : decode cX13_leastOf 53 = .ok (.getfield 54, 3) := dw_at cX13_leastOf_k2 (p := 2) rfl (by decide +kernel)
theorem dmX13_leastOf_56 : decode cX13_leastOf 56 = .ok (.iload_n 3, 1) := dw_at cX13_leastOf_k2 (p := 5) rfl (by decide +kernel)
theorem dmX13_leastOf_57 : decode cX13_leastOf 57 = .ok (.invokestatic 57, 3) := dw_at cX13_leastOf_k2 (p := 6) rfl (by decide +kernel)
theorem dmX13_leastOf_60 : decode cX13_leastOf 60 = .ok (.ifCond .eq 37, 3) := dw_at cX13_leastOf_k2 (p := 9) rfl (by decide +kernel)
theorem dmX13_leastOf_63 : decode cX13_leastOf 63 = .ok (.iconst 0, 1) := dw_at cX13_leastOf_k2 (p := 12) rfl (by decide +kernel)
theorem dmX13_leastOf_64 : decode cX13_leastOf 64 = .ok (.istore 6, 2) := dw_at cX13_leastOf_k2 (p := 13) rfl (by decide +kernel)
theorem dmX13_leastOf_66 : decode cX13_leastOf 66 = .ok (.iload 6, 2) := dw_at cX13_leastOf_k2 (p := 15) rfl (by decide +kernel)
theorem dmX13_leastOf_68 : decode cX13_leastOf 68 = .ok (.aload_n 0, 1) := dw_at cX13_leastOf_k2 (p := 17) rfl (by decide +kernel)
theorem dmX13_leastOf_69 : decode cX13_leastOf 69 = .ok (.getfield 15, 3) := dw_at cX13_leastOf_k2 (p := 18) rfl (by decide +kernel)
theorem dmX13_leastOf_72 : decode cX13_leastOf 72 = .ok (.if_icmp .gt 25, 3) := dw_at cX13_leastOf_k2 (p := 21) rfl (by decide +kernel)
theorem dmX13_leastOf_75 : decode cX13_leastOf 75 = .ok (.aload_n 0, 1) := dw_at cX13_leastOf_k3 (p := 0) rfl (by decide +kernel)
theorem dmX13_leastOf_76 : decode cX13_leastOf 76 = .ok (.getfield 54, 3) := dw_at cX13_leastOf_k3 (p := 1) rfl (by decide +kernel)
theorem dmX13_leastOf_79 : decode cX13_leastOf 79 = .ok (.iload_n 3, 1) := dw_at cX13_leastOf_k3 (p := 4) rfl (by decide +kernel)
theorem dmX13_leastOf_80 : decode cX13_leastOf 80 = .ok (.iload 6, 2) := dw_at cX13_leastOf_k3 (p := 5) rfl (by decide +kernel)
theorem dmX13_leastOf_82 : decode cX13_leastOf 82 = .ok (.iadd, 1) := dw_at cX13_leastOf_k3 (p := 7) rfl (by decide +kernel)
theorem dmX13_leastOf_83 : decode cX13_leastOf 83 = .ok (.aload_n 0, 1) := dw_at cX13_leastOf_k3 (p := 8) rfl (by decide +kernel)
theorem dmX13_leastOf_84 : decode cX13_leastOf 84 = .ok (.getfield 29, 3) := dw_at cX13_leastOf_k3 (p := 9) rfl (by decide +kernel)
theorem dmX13_leastOf_87 : decode cX13_leastOf 87 = .ok (.iload 6, 2) := dw_at cX13_leastOf_k3 (p := 12) rfl (by decide +kernel)
theorem dmX13_leastOf_89 : decode cX13_leastOf 89 = .ok (.iaload, 1) := dw_at cX13_leastOf_k3 (p := 14) rfl (by decide +kernel)
theorem dmX13_leastOf_90 : decode cX13_leastOf 90 = .ok (.iastore, 1) := dw_at cX13_leastOf_k3 (p := 15) rfl (by decide +kernel)
theorem dmX13_leastOf_91 : decode cX13_leastOf 91 = .ok (.iinc 6 1, 3) := dw_at cX13_leastOf_k3 (p := 16) rfl (by decide +kernel)
theorem dmX13_leastOf_94 : decode cX13_leastOf 94 = .ok (.goto (-28), 3) := dw_at cX13_leastOf_k3 (p := 19) rfl (by decide +kernel)
theorem dmX13_leastOf_97 : decode cX13_leastOf 97 = .ok (.iinc 5 1, 3) := dw_at cX13_leastOf_k3 (p := 22) rfl (by decide +kernel)
theorem dmX13_leastOf_100 : decode cX13_leastOf 100 = .ok (.goto (-94), 3) := dw_at cX13_leastOf_k3 (p := 25) rfl (by decide +kernel)
theorem dmX13_leastOf_103 : decode cX13_leastOf 103 = .ok (.iload 4, 2) := dw_at cX13_leastOf_k3 (p := 28) rfl (by decide +kernel)
theorem dmX13_leastOf_105 : decode cX13_leastOf 105 = .ok (.ireturn, 1) := dw_at cX13_leastOf_k3 (p := 30) rfl (by decide +kernel)
def qm_X13_leastOf_0 (K : Nat) (go : Nat → Int32 → Int32 → Int32 → Int32 → Int32 → Nat → ow_MS → Option (Int32 × ow_MS)) (x2 : Int32) (x3 : Int32) (x4 : Int32) (x5 : Int32) (x6 : Int32) (r1 : Nat) (z : ow_MS) : Option (Int32 × ow_MS) :=
 go 1 x2 x3 0 0 0 r1 z
def qm_X13_leastOf_1 (K : Nat) (go : Nat → Int32 → Int32 → Int32 → Int32 → Int32 → Nat → ow_MS → Option (Int32 × ow_MS)) (x2 : Int32) (x3 : Int32) (x4 : Int32) (x5 : Int32) (x6 : Int32) (r1 : Nat) (z : ow_MS) : Option (Int32 × ow_MS) :=
 rdF z (r1 + 1) fun v1 => (if v1 ≤ x5 then some (x4, z)
 else rdI mX z (r1 + 8) x5 fun v2 => rdI mX z (r1 + 12) v2 fun v3 => (if v3 = x2 then cs0 (qe_X13_rowFrom K r1 x5 z) fun z4 => (if (x4 + 1) = 1 then go 2 x2 x3 (x4 + 1) x5 0 r1 z4
 else cs1 (qe_X13_isBelow K 2 0 7 x3 z4) fun v6 z5 => (if v6 = 0 then go 4 x2 x3 (x4 + 1) x5 0 r1 z5
 else go 2 x2 x3 (x4 + 1) x5 0 r1 z5))
 else go 4 x2 x3 x4 x5 0 r1 z))
def qm_X13_leastOf_2 (K : Nat) (go : Nat → Int32 → Int32 → Int32 → Int32 → Int32 → Nat → ow_MS → Option (Int32 × ow_MS)) (x2 : Int32) (x3 : Int32) (x4 : Int32) (x5 : Int32) (x6 : Int32) (r1 : Nat) (z : ow_MS) : Option (Int32 × ow_MS) :=
 go 3 x2 x3 x4 x5 0 r1 z
def qm_X13_leastOf_3 (K : Nat) (go : Nat → Int32 → Int32 → Int32 → Int32 → Int32 → Nat → ow_MS → Option (Int32 × ow_MS)) (x2 : Int32) (x3 : Int32) (x4 : Int32) (x5 : Int32) (x6 : Int32) (r1 : Nat) (z : ow_MS) : Option (Int32 × ow_MS) :=
 rdF z 3 fun v7 => (if v7 < x6 then go 4 x2 x3 x4 x5 0 r1 z
 else rdI mX z 2 x6 fun v8 => wrI mX z 7 (x3 + x6) v8 fun z9 => go 3 x2 x3 x4 x5 (x6 + 1) r1 z9)
def qm_X13_leastOf_4 (K : Nat) (go : Nat → Int32 → Int32 → Int32 → Int32 → Int32 → Nat → ow_MS → Option (Int32 × ow_MS)) (x2 : Int32) (x3 : Int32) (x4 : Int32) (x5 : Int32) (x6 : Int32) (r1 : Nat) (z : ow_MS) : Option (Int32 × ow_MS) :=
 go 1 x2 x3 x4 (x5 + 1) 0 r1 z
def qb_X13_leastOf (K : Nat) (go : Nat → Int32 → Int32 → Int32 → Int32 → Int32 → Nat → ow_MS → Option (Int32 × ow_MS)) (L : Nat) (x2 : Int32) (x3 : Int32) (x4 : Int32) (x5 : Int32) (x6 : Int32) (r1 : Nat) (z : ow_MS) : Option (Int32 × ow_MS) := match L with
  | 0 => qm_X13_leastOf_0 K go x2 x3 x4 x5 x6 r1 z
  | 1 => qm_X13_leastOf_1 K go x2 x3 x4 x5 x6 r1 z
  | 2 => qm_X13_leastOf_2 K go x2 x3 x4 x5 x6 r1 z
  | 3 => qm_X13_leastOf_3 K go x2 x3 x4 x5 x6 r1 z
  | 4 => qm_X13_leastOf_4 K go x2 x3 x4 x5 x6 r1 z
  | _ => none
def q_X13_leastOf (K : Nat) : Nat → Nat → Int32 → Int32 → Int32 → Int32 → Int32 → Nat → ow_MS → Option (Int32 × ow_MS)
  | 0 => fun _ _ _ _ _ _ _ _ => none
  | k + 1 => qb_X13_leastOf K (q_X13_leastOf K k)
def qe_X13_leastOf (K : Nat) (r1 : Nat) (x2 : Int32) (x3 : Int32) (z : ow_MS) : Option (Int32 × ow_MS) := q_X13_leastOf K K 0 x2 x3 0 0 0 r1 z
abbrev wm_X13_leastOf : List Cond := .code yX13_leastOf cX13_leastOf 7 (some .int) :: wM
theorem cd_X13_leastOf : yX13_leastOf.cls = RX13 ∧ yX13_leastOf.cls ≠ "java/lang/invoke/MethodHandle" ∧ yX13_leastOf.cls ≠ "java/lang/invoke/VarHandle" ∧ (parseMethodDescriptor yX13_leastOf.desc).map (fun d => d.parameters.length) = some 3 := by decide +kernel
set_option maxHeartbeats 4000000 in
set_option maxRecDepth 100000 in
theorem km_X13_leastOf (l : Launch) (D : va_G) (q : ow_Q5) (u : Nat → Nat) (hU : tw_inj mX u) (K : Nat) (r1 : Nat) (x2 : Int32) (x3 : Int32) (hr1 : mw_net r1) (z z1 : ow_MS) (r : Int32) (hq : qe_X13_leastOf K r1 x2 x3 z = some (r, z1)) : Met l yX13_leastOf wm_X13_leastOf ({ frames := 2, cells := 0, slots := 0, locals := 54 } : Room) (va_Pc [.ref (u 0), .ref (u r1), .int x2, .int x3] (mw_pre D q u z)) (va_Qi (fun x (_ : Unit) => x = r) (fun _ t => va_P D vwCl (tw mX q u z1) t.heap) (tw_A mX u)) 0 0 (tw_A mX u) := by
  refine Met.ofW (cc := cX13_leastOf) (maxL := 7) (ret := (some .int)) (by decide) rfl ?_
  intro p e s m args below meth c s₁ B hml hv
  obtain ⟨rfl, hP, hK, hN⟩ := hv
  have hx := B.exec
  have hb := B.bytes
  have hr := B.returns
  have hts := atoms_spec (ws := wm_X13_leastOf) B.pre
  have hT : ∀ w ∈ wM, w.before ([.ref (u 0), .ref (u r1), .int x2, .int x3] : List Value).toArray s = true := fun w h => hts w (List.mem_cons_of_mem _ h)
  have hown : s.vm.findClass RX13 = some m.cls := findClass_of_methodNamed B.named
  have hlocks := B.notSynchronized
  have hM : tw_M D vwCl mX q s.heap u z s.heap [] := ⟨hP, va_S.rf⟩
  have hl := lv_entry ([.ref (u 0), .ref (u r1), .int x2, .int x3]) (n := 7) (Nat.le_of_ble_eq_true rfl)
  rw [lg_entry_eq]
  generalize (lg_sl ([.ref (u 0), .ref (u r1), .int x2, .int x3]) ++ List.replicate (7 - (lg_sl ([.ref (u 0), .ref (u r1), .int x2, .int x3])).length) Slot.unset).toArray = ls at hl ⊢
  have hl : lv_has ls 7 [(0, .ref (u 0)), (1, .ref (u r1)), (2, .int x2), (3, .int x3)] := hl
  refine ow_named (fun QQ hQQ => ?_)
  generalize ([.ref (u 0), .ref (u r1), .int x2, .int x3] : List Value).toArray = args at hts hT hQQ ⊢
  have key : ∀ k : Nat, (∀ (x2 : Int32) (x3 : Int32) (x4 : Int32) (x5 : Int32) (x6 : Int32) (r1 : Nat) (z : ow_MS) (H : Heap) (locs : List Loc) (ls : Array Slot), mw_net r1 → tw_M D vwCl mX q s.heap u z H locs → lv_has ls 7 [(0, .ref (u 0)), (1, .ref (u r1)), (2, .int x2), (3, .int x3)] → q_X13_leastOf K k 0 x2 x3 x4 x5 x6 r1 z = some (r, z1) → W p l e ({ frames := 2, cells := 0, slots := 0, locals := 54 } : Room) s m args below meth c H locs 0 0 QQ (F0 m 0 ls [])) ∧ (∀ (x2 : Int32) (x3 : Int32) (x4 : Int32) (x5 : Int32) (x6 : Int32) (r1 : Nat) (z : ow_MS) (H : Heap) (locs : List Loc) (ls : Array Slot), mw_net r1 → tw_M D vwCl mX q s.heap u z H locs → lv_has ls 7 [(0, .ref (u 0)), (1, .ref (u r1)), (2, .int x2), (3, .int x3), (4, .int x4), (5, .int x5)] → q_X13_leastOf K k 1 x2 x3 x4 x5 x6 r1 z = some (r, z1) → W p l e ({ frames := 2, cells := 0, slots := 0, locals := 54 } : Room) s m args below meth c H locs 0 0 QQ (F0 m 6 ls [])) ∧ (∀ (x2 : Int32) (x3 : Int32) (x4 : Int32) (x5 : Int32) (x6 : Int32) (r1 : Nat) (z : ow_MS) (H : Heap) (locs : List Loc) (ls : Array Slot), mw_net r1 → tw_M D vwCl mX q s.heap u z H locs → lv_has ls 7 [(0, .ref (u 0)), (1, .ref (u r1)), (2, .int x2), (3, .int x3), (4, .int x4), (5, .int x5)] → q_X13_leastOf K k 2 x2 x3 x4 x5 x6 r1 z = some (r, z1) → W p l e ({ frames := 2, cells := 0, slots := 0, locals := 54 } : Room) s m args below meth c H locs 0 0 QQ (F0 m 63 ls [])) ∧ (∀ (x2 : Int32) (x3 : Int32) (x4 : Int32) (x5 : Int32) (x6 : Int32) (r1 : Nat) (z : ow_MS) (H : Heap) (locs : List Loc) (ls : Array Slot), mw_net r1 → tw_M D vwCl mX q s.heap u z H locs → lv_has ls 7 [(0, .ref (u 0)), (1, .ref (u r1)), (2, .int x2), (3, .int x3), (4, .int x4), (5, .int x5), (6, .int x6)] → q_X13_leastOf K k 3 x2 x3 x4 x5 x6 r1 z = some (r, z1) → W p l e ({ frames := 2, cells := 0, slots := 0, locals := 54 } : Room) s m args below meth c H locs 0 0 QQ (F0 m 66 ls [])) ∧ (∀ (x2 : Int32) (x3 : Int32) (x4 : Int32) (x5 : Int32) (x6 : Int32) (r1 : Nat) (z : ow_MS) (H : Heap) (locs : List Loc) (ls : Array Slot), mw_net r1 → tw_M D vwCl mX q s.heap u z H locs → lv_has ls 7 [(0, .ref (u 0)), (1, .ref (u r1)), (2, .int x2), (3, .int x3), (4, .int x4), (5, .int x5)] → q_X13_leastOf K k 4 x2 x3 x4 x5 x6 r1 z = some (r, z1) → W p l e ({ frames := 2, cells := 0, slots := 0, locals := 54 } : Room) s m args below meth c H locs 0 0 QQ (F0 m 97 ls [])) := by
    intro k
    induction k with
    | zero => exact ⟨fun _ _ _ _ _ _ _ _ _ _ _ _ _ hq => tw_no hq, fun _ _ _ _ _ _ _ _ _ _ _ _ _ hq => tw_no hq, fun _ _ _ _ _ _ _ _ _ _ _ _ _ hq => tw_no hq, fun _ _ _ _ _ _ _ _ _ _ _ _ _ hq => tw_no hq, fun _ _ _ _ _ _ _ _ _ _ _ _ _ hq => tw_no hq⟩
    | succ k ih =>
      obtain ⟨ih_0, ih_1, ih_2, ih_3, ih_4⟩ := ih
      refine ⟨?_, ?_, ?_, ?_, ?_⟩
      · intro x2 x3 x4 x5 x6 r1 z H locs ls hr1 hM hl hq
        have hq : qm_X13_leastOf_0 K (q_X13_leastOf K k) x2 x3 x4 x5 x6 r1 z = some (r, z1) := hq
        unfold qm_X13_leastOf_0 at hq
        refine lv_iconst (v := 0) hx hb dmX13_leastOf_0 (by decide) ?_
        refine lv_istore (lv' := [(4, .int 0), (0, .ref (u 0)), (1, .ref (u r1)), (2, .int x2), (3, .int x3)]) hx hb dmX13_leastOf_1 hl (by decide) rfl (fun ls hl => ?_)
        refine lv_iconst (v := 0) hx hb dmX13_leastOf_3 (by decide) ?_
        refine lv_istore (lv' := [(5, .int 0), (4, .int 0), (0, .ref (u 0)), (1, .ref (u r1)), (2, .int x2), (3, .int x3)]) hx hb dmX13_leastOf_4 hl (by decide) rfl (fun ls hl => ?_)
        exact ih_1 x2 x3 0 0 0 r1 z H locs ls hr1 hM (lv_sub hl [2, 3, 4, 5, 1, 0] rfl) hq
      · intro x2 x3 x4 x5 x6 r1 z H locs ls hr1 hM hl hq
        have hq : qm_X13_leastOf_1 K (q_X13_leastOf K k) x2 x3 x4 x5 x6 r1 z = some (r, z1) := hq
        unfold qm_X13_leastOf_1 at hq
        refine lv_iload hx hb dmX13_leastOf_6 (lv_at hl 5 rfl) ?_
        refine lv_aload_n hx hb dmX13_leastOf_8 rfl (lv_at hl 1 rfl) ?_
        refine mg13_44 hx hb hT hown hK hM hN hr1 hq dmX13_leastOf_9 (fun v1 hq => ?_)
        refine lv_icmp_ge (tgt := 103) hx hb dmX13_leastOf_12 (by decide) (fun hc => ?_) (fun hc => ?_)
        · have hq := tw_it hq hc
          refine lv_iload hx hb dmX13_leastOf_103 (lv_at hl 4 rfl) ?_
          exact mw_iret hx hb hr hlocks hM hq hQQ dmX13_leastOf_105
        · have hq := tw_if hq hc
          refine lv_aload_n hx hb dmX13_leastOf_15 rfl (lv_at hl 1 rfl) ?_
          refine mg13_47 hx hb hT hown hK hM hN hr1 dmX13_leastOf_16 ?_
          refine lv_aload_n hx hb dmX13_leastOf_19 rfl (lv_at hl 1 rfl) ?_
          refine mg13_18 hx hb hT hown hK hM hN hr1 dmX13_leastOf_20 ?_
          refine lv_iload hx hb dmX13_leastOf_23 (lv_at hl 5 rfl) ?_
          refine tw_iald mX_ok hx hb hK hM (mrn_8 hr1) hq dmX13_leastOf_25 (fun v2 hq => ?_)
          refine tw_iald mX_ok hx hb hK hM (mrn_12 hr1) hq dmX13_leastOf_26 (fun v3 hq => ?_)
          refine lv_iload_n hx hb dmX13_leastOf_27 rfl (lv_at hl 2 rfl) ?_
          refine lv_icmp_ne (tgt := 97) hx hb dmX13_leastOf_28 (by decide) (fun hc => ?_) (fun hc => ?_)
          · have hq := tw_if hq hc
            exact ih_4 x2 x3 x4 x5 0 r1 z H locs ls hr1 hM (lv_sub hl [0, 1, 2, 3, 4, 5] rfl) hq
          · have hq := tw_it hq hc
            refine lv_iinc (v := (x4 + 1)) (lv' := [(4, .int (x4 + 1)), (0, .ref (u 0)), (1, .ref (u r1)), (2, .int x2), (3, .int x3), (5, .int x5)]) hx hb dmX13_leastOf_31 hl (k := 4) rfl rfl (by decide) rfl (fun ls hl => ?_)
            refine lv_aload_n hx hb dmX13_leastOf_34 rfl (lv_at hl 1 rfl) ?_
            refine lv_aload_n hx hb dmX13_leastOf_35 rfl (lv_at hl 2 rfl) ?_
            refine lv_iload hx hb dmX13_leastOf_36 (lv_at hl 5 rfl) ?_
            obtain ⟨z4, hcq, hq⟩ := tw_cl0 hq
            refine tw_calv hM (va_runV (As := [.ref (u r1), .int x5]) (rest := []) ⟨hx, hb, hml, hown, hts⟩ (km_X13_rowFrom l D q u hU K r1 x5 hr1 z z4 hcq) (cwV 2 hts (tw_gV wM_good wq_58 wq_59 wq_60 wq_61 wq_56) rfl rfl rfl cd_X13_rowFrom ⟨(Nat.le_of_ble_eq_true rfl), (Nat.le_of_ble_eq_true rfl)⟩) (mw_preV hK hN hM mo_0 rfl) rfl rfl hl.1 rfl (lv_room (Nat.le_of_ble_eq_true rfl)) dmX13_leastOf_38 ⟨(Nat.le_of_ble_eq_true rfl), (Nat.le_of_ble_eq_true rfl)⟩) (fun H locs hM => ?_)
            refine lv_iload hx hb dmX13_leastOf_41 (lv_at hl 0 rfl) ?_
            refine lv_iconst (v := 1) hx hb dmX13_leastOf_43 (by decide) ?_
            refine lv_icmp_eq (tgt := 63) hx hb dmX13_leastOf_44 (by decide) (fun hc => ?_) (fun hc => ?_)
            · have hq := tw_it hq hc
              exact ih_2 x2 x3 (x4 + 1) x5 0 r1 z4 H locs ls hr1 hM (lv_sub hl [1, 2, 3, 4, 0, 5] rfl) hq
            · have hq := tw_if hq hc
              refine lv_aload_n hx hb dmX13_leastOf_47 rfl (lv_at hl 1 rfl) ?_
              refine mg13_29 hx hb hT hown hK hM dmX13_leastOf_48 ?_
              refine lv_iconst (v := 0) hx hb dmX13_leastOf_51 (by decide) ?_
              refine lv_aload_n hx hb dmX13_leastOf_52 rfl (lv_at hl 1 rfl) ?_
              refine mg13_54 hx hb hT hown hK hM dmX13_leastOf_53 ?_
              refine lv_iload_n hx hb dmX13_leastOf_56 rfl (lv_at hl 4 rfl) ?_
              obtain ⟨v6, z5, hcq, hq⟩ := tw_cl1 hq
              refine tw_cali hM (va_runS (As := [.ref (u 2), .int 0, .ref (u 7), .int x3]) (rest := []) ⟨hx, hb, hml, hown, hts⟩ (km_X13_isBelow l D q u hU K 2 0 7 x3 mr_2 mr_7 z4 z5 v6 hcq) (va_cwS 4 hts (tw_gS wM_good wq_62 wq_63 wq_61 wq_64) rfl rfl rfl cd_X13_isBelow ⟨(Nat.le_of_ble_eq_true rfl), (Nat.le_of_ble_eq_true rfl)⟩) (mw_preS hK hN hM) rfl rfl hl.1 rfl (lv_room (Nat.le_of_ble_eq_true rfl)) dmX13_leastOf_57 ⟨(Nat.le_of_ble_eq_true rfl), (Nat.le_of_ble_eq_true rfl)⟩) (fun H locs hM => ?_)
              refine lv_if_eq (tgt := 97) hx hb dmX13_leastOf_60 (by decide) (fun hc => ?_) (fun hc => ?_)
              · have hq := tw_it hq hc
                exact ih_4 x2 x3 (x4 + 1) x5 0 r1 z5 H locs ls hr1 hM (lv_sub hl [1, 2, 3, 4, 0, 5] rfl) hq
              · have hq := tw_if hq hc
                exact ih_2 x2 x3 (x4 + 1) x5 0 r1 z5 H locs ls hr1 hM (lv_sub hl [1, 2, 3, 4, 0, 5] rfl) hq
      · intro x2 x3 x4 x5 x6 r1 z H locs ls hr1 hM hl hq
        have hq : qm_X13_leastOf_2 K (q_X13_leastOf K k) x2 x3 x4 x5 x6 r1 z = some (r, z1) := hq
        unfold qm_X13_leastOf_2 at hq
        refine lv_iconst (v := 0) hx hb dmX13_leastOf_63 (by decide) ?_
        refine lv_istore (lv' := [(6, .int 0), (0, .ref (u 0)), (1, .ref (u r1)), (2, .int x2), (3, .int x3), (4, .int x4), (5, .int x5)]) hx hb dmX13_leastOf_64 hl (by decide) rfl (fun ls hl => ?_)
        exact ih_3 x2 x3 x4 x5 0 r1 z H locs ls hr1 hM (lv_sub hl [1, 2, 3, 4, 5, 6, 0] rfl) hq
      · intro x2 x3 x4 x5 x6 r1 z H locs ls hr1 hM hl hq
        have hq : qm_X13_leastOf_3 K (q_X13_leastOf K k) x2 x3 x4 x5 x6 r1 z = some (r, z1) := hq
        unfold qm_X13_leastOf_3 at hq
        refine lv_iload hx hb dmX13_leastOf_66 (lv_at hl 6 rfl) ?_
        refine lv_aload_n hx hb dmX13_leastOf_68 rfl (lv_at hl 0 rfl) ?_
        refine mg13_15 hx hb hT hown hK hM hq dmX13_leastOf_69 (fun v7 hq => ?_)
        refine lv_icmp_gt (tgt := 97) hx hb dmX13_leastOf_72 (by decide) (fun hc => ?_) (fun hc => ?_)
        · have hq := tw_it hq hc
          exact ih_4 x2 x3 x4 x5 0 r1 z H locs ls hr1 hM (lv_sub hl [0, 1, 2, 3, 4, 5] rfl) hq
        · have hq := tw_if hq hc
          refine lv_aload_n hx hb dmX13_leastOf_75 rfl (lv_at hl 0 rfl) ?_
          refine mg13_54 hx hb hT hown hK hM dmX13_leastOf_76 ?_
          refine lv_iload_n hx hb dmX13_leastOf_79 rfl (lv_at hl 3 rfl) ?_
          refine lv_iload hx hb dmX13_leastOf_80 (lv_at hl 6 rfl) ?_
          refine lv_iadd hx hb dmX13_leastOf_82 ?_
          refine lv_aload_n hx hb dmX13_leastOf_83 rfl (lv_at hl 0 rfl) ?_
          refine mg13_29 hx hb hT hown hK hM dmX13_leastOf_84 ?_
          refine lv_iload hx hb dmX13_leastOf_87 (lv_at hl 6 rfl) ?_
          refine tw_iald mX_ok hx hb hK hM mr_2 hq dmX13_leastOf_89 (fun v8 hq => ?_)
          refine tw_iast mX_ok hU hx hb hK hM mr_7 hq dmX13_leastOf_90 (fun z9 H locs hM hq => ?_)
          refine lv_iinc (v := (x6 + 1)) (lv' := [(6, .int (x6 + 1)), (0, .ref (u 0)), (1, .ref (u r1)), (2, .int x2), (3, .int x3), (4, .int x4), (5, .int x5)]) hx hb dmX13_leastOf_91 hl (k := 6) rfl rfl (by decide) rfl (fun ls hl => ?_)
          refine lv_goto (tgt := 66) hx hb dmX13_leastOf_94 (by decide) ?_
          exact ih_3 x2 x3 x4 x5 (x6 + 1) r1 z9 H locs ls hr1 hM (lv_sub hl [1, 2, 3, 4, 5, 6, 0] rfl) hq
      · intro x2 x3 x4 x5 x6 r1 z H locs ls hr1 hM hl hq
        have hq : qm_X13_leastOf_4 K (q_X13_leastOf K k) x2 x3 x4 x5 x6 r1 z = some (r, z1) := hq
        unfold qm_X13_leastOf_4 at hq
        refine lv_iinc (v := (x5 + 1)) (lv' := [(5, .int (x5 + 1)), (0, .ref (u 0)), (1, .ref (u r1)), (2, .int x2), (3, .int x3), (4, .int x4)]) hx hb dmX13_leastOf_97 hl (k := 5) rfl rfl (by decide) rfl (fun ls hl => ?_)
        refine lv_goto (tgt := 6) hx hb dmX13_leastOf_100 (by decide) ?_
        exact ih_1 x2 x3 x4 (x5 + 1) 0 r1 z H locs ls hr1 hM (lv_sub hl [1, 2, 3, 4, 5, 0] rfl) hq
  exact (key K).1 x2 x3 0 0 0 r1 z s.heap [] ls hr1 hM (lv_sub hl [0, 1, 2, 3] rfl) hq
theorem dmX13_visitsOf_0 : decode cX13_visitsOf 0 = .ok (.iconst 0, 1) := by decide +kernel
theorem dmX13_visitsOf_1 : decode cX13_visitsOf 1 = .ok (.istore_n 2, 1) := by decide +kernel
theorem dmX13_visitsOf_2 : decode cX13_visitsOf 2 = .ok (.iconst 1, 1) := by decide +kernel
theorem dmX13_visitsOf_3 : decode cX13_visitsOf 3 = .ok (.istore_n 3, 1) := by decide +kernel
theorem dmX13_visitsOf_4 : decode cX13_visitsOf 4 = .ok (.iload_n 3, 1) := by decide +kernel
theorem dmX13_visitsOf_5 : decode cX13_visitsOf 5 = .ok (.aload_n 0, 1) := by decide +kernel
theorem dmX13_visitsOf_6 : decode cX13_visitsOf 6 = .ok (.iload_n 1, 1) := by decide +kernel
theorem dmX13_visitsOf_7 : decode cX13_visitsOf 7 = .ok (.iaload, 1) := by decide +kernel
theorem dmX13_visitsOf_8 : decode cX13_visitsOf 8 = .ok (.if_icmp .gt 25, 3) := by decide +kernel
theorem dmX13_visitsOf_11 : decode cX13_visitsOf 11 = .ok (.iload_n 2, 1) := by decide +kernel
theorem dmX13_visitsOf_12 : decode cX13_visitsOf 12 = .ok (.aload_n 0, 1) := by decide +kernel
theorem dmX13_visitsOf_13 : decode cX13_visitsOf 13 = .ok (.iload_n 1, 1) := by decide +kernel
theorem dmX13_visitsOf_14 : decode cX13_visitsOf 14 = .ok (.iload_n 3, 1) := by decide +kernel
theorem dmX13_visitsOf_15 : decode cX13_visitsOf 15 = .ok (.iadd, 1) := by decide +kernel
theorem dmX13_visitsOf_16 : decode cX13_visitsOf 16 = .ok (.iaload, 1) := by decide +kernel
theorem dmX13_visitsOf_17 : decode cX13_visitsOf 17 = .ok (.ifCond .le 7, 3) := by decide +kernel
theorem dmX13_visitsOf_20 : decode cX13_visitsOf 20 = .ok (.iconst 1, 1) := by decide +kernel
theorem dmX13_visitsOf_21 : decode cX13_visitsOf 21 = .ok (.goto 4, 3) := by decide +kernel
theorem dmX13_visitsOf_24 : decode cX13_visitsOf 24 = .ok (.iconst 0, 1) := by decide +kernel
theorem dmX13_visitsOf_25 : decode cX13_visitsOf 25 = .ok (.iadd, 1) := by decide +kernel
theorem dmX13_visitsOf_26 : decode cX13_visitsOf 26 = .ok (.istore_n 2, 1) := by decide +kernel
theorem dmX13_visitsOf_27 : decode cX13_visitsOf 27 = .ok (.iinc 3 1, 3) := by decide +kernel
theorem dmX13_visitsOf_30 : decode cX13_visitsOf 30 = .ok (.goto (-26), 3) := by decide +kernel
theorem dmX13_visitsOf_33 : decode cX13_visitsOf 33 = .ok (.iload_n 2, 1) := by decide +kernel
theorem dmX13_visitsOf_34 : decode cX13_visitsOf 34 = .ok (.ireturn, 1) := by decide +kernel
def qm_X13_visitsOf_0 (K : Nat) (go : Nat → Int32 → Int32 → Int32 → Nat → Int32 → Int32 → ow_MS → Option (Int32 × ow_MS)) (x1 : Int32) (x2 : Int32) (x3 : Int32) (r0 : Nat) (t0 : Int32) (t1 : Int32) (z : ow_MS) : Option (Int32 × ow_MS) :=
 go 1 x1 0 1 r0 0 0 z
def qm_X13_visitsOf_1 (K : Nat) (go : Nat → Int32 → Int32 → Int32 → Nat → Int32 → Int32 → ow_MS → Option (Int32 × ow_MS)) (x1 : Int32) (x2 : Int32) (x3 : Int32) (r0 : Nat) (t0 : Int32) (t1 : Int32) (z : ow_MS) : Option (Int32 × ow_MS) :=
 rdI mX z r0 x1 fun v1 => (if v1 < x3 then some (x2, z)
 else rdI mX z r0 (x1 + x3) fun v2 => (if v2 ≤ 0 then go 2 x1 x2 x3 r0 0 x2 z
 else go 2 x1 x2 x3 r0 1 x2 z))
def qm_X13_visitsOf_2 (K : Nat) (go : Nat → Int32 → Int32 → Int32 → Nat → Int32 → Int32 → ow_MS → Option (Int32 × ow_MS)) (x1 : Int32) (x2 : Int32) (x3 : Int32) (r0 : Nat) (t0 : Int32) (t1 : Int32) (z : ow_MS) : Option (Int32 × ow_MS) :=
 go 1 x1 (t1 + t0) (x3 + 1) r0 0 0 z
def qb_X13_visitsOf (K : Nat) (go : Nat → Int32 → Int32 → Int32 → Nat → Int32 → Int32 → ow_MS → Option (Int32 × ow_MS)) (L : Nat) (x1 : Int32) (x2 : Int32) (x3 : Int32) (r0 : Nat) (t0 : Int32) (t1 : Int32) (z : ow_MS) : Option (Int32 × ow_MS) := match L with
  | 0 => qm_X13_visitsOf_0 K go x1 x2 x3 r0 t0 t1 z
  | 1 => qm_X13_visitsOf_1 K go x1 x2 x3 r0 t0 t1 z
  | 2 => qm_X13_visitsOf_2 K go x1 x2 x3 r0 t0 t1 z
  | _ => none
def q_X13_visitsOf (K : Nat) : Nat → Nat → Int32 → Int32 → Int32 → Nat → Int32 → Int32 → ow_MS → Option (Int32 × ow_MS)
  | 0 => fun _ _ _ _ _ _ _ _ => none
  | k + 1 => qb_X13_visitsOf K (q_X13_visitsOf K k)
def qe_X13_visitsOf (K : Nat) (r0 : Nat) (x1 : Int32) (z : ow_MS) : Option (Int32 × ow_MS) := q_X13_visitsOf K K 0 x1 0 0 r0 0 0 z
abbrev wm_X13_visitsOf : List Cond := .code yX13_visitsOf cX13_visitsOf 4 (some .int) :: wM
theorem cd_X13_visitsOf : yX13_visitsOf.cls ≠ "java/lang/invoke/MethodHandle" ∧ yX13_visitsOf.cls ≠ "java/lang/invoke/VarHandle" ∧ (parseMethodDescriptor yX13_visitsOf.desc).map (fun d => d.parameters.length) = some 2 := by decide +kernel
set_option maxHeartbeats 4000000 in
set_option maxRecDepth 100000 in
theorem km_X13_visitsOf (l : Launch) (D : va_G) (q : ow_Q5) (u : Nat → Nat) (hU : tw_inj mX u) (K : Nat) (r0 : Nat) (x1 : Int32) (hr0 : tw_in mX r0 0) (z z1 : ow_MS) (r : Int32) (hq : qe_X13_visitsOf K r0 x1 z = some (r, z1)) : Met l yX13_visitsOf wm_X13_visitsOf ({ frames := 0, cells := 0, slots := 0, locals := 0 } : Room) (va_Pc [.ref (u r0), .int x1] (mw_pre D q u z)) (va_Qi (fun x (_ : Unit) => x = r) (fun _ t => va_P D vwCl (tw mX q u z1) t.heap) (tw_A mX u)) 0 0 (tw_A mX u) := by
  refine Met.ofW (cc := cX13_visitsOf) (maxL := 4) (ret := (some .int)) (by decide) rfl ?_
  intro p e s m args below meth c s₁ B hml hv
  obtain ⟨rfl, hP, hK, hN⟩ := hv
  have hx := B.exec
  have hb := B.bytes
  have hr := B.returns
  have hts := atoms_spec (ws := wm_X13_visitsOf) B.pre
  have hT : ∀ w ∈ wM, w.before ([.ref (u r0), .int x1] : List Value).toArray s = true := fun w h => hts w (List.mem_cons_of_mem _ h)
  have hown : s.vm.findClass RX13 = some m.cls := findClass_of_methodNamed B.named
  have hlocks := B.notSynchronized
  have hM : tw_M D vwCl mX q s.heap u z s.heap [] := ⟨hP, va_S.rf⟩
  have hl := lv_entry ([.ref (u r0), .int x1]) (n := 4) (Nat.le_of_ble_eq_true rfl)
  rw [lg_entry_eq]
  generalize (lg_sl ([.ref (u r0), .int x1]) ++ List.replicate (4 - (lg_sl ([.ref (u r0), .int x1])).length) Slot.unset).toArray = ls at hl ⊢
  have hl : lv_has ls 4 [(0, .ref (u r0)), (1, .int x1)] := hl
  refine ow_named (fun QQ hQQ => ?_)
  generalize ([.ref (u r0), .int x1] : List Value).toArray = args at hts hT hQQ ⊢
  have key : ∀ k : Nat, (∀ (x1 : Int32) (x2 : Int32) (x3 : Int32) (r0 : Nat) (t0 : Int32) (t1 : Int32) (z : ow_MS) (H : Heap) (locs : List Loc) (ls : Array Slot), tw_in mX r0 0 → tw_M D vwCl mX q s.heap u z H locs → lv_has ls 4 [(0, .ref (u r0)), (1, .int x1)] → q_X13_visitsOf K k 0 x1 x2 x3 r0 t0 t1 z = some (r, z1) → W p l e ({ frames := 0, cells := 0, slots := 0, locals := 0 } : Room) s m args below meth c H locs 0 0 QQ (F0 m 0 ls [])) ∧ (∀ (x1 : Int32) (x2 : Int32) (x3 : Int32) (r0 : Nat) (t0 : Int32) (t1 : Int32) (z : ow_MS) (H : Heap) (locs : List Loc) (ls : Array Slot), tw_in mX r0 0 → tw_M D vwCl mX q s.heap u z H locs → lv_has ls 4 [(0, .ref (u r0)), (1, .int x1), (2, .int x2), (3, .int x3)] → q_X13_visitsOf K k 1 x1 x2 x3 r0 t0 t1 z = some (r, z1) → W p l e ({ frames := 0, cells := 0, slots := 0, locals := 0 } : Room) s m args below meth c H locs 0 0 QQ (F0 m 4 ls [])) ∧ (∀ (x1 : Int32) (x2 : Int32) (x3 : Int32) (r0 : Nat) (t0 : Int32) (t1 : Int32) (z : ow_MS) (H : Heap) (locs : List Loc) (ls : Array Slot), tw_in mX r0 0 → tw_M D vwCl mX q s.heap u z H locs → lv_has ls 4 [(0, .ref (u r0)), (1, .int x1), (2, .int x2), (3, .int x3)] → q_X13_visitsOf K k 2 x1 x2 x3 r0 t0 t1 z = some (r, z1) → W p l e ({ frames := 0, cells := 0, slots := 0, locals := 0 } : Room) s m args below meth c H locs 0 0 QQ (F0 m 25 ls [.int t0, .int t1])) := by
    intro k
    induction k with
    | zero => exact ⟨fun _ _ _ _ _ _ _ _ _ _ _ _ _ hq => tw_no hq, fun _ _ _ _ _ _ _ _ _ _ _ _ _ hq => tw_no hq, fun _ _ _ _ _ _ _ _ _ _ _ _ _ hq => tw_no hq⟩
    | succ k ih =>
      obtain ⟨ih_0, ih_1, ih_2⟩ := ih
      refine ⟨?_, ?_, ?_⟩
      · intro x1 x2 x3 r0 t0 t1 z H locs ls hr0 hM hl hq
        have hq : qm_X13_visitsOf_0 K (q_X13_visitsOf K k) x1 x2 x3 r0 t0 t1 z = some (r, z1) := hq
        unfold qm_X13_visitsOf_0 at hq
        refine lv_iconst (v := 0) hx hb dmX13_visitsOf_0 (by decide) ?_
        refine lv_istore_n (lv' := [(2, .int 0), (0, .ref (u r0)), (1, .int x1)]) hx hb dmX13_visitsOf_1 rfl hl (by decide) rfl (fun ls hl => ?_)
        refine lv_iconst (v := 1) hx hb dmX13_visitsOf_2 (by decide) ?_
        refine lv_istore_n (lv' := [(3, .int 1), (2, .int 0), (0, .ref (u r0)), (1, .int x1)]) hx hb dmX13_visitsOf_3 rfl hl (by decide) rfl (fun ls hl => ?_)
        exact ih_1 x1 0 1 r0 0 0 z H locs ls hr0 hM (lv_sub hl [2, 3, 1, 0] rfl) hq
      · intro x1 x2 x3 r0 t0 t1 z H locs ls hr0 hM hl hq
        have hq : qm_X13_visitsOf_1 K (q_X13_visitsOf K k) x1 x2 x3 r0 t0 t1 z = some (r, z1) := hq
        unfold qm_X13_visitsOf_1 at hq
        refine lv_iload_n hx hb dmX13_visitsOf_4 rfl (lv_at hl 3 rfl) ?_
        refine lv_aload_n hx hb dmX13_visitsOf_5 rfl (lv_at hl 0 rfl) ?_
        refine lv_iload_n hx hb dmX13_visitsOf_6 rfl (lv_at hl 1 rfl) ?_
        refine tw_iald mX_ok hx hb hK hM hr0 hq dmX13_visitsOf_7 (fun v1 hq => ?_)
        refine lv_icmp_gt (tgt := 33) hx hb dmX13_visitsOf_8 (by decide) (fun hc => ?_) (fun hc => ?_)
        · have hq := tw_it hq hc
          refine lv_iload_n hx hb dmX13_visitsOf_33 rfl (lv_at hl 2 rfl) ?_
          exact mw_iret hx hb hr hlocks hM hq hQQ dmX13_visitsOf_34
        · have hq := tw_if hq hc
          refine lv_iload_n hx hb dmX13_visitsOf_11 rfl (lv_at hl 2 rfl) ?_
          refine lv_aload_n hx hb dmX13_visitsOf_12 rfl (lv_at hl 0 rfl) ?_
          refine lv_iload_n hx hb dmX13_visitsOf_13 rfl (lv_at hl 1 rfl) ?_
          refine lv_iload_n hx hb dmX13_visitsOf_14 rfl (lv_at hl 3 rfl) ?_
          refine lv_iadd hx hb dmX13_visitsOf_15 ?_
          refine tw_iald mX_ok hx hb hK hM hr0 hq dmX13_visitsOf_16 (fun v2 hq => ?_)
          refine lv_if_le (tgt := 24) hx hb dmX13_visitsOf_17 (by decide) (fun hc => ?_) (fun hc => ?_)
          · have hq := tw_it hq hc
            refine lv_iconst (v := 0) hx hb dmX13_visitsOf_24 (by decide) ?_
            exact ih_2 x1 x2 x3 r0 0 x2 z H locs ls hr0 hM (lv_sub hl [0, 1, 2, 3] rfl) hq
          · have hq := tw_if hq hc
            refine lv_iconst (v := 1) hx hb dmX13_visitsOf_20 (by decide) ?_
            refine lv_goto (tgt := 25) hx hb dmX13_visitsOf_21 (by decide) ?_
            exact ih_2 x1 x2 x3 r0 1 x2 z H locs ls hr0 hM (lv_sub hl [0, 1, 2, 3] rfl) hq
      · intro x1 x2 x3 r0 t0 t1 z H locs ls hr0 hM hl hq
        have hq : qm_X13_visitsOf_2 K (q_X13_visitsOf K k) x1 x2 x3 r0 t0 t1 z = some (r, z1) := hq
        unfold qm_X13_visitsOf_2 at hq
        refine lv_iadd hx hb dmX13_visitsOf_25 ?_
        refine lv_istore_n (lv' := [(2, .int (t1 + t0)), (0, .ref (u r0)), (1, .int x1), (3, .int x3)]) hx hb dmX13_visitsOf_26 rfl hl (by decide) rfl (fun ls hl => ?_)
        refine lv_iinc (v := (x3 + 1)) (lv' := [(3, .int (x3 + 1)), (2, .int (t1 + t0)), (0, .ref (u r0)), (1, .int x1)]) hx hb dmX13_visitsOf_27 hl (k := 3) rfl rfl (by decide) rfl (fun ls hl => ?_)
        refine lv_goto (tgt := 4) hx hb dmX13_visitsOf_30 (by decide) ?_
        exact ih_1 x1 (t1 + t0) (x3 + 1) r0 0 0 z H locs ls hr0 hM (lv_sub hl [2, 3, 1, 0] rfl) hq
  exact (key K).1 x1 0 0 r0 0 0 z s.heap [] ls hr0 hM (lv_sub hl [0, 1] rfl) hq
theorem dmX13_isLesser_0 : decode cX13_isLesser 0 = .ok (.aload_n 0, 1) := dw_at cX13_isLesser_k0 (p := 0) rfl (by decide +kernel)
theorem dmX13_isLesser_1 : decode cX13_isLesser 1 = .ok (.iload_n 1, 1) := dw_at cX13_isLesser_k0 (p := 1) rfl (by decide +kernel)
theorem dmX13_isLesser_2 : decode cX13_isLesser 2 = .ok (.invokestatic 67, 3) := dw_at cX13_isLesser_k0 (p := 2) rfl (by decide +kernel)
theorem dmX13_isLesser_5 : decode cX13_isLesser 5 = .ok (.istore 4, 2) := dw_at cX13_isLesser_k0 (p := 5) rfl (by decide +kernel)
theorem dmX13_isLesser_7 : decode cX13_isLesser 7 = .ok (.aload_n 2, 1) := dw_at cX13_isLesser_k0 (p := 7) rfl (by decide +kernel)
theorem dmX13_isLesser_8 : decode cX13_isLesser 8 = .ok (.iload_n 3, 1) := dw_at cX13_isLesser_k0 (p := 8) rfl (by decide +kernel)
theorem dmX13_isLesser_9 : decode cX13_isLesser 9 = .ok (.invokestatic 67, 3) := dw_at cX13_isLesser_k0 (p := 9) rfl (by decide +kernel)
theorem dmX13_isLesser_12 : decode cX13_isLesser 12 = .ok (.istore 5, 2) := dw_at cX13_isLesser_k0 (p := 12) rfl (by decide +kernel)
theorem dmX13_isLesser_14 : decode cX13_isLesser 14 = .ok (.iload 4, 2) := dw_at cX13_isLesser_k0 (p := 14) rfl (by decide +kernel)
theorem dmX13_isLesser_16 : decode cX13_isLesser 16 = .ok (.iload 5, 2) := dw_at cX13_isLesser_k0 (p := 16) rfl (by decide +kernel)
theorem dmX13_isLesser_18 : decode cX13_isLesser 18 = .ok (.if_icmp .eq 18, 3) := dw_at cX13_isLesser_k0 (p := 18) rfl (by decide +kernel)
theorem dmX13_isLesser_21 : decode cX13_isLesser 21 = .ok (.iload 4, 2) := dw_at cX13_isLesser_k0 (p := 21) rfl (by decide +kernel)
theorem dmX13_isLesser_23 : decode cX13_isLesser 23 = .ok (.iload 5, 2) := dw_at cX13_isLesser_k0 (p := 23) rfl (by decide +kernel)
theorem dmX13_isLesser_25 : decode cX13_isLesser 25 = .ok (.if_icmp .ge 7, 3) := dw_at cX13_isLesser_k1 (p := 0) rfl (by decide +kernel)
theorem dmX13_isLesser_28 : decode cX13_isLesser 28 = .ok (.iconst 1, 1) := dw_at cX13_isLesser_k1 (p := 3) rfl (by decide +kernel)
theorem dmX13_isLesser_29 : decode cX13_isLesser 29 = .ok (.goto 14, 3) := dw_at cX13_isLesser_k1 (p := 4) rfl (by decide +kernel)
theorem dmX13_isLesser_32 : decode cX13_isLesser 32 = .ok (.iconst 0, 1) := dw_at cX13_isLesser_k1 (p := 7) rfl (by decide +kernel)
theorem dmX13_isLesser_33 : decode cX13_isLesser 33 = .ok (.goto 10, 3) := dw_at cX13_isLesser_k1 (p := 8) rfl (by decide +kernel)
theorem dmX13_isLesser_36 : decode cX13_isLesser 36 = .ok (.aload_n 0, 1) := dw_at cX13_isLesser_k1 (p := 11) rfl (by decide +kernel)
theorem dmX13_isLesser_37 : decode cX13_isLesser 37 = .ok (.iload_n 1, 1) := dw_at cX13_isLesser_k1 (p := 12) rfl (by decide +kernel)
theorem dmX13_isLesser_38 : decode cX13_isLesser 38 = .ok (.aload_n 2, 1) := dw_at cX13_isLesser_k1 (p := 13) rfl (by decide +kernel)
theorem dmX13_isLesser_39 : decode cX13_isLesser 39 = .ok (.iload_n 3, 1) := dw_at cX13_isLesser_k1 (p := 14) rfl (by decide +kernel)
theorem dmX13_isLesser_40 : decode cX13_isLesser 40 = .ok (.invokestatic 57, 3) := dw_at cX13_isLesser_k1 (p := 15) rfl (by decide +kernel)
theorem dmX13_isLesser_43 : decode cX13_isLesser 43 = .ok (.ireturn, 1) := dw_at cX13_isLesser_k1 (p := 18) rfl (by decide +kernel)
def qm_X13_isLesser_0 (K : Nat) (x1 : Int32) (x3 : Int32) (r0 : Nat) (r2 : Nat) (z : ow_MS) : Option (Int32 × ow_MS) :=
 cs1 (qe_X13_visitsOf K r0 x1 z) fun v2 z1 => cs1 (qe_X13_visitsOf K r2 x3 z1) fun v4 z3 => (if v2 = v4 then cs1 (qe_X13_isBelow K r0 x1 r2 x3 z3) fun v6 z5 => okZ v6 (some (v6, z5))
 else (if v4 ≤ v2 then okZ 0 (some (0, z3))
 else okZ 1 (some (1, z3))))
def qe_X13_isLesser (K : Nat) (r0 : Nat) (x1 : Int32) (r2 : Nat) (x3 : Int32) (z : ow_MS) : Option (Int32 × ow_MS) := qm_X13_isLesser_0 K x1 x3 r0 r2 z
abbrev wm_X13_isLesser : List Cond := .code yX13_isLesser cX13_isLesser 6 (some .boolean) :: wM
theorem cd_X13_isLesser : yX13_isLesser.cls ≠ "java/lang/invoke/MethodHandle" ∧ yX13_isLesser.cls ≠ "java/lang/invoke/VarHandle" ∧ (parseMethodDescriptor yX13_isLesser.desc).map (fun d => d.parameters.length) = some 4 := by decide +kernel
set_option maxHeartbeats 4000000 in
set_option maxRecDepth 100000 in
theorem km_X13_isLesser (l : Launch) (D : va_G) (q : ow_Q5) (u : Nat → Nat) (hU : tw_inj mX u) (K : Nat) (r0 : Nat) (x1 : Int32) (r2 : Nat) (x3 : Int32) (hr0 : tw_in mX r0 0) (hr2 : tw_in mX r2 0) (z z1 : ow_MS) (r : Int32) (hq : qe_X13_isLesser K r0 x1 r2 x3 z = some (r, z1)) : Met l yX13_isLesser wm_X13_isLesser ({ frames := 2, cells := 0, slots := 0, locals := 54 } : Room) (va_Pc [.ref (u r0), .int x1, .ref (u r2), .int x3] (mw_pre D q u z)) (va_Qi (fun x (_ : Unit) => x = r) (fun _ t => va_P D vwCl (tw mX q u z1) t.heap) (tw_A mX u)) 0 0 (tw_A mX u) := by
  refine Met.ofW (cc := cX13_isLesser) (maxL := 6) (ret := (some .boolean)) (by decide) rfl ?_
  intro p e s m args below meth c s₁ B hml hv
  obtain ⟨rfl, hP, hK, hN⟩ := hv
  have hx := B.exec
  have hb := B.bytes
  have hr := B.returns
  have hts := atoms_spec (ws := wm_X13_isLesser) B.pre
  have hT : ∀ w ∈ wM, w.before ([.ref (u r0), .int x1, .ref (u r2), .int x3] : List Value).toArray s = true := fun w h => hts w (List.mem_cons_of_mem _ h)
  have hown : s.vm.findClass RX13 = some m.cls := findClass_of_methodNamed B.named
  have hlocks := B.notSynchronized
  have hM : tw_M D vwCl mX q s.heap u z s.heap [] := ⟨hP, va_S.rf⟩
  have hl := lv_entry ([.ref (u r0), .int x1, .ref (u r2), .int x3]) (n := 6) (Nat.le_of_ble_eq_true rfl)
  rw [lg_entry_eq]
  generalize (lg_sl ([.ref (u r0), .int x1, .ref (u r2), .int x3]) ++ List.replicate (6 - (lg_sl ([.ref (u r0), .int x1, .ref (u r2), .int x3])).length) Slot.unset).toArray = ls at hl ⊢
  have hl : lv_has ls 6 [(0, .ref (u r0)), (1, .int x1), (2, .ref (u r2)), (3, .int x3)] := hl
  refine ow_named (fun QQ hQQ => ?_)
  generalize ([.ref (u r0), .int x1, .ref (u r2), .int x3] : List Value).toArray = args at hts hT hQQ ⊢
  have hq : qm_X13_isLesser_0 K x1 x3 r0 r2 z = some (r, z1) := hq
  unfold qm_X13_isLesser_0 at hq
  suffices key : ∀ (H : Heap) (locs : List Loc), tw_M D vwCl mX q s.heap u z H locs → W p l e ({ frames := 2, cells := 0, slots := 0, locals := 54 } : Room) s m args below meth c H locs 0 0 QQ (F0 m 0 ls []) from key s.heap [] hM
  intro H locs hM
  refine lv_aload_n hx hb dmX13_isLesser_0 rfl (lv_at hl 0 rfl) ?_
  refine lv_iload_n hx hb dmX13_isLesser_1 rfl (lv_at hl 1 rfl) ?_
  obtain ⟨v2, z1, hcq, hq⟩ := tw_cl1 hq
  refine tw_cali hM (va_runS (As := [.ref (u r0), .int x1]) (rest := []) ⟨hx, hb, hml, hown, hts⟩ (km_X13_visitsOf l D q u hU K r0 x1 hr0 z z1 v2 hcq) (va_cwS 2 hts (tw_gS wM_good wq_71 wq_72 wq_61 wq_70) rfl rfl rfl cd_X13_visitsOf ⟨(Nat.le_of_ble_eq_true rfl), (Nat.le_of_ble_eq_true rfl)⟩) (mw_preS hK hN hM) rfl rfl hl.1 rfl (lv_room (Nat.le_of_ble_eq_true rfl)) dmX13_isLesser_2 ⟨(Nat.le_of_ble_eq_true rfl), (Nat.le_of_ble_eq_true rfl)⟩) (fun H locs hM => ?_)
  refine lv_istore (lv' := [(4, .int v2), (0, .ref (u r0)), (1, .int x1), (2, .ref (u r2)), (3, .int x3)]) hx hb dmX13_isLesser_5 hl (by decide) rfl (fun ls hl => ?_)
  refine lv_aload_n hx hb dmX13_isLesser_7 rfl (lv_at hl 3 rfl) ?_
  refine lv_iload_n hx hb dmX13_isLesser_8 rfl (lv_at hl 4 rfl) ?_
  obtain ⟨v4, z3, hcq, hq⟩ := tw_cl1 hq
  refine tw_cali hM (va_runS (As := [.ref (u r2), .int x3]) (rest := []) ⟨hx, hb, hml, hown, hts⟩ (km_X13_visitsOf l D q u hU K r2 x3 hr2 z1 z3 v4 hcq) (va_cwS 2 hts (tw_gS wM_good wq_71 wq_72 wq_61 wq_70) rfl rfl rfl cd_X13_visitsOf ⟨(Nat.le_of_ble_eq_true rfl), (Nat.le_of_ble_eq_true rfl)⟩) (mw_preS hK hN hM) rfl rfl hl.1 rfl (lv_room (Nat.le_of_ble_eq_true rfl)) dmX13_isLesser_9 ⟨(Nat.le_of_ble_eq_true rfl), (Nat.le_of_ble_eq_true rfl)⟩) (fun H locs hM => ?_)
  refine lv_istore (lv' := [(5, .int v4), (4, .int v2), (0, .ref (u r0)), (1, .int x1), (2, .ref (u r2)), (3, .int x3)]) hx hb dmX13_isLesser_12 hl (by decide) rfl (fun ls hl => ?_)
  refine lv_iload hx hb dmX13_isLesser_14 (lv_at hl 1 rfl) ?_
  refine lv_iload hx hb dmX13_isLesser_16 (lv_at hl 0 rfl) ?_
  refine lv_icmp_eq (tgt := 36) hx hb dmX13_isLesser_18 (by decide) (fun hc => ?_) (fun hc => ?_)
  · have hq := tw_it hq hc
    refine lv_aload_n hx hb dmX13_isLesser_36 rfl (lv_at hl 2 rfl) ?_
    refine lv_iload_n hx hb dmX13_isLesser_37 rfl (lv_at hl 3 rfl) ?_
    refine lv_aload_n hx hb dmX13_isLesser_38 rfl (lv_at hl 4 rfl) ?_
    refine lv_iload_n hx hb dmX13_isLesser_39 rfl (lv_at hl 5 rfl) ?_
    obtain ⟨v6, z5, hcq, hq⟩ := tw_cl1 hq
    refine tw_cali hM (va_runS (As := [.ref (u r0), .int x1, .ref (u r2), .int x3]) (rest := []) ⟨hx, hb, hml, hown, hts⟩ (km_X13_isBelow l D q u hU K r0 x1 r2 x3 hr0 hr2 z3 z5 v6 hcq) (va_cwS 4 hts (tw_gS wM_good wq_62 wq_63 wq_61 wq_64) rfl rfl rfl cd_X13_isBelow ⟨(Nat.le_of_ble_eq_true rfl), (Nat.le_of_ble_eq_true rfl)⟩) (mw_preS hK hN hM) rfl rfl hl.1 rfl (lv_room (Nat.le_of_ble_eq_true rfl)) dmX13_isLesser_40 ⟨(Nat.le_of_ble_eq_true rfl), (Nat.le_of_ble_eq_true rfl)⟩) (fun H locs hM => ?_)
    obtain ⟨hz, hq⟩ := tw_gZ hq
    exact mw_zret hx hb hr hlocks hM hz hq hQQ dmX13_isLesser_43
  · have hq := tw_if hq hc
    refine lv_iload hx hb dmX13_isLesser_21 (lv_at hl 1 rfl) ?_
    refine lv_iload hx hb dmX13_isLesser_23 (lv_at hl 0 rfl) ?_
    refine lv_icmp_ge (tgt := 32) hx hb dmX13_isLesser_25 (by decide) (fun hc => ?_) (fun hc => ?_)
    · have hq := tw_it hq hc
      refine lv_iconst (v := 0) hx hb dmX13_isLesser_32 (by decide) ?_
      refine lv_goto (tgt := 43) hx hb dmX13_isLesser_33 (by decide) ?_
      obtain ⟨hz, hq⟩ := tw_gZ hq
      exact mw_zret hx hb hr hlocks hM hz hq hQQ dmX13_isLesser_43
    · have hq := tw_if hq hc
      refine lv_iconst (v := 1) hx hb dmX13_isLesser_28 (by decide) ?_
      refine lv_goto (tgt := 43) hx hb dmX13_isLesser_29 (by decide) ?_
      obtain ⟨hz, hq⟩ := tw_gZ hq
      exact mw_zret hx hb hr hlocks hM hz hq hQQ dmX13_isLesser_43
theorem dmX13_isSame_0 : decode cX13_isSame 0 = .ok (.iconst 0, 1) := by decide +kernel
theorem dmX13_isSame_1 : decode cX13_isSame 1 = .ok (.istore 4, 2) := by decide +kernel
theorem dmX13_isSame_3 : decode cX13_isSame 3 = .ok (.iload 4, 2) := by decide +kernel
theorem dmX13_isSame_5 : decode cX13_isSame 5 = .ok (.aload_n 0, 1) := by decide +kernel
theorem dmX13_isSame_6 : decode cX13_isSame 6 = .ok (.iload_n 1, 1) := by decide +kernel
theorem dmX13_isSame_7 : decode cX13_isSame 7 = .ok (.iaload, 1) := by decide +kernel
theorem dmX13_isSame_8 : decode cX13_isSame 8 = .ok (.if_icmp .gt 26, 3) := by decide +kernel
theorem dmX13_isSame_11 : decode cX13_isSame 11 = .ok (.aload_n 0, 1) := by decide +kernel
theorem dmX13_isSame_12 : decode cX13_isSame 12 = .ok (.iload_n 1, 1) := by decide +kernel
theorem dmX13_isSame_13 : decode cX13_isSame 13 = .ok (.iload 4, 2) := by decide +kernel
theorem dmX13_isSame_15 : decode cX13_isSame 15 = .ok (.iadd, 1) := by decide +kernel
theorem dmX13_isSame_16 : decode cX13_isSame 16 = .ok (.iaload, 1) := by decide +kernel
theorem dmX13_isSame_17 : decode cX13_isSame 17 = .ok (.aload_n 2, 1) := by decide +kernel
theorem dmX13_isSame_18 : decode cX13_isSame 18 = .ok (.iload_n 3, 1) := by decide +kernel
theorem dmX13_isSame_19 : decode cX13_isSame 19 = .ok (.iload 4, 2) := by decide +kernel
theorem dmX13_isSame_21 : decode cX13_isSame 21 = .ok (.iadd, 1) := by decide +kernel
theorem dmX13_isSame_22 : decode cX13_isSame 22 = .ok (.iaload, 1) := by decide +kernel
theorem dmX13_isSame_23 : decode cX13_isSame 23 = .ok (.if_icmp .eq 5, 3) := by decide +kernel
theorem dmX13_isSame_26 : decode cX13_isSame 26 = .ok (.iconst 0, 1) := by decide +kernel
theorem dmX13_isSame_27 : decode cX13_isSame 27 = .ok (.ireturn, 1) := by decide +kernel
theorem dmX13_isSame_28 : decode cX13_isSame 28 = .ok (.iinc 4 1, 3) := by decide +kernel
theorem dmX13_isSame_31 : decode cX13_isSame 31 = .ok (.goto (-28), 3) := by decide +kernel
theorem dmX13_isSame_34 : decode cX13_isSame 34 = .ok (.iconst 1, 1) := by decide +kernel
theorem dmX13_isSame_35 : decode cX13_isSame 35 = .ok (.ireturn, 1) := by decide +kernel
def qm_X13_isSame_0 (K : Nat) (go : Nat → Int32 → Int32 → Int32 → Nat → Nat → ow_MS → Option (Int32 × ow_MS)) (x1 : Int32) (x3 : Int32) (x4 : Int32) (r0 : Nat) (r2 : Nat) (z : ow_MS) : Option (Int32 × ow_MS) :=
 go 1 x1 x3 0 r0 r2 z
def qm_X13_isSame_1 (K : Nat) (go : Nat → Int32 → Int32 → Int32 → Nat → Nat → ow_MS → Option (Int32 × ow_MS)) (x1 : Int32) (x3 : Int32) (x4 : Int32) (r0 : Nat) (r2 : Nat) (z : ow_MS) : Option (Int32 × ow_MS) :=
 rdI mX z r0 x1 fun v1 => (if v1 < x4 then okZ 1 (some (1, z))
 else rdI mX z r0 (x1 + x4) fun v2 => rdI mX z r2 (x3 + x4) fun v3 => (if v2 = v3 then go 1 x1 x3 (x4 + 1) r0 r2 z
 else okZ 0 (some (0, z))))
def qb_X13_isSame (K : Nat) (go : Nat → Int32 → Int32 → Int32 → Nat → Nat → ow_MS → Option (Int32 × ow_MS)) (L : Nat) (x1 : Int32) (x3 : Int32) (x4 : Int32) (r0 : Nat) (r2 : Nat) (z : ow_MS) : Option (Int32 × ow_MS) := match L with
  | 0 => qm_X13_isSame_0 K go x1 x3 x4 r0 r2 z
  | 1 => qm_X13_isSame_1 K go x1 x3 x4 r0 r2 z
  | _ => none
def q_X13_isSame (K : Nat) : Nat → Nat → Int32 → Int32 → Int32 → Nat → Nat → ow_MS → Option (Int32 × ow_MS)
  | 0 => fun _ _ _ _ _ _ _ => none
  | k + 1 => qb_X13_isSame K (q_X13_isSame K k)
def qe_X13_isSame (K : Nat) (r0 : Nat) (x1 : Int32) (r2 : Nat) (x3 : Int32) (z : ow_MS) : Option (Int32 × ow_MS) := q_X13_isSame K K 0 x1 x3 0 r0 r2 z
abbrev wm_X13_isSame : List Cond := .code yX13_isSame cX13_isSame 5 (some .boolean) :: wM
theorem cd_X13_isSame : yX13_isSame.cls ≠ "java/lang/invoke/MethodHandle" ∧ yX13_isSame.cls ≠ "java/lang/invoke/VarHandle" ∧ (parseMethodDescriptor yX13_isSame.desc).map (fun d => d.parameters.length) = some 4 := by decide +kernel
set_option maxHeartbeats 4000000 in
set_option maxRecDepth 100000 in
theorem km_X13_isSame (l : Launch) (D : va_G) (q : ow_Q5) (u : Nat → Nat) (hU : tw_inj mX u) (K : Nat) (r0 : Nat) (x1 : Int32) (r2 : Nat) (x3 : Int32) (hr0 : tw_in mX r0 0) (hr2 : tw_in mX r2 0) (z z1 : ow_MS) (r : Int32) (hq : qe_X13_isSame K r0 x1 r2 x3 z = some (r, z1)) : Met l yX13_isSame wm_X13_isSame ({ frames := 0, cells := 0, slots := 0, locals := 0 } : Room) (va_Pc [.ref (u r0), .int x1, .ref (u r2), .int x3] (mw_pre D q u z)) (va_Qi (fun x (_ : Unit) => x = r) (fun _ t => va_P D vwCl (tw mX q u z1) t.heap) (tw_A mX u)) 0 0 (tw_A mX u) := by
  refine Met.ofW (cc := cX13_isSame) (maxL := 5) (ret := (some .boolean)) (by decide) rfl ?_
  intro p e s m args below meth c s₁ B hml hv
  obtain ⟨rfl, hP, hK, hN⟩ := hv
  have hx := B.exec
  have hb := B.bytes
  have hr := B.returns
  have hts := atoms_spec (ws := wm_X13_isSame) B.pre
  have hT : ∀ w ∈ wM, w.before ([.ref (u r0), .int x1, .ref (u r2), .int x3] : List Value).toArray s = true := fun w h => hts w (List.mem_cons_of_mem _ h)
  have hown : s.vm.findClass RX13 = some m.cls := findClass_of_methodNamed B.named
  have hlocks := B.notSynchronized
  have hM : tw_M D vwCl mX q s.heap u z s.heap [] := ⟨hP, va_S.rf⟩
  have hl := lv_entry ([.ref (u r0), .int x1, .ref (u r2), .int x3]) (n := 5) (Nat.le_of_ble_eq_true rfl)
  rw [lg_entry_eq]
  generalize (lg_sl ([.ref (u r0), .int x1, .ref (u r2), .int x3]) ++ List.replicate (5 - (lg_sl ([.ref (u r0), .int x1, .ref (u r2), .int x3])).length) Slot.unset).toArray = ls at hl ⊢
  have hl : lv_has ls 5 [(0, .ref (u r0)), (1, .int x1), (2, .ref (u r2)), (3, .int x3)] := hl
  refine ow_named (fun QQ hQQ => ?_)
  generalize ([.ref (u r0), .int x1, .ref (u r2), .int x3] : List Value).toArray = args at hts hT hQQ ⊢
  have key : ∀ k : Nat, (∀ (x1 : Int32) (x3 : Int32) (x4 : Int32) (r0 : Nat) (r2 : Nat) (z : ow_MS) (H : Heap) (locs : List Loc) (ls : Array Slot), tw_in mX r0 0 → tw_in mX r2 0 → tw_M D vwCl mX q s.heap u z H locs → lv_has ls 5 [(0, .ref (u r0)), (1, .int x1), (2, .ref (u r2)), (3, .int x3)] → q_X13_isSame K k 0 x1 x3 x4 r0 r2 z = some (r, z1) → W p l e ({ frames := 0, cells := 0, slots := 0, locals := 0 } : Room) s m args below meth c H locs 0 0 QQ (F0 m 0 ls [])) ∧ (∀ (x1 : Int32) (x3 : Int32) (x4 : Int32) (r0 : Nat) (r2 : Nat) (z : ow_MS) (H : Heap) (locs : List Loc) (ls : Array Slot), tw_in mX r0 0 → tw_in mX r2 0 → tw_M D vwCl mX q s.heap u z H locs → lv_has ls 5 [(0, .ref (u r0)), (1, .int x1), (2, .ref (u r2)), (3, .int x3), (4, .int x4)] → q_X13_isSame K k 1 x1 x3 x4 r0 r2 z = some (r, z1) → W p l e ({ frames := 0, cells := 0, slots := 0, locals := 0 } : Room) s m args below meth c H locs 0 0 QQ (F0 m 3 ls [])) := by
    intro k
    induction k with
    | zero => exact ⟨fun _ _ _ _ _ _ _ _ _ _ _ _ _ hq => tw_no hq, fun _ _ _ _ _ _ _ _ _ _ _ _ _ hq => tw_no hq⟩
    | succ k ih =>
      obtain ⟨ih_0, ih_1⟩ := ih
      refine ⟨?_, ?_⟩
      · intro x1 x3 x4 r0 r2 z H locs ls hr0 hr2 hM hl hq
        have hq : qm_X13_isSame_0 K (q_X13_isSame K k) x1 x3 x4 r0 r2 z = some (r, z1) := hq
        unfold qm_X13_isSame_0 at hq
        refine lv_iconst (v := 0) hx hb dmX13_isSame_0 (by decide) ?_
        refine lv_istore (lv' := [(4, .int 0), (0, .ref (u r0)), (1, .int x1), (2, .ref (u r2)), (3, .int x3)]) hx hb dmX13_isSame_1 hl (by decide) rfl (fun ls hl => ?_)
        exact ih_1 x1 x3 0 r0 r2 z H locs ls hr0 hr2 hM (lv_sub hl [1, 2, 3, 4, 0] rfl) hq
      · intro x1 x3 x4 r0 r2 z H locs ls hr0 hr2 hM hl hq
        have hq : qm_X13_isSame_1 K (q_X13_isSame K k) x1 x3 x4 r0 r2 z = some (r, z1) := hq
        unfold qm_X13_isSame_1 at hq
        refine lv_iload hx hb dmX13_isSame_3 (lv_at hl 4 rfl) ?_
        refine lv_aload_n hx hb dmX13_isSame_5 rfl (lv_at hl 0 rfl) ?_
        refine lv_iload_n hx hb dmX13_isSame_6 rfl (lv_at hl 1 rfl) ?_
        refine tw_iald mX_ok hx hb hK hM hr0 hq dmX13_isSame_7 (fun v1 hq => ?_)
        refine lv_icmp_gt (tgt := 34) hx hb dmX13_isSame_8 (by decide) (fun hc => ?_) (fun hc => ?_)
        · have hq := tw_it hq hc
          refine lv_iconst (v := 1) hx hb dmX13_isSame_34 (by decide) ?_
          obtain ⟨hz, hq⟩ := tw_gZ hq
          exact mw_zret hx hb hr hlocks hM hz hq hQQ dmX13_isSame_35
        · have hq := tw_if hq hc
          refine lv_aload_n hx hb dmX13_isSame_11 rfl (lv_at hl 0 rfl) ?_
          refine lv_iload_n hx hb dmX13_isSame_12 rfl (lv_at hl 1 rfl) ?_
          refine lv_iload hx hb dmX13_isSame_13 (lv_at hl 4 rfl) ?_
          refine lv_iadd hx hb dmX13_isSame_15 ?_
          refine tw_iald mX_ok hx hb hK hM hr0 hq dmX13_isSame_16 (fun v2 hq => ?_)
          refine lv_aload_n hx hb dmX13_isSame_17 rfl (lv_at hl 2 rfl) ?_
          refine lv_iload_n hx hb dmX13_isSame_18 rfl (lv_at hl 3 rfl) ?_
          refine lv_iload hx hb dmX13_isSame_19 (lv_at hl 4 rfl) ?_
          refine lv_iadd hx hb dmX13_isSame_21 ?_
          refine tw_iald mX_ok hx hb hK hM hr2 hq dmX13_isSame_22 (fun v3 hq => ?_)
          refine lv_icmp_eq (tgt := 28) hx hb dmX13_isSame_23 (by decide) (fun hc => ?_) (fun hc => ?_)
          · have hq := tw_it hq hc
            refine lv_iinc (v := (x4 + 1)) (lv' := [(4, .int (x4 + 1)), (0, .ref (u r0)), (1, .int x1), (2, .ref (u r2)), (3, .int x3)]) hx hb dmX13_isSame_28 hl (k := 4) rfl rfl (by decide) rfl (fun ls hl => ?_)
            refine lv_goto (tgt := 3) hx hb dmX13_isSame_31 (by decide) ?_
            exact ih_1 x1 x3 (x4 + 1) r0 r2 z H locs ls hr0 hr2 hM (lv_sub hl [1, 2, 3, 4, 0] rfl) hq
          · have hq := tw_if hq hc
            refine lv_iconst (v := 0) hx hb dmX13_isSame_26 (by decide) ?_
            obtain ⟨hz, hq⟩ := tw_gZ hq
            exact mw_zret hx hb hr hlocks hM hz hq hQQ dmX13_isSame_27
  exact (key K).1 x1 x3 0 r0 r2 z s.heap [] ls hr0 hr2 hM (lv_sub hl [0, 1, 2, 3] rfl) hq
theorem dmX13_pack_0 : decode cX13_pack 0 = .ok (.aload_n 1, 1) := dw_at cX13_pack_k0 (p := 0) rfl (by decide +kernel)
theorem dmX13_pack_1 : decode cX13_pack 1 = .ok (.invokevirtual 71, 3) := dw_at cX13_pack_k0 (p := 1) rfl (by decide +kernel)
theorem dmX13_pack_4 : decode cX13_pack 4 = .ok (.aload_n 1, 1) := dw_at cX13_pack_k0 (p := 4) rfl (by decide +kernel)
theorem dmX13_pack_5 : decode cX13_pack 5 = .ok (.invokevirtual 75, 3) := dw_at cX13_pack_k0 (p := 5) rfl (by decide +kernel)
theorem dmX13_pack_8 : decode cX13_pack 8 = .ok (.iconst 0, 1) := dw_at cX13_pack_k0 (p := 8) rfl (by decide +kernel)
theorem dmX13_pack_9 : decode cX13_pack 9 = .ok (.istore 4, 2) := dw_at cX13_pack_k0 (p := 9) rfl (by decide +kernel)
theorem dmX13_pack_11 : decode cX13_pack 11 = .ok (.iconst 0, 1) := dw_at cX13_pack_k0 (p := 11) rfl (by decide +kernel)
theorem dmX13_pack_12 : decode cX13_pack 12 = .ok (.istore 5, 2) := dw_at cX13_pack_k0 (p := 12) rfl (by decide +kernel)
theorem dmX13_pack_14 : decode cX13_pack 14 = .ok (.iconst 0, 1) := dw_at cX13_pack_k0 (p := 14) rfl (by decide +kernel)
theorem dmX13_pack_15 : decode cX13_pack 15 = .ok (.istore 6, 2) := dw_at cX13_pack_k0 (p := 15) rfl (by decide +kernel)
theorem dmX13_pack_17 : decode cX13_pack 17 = .ok (.iload 6, 2) := dw_at cX13_pack_k0 (p := 17) rfl (by decide +kernel)
theorem dmX13_pack_19 : decode cX13_pack 19 = .ok (.aload_n 1, 1) := dw_at cX13_pack_k0 (p := 19) rfl (by decide +kernel)
theorem dmX13_pack_20 : decode cX13_pack 20 = .ok (.getfield 78, 3) := dw_at cX13_pack_k0 (p := 20) rfl (by decide +kernel)
theorem dmX13_pack_23 : decode cX13_pack 23 = .ok (.if_icmp .ge 54, 3) := dw_at cX13_pack_k0 (p := 23) rfl (by decide +kernel)
theorem dmX13_pack_26 : decode cX13_pack 26 = .ok (.aload_n 0, 1) := dw_at cX13_pack_k1 (p := 0) rfl (by decide +kernel)
theorem dmX13_pack_27 : decode cX13_pack 27 = .ok (.aload_n 1, 1) := dw_at cX13_pack_k1 (p := 1) rfl (by decide +kernel)
theorem dmX13_pack_28 : decode cX13_pack 28 = .ok (.iload 6, 2) := dw_at cX13_pack_k1 (p := 2) rfl (by decide +kernel)
theorem dmX13_pack_30 : decode cX13_pack 30 = .ok (.bipush 32, 2) := dw_at cX13_pack_k1 (p := 4) rfl (by decide +kernel)
theorem dmX13_pack_32 : decode cX13_pack 32 = .ok (.iload 4, 2) := dw_at cX13_pack_k1 (p := 6) rfl (by decide +kernel)
theorem dmX13_pack_34 : decode cX13_pack 34 = .ok (.imul, 1) := dw_at cX13_pack_k1 (p := 8) rfl (by decide +kernel)
theorem dmX13_pack_35 : decode cX13_pack 35 = .ok (.invokevirtual 81, 3) := dw_at cX13_pack_k1 (p := 9) rfl (by decide +kernel)
theorem dmX13_pack_38 : decode cX13_pack 38 = .ok (.istore 7, 2) := dw_at cX13_pack_k1 (p := 12) rfl (by decide +kernel)
theorem dmX13_pack_40 : decode cX13_pack 40 = .ok (.iload 7, 2) := dw_at cX13_pack_k1 (p := 14) rfl (by decide +kernel)
theorem dmX13_pack_42 : decode cX13_pack 42 = .ok (.ifCond .ne 9, 3) := dw_at cX13_pack_k1 (p := 16) rfl (by decide +kernel)
theorem dmX13_pack_45 : decode cX13_pack 45 = .ok (.iinc 5 1, 3) := dw_at cX13_pack_k1 (p := 19) rfl (by decide +kernel)
theorem dmX13_pack_48 : decode cX13_pack 48 = .ok (.goto 23, 3) := dw_at cX13_pack_k1 (p := 22) rfl (by decide +kernel)
theorem dmX13_pack_51 : decode cX13_pack 51 = .ok (.aload_n 0, 1) := dw_at cX13_pack_k2 (p := 0) rfl (by decide +kernel)
theorem dmX13_pack_52 : decode cX13_pack 52 = .ok (.getfield 85, 3) := dw_at cX13_pack_k2 (p := 1) rfl (by decide +kernel)
theorem dmX13_pack_55 : decode cX13_pack 55 = .ok (.iload 4, 2) := dw_at cX13_pack_k2 (p := 4) rfl (by decide +kernel)
theorem dmX13_pack_57 : decode cX13_pack 57 = .ok (.iload 7, 2) := dw_at cX13_pack_k2 (p := 6) rfl (by decide +kernel)
theorem dmX13_pack_59 : decode cX13_pack 59 = .ok (.iastore, 1) := dw_at cX13_pack_k2 (p := 8) rfl (by decide +kernel)
theorem dmX13_pack_60 : decode cX13_pack 60 = .ok (.aload_n 0, 1) := dw_at cX13_pack_k2 (p := 9) rfl (by decide +kernel)
theorem dmX13_pack_61 : decode cX13_pack 61 = .ok (.getfield 88, 3) := dw_at cX13_pack_k2 (p := 10) rfl (by decide +kernel)
theorem dmX13_pack_64 : decode cX13_pack 64 = .ok (.iload 4, 2) := dw_at cX13_pack_k2 (p := 13) rfl (by decide +kernel)
theorem dmX13_pack_66 : decode cX13_pack 66 = .ok (.iconst 0, 1) := dw_at cX13_pack_k2 (p := 15) rfl (by decide +kernel)
theorem dmX13_pack_67 : decode cX13_pack 67 = .ok (.bastore, 1) := dw_at cX13_pack_k2 (p := 16) rfl (by decide +kernel)
theorem dmX13_pack_68 : decode cX13_pack 68 = .ok (.iinc 4 1, 3) := dw_at cX13_pack_k2 (p := 17) rfl (by decide +kernel)
theorem dmX13_pack_71 : decode cX13_pack 71 = .ok (.iinc 6 1, 3) := dw_at cX13_pack_k2 (p := 20) rfl (by decide +kernel)
theorem dmX13_pack_74 : decode cX13_pack 74 = .ok (.goto (-57), 3) := dw_at cX13_pack_k2 (p := 23) rfl (by decide +kernel)
theorem dmX13_pack_77 : decode cX13_pack 77 = .ok (.iconst 0, 1) := dw_at cX13_pack_k3 (p := 0) rfl (by decide +kernel)
theorem dmX13_pack_78 : decode cX13_pack 78 = .ok (.istore 6, 2) := dw_at cX13_pack_k3 (p := 1) rfl (by decide +kernel)
theorem dmX13_pack_80 : decode cX13_pack 80 = .ok (.iconst 0, 1) := dw_at cX13_pack_k3 (p := 3) rfl (by decide +kernel)
theorem dmX13_pack_81 : decode cX13_pack 81 = .ok (.istore 7, 2) := dw_at cX13_pack_k3 (p := 4) rfl (by decide +kernel)
theorem dmX13_pack_83 : decode cX13_pack 83 = .ok (.iconst 0, 1) := dw_at cX13_pack_k3 (p := 6) rfl (by decide +kernel)
theorem dmX13_pack_84 : decode cX13_pack 84 = .ok (.istore 8, 2) := dw_at cX13_pack_k3 (p := 7) rfl (by decide +kernel)
theorem dmX13_pack_86 : decode cX13_pack 86 = .ok (.iload 8, 2) := dw_at cX13_pack_k3 (p := 9) rfl (by decide +kernel)
theorem dmX13_pack_88 : decode cX13_pack 88 = .ok (.iload 4, 2) := dw_at cX13_pack_k3 (p := 11) rfl (by decide +kernel)
theorem dmX13_pack_90 : decode cX13_pack 90 = .ok (.if_icmp .ge 192, 3) := dw_at cX13_pack_k3 (p := 13) rfl (by decide +kernel)
theorem dmX13_pack_93 : decode cX13_pack 93 = .ok (.iconst (-1), 1) := dw_at cX13_pack_k3 (p := 16) rfl (by decide +kernel)
theorem dmX13_pack_94 : decode cX13_pack 94 = .ok (.istore 9, 2) := dw_at cX13_pack_k3 (p := 17) rfl (by decide +kernel)
theorem dmX13_pack_96 : decode cX13_pack 96 = .ok (.iconst 0, 1) := dw_at cX13_pack_k3 (p := 19) rfl (by decide +kernel)
theorem dmX13_pack_97 : decode cX13_pack 97 = .ok (.istore 10, 2) := dw_at cX13_pack_k3 (p := 20) rfl (by decide +kernel)
theorem dmX13_pack_99 : decode cX13_pack 99 = .ok (.iload 10, 2) := dw_at cX13_pack_k3 (p := 22) rfl (by decide +kernel)
theorem dmX13_pack_101 : decode cX13_pack 101 = .ok (.iload 4, 2) := dw_at cX13_pack_k4 (p := 0) rfl (by decide +kernel)
theorem dmX13_pack_103 : decode cX13_pack 103 = .ok (.if_icmp .ge 87, 3) := dw_at cX13_pack_k4 (p := 2) rfl (by decide +kernel)
theorem dmX13_pack_106 : decode cX13_pack 106 = .ok (.aload_n 0, 1) := dw_at cX13_pack_k4 (p := 5) rfl (by decide +kernel)
theorem dmX13_pack_107 : decode cX13_pack 107 = .ok (.getfield 88, 3) := dw_at cX13_pack_k4 (p := 6) rfl (by decide +kernel)
theorem dmX13_pack_110 : decode cX13_pack 110 = .ok (.iload 10, 2) := dw_at cX13_pack_k4 (p := 9) rfl (by decide +kernel)
theorem dmX13_pack_112 : decode cX13_pack 112 = .ok (.baload, 1) := dw_at cX13_pack_k4 (p := 11) rfl (by decide +kernel)
theorem dmX13_pack_113 : decode cX13_pack 113 = .ok (.ifCond .ne 71, 3) := dw_at cX13_pack_k4 (p := 12) rfl (by decide +kernel)
theorem dmX13_pack_116 : decode cX13_pack 116 = .ok (.iload 9, 2) := dw_at cX13_pack_k4 (p := 15) rfl (by decide +kernel)
theorem dmX13_pack_118 : decode cX13_pack 118 = .ok (.iconst (-1), 1) := dw_at cX13_pack_k4 (p := 17) rfl (by decide +kernel)
theorem dmX13_pack_119 : decode cX13_pack 119 = .ok (.if_icmp .eq 61, 3) := dw_at cX13_pack_k4 (p := 18) rfl (by decide +kernel)
theorem dmX13_pack_122 : decode cX13_pack 122 = .ok (.aload_n 0, 1) := dw_at cX13_pack_k4 (p := 21) rfl (by decide +kernel)
theorem dmX13_pack_123 : decode cX13_pack 123 = .ok (.getfield 85, 3) := dw_at cX13_pack_k4 (p := 22) rfl (by decide +kernel)
theorem dmX13_pack_126 : decode cX13_pack 126 = .ok (.iload 10, 2) := dw_at cX13_pack_k5 (p := 0) rfl (by decide +kernel)
theorem dmX13_pack_128 : decode cX13_pack 128 = .ok (.iaload, 1) := dw_at cX13_pack_k5 (p := 2) rfl (by decide +kernel)
theorem dmX13_pack_129 : decode cX13_pack 129 = .ok (.aload_n 0, 1) := dw_at cX13_pack_k5 (p := 3) rfl (by decide +kernel)
theorem dmX13_pack_130 : decode cX13_pack 130 = .ok (.getfield 85, 3) := dw_at cX13_pack_k5 (p := 4) rfl (by decide +kernel)
theorem dmX13_pack_133 : decode cX13_pack 133 = .ok (.iload 9, 2) := dw_at cX13_pack_k5 (p := 7) rfl (by decide +kernel)
theorem dmX13_pack_135 : decode cX13_pack 135 = .ok (.iaload, 1) := dw_at cX13_pack_k5 (p := 9) rfl (by decide +kernel)
theorem dmX13_pack_136 : decode cX13_pack 136 = .ok (.if_icmp .lt 44, 3) := dw_at cX13_pack_k5 (p := 10) rfl (by decide +kernel)
theorem dmX13_pack_139 : decode cX13_pack 139 = .ok (.aload_n 0, 1) := dw_at cX13_pack_k5 (p := 13) rfl (by decide +kernel)
theorem dmX13_pack_140 : decode cX13_pack 140 = .ok (.getfield 85, 3) := dw_at cX13_pack_k5 (p := 14) rfl (by decide +kernel)
theorem dmX13_pack_143 : decode cX13_pack 143 = .ok (.iload 10, 2) := dw_at cX13_pack_k5 (p := 17) rfl (by decide +kernel)
theorem dmX13_pack_145 : decode cX13_pack 145 = .ok (.iaload, 1) := dw_at cX13_pack_k5 (p := 19) rfl (by decide +kernel)
theorem dmX13_pack_146 : decode cX13_pack 146 = .ok (.aload_n 0, 1) := dw_at cX13_pack_k5 (p := 20) rfl (by decide +kernel)
theorem dmX13_pack_147 : decode cX13_pack 147 = .ok (.getfield 85, 3) := dw_at cX13_pack_k5 (p := 21) rfl (by decide +kernel)
theorem dmX13_pack_150 : decode cX13_pack 150 = .ok (.iload 9, 2) := dw_at cX13_pack_k6 (p := 0) rfl (by decide +kernel)
theorem dmX13_pack_152 : decode cX13_pack 152 = .ok (.iaload, 1) := dw_at cX13_pack_k6 (p := 2) rfl (by decide +kernel)
theorem dmX13_pack_153 : decode cX13_pack 153 = .ok (.if_icmp .ne 31, 3) := dw_at cX13_pack_k6 (p := 3) rfl (by decide +kernel)
theorem dmX13_pack_156 : decode cX13_pack 156 = .ok (.aload_n 0, 1) := dw_at cX13_pack_k6 (p := 6) rfl (by decide +kernel)
theorem dmX13_pack_157 : decode cX13_pack 157 = .ok (.getfield 54, 3) := dw_at cX13_pack_k6 (p := 7) rfl (by decide +kernel)
theorem dmX13_pack_160 : decode cX13_pack 160 = .ok (.bipush 32, 2) := dw_at cX13_pack_k6 (p := 10) rfl (by decide +kernel)
theorem dmX13_pack_162 : decode cX13_pack 162 = .ok (.iload 10, 2) := dw_at cX13_pack_k6 (p := 12) rfl (by decide +kernel)
theorem dmX13_pack_164 : decode cX13_pack 164 = .ok (.imul, 1) := dw_at cX13_pack_k6 (p := 14) rfl (by decide +kernel)
theorem dmX13_pack_165 : decode cX13_pack 165 = .ok (.aload_n 0, 1) := dw_at cX13_pack_k6 (p := 15) rfl (by decide +kernel)
theorem dmX13_pack_166 : decode cX13_pack 166 = .ok (.getfield 54, 3) := dw_at cX13_pack_k6 (p := 16) rfl (by decide +kernel)
theorem dmX13_pack_169 : decode cX13_pack 169 = .ok (.bipush 32, 2) := dw_at cX13_pack_k6 (p := 19) rfl (by decide +kernel)
theorem dmX13_pack_171 : decode cX13_pack 171 = .ok (.iload 9, 2) := dw_at cX13_pack_k6 (p := 21) rfl (by decide +kernel)
theorem dmX13_pack_173 : decode cX13_pack 173 = .ok (.imul, 1) := dw_at cX13_pack_k6 (p := 23) rfl (by decide +kernel)
theorem dmX13_pack_174 : decode cX13_pack 174 = .ok (.invokestatic 57, 3) := dw_at cX13_pack_k7 (p := 0) rfl (by decide +kernel)
theorem dmX13_pack_177 : decode cX13_pack 177 = .ok (.ifCond .eq 7, 3) := dw_at cX13_pack_k7 (p := 3) rfl (by decide +kernel)
theorem dmX13_pack_180 : decode cX13_pack 180 = .ok (.iload 10, 2) := dw_at cX13_pack_k7 (p := 6) rfl (by decide +kernel)
theorem dmX13_pack_182 : decode cX13_pack 182 = .ok (.istore 9, 2) := dw_at cX13_pack_k7 (p := 8) rfl (by decide +kernel)
theorem dmX13_pack_184 : decode cX13_pack 184 = .ok (.iinc 10 1, 3) := dw_at cX13_pack_k7 (p := 10) rfl (by decide +kernel)
theorem dmX13_pack_187 : decode cX13_pack 187 = .ok (.goto (-88), 3) := dw_at cX13_pack_k7 (p := 13) rfl (by decide +kernel)
theorem dmX13_pack_190 : decode cX13_pack 190 = .ok (.aload_n 0, 1) := dw_at cX13_pack_k7 (p := 16) rfl (by decide +kernel)
theorem dmX13_pack_191 : decode cX13_pack 191 = .ok (.getfield 88, 3) := dw_at cX13_pack_k7 (p := 17) rfl (by decide +kernel)
theorem dmX13_pack_194 : decode cX13_pack 194 = .ok (.iload 9, 2) := dw_at cX13_pack_k7 (p := 20) rfl (by decide +kernel)
theorem dmX13_pack_196 : decode cX13_pack 196 = .ok (.iconst 1, 1) := dw_at cX13_pack_k7 (p := 22) rfl (by decide +kernel)
theorem dmX13_pack_197 : decode cX13_pack 197 = .ok (.bastore, 1) := dw_at cX13_pack_k7 (p := 23) rfl (by decide +kernel)
theorem dmX13_pack_198 : decode cX13_pack 198 = .ok (.iconst 1, 1) := dw_at cX13_pack_k8 (p := 0) rfl (by decide +kernel)
theorem dmX13_pack_199 : decode cX13_pack 199 = .ok (.istore 10, 2) := dw_at cX13_pack_k8 (p := 1) rfl (by decide +kernel)
theorem dmX13_pack_201 : decode cX13_pack 201 = .ok (.iload 10, 2) := dw_at cX13_pack_k8 (p := 3) rfl (by decide +kernel)
theorem dmX13_pack_203 : decode cX13_pack 203 = .ok (.aload_n 0, 1) := dw_at cX13_pack_k8 (p := 5) rfl (by decide +kernel)
theorem dmX13_pack_204 : decode cX13_pack 204 = .ok (.getfield 54, 3) := dw_at cX13_pack_k8 (p := 6) rfl (by decide +kernel)
theorem dmX13_pack_207 : decode cX13_pack 207 = .ok (.bipush 32, 2) := dw_at cX13_pack_k8 (p := 9) rfl (by decide +kernel)
theorem dmX13_pack_209 : decode cX13_pack 209 = .ok (.iload 9, 2) := dw_at cX13_pack_k8 (p := 11) rfl (by decide +kernel)
theorem dmX13_pack_211 : decode cX13_pack 211 = .ok (.imul, 1) := dw_at cX13_pack_k8 (p := 13) rfl (by decide +kernel)
theorem dmX13_pack_212 : decode cX13_pack 212 = .ok (.iaload, 1) := dw_at cX13_pack_k8 (p := 14) rfl (by decide +kernel)
theorem dmX13_pack_213 : decode cX13_pack 213 = .ok (.if_icmp .gt 49, 3) := dw_at cX13_pack_k8 (p := 15) rfl (by decide +kernel)
theorem dmX13_pack_216 : decode cX13_pack 216 = .ok (.aload_n 0, 1) := dw_at cX13_pack_k8 (p := 18) rfl (by decide +kernel)
theorem dmX13_pack_217 : decode cX13_pack 217 = .ok (.getfield 54, 3) := dw_at cX13_pack_k8 (p := 19) rfl (by decide +kernel)
theorem dmX13_pack_220 : decode cX13_pack 220 = .ok (.bipush 32, 2) := dw_at cX13_pack_k8 (p := 22) rfl (by decide +kernel)
theorem dmX13_pack_222 : decode cX13_pack 222 = .ok (.iload 9, 2) := dw_at cX13_pack_k9 (p := 0) rfl (by decide +kernel)
theorem dmX13_pack_224 : decode cX13_pack 224 = .ok (.imul, 1) := dw_at cX13_pack_k9 (p := 2) rfl (by decide +kernel)
theorem dmX13_pack_225 : decode cX13_pack 225 = .ok (.iload 10, 2) := dw_at cX13_pack_k9 (p := 3) rfl (by decide +kernel)
theorem dmX13_pack_227 : decode cX13_pack 227 = .ok (.iadd, 1) := dw_at cX13_pack_k9 (p := 5) rfl (by decide +kernel)
theorem dmX13_pack_228 : decode cX13_pack 228 = .ok (.iaload, 1) := dw_at cX13_pack_k9 (p := 6) rfl (by decide +kernel)
theorem dmX13_pack_229 : decode cX13_pack 229 = .ok (.istore 11, 2) := dw_at cX13_pack_k9 (p := 7) rfl (by decide +kernel)
theorem dmX13_pack_231 : decode cX13_pack 231 = .ok (.iinc 6 1, 3) := dw_at cX13_pack_k9 (p := 9) rfl (by decide +kernel)
theorem dmX13_pack_234 : decode cX13_pack 234 = .ok (.aload_n 2, 1) := dw_at cX13_pack_k9 (p := 12) rfl (by decide +kernel)
theorem dmX13_pack_235 : decode cX13_pack 235 = .ok (.iload_n 3, 1) := dw_at cX13_pack_k9 (p := 13) rfl (by decide +kernel)
theorem dmX13_pack_236 : decode cX13_pack 236 = .ok (.iload 6, 2) := dw_at cX13_pack_k9 (p := 14) rfl (by decide +kernel)
theorem dmX13_pack_238 : decode cX13_pack 238 = .ok (.iadd, 1) := dw_at cX13_pack_k9 (p := 16) rfl (by decide +kernel)
theorem dmX13_pack_239 : decode cX13_pack 239 = .ok (.iload 11, 2) := dw_at cX13_pack_k9 (p := 17) rfl (by decide +kernel)
theorem dmX13_pack_241 : decode cX13_pack 241 = .ok (.ifCond .ne 7, 3) := dw_at cX13_pack_k9 (p := 19) rfl (by decide +kernel)
theorem dmX13_pack_244 : decode cX13_pack 244 = .ok (.iconst 0, 1) := dw_at cX13_pack_k9 (p := 22) rfl (by decide +kernel)
theorem dmX13_pack_245 : decode cX13_pack 245 = .ok (.goto 10, 3) := dw_at cX13_pack_k9 (p := 23) rfl (by decide +kernel)
theorem dmX13_pack_248 : decode cX13_pack 248 = .ok (.iload 11, 2) := dw_at cX13_pack_k10 (p := 0) rfl (by decide +kernel)
theorem dmX13_pack_250 : decode cX13_pack 250 = .ok (.iconst 4, 1) := dw_at cX13_pack_k10 (p := 2) rfl (by decide +kernel)
theorem dmX13_pack_251 : decode cX13_pack 251 = .ok (.iload 7, 2) := dw_at cX13_pack_k10 (p := 3) rfl (by decide +kernel)
theorem dmX13_pack_253 : decode cX13_pack 253 = .ok (.imul, 1) := dw_at cX13_pack_k10 (p := 5) rfl (by decide +kernel)
theorem dmX13_pack_254 : decode cX13_pack 254 = .ok (.iadd, 1) := dw_at cX13_pack_k10 (p := 6) rfl (by decide +kernel)
theorem dmX13_pack_255 : decode cX13_pack 255 = .ok (.iastore, 1) := dw_at cX13_pack_k10 (p := 7) rfl (by decide +kernel)
theorem dmX13_pack_256 : decode cX13_pack 256 = .ok (.iinc 10 1, 3) := dw_at cX13_pack_k10 (p := 8) rfl (by decide +kernel)
theorem dmX13_pack_259 : decode cX13_pack 259 = .ok (.goto (-58), 3) := dw_at cX13_pack_k10 (p := 11) rfl (by decide +kernel)
theorem dmX13_pack_262 : decode cX13_pack 262 = .ok (.iload 7, 2) := dw_at cX13_pack_k10 (p := 14) rfl (by decide +kernel)
theorem dmX13_pack_264 : decode cX13_pack 264 = .ok (.aload_n 0, 1) := dw_at cX13_pack_k10 (p := 16) rfl (by decide +kernel)
theorem dmX13_pack_265 : decode cX13_pack 265 = .ok (.getfield 85, 3) := dw_at cX13_pack_k10 (p := 17) rfl (by decide +kernel)
theorem dmX13_pack_268 : decode cX13_pack 268 = .ok (.iload 9, 2) := dw_at cX13_pack_k10 (p := 20) rfl (by decide +kernel)
theorem dmX13_pack_270 : decode cX13_pack 270 = .ok (.iaload, 1) := dw_at cX13_pack_k10 (p := 22) rfl (by decide +kernel)
theorem dmX13_pack_271 : decode cX13_pack 271 = .ok (.iconst 2, 1) := dw_at cX13_pack_k10 (p := 23) rfl (by decide +kernel)
theorem dmX13_pack_272 : decode cX13_pack 272 = .ok (.idiv, 1) := dw_at cX13_pack_k11 (p := 0) rfl (by decide +kernel)
theorem dmX13_pack_273 : decode cX13_pack 273 = .ok (.iadd, 1) := dw_at cX13_pack_k11 (p := 1) rfl (by decide +kernel)
theorem dmX13_pack_274 : decode cX13_pack 274 = .ok (.istore 7, 2) := dw_at cX13_pack_k11 (p := 2) rfl (by decide +kernel)
theorem dmX13_pack_276 : decode cX13_pack 276 = .ok (.iinc 8 1, 3) := dw_at cX13_pack_k11 (p := 4) rfl (by decide +kernel)
theorem dmX13_pack_279 : decode cX13_pack 279 = .ok (.goto (-193), 3) := dw_at cX13_pack_k11 (p := 7) rfl (by decide +kernel)
theorem dmX13_pack_282 : decode cX13_pack 282 = .ok (.iconst 0, 1) := dw_at cX13_pack_k11 (p := 10) rfl (by decide +kernel)
theorem dmX13_pack_283 : decode cX13_pack 283 = .ok (.istore 8, 2) := dw_at cX13_pack_k11 (p := 11) rfl (by decide +kernel)
theorem dmX13_pack_285 : decode cX13_pack 285 = .ok (.iload 8, 2) := dw_at cX13_pack_k11 (p := 13) rfl (by decide +kernel)
theorem dmX13_pack_287 : decode cX13_pack 287 = .ok (.iload 5, 2) := dw_at cX13_pack_k11 (p := 15) rfl (by decide +kernel)
theorem dmX13_pack_289 : decode cX13_pack 289 = .ok (.if_icmp .ge 19, 3) := dw_at cX13_pack_k11 (p := 17) rfl (by decide +kernel)
theorem dmX13_pack_292 : decode cX13_pack 292 = .ok (.iinc 6 1, 3) := dw_at cX13_pack_k11 (p := 20) rfl (by decide +kernel)
theorem dmX13_pack_295 : decode cX13_pack 295 = .ok (.aload_n 2, 1) := dw_at cX13_pack_k11 (p := 23) rfl (by decide +kernel)
theorem dmX13_pack_296 : decode cX13_pack 296 = .ok (.iload_n 3, 1) := dw_at cX13_pack_k12 (p := 0) rfl (by decide +kernel)
theorem dmX13_pack_297 : decode cX13_pack 297 = .ok (.iload 6, 2) := dw_at cX13_pack_k12 (p := 1) rfl (by decide +kernel)
theorem dmX13_pack_299 : decode cX13_pack 299 = .ok (.iadd, 1) := dw_at cX13_pack_k12 (p := 3) rfl (by decide +kernel)
theorem dmX13_pack_300 : decode cX13_pack 300 = .ok (.iconst 0, 1) := dw_at cX13_pack_k12 (p := 4) rfl (by decide +kernel)
theorem dmX13_pack_301 : decode cX13_pack 301 = .ok (.iastore, 1) := dw_at cX13_pack_k12 (p := 5) rfl (by decide +kernel)
theorem dmX13_pack_302 : decode cX13_pack 302 = .ok (.iinc 8 1, 3) := dw_at cX13_pack_k12 (p := 6) rfl (by decide +kernel)
theorem dmX13_pack_305 : decode cX13_pack 305 = .ok (.goto (-20), 3) := dw_at cX13_pack_k12 (p := 9) rfl (by decide +kernel)
theorem dmX13_pack_308 : decode cX13_pack 308 = .ok (.aload_n 2, 1) := dw_at cX13_pack_k12 (p := 12) rfl (by decide +kernel)
theorem dmX13_pack_309 : decode cX13_pack 309 = .ok (.iload_n 3, 1) := dw_at cX13_pack_k12 (p := 13) rfl (by decide +kernel)
theorem dmX13_pack_310 : decode cX13_pack 310 = .ok (.iload 6, 2) := dw_at cX13_pack_k12 (p := 14) rfl (by decide +kernel)
theorem dmX13_pack_312 : decode cX13_pack 312 = .ok (.iastore, 1) := dw_at cX13_pack_k12 (p := 16) rfl (by decide +kernel)
theorem dmX13_pack_313 : decode cX13_pack 313 = .ok (.return_, 1) := dw_at cX13_pack_k12 (p := 17) rfl (by decide +kernel)
def qm_X13_pack_0 (K : Nat) (go : Nat → Int32 → Int32 → Int32 → Int32 → Int32 → Int32 → Int32 → Int32 → Int32 → Nat → Nat → Int32 → Int32 → ow_MS → Option ow_MS) (x3 : Int32) (x4 : Int32) (x5 : Int32) (x6 : Int32) (x7 : Int32) (x8 : Int32) (x9 : Int32) (x10 : Int32) (x11 : Int32) (r1 : Nat) (r2 : Nat) (t0 : Int32) (t1 : Int32) (z : ow_MS) : Option ow_MS :=
 cs0 (qe_X12_link K r1 z) fun z1 => cs0 (qe_X12_split K r1 z1) fun z2 => go 1 x3 0 0 0 0 0 0 0 0 r1 r2 0 0 z2
def qm_X13_pack_1 (K : Nat) (go : Nat → Int32 → Int32 → Int32 → Int32 → Int32 → Int32 → Int32 → Int32 → Int32 → Nat → Nat → Int32 → Int32 → ow_MS → Option ow_MS) (x3 : Int32) (x4 : Int32) (x5 : Int32) (x6 : Int32) (x7 : Int32) (x8 : Int32) (x9 : Int32) (x10 : Int32) (x11 : Int32) (r1 : Nat) (r2 : Nat) (t0 : Int32) (t1 : Int32) (z : ow_MS) : Option ow_MS :=
 rdF z (r1 + 13) fun v3 => (if v3 ≤ x6 then go 3 x3 x4 x5 0 0 0 0 0 0 r1 r2 0 0 z
 else cs1 (qe_X13_leastOf K r1 x6 (32 * x4) z) fun v5 z4 => (if v5 = 0 then go 2 x3 x4 (x5 + 1) x6 v5 0 0 0 0 r1 r2 0 0 z4
 else wrI mX z4 8 x4 v5 fun z6 => wrZ mX z6 9 x4 0 fun z7 => go 2 x3 (x4 + 1) x5 x6 v5 0 0 0 0 r1 r2 0 0 z7))
def qm_X13_pack_2 (K : Nat) (go : Nat → Int32 → Int32 → Int32 → Int32 → Int32 → Int32 → Int32 → Int32 → Int32 → Nat → Nat → Int32 → Int32 → ow_MS → Option ow_MS) (x3 : Int32) (x4 : Int32) (x5 : Int32) (x6 : Int32) (x7 : Int32) (x8 : Int32) (x9 : Int32) (x10 : Int32) (x11 : Int32) (r1 : Nat) (r2 : Nat) (t0 : Int32) (t1 : Int32) (z : ow_MS) : Option ow_MS :=
 go 1 x3 x4 x5 (x6 + 1) 0 0 0 0 0 r1 r2 0 0 z
def qm_X13_pack_3 (K : Nat) (go : Nat → Int32 → Int32 → Int32 → Int32 → Int32 → Int32 → Int32 → Int32 → Int32 → Nat → Nat → Int32 → Int32 → ow_MS → Option ow_MS) (x3 : Int32) (x4 : Int32) (x5 : Int32) (x6 : Int32) (x7 : Int32) (x8 : Int32) (x9 : Int32) (x10 : Int32) (x11 : Int32) (r1 : Nat) (r2 : Nat) (t0 : Int32) (t1 : Int32) (z : ow_MS) : Option ow_MS :=
 (if x4 ≤ x8 then go 9 x3 x4 x5 x6 x7 0 0 0 0 r1 r2 0 0 z
 else go 4 x3 x4 x5 x6 x7 x8 (-1) 0 0 r1 r2 0 0 z)
def qm_X13_pack_4 (K : Nat) (go : Nat → Int32 → Int32 → Int32 → Int32 → Int32 → Int32 → Int32 → Int32 → Int32 → Nat → Nat → Int32 → Int32 → ow_MS → Option ow_MS) (x3 : Int32) (x4 : Int32) (x5 : Int32) (x6 : Int32) (x7 : Int32) (x8 : Int32) (x9 : Int32) (x10 : Int32) (x11 : Int32) (r1 : Nat) (r2 : Nat) (t0 : Int32) (t1 : Int32) (z : ow_MS) : Option ow_MS :=
 (if x4 ≤ x10 then wrZ mX z 9 x9 1 fun z8 => go 7 x3 x4 x5 x6 x7 x8 x9 1 0 r1 r2 0 0 z8
 else rdI mX z 9 x10 fun v9 => (if v9 = 0 then (if x9 = (-1) then go 5 x3 x4 x5 x6 x7 x8 x9 x10 0 r1 r2 0 0 z
 else rdI mX z 8 x10 fun v10 => rdI mX z 8 x9 fun v11 => (if v10 < v11 then go 5 x3 x4 x5 x6 x7 x8 x9 x10 0 r1 r2 0 0 z
 else rdI mX z 8 x10 fun v12 => rdI mX z 8 x9 fun v13 => (if v12 = v13 then cs1 (qe_X13_isBelow K 7 (32 * x10) 7 (32 * x9) z) fun v15 z14 => (if v15 = 0 then go 6 x3 x4 x5 x6 x7 x8 x9 x10 0 r1 r2 0 0 z14
 else go 5 x3 x4 x5 x6 x7 x8 x9 x10 0 r1 r2 0 0 z14)
 else go 6 x3 x4 x5 x6 x7 x8 x9 x10 0 r1 r2 0 0 z)))
 else go 6 x3 x4 x5 x6 x7 x8 x9 x10 0 r1 r2 0 0 z))
def qm_X13_pack_5 (K : Nat) (go : Nat → Int32 → Int32 → Int32 → Int32 → Int32 → Int32 → Int32 → Int32 → Int32 → Nat → Nat → Int32 → Int32 → ow_MS → Option ow_MS) (x3 : Int32) (x4 : Int32) (x5 : Int32) (x6 : Int32) (x7 : Int32) (x8 : Int32) (x9 : Int32) (x10 : Int32) (x11 : Int32) (r1 : Nat) (r2 : Nat) (t0 : Int32) (t1 : Int32) (z : ow_MS) : Option ow_MS :=
 go 6 x3 x4 x5 x6 x7 x8 x10 x10 0 r1 r2 0 0 z
def qm_X13_pack_6 (K : Nat) (go : Nat → Int32 → Int32 → Int32 → Int32 → Int32 → Int32 → Int32 → Int32 → Int32 → Nat → Nat → Int32 → Int32 → ow_MS → Option ow_MS) (x3 : Int32) (x4 : Int32) (x5 : Int32) (x6 : Int32) (x7 : Int32) (x8 : Int32) (x9 : Int32) (x10 : Int32) (x11 : Int32) (r1 : Nat) (r2 : Nat) (t0 : Int32) (t1 : Int32) (z : ow_MS) : Option ow_MS :=
 go 4 x3 x4 x5 x6 x7 x8 x9 (x10 + 1) 0 r1 r2 0 0 z
def qm_X13_pack_7 (K : Nat) (go : Nat → Int32 → Int32 → Int32 → Int32 → Int32 → Int32 → Int32 → Int32 → Int32 → Nat → Nat → Int32 → Int32 → ow_MS → Option ow_MS) (x3 : Int32) (x4 : Int32) (x5 : Int32) (x6 : Int32) (x7 : Int32) (x8 : Int32) (x9 : Int32) (x10 : Int32) (x11 : Int32) (r1 : Nat) (r2 : Nat) (t0 : Int32) (t1 : Int32) (z : ow_MS) : Option ow_MS :=
 rdI mX z 7 (32 * x9) fun v16 => (if v16 < x10 then rdI mX z 8 x9 fun v17 => nzI 2 (go 3 x3 x4 x5 x6 (x7 + (v17 / 2)) (x8 + 1) 0 0 0 r1 r2 0 0 z)
 else rdI mX z 7 ((32 * x9) + x10) fun v18 => (if v18 = 0 then go 8 x3 x4 x5 (x6 + 1) x7 x8 x9 x10 v18 r1 r2 0 (x3 + (x6 + 1)) z
 else go 8 x3 x4 x5 (x6 + 1) x7 x8 x9 x10 v18 r1 r2 (v18 + (4 * x7)) (x3 + (x6 + 1)) z))
def qm_X13_pack_8 (K : Nat) (go : Nat → Int32 → Int32 → Int32 → Int32 → Int32 → Int32 → Int32 → Int32 → Int32 → Nat → Nat → Int32 → Int32 → ow_MS → Option ow_MS) (x3 : Int32) (x4 : Int32) (x5 : Int32) (x6 : Int32) (x7 : Int32) (x8 : Int32) (x9 : Int32) (x10 : Int32) (x11 : Int32) (r1 : Nat) (r2 : Nat) (t0 : Int32) (t1 : Int32) (z : ow_MS) : Option ow_MS :=
 wrI mX z r2 t1 t0 fun z19 => go 7 x3 x4 x5 x6 x7 x8 x9 (x10 + 1) 0 r1 r2 0 0 z19
def qm_X13_pack_9 (K : Nat) (go : Nat → Int32 → Int32 → Int32 → Int32 → Int32 → Int32 → Int32 → Int32 → Int32 → Nat → Nat → Int32 → Int32 → ow_MS → Option ow_MS) (x3 : Int32) (x4 : Int32) (x5 : Int32) (x6 : Int32) (x7 : Int32) (x8 : Int32) (x9 : Int32) (x10 : Int32) (x11 : Int32) (r1 : Nat) (r2 : Nat) (t0 : Int32) (t1 : Int32) (z : ow_MS) : Option ow_MS :=
 (if x5 ≤ x8 then wrI mX z r2 x3 x6 fun z20 => some z20
 else wrI mX z r2 (x3 + (x6 + 1)) 0 fun z21 => go 9 x3 x4 x5 (x6 + 1) x7 (x8 + 1) 0 0 0 r1 r2 0 0 z21)
def qb_X13_pack (K : Nat) (go : Nat → Int32 → Int32 → Int32 → Int32 → Int32 → Int32 → Int32 → Int32 → Int32 → Nat → Nat → Int32 → Int32 → ow_MS → Option ow_MS) (L : Nat) (x3 : Int32) (x4 : Int32) (x5 : Int32) (x6 : Int32) (x7 : Int32) (x8 : Int32) (x9 : Int32) (x10 : Int32) (x11 : Int32) (r1 : Nat) (r2 : Nat) (t0 : Int32) (t1 : Int32) (z : ow_MS) : Option ow_MS := match L with
  | 0 => qm_X13_pack_0 K go x3 x4 x5 x6 x7 x8 x9 x10 x11 r1 r2 t0 t1 z
  | 1 => qm_X13_pack_1 K go x3 x4 x5 x6 x7 x8 x9 x10 x11 r1 r2 t0 t1 z
  | 2 => qm_X13_pack_2 K go x3 x4 x5 x6 x7 x8 x9 x10 x11 r1 r2 t0 t1 z
  | 3 => qm_X13_pack_3 K go x3 x4 x5 x6 x7 x8 x9 x10 x11 r1 r2 t0 t1 z
  | 4 => qm_X13_pack_4 K go x3 x4 x5 x6 x7 x8 x9 x10 x11 r1 r2 t0 t1 z
  | 5 => qm_X13_pack_5 K go x3 x4 x5 x6 x7 x8 x9 x10 x11 r1 r2 t0 t1 z
  | 6 => qm_X13_pack_6 K go x3 x4 x5 x6 x7 x8 x9 x10 x11 r1 r2 t0 t1 z
  | 7 => qm_X13_pack_7 K go x3 x4 x5 x6 x7 x8 x9 x10 x11 r1 r2 t0 t1 z
  | 8 => qm_X13_pack_8 K go x3 x4 x5 x6 x7 x8 x9 x10 x11 r1 r2 t0 t1 z
  | 9 => qm_X13_pack_9 K go x3 x4 x5 x6 x7 x8 x9 x10 x11 r1 r2 t0 t1 z
  | _ => none
def q_X13_pack (K : Nat) : Nat → Nat → Int32 → Int32 → Int32 → Int32 → Int32 → Int32 → Int32 → Int32 → Int32 → Nat → Nat → Int32 → Int32 → ow_MS → Option ow_MS
  | 0 => fun _ _ _ _ _ _ _ _ _ _ _ _ _ _ _ => none
  | k + 1 => qb_X13_pack K (q_X13_pack K k)
def qe_X13_pack (K : Nat) (r1 : Nat) (r2 : Nat) (x3 : Int32) (z : ow_MS) : Option ow_MS := q_X13_pack K K 0 x3 0 0 0 0 0 0 0 0 r1 r2 0 0 z
abbrev wm_X13_pack : List Cond := .code yX13_pack cX13_pack 12 none :: wM
theorem cd_X13_pack : yX13_pack.cls = RX13 ∧ yX13_pack.cls ≠ "java/lang/invoke/MethodHandle" ∧ yX13_pack.cls ≠ "java/lang/invoke/VarHandle" ∧ (parseMethodDescriptor yX13_pack.desc).map (fun d => d.parameters.length) = some 3 := by decide +kernel
set_option maxHeartbeats 4000000 in
set_option maxRecDepth 100000 in
theorem km_X13_pack (l : Launch) (D : va_G) (q : ow_Q5) (u : Nat → Nat) (hU : tw_inj mX u) (K : Nat) (r1 : Nat) (r2 : Nat) (x3 : Int32) (hr1 : mw_net r1) (hr2 : tw_in mX r2 0) (z z1 : ow_MS) (hq : qe_X13_pack K r1 r2 x3 z = some z1) : Met l yX13_pack wm_X13_pack ({ frames := 3, cells := 0, slots := 0, locals := 80 } : Room) (va_Pc [.ref (u 0), .ref (u r1), .ref (u r2), .int x3] (mw_pre D q u z)) (va_Qv (fun (_ : Unit) => True) (fun _ t => va_P D vwCl (tw mX q u z1) t.heap) (tw_A mX u)) 0 0 (tw_A mX u) := by
  refine Met.ofW (cc := cX13_pack) (maxL := 12) (ret := none) (by decide) rfl ?_
  intro p e s m args below meth c s₁ B hml hv
  obtain ⟨rfl, hP, hK, hN⟩ := hv
  have hx := B.exec
  have hb := B.bytes
  have hr := B.returns
  have hts := atoms_spec (ws := wm_X13_pack) B.pre
  have hT : ∀ w ∈ wM, w.before ([.ref (u 0), .ref (u r1), .ref (u r2), .int x3] : List Value).toArray s = true := fun w h => hts w (List.mem_cons_of_mem _ h)
  have hown : s.vm.findClass RX13 = some m.cls := findClass_of_methodNamed B.named
  have hlocks := B.notSynchronized
  have hM : tw_M D vwCl mX q s.heap u z s.heap [] := ⟨hP, va_S.rf⟩
  have hl := lv_entry ([.ref (u 0), .ref (u r1), .ref (u r2), .int x3]) (n := 12) (Nat.le_of_ble_eq_true rfl)
  rw [lg_entry_eq]
  generalize (lg_sl ([.ref (u 0), .ref (u r1), .ref (u r2), .int x3]) ++ List.replicate (12 - (lg_sl ([.ref (u 0), .ref (u r1), .ref (u r2), .int x3])).length) Slot.unset).toArray = ls at hl ⊢
  have hl : lv_has ls 12 [(0, .ref (u 0)), (1, .ref (u r1)), (2, .ref (u r2)), (3, .int x3)] := hl
  refine ow_named (fun QQ hQQ => ?_)
  generalize ([.ref (u 0), .ref (u r1), .ref (u r2), .int x3] : List Value).toArray = args at hts hT hQQ ⊢
  have key : ∀ k : Nat, (∀ (x3 : Int32) (x4 : Int32) (x5 : Int32) (x6 : Int32) (x7 : Int32) (x8 : Int32) (x9 : Int32) (x10 : Int32) (x11 : Int32) (r1 : Nat) (r2 : Nat) (t0 : Int32) (t1 : Int32) (z : ow_MS) (H : Heap) (locs : List Loc) (ls : Array Slot), mw_net r1 → tw_in mX r2 0 → tw_M D vwCl mX q s.heap u z H locs → lv_has ls 12 [(0, .ref (u 0)), (1, .ref (u r1)), (2, .ref (u r2)), (3, .int x3)] → q_X13_pack K k 0 x3 x4 x5 x6 x7 x8 x9 x10 x11 r1 r2 t0 t1 z = some z1 → W p l e ({ frames := 3, cells := 0, slots := 0, locals := 80 } : Room) s m args below meth c H locs 0 0 QQ (F0 m 0 ls [])) ∧ (∀ (x3 : Int32) (x4 : Int32) (x5 : Int32) (x6 : Int32) (x7 : Int32) (x8 : Int32) (x9 : Int32) (x10 : Int32) (x11 : Int32) (r1 : Nat) (r2 : Nat) (t0 : Int32) (t1 : Int32) (z : ow_MS) (H : Heap) (locs : List Loc) (ls : Array Slot), mw_net r1 → tw_in mX r2 0 → tw_M D vwCl mX q s.heap u z H locs → lv_has ls 12 [(0, .ref (u 0)), (1, .ref (u r1)), (2, .ref (u r2)), (3, .int x3), (4, .int x4), (5, .int x5), (6, .int x6)] → q_X13_pack K k 1 x3 x4 x5 x6 x7 x8 x9 x10 x11 r1 r2 t0 t1 z = some z1 → W p l e ({ frames := 3, cells := 0, slots := 0, locals := 80 } : Room) s m args below meth c H locs 0 0 QQ (F0 m 17 ls [])) ∧ (∀ (x3 : Int32) (x4 : Int32) (x5 : Int32) (x6 : Int32) (x7 : Int32) (x8 : Int32) (x9 : Int32) (x10 : Int32) (x11 : Int32) (r1 : Nat) (r2 : Nat) (t0 : Int32) (t1 : Int32) (z : ow_MS) (H : Heap) (locs : List Loc) (ls : Array Slot), mw_net r1 → tw_in mX r2 0 → tw_M D vwCl mX q s.heap u z H locs → lv_has ls 12 [(0, .ref (u 0)), (1, .ref (u r1)), (2, .ref (u r2)), (3, .int x3), (4, .int x4), (5, .int x5), (6, .int x6), (7, .int x7)] → q_X13_pack K k 2 x3 x4 x5 x6 x7 x8 x9 x10 x11 r1 r2 t0 t1 z = some z1 → W p l e ({ frames := 3, cells := 0, slots := 0, locals := 80 } : Room) s m args below meth c H locs 0 0 QQ (F0 m 71 ls [])) ∧ (∀ (x3 : Int32) (x4 : Int32) (x5 : Int32) (x6 : Int32) (x7 : Int32) (x8 : Int32) (x9 : Int32) (x10 : Int32) (x11 : Int32) (r1 : Nat) (r2 : Nat) (t0 : Int32) (t1 : Int32) (z : ow_MS) (H : Heap) (locs : List Loc) (ls : Array Slot), mw_net r1 → tw_in mX r2 0 → tw_M D vwCl mX q s.heap u z H locs → lv_has ls 12 [(0, .ref (u 0)), (1, .ref (u r1)), (2, .ref (u r2)), (3, .int x3), (4, .int x4), (5, .int x5), (6, .int x6), (7, .int x7), (8, .int x8)] → q_X13_pack K k 3 x3 x4 x5 x6 x7 x8 x9 x10 x11 r1 r2 t0 t1 z = some z1 → W p l e ({ frames := 3, cells := 0, slots := 0, locals := 80 } : Room) s m args below meth c H locs 0 0 QQ (F0 m 86 ls [])) ∧ (∀ (x3 : Int32) (x4 : Int32) (x5 : Int32) (x6 : Int32) (x7 : Int32) (x8 : Int32) (x9 : Int32) (x10 : Int32) (x11 : Int32) (r1 : Nat) (r2 : Nat) (t0 : Int32) (t1 : Int32) (z : ow_MS) (H : Heap) (locs : List Loc) (ls : Array Slot), mw_net r1 → tw_in mX r2 0 → tw_M D vwCl mX q s.heap u z H locs → lv_has ls 12 [(0, .ref (u 0)), (1, .ref (u r1)), (2, .ref (u r2)), (3, .int x3), (4, .int x4), (5, .int x5), (6, .int x6), (7, .int x7), (8, .int x8), (9, .int x9), (10, .int x10)] → q_X13_pack K k 4 x3 x4 x5 x6 x7 x8 x9 x10 x11 r1 r2 t0 t1 z = some z1 → W p l e ({ frames := 3, cells := 0, slots := 0, locals := 80 } : Room) s m args below meth c H locs 0 0 QQ (F0 m 99 ls [])) ∧ (∀ (x3 : Int32) (x4 : Int32) (x5 : Int32) (x6 : Int32) (x7 : Int32) (x8 : Int32) (x9 : Int32) (x10 : Int32) (x11 : Int32) (r1 : Nat) (r2 : Nat) (t0 : Int32) (t1 : Int32) (z : ow_MS) (H : Heap) (locs : List Loc) (ls : Array Slot), mw_net r1 → tw_in mX r2 0 → tw_M D vwCl mX q s.heap u z H locs → lv_has ls 12 [(0, .ref (u 0)), (1, .ref (u r1)), (2, .ref (u r2)), (3, .int x3), (4, .int x4), (5, .int x5), (6, .int x6), (7, .int x7), (8, .int x8), (9, .int x9), (10, .int x10)] → q_X13_pack K k 5 x3 x4 x5 x6 x7 x8 x9 x10 x11 r1 r2 t0 t1 z = some z1 → W p l e ({ frames := 3, cells := 0, slots := 0, locals := 80 } : Room) s m args below meth c H locs 0 0 QQ (F0 m 180 ls [])) ∧ (∀ (x3 : Int32) (x4 : Int32) (x5 : Int32) (x6 : Int32) (x7 : Int32) (x8 : Int32) (x9 : Int32) (x10 : Int32) (x11 : Int32) (r1 : Nat) (r2 : Nat) (t0 : Int32) (t1 : Int32) (z : ow_MS) (H : Heap) (locs : List Loc) (ls : Array Slot), mw_net r1 → tw_in mX r2 0 → tw_M D vwCl mX q s.heap u z H locs → lv_has ls 12 [(0, .ref (u 0)), (1, .ref (u r1)), (2, .ref (u r2)), (3, .int x3), (4, .int x4), (5, .int x5), (6, .int x6), (7, .int x7), (8, .int x8), (9, .int x9), (10, .int x10)] → q_X13_pack K k 6 x3 x4 x5 x6 x7 x8 x9 x10 x11 r1 r2 t0 t1 z = some z1 → W p l e ({ frames := 3, cells := 0, slots := 0, locals := 80 } : Room) s m args below meth c H locs 0 0 QQ (F0 m 184 ls [])) ∧ (∀ (x3 : Int32) (x4 : Int32) (x5 : Int32) (x6 : Int32) (x7 : Int32) (x8 : Int32) (x9 : Int32) (x10 : Int32) (x11 : Int32) (r1 : Nat) (r2 : Nat) (t0 : Int32) (t1 : Int32) (z : ow_MS) (H : Heap) (locs : List Loc) (ls : Array Slot), mw_net r1 → tw_in mX r2 0 → tw_M D vwCl mX q s.heap u z H locs → lv_has ls 12 [(0, .ref (u 0)), (1, .ref (u r1)), (2, .ref (u r2)), (3, .int x3), (4, .int x4), (5, .int x5), (6, .int x6), (7, .int x7), (8, .int x8), (9, .int x9), (10, .int x10)] → q_X13_pack K k 7 x3 x4 x5 x6 x7 x8 x9 x10 x11 r1 r2 t0 t1 z = some z1 → W p l e ({ frames := 3, cells := 0, slots := 0, locals := 80 } : Room) s m args below meth c H locs 0 0 QQ (F0 m 201 ls [])) ∧ (∀ (x3 : Int32) (x4 : Int32) (x5 : Int32) (x6 : Int32) (x7 : Int32) (x8 : Int32) (x9 : Int32) (x10 : Int32) (x11 : Int32) (r1 : Nat) (r2 : Nat) (t0 : Int32) (t1 : Int32) (z : ow_MS) (H : Heap) (locs : List Loc) (ls : Array Slot), mw_net r1 → tw_in mX r2 0 → tw_M D vwCl mX q s.heap u z H locs → lv_has ls 12 [(0, .ref (u 0)), (1, .ref (u r1)), (2, .ref (u r2)), (3, .int x3), (4, .int x4), (5, .int x5), (6, .int x6), (7, .int x7), (8, .int x8), (9, .int x9), (10, .int x10), (11, .int x11)] → q_X13_pack K k 8 x3 x4 x5 x6 x7 x8 x9 x10 x11 r1 r2 t0 t1 z = some z1 → W p l e ({ frames := 3, cells := 0, slots := 0, locals := 80 } : Room) s m args below meth c H locs 0 0 QQ (F0 m 255 ls [.int t0, .int t1, .ref (u r2)])) ∧ (∀ (x3 : Int32) (x4 : Int32) (x5 : Int32) (x6 : Int32) (x7 : Int32) (x8 : Int32) (x9 : Int32) (x10 : Int32) (x11 : Int32) (r1 : Nat) (r2 : Nat) (t0 : Int32) (t1 : Int32) (z : ow_MS) (H : Heap) (locs : List Loc) (ls : Array Slot), mw_net r1 → tw_in mX r2 0 → tw_M D vwCl mX q s.heap u z H locs → lv_has ls 12 [(0, .ref (u 0)), (1, .ref (u r1)), (2, .ref (u r2)), (3, .int x3), (4, .int x4), (5, .int x5), (6, .int x6), (7, .int x7), (8, .int x8)] → q_X13_pack K k 9 x3 x4 x5 x6 x7 x8 x9 x10 x11 r1 r2 t0 t1 z = some z1 → W p l e ({ frames := 3, cells := 0, slots := 0, locals := 80 } : Room) s m args below meth c H locs 0 0 QQ (F0 m 285 ls [])) := by
    intro k
    induction k with
    | zero => exact ⟨fun _ _ _ _ _ _ _ _ _ _ _ _ _ _ _ _ _ _ _ _ _ hq => tw_no hq, fun _ _ _ _ _ _ _ _ _ _ _ _ _ _ _ _ _ _ _ _ _ hq => tw_no hq, fun _ _ _ _ _ _ _ _ _ _ _ _ _ _ _ _ _ _ _ _ _ hq => tw_no hq, fun _ _ _ _ _ _ _ _ _ _ _ _ _ _ _ _ _ _ _ _ _ hq => tw_no hq, fun _ _ _ _ _ _ _ _ _ _ _ _ _ _ _ _ _ _ _ _ _ hq => tw_no hq, fun _ _ _ _ _ _ _ _ _ _ _ _ _ _ _ _ _ _ _ _ _ hq => tw_no hq, fun _ _ _ _ _ _ _ _ _ _ _ _ _ _ _ _ _ _ _ _ _ hq => tw_no hq, fun _ _ _ _ _ _ _ _ _ _ _ _ _ _ _ _ _ _ _ _ _ hq => tw_no hq, fun _ _ _ _ _ _ _ _ _ _ _ _ _ _ _ _ _ _ _ _ _ hq => tw_no hq, fun _ _ _ _ _ _ _ _ _ _ _ _ _ _ _ _ _ _ _ _ _ hq => tw_no hq⟩
    | succ k ih =>
      obtain ⟨ih_0, ih_1, ih_2, ih_3, ih_4, ih_5, ih_6, ih_7, ih_8, ih_9⟩ := ih
      refine ⟨?_, ?_, ?_, ?_, ?_, ?_, ?_, ?_, ?_, ?_⟩
      · intro x3 x4 x5 x6 x7 x8 x9 x10 x11 r1 r2 t0 t1 z H locs ls hr1 hr2 hM hl hq
        have hq : qm_X13_pack_0 K (q_X13_pack K k) x3 x4 x5 x6 x7 x8 x9 x10 x11 r1 r2 t0 t1 z = some z1 := hq
        unfold qm_X13_pack_0 at hq
        refine lv_aload_n hx hb dmX13_pack_0 rfl (lv_at hl 1 rfl) ?_
        obtain ⟨z1, hcq, hq⟩ := tw_cl0 hq
        refine tw_calv hM (va_runV (As := []) (rest := []) ⟨hx, hb, hml, hown, hts⟩ (km_X12_link l D q u hU K r1 hr1 z z1 hcq) (cwV 0 hts (tw_gV wM_good wq_77 wq_78 wq_79 wq_13 wq_30) rfl rfl rfl cd_X12_link ⟨(Nat.le_of_ble_eq_true rfl), (Nat.le_of_ble_eq_true rfl)⟩) (mw_preV hK hN hM (mo_n hr1) rfl) rfl rfl hl.1 rfl (lv_room (Nat.le_of_ble_eq_true rfl)) dmX13_pack_1 ⟨(Nat.le_of_ble_eq_true rfl), (Nat.le_of_ble_eq_true rfl)⟩) (fun H locs hM => ?_)
        refine lv_aload_n hx hb dmX13_pack_4 rfl (lv_at hl 1 rfl) ?_
        obtain ⟨z2, hcq, hq⟩ := tw_cl0 hq
        refine tw_calv hM (va_runV (As := []) (rest := []) ⟨hx, hb, hml, hown, hts⟩ (km_X12_split l D q u hU K r1 hr1 z1 z2 hcq) (cwV 0 hts (tw_gV wM_good wq_80 wq_39 wq_40 wq_13 wq_33) rfl rfl rfl cd_X12_split ⟨(Nat.le_of_ble_eq_true rfl), (Nat.le_of_ble_eq_true rfl)⟩) (mw_preV hK hN hM (mo_n hr1) rfl) rfl rfl hl.1 rfl (lv_room (Nat.le_of_ble_eq_true rfl)) dmX13_pack_5 ⟨(Nat.le_of_ble_eq_true rfl), (Nat.le_of_ble_eq_true rfl)⟩) (fun H locs hM => ?_)
        refine lv_iconst (v := 0) hx hb dmX13_pack_8 (by decide) ?_
        refine lv_istore (lv' := [(4, .int 0), (0, .ref (u 0)), (1, .ref (u r1)), (2, .ref (u r2)), (3, .int x3)]) hx hb dmX13_pack_9 hl (by decide) rfl (fun ls hl => ?_)
        refine lv_iconst (v := 0) hx hb dmX13_pack_11 (by decide) ?_
        refine lv_istore (lv' := [(5, .int 0), (4, .int 0), (0, .ref (u 0)), (1, .ref (u r1)), (2, .ref (u r2)), (3, .int x3)]) hx hb dmX13_pack_12 hl (by decide) rfl (fun ls hl => ?_)
        refine lv_iconst (v := 0) hx hb dmX13_pack_14 (by decide) ?_
        refine lv_istore (lv' := [(6, .int 0), (5, .int 0), (4, .int 0), (0, .ref (u 0)), (1, .ref (u r1)), (2, .ref (u r2)), (3, .int x3)]) hx hb dmX13_pack_15 hl (by decide) rfl (fun ls hl => ?_)
        exact ih_1 x3 0 0 0 0 0 0 0 0 r1 r2 0 0 z2 H locs ls hr1 hr2 hM (lv_sub hl [3, 4, 5, 6, 2, 1, 0] rfl) hq
      · intro x3 x4 x5 x6 x7 x8 x9 x10 x11 r1 r2 t0 t1 z H locs ls hr1 hr2 hM hl hq
        have hq : qm_X13_pack_1 K (q_X13_pack K k) x3 x4 x5 x6 x7 x8 x9 x10 x11 r1 r2 t0 t1 z = some z1 := hq
        unfold qm_X13_pack_1 at hq
        refine lv_iload hx hb dmX13_pack_17 (lv_at hl 6 rfl) ?_
        refine lv_aload_n hx hb dmX13_pack_19 rfl (lv_at hl 1 rfl) ?_
        refine mg13_78 hx hb hT hown hK hM hN hr1 hq dmX13_pack_20 (fun v3 hq => ?_)
        refine lv_icmp_ge (tgt := 77) hx hb dmX13_pack_23 (by decide) (fun hc => ?_) (fun hc => ?_)
        · have hq := tw_it hq hc
          refine lv_iconst (v := 0) hx hb dmX13_pack_77 (by decide) ?_
          refine lv_istore (lv' := [(6, .int 0), (0, .ref (u 0)), (1, .ref (u r1)), (2, .ref (u r2)), (3, .int x3), (4, .int x4), (5, .int x5)]) hx hb dmX13_pack_78 hl (by decide) rfl (fun ls hl => ?_)
          refine lv_iconst (v := 0) hx hb dmX13_pack_80 (by decide) ?_
          refine lv_istore (lv' := [(7, .int 0), (6, .int 0), (0, .ref (u 0)), (1, .ref (u r1)), (2, .ref (u r2)), (3, .int x3), (4, .int x4), (5, .int x5)]) hx hb dmX13_pack_81 hl (by decide) rfl (fun ls hl => ?_)
          refine lv_iconst (v := 0) hx hb dmX13_pack_83 (by decide) ?_
          refine lv_istore (lv' := [(8, .int 0), (7, .int 0), (6, .int 0), (0, .ref (u 0)), (1, .ref (u r1)), (2, .ref (u r2)), (3, .int x3), (4, .int x4), (5, .int x5)]) hx hb dmX13_pack_84 hl (by decide) rfl (fun ls hl => ?_)
          exact ih_3 x3 x4 x5 0 0 0 0 0 0 r1 r2 0 0 z H locs ls hr1 hr2 hM (lv_sub hl [3, 4, 5, 6, 7, 8, 2, 1, 0] rfl) hq
        · have hq := tw_if hq hc
          refine lv_aload_n hx hb dmX13_pack_26 rfl (lv_at hl 0 rfl) ?_
          refine lv_aload_n hx hb dmX13_pack_27 rfl (lv_at hl 1 rfl) ?_
          refine lv_iload hx hb dmX13_pack_28 (lv_at hl 6 rfl) ?_
          refine lv_bipush (v := 32) hx hb dmX13_pack_30 (by decide) ?_
          refine lv_iload hx hb dmX13_pack_32 (lv_at hl 4 rfl) ?_
          refine lv_imul hx hb dmX13_pack_34 ?_
          obtain ⟨v5, z4, hcq, hq⟩ := tw_cl1 hq
          refine tw_cali hM (va_runV (As := [.ref (u r1), .int x6, .int (32 * x4)]) (rest := []) ⟨hx, hb, hml, hown, hts⟩ (km_X13_leastOf l D q u hU K r1 x6 (32 * x4) hr1 z z4 v5 hcq) (cwV 3 hts (tw_gV wM_good wq_81 wq_82 wq_83 wq_61 wq_69) rfl rfl rfl cd_X13_leastOf ⟨(Nat.le_of_ble_eq_true rfl), (Nat.le_of_ble_eq_true rfl)⟩) (mw_preV hK hN hM mo_0 rfl) rfl rfl hl.1 rfl (lv_room (Nat.le_of_ble_eq_true rfl)) dmX13_pack_35 ⟨(Nat.le_of_ble_eq_true rfl), (Nat.le_of_ble_eq_true rfl)⟩) (fun H locs hM => ?_)
          refine lv_istore (lv' := [(7, .int v5), (0, .ref (u 0)), (1, .ref (u r1)), (2, .ref (u r2)), (3, .int x3), (4, .int x4), (5, .int x5), (6, .int x6)]) hx hb dmX13_pack_38 hl (by decide) rfl (fun ls hl => ?_)
          refine lv_iload hx hb dmX13_pack_40 (lv_at hl 0 rfl) ?_
          refine lv_if_ne (tgt := 51) hx hb dmX13_pack_42 (by decide) (fun hc => ?_) (fun hc => ?_)
          · have hq := tw_if hq hc
            refine lv_aload_n hx hb dmX13_pack_51 rfl (lv_at hl 1 rfl) ?_
            refine mg13_85 hx hb hT hown hK hM dmX13_pack_52 ?_
            refine lv_iload hx hb dmX13_pack_55 (lv_at hl 5 rfl) ?_
            refine lv_iload hx hb dmX13_pack_57 (lv_at hl 0 rfl) ?_
            refine tw_iast mX_ok hU hx hb hK hM mr_8 hq dmX13_pack_59 (fun z6 H locs hM hq => ?_)
            refine lv_aload_n hx hb dmX13_pack_60 rfl (lv_at hl 1 rfl) ?_
            refine mg13_88 hx hb hT hown hK hM dmX13_pack_61 ?_
            refine lv_iload hx hb dmX13_pack_64 (lv_at hl 5 rfl) ?_
            refine lv_iconst (v := 0) hx hb dmX13_pack_66 (by decide) ?_
            refine tw_zast mX_ok hU hx hb hK hM mr_9 hq dmX13_pack_67 (fun z7 H locs hM hq => ?_)
            refine lv_iinc (v := (x4 + 1)) (lv' := [(4, .int (x4 + 1)), (7, .int v5), (0, .ref (u 0)), (1, .ref (u r1)), (2, .ref (u r2)), (3, .int x3), (5, .int x5), (6, .int x6)]) hx hb dmX13_pack_68 hl (k := 5) rfl rfl (by decide) rfl (fun ls hl => ?_)
            exact ih_2 x3 (x4 + 1) x5 x6 v5 0 0 0 0 r1 r2 0 0 z7 H locs ls hr1 hr2 hM (lv_sub hl [2, 3, 4, 5, 0, 6, 7, 1] rfl) hq
          · have hq := tw_it hq hc
            refine lv_iinc (v := (x5 + 1)) (lv' := [(5, .int (x5 + 1)), (7, .int v5), (0, .ref (u 0)), (1, .ref (u r1)), (2, .ref (u r2)), (3, .int x3), (4, .int x4), (6, .int x6)]) hx hb dmX13_pack_45 hl (k := 6) rfl rfl (by decide) rfl (fun ls hl => ?_)
            refine lv_goto (tgt := 71) hx hb dmX13_pack_48 (by decide) ?_
            exact ih_2 x3 x4 (x5 + 1) x6 v5 0 0 0 0 r1 r2 0 0 z4 H locs ls hr1 hr2 hM (lv_sub hl [2, 3, 4, 5, 6, 0, 7, 1] rfl) hq
      · intro x3 x4 x5 x6 x7 x8 x9 x10 x11 r1 r2 t0 t1 z H locs ls hr1 hr2 hM hl hq
        have hq : qm_X13_pack_2 K (q_X13_pack K k) x3 x4 x5 x6 x7 x8 x9 x10 x11 r1 r2 t0 t1 z = some z1 := hq
        unfold qm_X13_pack_2 at hq
        refine lv_iinc (v := (x6 + 1)) (lv' := [(6, .int (x6 + 1)), (0, .ref (u 0)), (1, .ref (u r1)), (2, .ref (u r2)), (3, .int x3), (4, .int x4), (5, .int x5), (7, .int x7)]) hx hb dmX13_pack_71 hl (k := 6) rfl rfl (by decide) rfl (fun ls hl => ?_)
        refine lv_goto (tgt := 17) hx hb dmX13_pack_74 (by decide) ?_
        exact ih_1 x3 x4 x5 (x6 + 1) 0 0 0 0 0 r1 r2 0 0 z H locs ls hr1 hr2 hM (lv_sub hl [1, 2, 3, 4, 5, 6, 0] rfl) hq
      · intro x3 x4 x5 x6 x7 x8 x9 x10 x11 r1 r2 t0 t1 z H locs ls hr1 hr2 hM hl hq
        have hq : qm_X13_pack_3 K (q_X13_pack K k) x3 x4 x5 x6 x7 x8 x9 x10 x11 r1 r2 t0 t1 z = some z1 := hq
        unfold qm_X13_pack_3 at hq
        refine lv_iload hx hb dmX13_pack_86 (lv_at hl 8 rfl) ?_
        refine lv_iload hx hb dmX13_pack_88 (lv_at hl 4 rfl) ?_
        refine lv_icmp_ge (tgt := 282) hx hb dmX13_pack_90 (by decide) (fun hc => ?_) (fun hc => ?_)
        · have hq := tw_it hq hc
          refine lv_iconst (v := 0) hx hb dmX13_pack_282 (by decide) ?_
          refine lv_istore (lv' := [(8, .int 0), (0, .ref (u 0)), (1, .ref (u r1)), (2, .ref (u r2)), (3, .int x3), (4, .int x4), (5, .int x5), (6, .int x6), (7, .int x7)]) hx hb dmX13_pack_283 hl (by decide) rfl (fun ls hl => ?_)
          exact ih_9 x3 x4 x5 x6 x7 0 0 0 0 r1 r2 0 0 z H locs ls hr1 hr2 hM (lv_sub hl [1, 2, 3, 4, 5, 6, 7, 8, 0] rfl) hq
        · have hq := tw_if hq hc
          refine lv_iconst (v := (-1)) hx hb dmX13_pack_93 (by decide) ?_
          refine lv_istore (lv' := [(9, .int (-1)), (0, .ref (u 0)), (1, .ref (u r1)), (2, .ref (u r2)), (3, .int x3), (4, .int x4), (5, .int x5), (6, .int x6), (7, .int x7), (8, .int x8)]) hx hb dmX13_pack_94 hl (by decide) rfl (fun ls hl => ?_)
          refine lv_iconst (v := 0) hx hb dmX13_pack_96 (by decide) ?_
          refine lv_istore (lv' := [(10, .int 0), (9, .int (-1)), (0, .ref (u 0)), (1, .ref (u r1)), (2, .ref (u r2)), (3, .int x3), (4, .int x4), (5, .int x5), (6, .int x6), (7, .int x7), (8, .int x8)]) hx hb dmX13_pack_97 hl (by decide) rfl (fun ls hl => ?_)
          exact ih_4 x3 x4 x5 x6 x7 x8 (-1) 0 0 r1 r2 0 0 z H locs ls hr1 hr2 hM (lv_sub hl [2, 3, 4, 5, 6, 7, 8, 9, 10, 1, 0] rfl) hq
      · intro x3 x4 x5 x6 x7 x8 x9 x10 x11 r1 r2 t0 t1 z H locs ls hr1 hr2 hM hl hq
        have hq : qm_X13_pack_4 K (q_X13_pack K k) x3 x4 x5 x6 x7 x8 x9 x10 x11 r1 r2 t0 t1 z = some z1 := hq
        unfold qm_X13_pack_4 at hq
        refine lv_iload hx hb dmX13_pack_99 (lv_at hl 10 rfl) ?_
        refine lv_iload hx hb dmX13_pack_101 (lv_at hl 4 rfl) ?_
        refine lv_icmp_ge (tgt := 190) hx hb dmX13_pack_103 (by decide) (fun hc => ?_) (fun hc => ?_)
        · have hq := tw_it hq hc
          refine lv_aload_n hx hb dmX13_pack_190 rfl (lv_at hl 0 rfl) ?_
          refine mg13_88 hx hb hT hown hK hM dmX13_pack_191 ?_
          refine lv_iload hx hb dmX13_pack_194 (lv_at hl 9 rfl) ?_
          refine lv_iconst (v := 1) hx hb dmX13_pack_196 (by decide) ?_
          refine tw_zast mX_ok hU hx hb hK hM mr_9 hq dmX13_pack_197 (fun z8 H locs hM hq => ?_)
          refine lv_iconst (v := 1) hx hb dmX13_pack_198 (by decide) ?_
          refine lv_istore (lv' := [(10, .int 1), (0, .ref (u 0)), (1, .ref (u r1)), (2, .ref (u r2)), (3, .int x3), (4, .int x4), (5, .int x5), (6, .int x6), (7, .int x7), (8, .int x8), (9, .int x9)]) hx hb dmX13_pack_199 hl (by decide) rfl (fun ls hl => ?_)
          exact ih_7 x3 x4 x5 x6 x7 x8 x9 1 0 r1 r2 0 0 z8 H locs ls hr1 hr2 hM (lv_sub hl [1, 2, 3, 4, 5, 6, 7, 8, 9, 10, 0] rfl) hq
        · have hq := tw_if hq hc
          refine lv_aload_n hx hb dmX13_pack_106 rfl (lv_at hl 0 rfl) ?_
          refine mg13_88 hx hb hT hown hK hM dmX13_pack_107 ?_
          refine lv_iload hx hb dmX13_pack_110 (lv_at hl 10 rfl) ?_
          refine tw_zald mX_ok hx hb hK hM mr_9 hq dmX13_pack_112 (fun v9 hq => ?_)
          refine lv_if_ne (tgt := 184) hx hb dmX13_pack_113 (by decide) (fun hc => ?_) (fun hc => ?_)
          · have hq := tw_if hq hc
            exact ih_6 x3 x4 x5 x6 x7 x8 x9 x10 0 r1 r2 0 0 z H locs ls hr1 hr2 hM (lv_sub hl [0, 1, 2, 3, 4, 5, 6, 7, 8, 9, 10] rfl) hq
          · have hq := tw_it hq hc
            refine lv_iload hx hb dmX13_pack_116 (lv_at hl 9 rfl) ?_
            refine lv_iconst (v := (-1)) hx hb dmX13_pack_118 (by decide) ?_
            refine lv_icmp_eq (tgt := 180) hx hb dmX13_pack_119 (by decide) (fun hc => ?_) (fun hc => ?_)
            · have hq := tw_it hq hc
              exact ih_5 x3 x4 x5 x6 x7 x8 x9 x10 0 r1 r2 0 0 z H locs ls hr1 hr2 hM (lv_sub hl [0, 1, 2, 3, 4, 5, 6, 7, 8, 9, 10] rfl) hq
            · have hq := tw_if hq hc
              refine lv_aload_n hx hb dmX13_pack_122 rfl (lv_at hl 0 rfl) ?_
              refine mg13_85 hx hb hT hown hK hM dmX13_pack_123 ?_
              refine lv_iload hx hb dmX13_pack_126 (lv_at hl 10 rfl) ?_
              refine tw_iald mX_ok hx hb hK hM mr_8 hq dmX13_pack_128 (fun v10 hq => ?_)
              refine lv_aload_n hx hb dmX13_pack_129 rfl (lv_at hl 0 rfl) ?_
              refine mg13_85 hx hb hT hown hK hM dmX13_pack_130 ?_
              refine lv_iload hx hb dmX13_pack_133 (lv_at hl 9 rfl) ?_
              refine tw_iald mX_ok hx hb hK hM mr_8 hq dmX13_pack_135 (fun v11 hq => ?_)
              refine lv_icmp_lt (tgt := 180) hx hb dmX13_pack_136 (by decide) (fun hc => ?_) (fun hc => ?_)
              · have hq := tw_it hq hc
                exact ih_5 x3 x4 x5 x6 x7 x8 x9 x10 0 r1 r2 0 0 z H locs ls hr1 hr2 hM (lv_sub hl [0, 1, 2, 3, 4, 5, 6, 7, 8, 9, 10] rfl) hq
              · have hq := tw_if hq hc
                refine lv_aload_n hx hb dmX13_pack_139 rfl (lv_at hl 0 rfl) ?_
                refine mg13_85 hx hb hT hown hK hM dmX13_pack_140 ?_
                refine lv_iload hx hb dmX13_pack_143 (lv_at hl 10 rfl) ?_
                refine tw_iald mX_ok hx hb hK hM mr_8 hq dmX13_pack_145 (fun v12 hq => ?_)
                refine lv_aload_n hx hb dmX13_pack_146 rfl (lv_at hl 0 rfl) ?_
                refine mg13_85 hx hb hT hown hK hM dmX13_pack_147 ?_
                refine lv_iload hx hb dmX13_pack_150 (lv_at hl 9 rfl) ?_
                refine tw_iald mX_ok hx hb hK hM mr_8 hq dmX13_pack_152 (fun v13 hq => ?_)
                refine lv_icmp_ne (tgt := 184) hx hb dmX13_pack_153 (by decide) (fun hc => ?_) (fun hc => ?_)
                · have hq := tw_if hq hc
                  exact ih_6 x3 x4 x5 x6 x7 x8 x9 x10 0 r1 r2 0 0 z H locs ls hr1 hr2 hM (lv_sub hl [0, 1, 2, 3, 4, 5, 6, 7, 8, 9, 10] rfl) hq
                · have hq := tw_it hq hc
                  refine lv_aload_n hx hb dmX13_pack_156 rfl (lv_at hl 0 rfl) ?_
                  refine mg13_54 hx hb hT hown hK hM dmX13_pack_157 ?_
                  refine lv_bipush (v := 32) hx hb dmX13_pack_160 (by decide) ?_
                  refine lv_iload hx hb dmX13_pack_162 (lv_at hl 10 rfl) ?_
                  refine lv_imul hx hb dmX13_pack_164 ?_
                  refine lv_aload_n hx hb dmX13_pack_165 rfl (lv_at hl 0 rfl) ?_
                  refine mg13_54 hx hb hT hown hK hM dmX13_pack_166 ?_
                  refine lv_bipush (v := 32) hx hb dmX13_pack_169 (by decide) ?_
                  refine lv_iload hx hb dmX13_pack_171 (lv_at hl 9 rfl) ?_
                  refine lv_imul hx hb dmX13_pack_173 ?_
                  obtain ⟨v15, z14, hcq, hq⟩ := tw_cl1 hq
                  refine tw_cali hM (va_runS (As := [.ref (u 7), .int (32 * x10), .ref (u 7), .int (32 * x9)]) (rest := []) ⟨hx, hb, hml, hown, hts⟩ (km_X13_isBelow l D q u hU K 7 (32 * x10) 7 (32 * x9) mr_7 mr_7 z z14 v15 hcq) (va_cwS 4 hts (tw_gS wM_good wq_62 wq_63 wq_61 wq_64) rfl rfl rfl cd_X13_isBelow ⟨(Nat.le_of_ble_eq_true rfl), (Nat.le_of_ble_eq_true rfl)⟩) (mw_preS hK hN hM) rfl rfl hl.1 rfl (lv_room (Nat.le_of_ble_eq_true rfl)) dmX13_pack_174 ⟨(Nat.le_of_ble_eq_true rfl), (Nat.le_of_ble_eq_true rfl)⟩) (fun H locs hM => ?_)
                  refine lv_if_eq (tgt := 184) hx hb dmX13_pack_177 (by decide) (fun hc => ?_) (fun hc => ?_)
                  · have hq := tw_it hq hc
                    exact ih_6 x3 x4 x5 x6 x7 x8 x9 x10 0 r1 r2 0 0 z14 H locs ls hr1 hr2 hM (lv_sub hl [0, 1, 2, 3, 4, 5, 6, 7, 8, 9, 10] rfl) hq
                  · have hq := tw_if hq hc
                    exact ih_5 x3 x4 x5 x6 x7 x8 x9 x10 0 r1 r2 0 0 z14 H locs ls hr1 hr2 hM (lv_sub hl [0, 1, 2, 3, 4, 5, 6, 7, 8, 9, 10] rfl) hq
      · intro x3 x4 x5 x6 x7 x8 x9 x10 x11 r1 r2 t0 t1 z H locs ls hr1 hr2 hM hl hq
        have hq : qm_X13_pack_5 K (q_X13_pack K k) x3 x4 x5 x6 x7 x8 x9 x10 x11 r1 r2 t0 t1 z = some z1 := hq
        unfold qm_X13_pack_5 at hq
        refine lv_iload hx hb dmX13_pack_180 (lv_at hl 10 rfl) ?_
        refine lv_istore (lv' := [(9, .int x10), (0, .ref (u 0)), (1, .ref (u r1)), (2, .ref (u r2)), (3, .int x3), (4, .int x4), (5, .int x5), (6, .int x6), (7, .int x7), (8, .int x8), (10, .int x10)]) hx hb dmX13_pack_182 hl (by decide) rfl (fun ls hl => ?_)
        exact ih_6 x3 x4 x5 x6 x7 x8 x10 x10 0 r1 r2 0 0 z H locs ls hr1 hr2 hM (lv_sub hl [1, 2, 3, 4, 5, 6, 7, 8, 9, 0, 10] rfl) hq
      · intro x3 x4 x5 x6 x7 x8 x9 x10 x11 r1 r2 t0 t1 z H locs ls hr1 hr2 hM hl hq
        have hq : qm_X13_pack_6 K (q_X13_pack K k) x3 x4 x5 x6 x7 x8 x9 x10 x11 r1 r2 t0 t1 z = some z1 := hq
        unfold qm_X13_pack_6 at hq
        refine lv_iinc (v := (x10 + 1)) (lv' := [(10, .int (x10 + 1)), (0, .ref (u 0)), (1, .ref (u r1)), (2, .ref (u r2)), (3, .int x3), (4, .int x4), (5, .int x5), (6, .int x6), (7, .int x7), (8, .int x8), (9, .int x9)]) hx hb dmX13_pack_184 hl (k := 10) rfl rfl (by decide) rfl (fun ls hl => ?_)
        refine lv_goto (tgt := 99) hx hb dmX13_pack_187 (by decide) ?_
        exact ih_4 x3 x4 x5 x6 x7 x8 x9 (x10 + 1) 0 r1 r2 0 0 z H locs ls hr1 hr2 hM (lv_sub hl [1, 2, 3, 4, 5, 6, 7, 8, 9, 10, 0] rfl) hq
      · intro x3 x4 x5 x6 x7 x8 x9 x10 x11 r1 r2 t0 t1 z H locs ls hr1 hr2 hM hl hq
        have hq : qm_X13_pack_7 K (q_X13_pack K k) x3 x4 x5 x6 x7 x8 x9 x10 x11 r1 r2 t0 t1 z = some z1 := hq
        unfold qm_X13_pack_7 at hq
        refine lv_iload hx hb dmX13_pack_201 (lv_at hl 10 rfl) ?_
        refine lv_aload_n hx hb dmX13_pack_203 rfl (lv_at hl 0 rfl) ?_
        refine mg13_54 hx hb hT hown hK hM dmX13_pack_204 ?_
        refine lv_bipush (v := 32) hx hb dmX13_pack_207 (by decide) ?_
        refine lv_iload hx hb dmX13_pack_209 (lv_at hl 9 rfl) ?_
        refine lv_imul hx hb dmX13_pack_211 ?_
        refine tw_iald mX_ok hx hb hK hM mr_7 hq dmX13_pack_212 (fun v16 hq => ?_)
        refine lv_icmp_gt (tgt := 262) hx hb dmX13_pack_213 (by decide) (fun hc => ?_) (fun hc => ?_)
        · have hq := tw_it hq hc
          refine lv_iload hx hb dmX13_pack_262 (lv_at hl 7 rfl) ?_
          refine lv_aload_n hx hb dmX13_pack_264 rfl (lv_at hl 0 rfl) ?_
          refine mg13_85 hx hb hT hown hK hM dmX13_pack_265 ?_
          refine lv_iload hx hb dmX13_pack_268 (lv_at hl 9 rfl) ?_
          refine tw_iald mX_ok hx hb hK hM mr_8 hq dmX13_pack_270 (fun v17 hq => ?_)
          refine lv_iconst (v := 2) hx hb dmX13_pack_271 (by decide) ?_
          obtain ⟨hz, hq⟩ := tw_nzI hq
          refine lv_idiv hx hb dmX13_pack_272 hz ?_
          refine lv_iadd hx hb dmX13_pack_273 ?_
          refine lv_istore (lv' := [(7, .int (x7 + (v17 / 2))), (0, .ref (u 0)), (1, .ref (u r1)), (2, .ref (u r2)), (3, .int x3), (4, .int x4), (5, .int x5), (6, .int x6), (8, .int x8), (9, .int x9), (10, .int x10)]) hx hb dmX13_pack_274 hl (by decide) rfl (fun ls hl => ?_)
          refine lv_iinc (v := (x8 + 1)) (lv' := [(8, .int (x8 + 1)), (7, .int (x7 + (v17 / 2))), (0, .ref (u 0)), (1, .ref (u r1)), (2, .ref (u r2)), (3, .int x3), (4, .int x4), (5, .int x5), (6, .int x6), (9, .int x9), (10, .int x10)]) hx hb dmX13_pack_276 hl (k := 8) rfl rfl (by decide) rfl (fun ls hl => ?_)
          refine lv_goto (tgt := 86) hx hb dmX13_pack_279 (by decide) ?_
          exact ih_3 x3 x4 x5 x6 (x7 + (v17 / 2)) (x8 + 1) 0 0 0 r1 r2 0 0 z H locs ls hr1 hr2 hM (lv_sub hl [2, 3, 4, 5, 6, 7, 8, 1, 0] rfl) hq
        · have hq := tw_if hq hc
          refine lv_aload_n hx hb dmX13_pack_216 rfl (lv_at hl 0 rfl) ?_
          refine mg13_54 hx hb hT hown hK hM dmX13_pack_217 ?_
          refine lv_bipush (v := 32) hx hb dmX13_pack_220 (by decide) ?_
          refine lv_iload hx hb dmX13_pack_222 (lv_at hl 9 rfl) ?_
          refine lv_imul hx hb dmX13_pack_224 ?_
          refine lv_iload hx hb dmX13_pack_225 (lv_at hl 10 rfl) ?_
          refine lv_iadd hx hb dmX13_pack_227 ?_
          refine tw_iald mX_ok hx hb hK hM mr_7 hq dmX13_pack_228 (fun v18 hq => ?_)
          refine lv_istore (lv' := [(11, .int v18), (0, .ref (u 0)), (1, .ref (u r1)), (2, .ref (u r2)), (3, .int x3), (4, .int x4), (5, .int x5), (6, .int x6), (7, .int x7), (8, .int x8), (9, .int x9), (10, .int x10)]) hx hb dmX13_pack_229 hl (by decide) rfl (fun ls hl => ?_)
          refine lv_iinc (v := (x6 + 1)) (lv' := [(6, .int (x6 + 1)), (11, .int v18), (0, .ref (u 0)), (1, .ref (u r1)), (2, .ref (u r2)), (3, .int x3), (4, .int x4), (5, .int x5), (7, .int x7), (8, .int x8), (9, .int x9), (10, .int x10)]) hx hb dmX13_pack_231 hl (k := 7) rfl rfl (by decide) rfl (fun ls hl => ?_)
          refine lv_aload_n hx hb dmX13_pack_234 rfl (lv_at hl 4 rfl) ?_
          refine lv_iload_n hx hb dmX13_pack_235 rfl (lv_at hl 5 rfl) ?_
          refine lv_iload hx hb dmX13_pack_236 (lv_at hl 0 rfl) ?_
          refine lv_iadd hx hb dmX13_pack_238 ?_
          refine lv_iload hx hb dmX13_pack_239 (lv_at hl 1 rfl) ?_
          refine lv_if_ne (tgt := 248) hx hb dmX13_pack_241 (by decide) (fun hc => ?_) (fun hc => ?_)
          · have hq := tw_if hq hc
            refine lv_iload hx hb dmX13_pack_248 (lv_at hl 1 rfl) ?_
            refine lv_iconst (v := 4) hx hb dmX13_pack_250 (by decide) ?_
            refine lv_iload hx hb dmX13_pack_251 (lv_at hl 8 rfl) ?_
            refine lv_imul hx hb dmX13_pack_253 ?_
            refine lv_iadd hx hb dmX13_pack_254 ?_
            exact ih_8 x3 x4 x5 (x6 + 1) x7 x8 x9 x10 v18 r1 r2 (v18 + (4 * x7)) (x3 + (x6 + 1)) z H locs ls hr1 hr2 hM (lv_sub hl [2, 3, 4, 5, 6, 7, 0, 8, 9, 10, 11, 1] rfl) hq
          · have hq := tw_it hq hc
            refine lv_iconst (v := 0) hx hb dmX13_pack_244 (by decide) ?_
            refine lv_goto (tgt := 255) hx hb dmX13_pack_245 (by decide) ?_
            exact ih_8 x3 x4 x5 (x6 + 1) x7 x8 x9 x10 v18 r1 r2 0 (x3 + (x6 + 1)) z H locs ls hr1 hr2 hM (lv_sub hl [2, 3, 4, 5, 6, 7, 0, 8, 9, 10, 11, 1] rfl) hq
      · intro x3 x4 x5 x6 x7 x8 x9 x10 x11 r1 r2 t0 t1 z H locs ls hr1 hr2 hM hl hq
        have hq : qm_X13_pack_8 K (q_X13_pack K k) x3 x4 x5 x6 x7 x8 x9 x10 x11 r1 r2 t0 t1 z = some z1 := hq
        unfold qm_X13_pack_8 at hq
        refine tw_iast mX_ok hU hx hb hK hM hr2 hq dmX13_pack_255 (fun z19 H locs hM hq => ?_)
        refine lv_iinc (v := (x10 + 1)) (lv' := [(10, .int (x10 + 1)), (0, .ref (u 0)), (1, .ref (u r1)), (2, .ref (u r2)), (3, .int x3), (4, .int x4), (5, .int x5), (6, .int x6), (7, .int x7), (8, .int x8), (9, .int x9), (11, .int x11)]) hx hb dmX13_pack_256 hl (k := 10) rfl rfl (by decide) rfl (fun ls hl => ?_)
        refine lv_goto (tgt := 201) hx hb dmX13_pack_259 (by decide) ?_
        exact ih_7 x3 x4 x5 x6 x7 x8 x9 (x10 + 1) 0 r1 r2 0 0 z19 H locs ls hr1 hr2 hM (lv_sub hl [1, 2, 3, 4, 5, 6, 7, 8, 9, 10, 0] rfl) hq
      · intro x3 x4 x5 x6 x7 x8 x9 x10 x11 r1 r2 t0 t1 z H locs ls hr1 hr2 hM hl hq
        have hq : qm_X13_pack_9 K (q_X13_pack K k) x3 x4 x5 x6 x7 x8 x9 x10 x11 r1 r2 t0 t1 z = some z1 := hq
        unfold qm_X13_pack_9 at hq
        refine lv_iload hx hb dmX13_pack_285 (lv_at hl 8 rfl) ?_
        refine lv_iload hx hb dmX13_pack_287 (lv_at hl 5 rfl) ?_
        refine lv_icmp_ge (tgt := 308) hx hb dmX13_pack_289 (by decide) (fun hc => ?_) (fun hc => ?_)
        · have hq := tw_it hq hc
          refine lv_aload_n hx hb dmX13_pack_308 rfl (lv_at hl 2 rfl) ?_
          refine lv_iload_n hx hb dmX13_pack_309 rfl (lv_at hl 3 rfl) ?_
          refine lv_iload hx hb dmX13_pack_310 (lv_at hl 6 rfl) ?_
          refine tw_iast mX_ok hU hx hb hK hM hr2 hq dmX13_pack_312 (fun z20 H locs hM hq => ?_)
          exact mw_vret hx hb hr hlocks hM hq hQQ dmX13_pack_313
        · have hq := tw_if hq hc
          refine lv_iinc (v := (x6 + 1)) (lv' := [(6, .int (x6 + 1)), (0, .ref (u 0)), (1, .ref (u r1)), (2, .ref (u r2)), (3, .int x3), (4, .int x4), (5, .int x5), (7, .int x7), (8, .int x8)]) hx hb dmX13_pack_292 hl (k := 6) rfl rfl (by decide) rfl (fun ls hl => ?_)
          refine lv_aload_n hx hb dmX13_pack_295 rfl (lv_at hl 3 rfl) ?_
          refine lv_iload_n hx hb dmX13_pack_296 rfl (lv_at hl 4 rfl) ?_
          refine lv_iload hx hb dmX13_pack_297 (lv_at hl 0 rfl) ?_
          refine lv_iadd hx hb dmX13_pack_299 ?_
          refine lv_iconst (v := 0) hx hb dmX13_pack_300 (by decide) ?_
          refine tw_iast mX_ok hU hx hb hK hM hr2 hq dmX13_pack_301 (fun z21 H locs hM hq => ?_)
          refine lv_iinc (v := (x8 + 1)) (lv' := [(8, .int (x8 + 1)), (6, .int (x6 + 1)), (0, .ref (u 0)), (1, .ref (u r1)), (2, .ref (u r2)), (3, .int x3), (4, .int x4), (5, .int x5), (7, .int x7)]) hx hb dmX13_pack_302 hl (k := 8) rfl rfl (by decide) rfl (fun ls hl => ?_)
          refine lv_goto (tgt := 285) hx hb dmX13_pack_305 (by decide) ?_
          exact ih_9 x3 x4 x5 (x6 + 1) x7 (x8 + 1) 0 0 0 r1 r2 0 0 z21 H locs ls hr1 hr2 hM (lv_sub hl [2, 3, 4, 5, 6, 7, 1, 8, 0] rfl) hq
  exact (key K).1 x3 0 0 0 0 0 0 0 0 r1 r2 0 0 z s.heap [] ls hr1 hr2 hM (lv_sub hl [0, 1, 2, 3] rfl) hq
theorem dmX13_unpack_0 : decode cX13_unpack 0 = .ok (.aload_n 2, 1) := dw_at cX13_unpack_k0 (p := 0) rfl (by decide +kernel)
theorem dmX13_unpack_1 : decode cX13_unpack 1 = .ok (.invokevirtual 91, 3) := dw_at cX13_unpack_k0 (p := 1) rfl (by decide +kernel)
theorem dmX13_unpack_4 : decode cX13_unpack 4 = .ok (.iconst 1, 1) := dw_at cX13_unpack_k0 (p := 4) rfl (by decide +kernel)
theorem dmX13_unpack_5 : decode cX13_unpack 5 = .ok (.istore_n 3, 1) := dw_at cX13_unpack_k0 (p := 5) rfl (by decide +kernel)
theorem dmX13_unpack_6 : decode cX13_unpack 6 = .ok (.iload_n 3, 1) := dw_at cX13_unpack_k0 (p := 6) rfl (by decide +kernel)
theorem dmX13_unpack_7 : decode cX13_unpack 7 = .ok (.aload_n 0, 1) := dw_at cX13_unpack_k0 (p := 7) rfl (by decide +kernel)
theorem dmX13_unpack_8 : decode cX13_unpack 8 = .ok (.iload_n 1, 1) := dw_at cX13_unpack_k0 (p := 8) rfl (by decide +kernel)
theorem dmX13_unpack_9 : decode cX13_unpack 9 = .ok (.iaload, 1) := dw_at cX13_unpack_k0 (p := 9) rfl (by decide +kernel)
theorem dmX13_unpack_10 : decode cX13_unpack 10 = .ok (.if_icmp .gt 68, 3) := dw_at cX13_unpack_k0 (p := 10) rfl (by decide +kernel)
theorem dmX13_unpack_13 : decode cX13_unpack 13 = .ok (.aload_n 0, 1) := dw_at cX13_unpack_k0 (p := 13) rfl (by decide +kernel)
theorem dmX13_unpack_14 : decode cX13_unpack 14 = .ok (.iload_n 1, 1) := dw_at cX13_unpack_k0 (p := 14) rfl (by decide +kernel)
theorem dmX13_unpack_15 : decode cX13_unpack 15 = .ok (.iload_n 3, 1) := dw_at cX13_unpack_k0 (p := 15) rfl (by decide +kernel)
theorem dmX13_unpack_16 : decode cX13_unpack 16 = .ok (.iadd, 1) := dw_at cX13_unpack_k0 (p := 16) rfl (by decide +kernel)
theorem dmX13_unpack_17 : decode cX13_unpack 17 = .ok (.iaload, 1) := dw_at cX13_unpack_k0 (p := 17) rfl (by decide +kernel)
theorem dmX13_unpack_18 : decode cX13_unpack 18 = .ok (.istore 4, 2) := dw_at cX13_unpack_k0 (p := 18) rfl (by decide +kernel)
theorem dmX13_unpack_20 : decode cX13_unpack 20 = .ok (.iload 4, 2) := dw_at cX13_unpack_k0 (p := 20) rfl (by decide +kernel)
theorem dmX13_unpack_22 : decode cX13_unpack 22 = .ok (.ifCond .ne 10, 3) := dw_at cX13_unpack_k0 (p := 22) rfl (by decide +kernel)
theorem dmX13_unpack_25 : decode cX13_unpack 25 = .ok (.aload_n 2, 1) := dw_at cX13_unpack_k1 (p := 0) rfl (by decide +kernel)
theorem dmX13_unpack_26 : decode cX13_unpack 26 = .ok (.invokevirtual 94, 3) := dw_at cX13_unpack_k1 (p := 1) rfl (by decide +kernel)
theorem dmX13_unpack_29 : decode cX13_unpack 29 = .ok (.goto 43, 3) := dw_at cX13_unpack_k1 (p := 4) rfl (by decide +kernel)
theorem dmX13_unpack_32 : decode cX13_unpack 32 = .ok (.aload_n 2, 1) := dw_at cX13_unpack_k1 (p := 7) rfl (by decide +kernel)
theorem dmX13_unpack_33 : decode cX13_unpack 33 = .ok (.getfield 35, 3) := dw_at cX13_unpack_k1 (p := 8) rfl (by decide +kernel)
theorem dmX13_unpack_36 : decode cX13_unpack 36 = .ok (.iload 4, 2) := dw_at cX13_unpack_k1 (p := 11) rfl (by decide +kernel)
theorem dmX13_unpack_38 : decode cX13_unpack 38 = .ok (.iconst 2, 1) := dw_at cX13_unpack_k1 (p := 13) rfl (by decide +kernel)
theorem dmX13_unpack_39 : decode cX13_unpack 39 = .ok (.ishr, 1) := dw_at cX13_unpack_k1 (p := 14) rfl (by decide +kernel)
theorem dmX13_unpack_40 : decode cX13_unpack 40 = .ok (.iconst 1, 1) := dw_at cX13_unpack_k1 (p := 15) rfl (by decide +kernel)
theorem dmX13_unpack_41 : decode cX13_unpack 41 = .ok (.isub, 1) := dw_at cX13_unpack_k1 (p := 16) rfl (by decide +kernel)
theorem dmX13_unpack_42 : decode cX13_unpack 42 = .ok (.iload 4, 2) := dw_at cX13_unpack_k1 (p := 17) rfl (by decide +kernel)
theorem dmX13_unpack_44 : decode cX13_unpack 44 = .ok (.iconst 1, 1) := dw_at cX13_unpack_k1 (p := 19) rfl (by decide +kernel)
theorem dmX13_unpack_45 : decode cX13_unpack 45 = .ok (.iand, 1) := dw_at cX13_unpack_k1 (p := 20) rfl (by decide +kernel)
theorem dmX13_unpack_46 : decode cX13_unpack 46 = .ok (.iconst 1, 1) := dw_at cX13_unpack_k1 (p := 21) rfl (by decide +kernel)
theorem dmX13_unpack_47 : decode cX13_unpack 47 = .ok (.if_icmp .ne 7, 3) := dw_at cX13_unpack_k1 (p := 22) rfl (by decide +kernel)
theorem dmX13_unpack_50 : decode cX13_unpack 50 = .ok (.iconst (-1), 1) := dw_at cX13_unpack_k2 (p := 0) rfl (by decide +kernel)
theorem dmX13_unpack_51 : decode cX13_unpack 51 = .ok (.goto 4, 3) := dw_at cX13_unpack_k2 (p := 1) rfl (by decide +kernel)
theorem dmX13_unpack_54 : decode cX13_unpack 54 = .ok (.iconst 1, 1) := dw_at cX13_unpack_k2 (p := 4) rfl (by decide +kernel)
theorem dmX13_unpack_55 : decode cX13_unpack 55 = .ok (.iastore, 1) := dw_at cX13_unpack_k2 (p := 5) rfl (by decide +kernel)
theorem dmX13_unpack_56 : decode cX13_unpack 56 = .ok (.aload_n 2, 1) := dw_at cX13_unpack_k2 (p := 6) rfl (by decide +kernel)
theorem dmX13_unpack_57 : decode cX13_unpack 57 = .ok (.iload 4, 2) := dw_at cX13_unpack_k2 (p := 7) rfl (by decide +kernel)
theorem dmX13_unpack_59 : decode cX13_unpack 59 = .ok (.iconst 2, 1) := dw_at cX13_unpack_k2 (p := 9) rfl (by decide +kernel)
theorem dmX13_unpack_60 : decode cX13_unpack 60 = .ok (.ishr, 1) := dw_at cX13_unpack_k2 (p := 10) rfl (by decide +kernel)
theorem dmX13_unpack_61 : decode cX13_unpack 61 = .ok (.iconst 1, 1) := dw_at cX13_unpack_k2 (p := 11) rfl (by decide +kernel)
theorem dmX13_unpack_62 : decode cX13_unpack 62 = .ok (.isub, 1) := dw_at cX13_unpack_k2 (p := 12) rfl (by decide +kernel)
theorem dmX13_unpack_63 : decode cX13_unpack 63 = .ok (.iload 4, 2) := dw_at cX13_unpack_k2 (p := 13) rfl (by decide +kernel)
theorem dmX13_unpack_65 : decode cX13_unpack 65 = .ok (.iconst 1, 1) := dw_at cX13_unpack_k2 (p := 15) rfl (by decide +kernel)
theorem dmX13_unpack_66 : decode cX13_unpack 66 = .ok (.ishr, 1) := dw_at cX13_unpack_k2 (p := 16) rfl (by decide +kernel)
theorem dmX13_unpack_67 : decode cX13_unpack 67 = .ok (.iconst 1, 1) := dw_at cX13_unpack_k2 (p := 17) rfl (by decide +kernel)
theorem dmX13_unpack_68 : decode cX13_unpack 68 = .ok (.iand, 1) := dw_at cX13_unpack_k2 (p := 18) rfl (by decide +kernel)
theorem dmX13_unpack_69 : decode cX13_unpack 69 = .ok (.invokevirtual 97, 3) := dw_at cX13_unpack_k2 (p := 19) rfl (by decide +kernel)
theorem dmX13_unpack_72 : decode cX13_unpack 72 = .ok (.iinc 3 1, 3) := dw_at cX13_unpack_k2 (p := 22) rfl (by decide +kernel)
theorem dmX13_unpack_75 : decode cX13_unpack 75 = .ok (.goto (-69), 3) := dw_at cX13_unpack_k2 (p := 25) rfl (by decide +kernel)
theorem dmX13_unpack_78 : decode cX13_unpack 78 = .ok (.return_, 1) := dw_at cX13_unpack_k2 (p := 28) rfl (by decide +kernel)
def qm_X13_unpack_0 (K : Nat) (go : Nat → Int32 → Int32 → Int32 → Nat → Nat → Int32 → Int32 → ow_MS → Option ow_MS) (x1 : Int32) (x3 : Int32) (x4 : Int32) (r0 : Nat) (r2 : Nat) (t0 : Int32) (t1 : Int32) (z : ow_MS) : Option ow_MS :=
 cs0 (qe_X12_clear K r2 z) fun z1 => go 1 x1 1 0 r0 r2 0 0 z1
def qm_X13_unpack_1 (K : Nat) (go : Nat → Int32 → Int32 → Int32 → Nat → Nat → Int32 → Int32 → ow_MS → Option ow_MS) (x1 : Int32) (x3 : Int32) (x4 : Int32) (r0 : Nat) (r2 : Nat) (t0 : Int32) (t1 : Int32) (z : ow_MS) : Option ow_MS :=
 rdI mX z r0 x1 fun v2 => (if v2 < x3 then some z
 else rdI mX z r0 (x1 + x3) fun v3 => (if v3 = 0 then cs0 (qe_X12_end K r2 z) fun z4 => go 3 x1 x3 v3 r0 r2 0 0 z4
 else (if (v3 &&& 1) = 1 then go 2 x1 x3 v3 r0 r2 (-1) (((v3 : Int32) >>> ((2 : Int32) &&& 31)) - 1) z
 else go 2 x1 x3 v3 r0 r2 1 (((v3 : Int32) >>> ((2 : Int32) &&& 31)) - 1) z)))
def qm_X13_unpack_2 (K : Nat) (go : Nat → Int32 → Int32 → Int32 → Nat → Nat → Int32 → Int32 → ow_MS → Option ow_MS) (x1 : Int32) (x3 : Int32) (x4 : Int32) (r0 : Nat) (r2 : Nat) (t0 : Int32) (t1 : Int32) (z : ow_MS) : Option ow_MS :=
 wrI mX z (r2 + 6) t1 t0 fun z5 => cs0 (qe_X12_add K r2 (((x4 : Int32) >>> ((2 : Int32) &&& 31)) - 1) (((x4 : Int32) >>> ((1 : Int32) &&& 31)) &&& 1) z5) fun z6 => go 3 x1 x3 x4 r0 r2 0 0 z6
def qm_X13_unpack_3 (K : Nat) (go : Nat → Int32 → Int32 → Int32 → Nat → Nat → Int32 → Int32 → ow_MS → Option ow_MS) (x1 : Int32) (x3 : Int32) (x4 : Int32) (r0 : Nat) (r2 : Nat) (t0 : Int32) (t1 : Int32) (z : ow_MS) : Option ow_MS :=
 go 1 x1 (x3 + 1) 0 r0 r2 0 0 z
def qb_X13_unpack (K : Nat) (go : Nat → Int32 → Int32 → Int32 → Nat → Nat → Int32 → Int32 → ow_MS → Option ow_MS) (L : Nat) (x1 : Int32) (x3 : Int32) (x4 : Int32) (r0 : Nat) (r2 : Nat) (t0 : Int32) (t1 : Int32) (z : ow_MS) : Option ow_MS := match L with
  | 0 => qm_X13_unpack_0 K go x1 x3 x4 r0 r2 t0 t1 z
  | 1 => qm_X13_unpack_1 K go x1 x3 x4 r0 r2 t0 t1 z
  | 2 => qm_X13_unpack_2 K go x1 x3 x4 r0 r2 t0 t1 z
  | 3 => qm_X13_unpack_3 K go x1 x3 x4 r0 r2 t0 t1 z
  | _ => none
def q_X13_unpack (K : Nat) : Nat → Nat → Int32 → Int32 → Int32 → Nat → Nat → Int32 → Int32 → ow_MS → Option ow_MS
  | 0 => fun _ _ _ _ _ _ _ _ _ => none
  | k + 1 => qb_X13_unpack K (q_X13_unpack K k)
def qe_X13_unpack (K : Nat) (r0 : Nat) (x1 : Int32) (r2 : Nat) (z : ow_MS) : Option ow_MS := q_X13_unpack K K 0 x1 0 0 r0 r2 0 0 z
abbrev wm_X13_unpack : List Cond := .code yX13_unpack cX13_unpack 5 none :: wM
theorem cd_X13_unpack : yX13_unpack.cls ≠ "java/lang/invoke/MethodHandle" ∧ yX13_unpack.cls ≠ "java/lang/invoke/VarHandle" ∧ (parseMethodDescriptor yX13_unpack.desc).map (fun d => d.parameters.length) = some 3 := by decide +kernel
set_option maxHeartbeats 4000000 in
set_option maxRecDepth 100000 in
theorem km_X13_unpack (l : Launch) (D : va_G) (q : ow_Q5) (u : Nat → Nat) (hU : tw_inj mX u) (K : Nat) (r0 : Nat) (x1 : Int32) (r2 : Nat) (hr0 : tw_in mX r0 0) (hr2 : mw_net r2) (z z1 : ow_MS) (hq : qe_X13_unpack K r0 x1 r2 z = some z1) : Met l yX13_unpack wm_X13_unpack ({ frames := 1, cells := 0, slots := 0, locals := 22 } : Room) (va_Pc [.ref (u r0), .int x1, .ref (u r2)] (mw_pre D q u z)) (va_Qv (fun (_ : Unit) => True) (fun _ t => va_P D vwCl (tw mX q u z1) t.heap) (tw_A mX u)) 0 0 (tw_A mX u) := by
  refine Met.ofW (cc := cX13_unpack) (maxL := 5) (ret := none) (by decide) rfl ?_
  intro p e s m args below meth c s₁ B hml hv
  obtain ⟨rfl, hP, hK, hN⟩ := hv
  have hx := B.exec
  have hb := B.bytes
  have hr := B.returns
  have hts := atoms_spec (ws := wm_X13_unpack) B.pre
  have hT : ∀ w ∈ wM, w.before ([.ref (u r0), .int x1, .ref (u r2)] : List Value).toArray s = true := fun w h => hts w (List.mem_cons_of_mem _ h)
  have hown : s.vm.findClass RX13 = some m.cls := findClass_of_methodNamed B.named
  have hlocks := B.notSynchronized
  have hM : tw_M D vwCl mX q s.heap u z s.heap [] := ⟨hP, va_S.rf⟩
  have hl := lv_entry ([.ref (u r0), .int x1, .ref (u r2)]) (n := 5) (Nat.le_of_ble_eq_true rfl)
  rw [lg_entry_eq]
  generalize (lg_sl ([.ref (u r0), .int x1, .ref (u r2)]) ++ List.replicate (5 - (lg_sl ([.ref (u r0), .int x1, .ref (u r2)])).length) Slot.unset).toArray = ls at hl ⊢
  have hl : lv_has ls 5 [(0, .ref (u r0)), (1, .int x1), (2, .ref (u r2))] := hl
  refine ow_named (fun QQ hQQ => ?_)
  generalize ([.ref (u r0), .int x1, .ref (u r2)] : List Value).toArray = args at hts hT hQQ ⊢
  have key : ∀ k : Nat, (∀ (x1 : Int32) (x3 : Int32) (x4 : Int32) (r0 : Nat) (r2 : Nat) (t0 : Int32) (t1 : Int32) (z : ow_MS) (H : Heap) (locs : List Loc) (ls : Array Slot), tw_in mX r0 0 → mw_net r2 → tw_M D vwCl mX q s.heap u z H locs → lv_has ls 5 [(0, .ref (u r0)), (1, .int x1), (2, .ref (u r2))] → q_X13_unpack K k 0 x1 x3 x4 r0 r2 t0 t1 z = some z1 → W p l e ({ frames := 1, cells := 0, slots := 0, locals := 22 } : Room) s m args below meth c H locs 0 0 QQ (F0 m 0 ls [])) ∧ (∀ (x1 : Int32) (x3 : Int32) (x4 : Int32) (r0 : Nat) (r2 : Nat) (t0 : Int32) (t1 : Int32) (z : ow_MS) (H : Heap) (locs : List Loc) (ls : Array Slot), tw_in mX r0 0 → mw_net r2 → tw_M D vwCl mX q s.heap u z H locs → lv_has ls 5 [(0, .ref (u r0)), (1, .int x1), (2, .ref (u r2)), (3, .int x3)] → q_X13_unpack K k 1 x1 x3 x4 r0 r2 t0 t1 z = some z1 → W p l e ({ frames := 1, cells := 0, slots := 0, locals := 22 } : Room) s m args below meth c H locs 0 0 QQ (F0 m 6 ls [])) ∧ (∀ (x1 : Int32) (x3 : Int32) (x4 : Int32) (r0 : Nat) (r2 : Nat) (t0 : Int32) (t1 : Int32) (z : ow_MS) (H : Heap) (locs : List Loc) (ls : Array Slot), tw_in mX r0 0 → mw_net r2 → tw_M D vwCl mX q s.heap u z H locs → lv_has ls 5 [(0, .ref (u r0)), (1, .int x1), (2, .ref (u r2)), (3, .int x3), (4, .int x4)] → q_X13_unpack K k 2 x1 x3 x4 r0 r2 t0 t1 z = some z1 → W p l e ({ frames := 1, cells := 0, slots := 0, locals := 22 } : Room) s m args below meth c H locs 0 0 QQ (F0 m 55 ls [.int t0, .int t1, .ref (u (r2 + 6))])) ∧ (∀ (x1 : Int32) (x3 : Int32) (x4 : Int32) (r0 : Nat) (r2 : Nat) (t0 : Int32) (t1 : Int32) (z : ow_MS) (H : Heap) (locs : List Loc) (ls : Array Slot), tw_in mX r0 0 → mw_net r2 → tw_M D vwCl mX q s.heap u z H locs → lv_has ls 5 [(0, .ref (u r0)), (1, .int x1), (2, .ref (u r2)), (3, .int x3), (4, .int x4)] → q_X13_unpack K k 3 x1 x3 x4 r0 r2 t0 t1 z = some z1 → W p l e ({ frames := 1, cells := 0, slots := 0, locals := 22 } : Room) s m args below meth c H locs 0 0 QQ (F0 m 72 ls [])) := by
    intro k
    induction k with
    | zero => exact ⟨fun _ _ _ _ _ _ _ _ _ _ _ _ _ _ _ hq => tw_no hq, fun _ _ _ _ _ _ _ _ _ _ _ _ _ _ _ hq => tw_no hq, fun _ _ _ _ _ _ _ _ _ _ _ _ _ _ _ hq => tw_no hq, fun _ _ _ _ _ _ _ _ _ _ _ _ _ _ _ hq => tw_no hq⟩
    | succ k ih =>
      obtain ⟨ih_0, ih_1, ih_2, ih_3⟩ := ih
      refine ⟨?_, ?_, ?_, ?_⟩
      · intro x1 x3 x4 r0 r2 t0 t1 z H locs ls hr0 hr2 hM hl hq
        have hq : qm_X13_unpack_0 K (q_X13_unpack K k) x1 x3 x4 r0 r2 t0 t1 z = some z1 := hq
        unfold qm_X13_unpack_0 at hq
        refine lv_aload_n hx hb dmX13_unpack_0 rfl (lv_at hl 2 rfl) ?_
        obtain ⟨z1, hcq, hq⟩ := tw_cl0 hq
        refine tw_calv hM (va_runV (As := []) (rest := []) ⟨hx, hb, hml, hown, hts⟩ (km_X12_clear l D q u hU K r2 hr2 z z1 hcq) (cwV 0 hts (tw_gV wM_good wq_85 wq_11 wq_12 wq_13 wq_3) rfl rfl rfl cd_X12_clear ⟨(Nat.le_of_ble_eq_true rfl), (Nat.le_of_ble_eq_true rfl)⟩) (mw_preV hK hN hM (mo_n hr2) rfl) rfl rfl hl.1 rfl (lv_room (Nat.le_of_ble_eq_true rfl)) dmX13_unpack_1 ⟨(Nat.le_of_ble_eq_true rfl), (Nat.le_of_ble_eq_true rfl)⟩) (fun H locs hM => ?_)
        refine lv_iconst (v := 1) hx hb dmX13_unpack_4 (by decide) ?_
        refine lv_istore_n (lv' := [(3, .int 1), (0, .ref (u r0)), (1, .int x1), (2, .ref (u r2))]) hx hb dmX13_unpack_5 rfl hl (by decide) rfl (fun ls hl => ?_)
        exact ih_1 x1 1 0 r0 r2 0 0 z1 H locs ls hr0 hr2 hM (lv_sub hl [1, 2, 3, 0] rfl) hq
      · intro x1 x3 x4 r0 r2 t0 t1 z H locs ls hr0 hr2 hM hl hq
        have hq : qm_X13_unpack_1 K (q_X13_unpack K k) x1 x3 x4 r0 r2 t0 t1 z = some z1 := hq
        unfold qm_X13_unpack_1 at hq
        refine lv_iload_n hx hb dmX13_unpack_6 rfl (lv_at hl 3 rfl) ?_
        refine lv_aload_n hx hb dmX13_unpack_7 rfl (lv_at hl 0 rfl) ?_
        refine lv_iload_n hx hb dmX13_unpack_8 rfl (lv_at hl 1 rfl) ?_
        refine tw_iald mX_ok hx hb hK hM hr0 hq dmX13_unpack_9 (fun v2 hq => ?_)
        refine lv_icmp_gt (tgt := 78) hx hb dmX13_unpack_10 (by decide) (fun hc => ?_) (fun hc => ?_)
        · have hq := tw_it hq hc
          exact mw_vret hx hb hr hlocks hM hq hQQ dmX13_unpack_78
        · have hq := tw_if hq hc
          refine lv_aload_n hx hb dmX13_unpack_13 rfl (lv_at hl 0 rfl) ?_
          refine lv_iload_n hx hb dmX13_unpack_14 rfl (lv_at hl 1 rfl) ?_
          refine lv_iload_n hx hb dmX13_unpack_15 rfl (lv_at hl 3 rfl) ?_
          refine lv_iadd hx hb dmX13_unpack_16 ?_
          refine tw_iald mX_ok hx hb hK hM hr0 hq dmX13_unpack_17 (fun v3 hq => ?_)
          refine lv_istore (lv' := [(4, .int v3), (0, .ref (u r0)), (1, .int x1), (2, .ref (u r2)), (3, .int x3)]) hx hb dmX13_unpack_18 hl (by decide) rfl (fun ls hl => ?_)
          refine lv_iload hx hb dmX13_unpack_20 (lv_at hl 0 rfl) ?_
          refine lv_if_ne (tgt := 32) hx hb dmX13_unpack_22 (by decide) (fun hc => ?_) (fun hc => ?_)
          · have hq := tw_if hq hc
            refine lv_aload_n hx hb dmX13_unpack_32 rfl (lv_at hl 3 rfl) ?_
            refine mg13_35 hx hb hT hown hK hM hN hr2 dmX13_unpack_33 ?_
            refine lv_iload hx hb dmX13_unpack_36 (lv_at hl 0 rfl) ?_
            refine lv_iconst (v := 2) hx hb dmX13_unpack_38 (by decide) ?_
            refine lv_ishr hx hb dmX13_unpack_39 ?_
            refine lv_iconst (v := 1) hx hb dmX13_unpack_40 (by decide) ?_
            refine lv_isub hx hb dmX13_unpack_41 ?_
            refine lv_iload hx hb dmX13_unpack_42 (lv_at hl 0 rfl) ?_
            refine lv_iconst (v := 1) hx hb dmX13_unpack_44 (by decide) ?_
            refine lv_iand hx hb dmX13_unpack_45 ?_
            refine lv_iconst (v := 1) hx hb dmX13_unpack_46 (by decide) ?_
            refine lv_icmp_ne (tgt := 54) hx hb dmX13_unpack_47 (by decide) (fun hc => ?_) (fun hc => ?_)
            · have hq := tw_if hq hc
              refine lv_iconst (v := 1) hx hb dmX13_unpack_54 (by decide) ?_
              exact ih_2 x1 x3 v3 r0 r2 1 (((v3 : Int32) >>> ((2 : Int32) &&& 31)) - 1) z H locs ls hr0 hr2 hM (lv_sub hl [1, 2, 3, 4, 0] rfl) hq
            · have hq := tw_it hq hc
              refine lv_iconst (v := (-1)) hx hb dmX13_unpack_50 (by decide) ?_
              refine lv_goto (tgt := 55) hx hb dmX13_unpack_51 (by decide) ?_
              exact ih_2 x1 x3 v3 r0 r2 (-1) (((v3 : Int32) >>> ((2 : Int32) &&& 31)) - 1) z H locs ls hr0 hr2 hM (lv_sub hl [1, 2, 3, 4, 0] rfl) hq
          · have hq := tw_it hq hc
            refine lv_aload_n hx hb dmX13_unpack_25 rfl (lv_at hl 3 rfl) ?_
            obtain ⟨z4, hcq, hq⟩ := tw_cl0 hq
            refine tw_calv hM (va_runV (As := []) (rest := []) ⟨hx, hb, hml, hown, hts⟩ (km_X12_end l D q u hU K r2 hr2 z z4 hcq) (cwV 0 hts (tw_gV wM_good wq_86 wq_18 wq_19 wq_13 wq_7) rfl rfl rfl cd_X12_end ⟨(Nat.le_of_ble_eq_true rfl), (Nat.le_of_ble_eq_true rfl)⟩) (mw_preV hK hN hM (mo_n hr2) rfl) rfl rfl hl.1 rfl (lv_room (Nat.le_of_ble_eq_true rfl)) dmX13_unpack_26 ⟨(Nat.le_of_ble_eq_true rfl), (Nat.le_of_ble_eq_true rfl)⟩) (fun H locs hM => ?_)
            refine lv_goto (tgt := 72) hx hb dmX13_unpack_29 (by decide) ?_
            exact ih_3 x1 x3 v3 r0 r2 0 0 z4 H locs ls hr0 hr2 hM (lv_sub hl [1, 2, 3, 4, 0] rfl) hq
      · intro x1 x3 x4 r0 r2 t0 t1 z H locs ls hr0 hr2 hM hl hq
        have hq : qm_X13_unpack_2 K (q_X13_unpack K k) x1 x3 x4 r0 r2 t0 t1 z = some z1 := hq
        unfold qm_X13_unpack_2 at hq
        refine tw_iast mX_ok hU hx hb hK hM (mrn_6 hr2) hq dmX13_unpack_55 (fun z5 H locs hM hq => ?_)
        refine lv_aload_n hx hb dmX13_unpack_56 rfl (lv_at hl 2 rfl) ?_
        refine lv_iload hx hb dmX13_unpack_57 (lv_at hl 4 rfl) ?_
        refine lv_iconst (v := 2) hx hb dmX13_unpack_59 (by decide) ?_
        refine lv_ishr hx hb dmX13_unpack_60 ?_
        refine lv_iconst (v := 1) hx hb dmX13_unpack_61 (by decide) ?_
        refine lv_isub hx hb dmX13_unpack_62 ?_
        refine lv_iload hx hb dmX13_unpack_63 (lv_at hl 4 rfl) ?_
        refine lv_iconst (v := 1) hx hb dmX13_unpack_65 (by decide) ?_
        refine lv_ishr hx hb dmX13_unpack_66 ?_
        refine lv_iconst (v := 1) hx hb dmX13_unpack_67 (by decide) ?_
        refine lv_iand hx hb dmX13_unpack_68 ?_
        obtain ⟨z6, hcq, hq⟩ := tw_cl0 hq
        refine tw_calv hM (va_runV (As := [.int (((x4 : Int32) >>> ((2 : Int32) &&& 31)) - 1), .int (((x4 : Int32) >>> ((1 : Int32) &&& 31)) &&& 1)]) (rest := []) ⟨hx, hb, hml, hown, hts⟩ (km_X12_add l D q u hU K r2 (((x4 : Int32) >>> ((2 : Int32) &&& 31)) - 1) (((x4 : Int32) >>> ((1 : Int32) &&& 31)) &&& 1) hr2 z5 z6 hcq) (cwV 2 hts (tw_gV wM_good wq_87 wq_15 wq_16 wq_13 wq_6) rfl rfl rfl cd_X12_add ⟨(Nat.le_of_ble_eq_true rfl), (Nat.le_of_ble_eq_true rfl)⟩) (mw_preV hK hN hM (mo_n hr2) rfl) rfl rfl hl.1 rfl (lv_room (Nat.le_of_ble_eq_true rfl)) dmX13_unpack_69 ⟨(Nat.le_of_ble_eq_true rfl), (Nat.le_of_ble_eq_true rfl)⟩) (fun H locs hM => ?_)
        exact ih_3 x1 x3 x4 r0 r2 0 0 z6 H locs ls hr0 hr2 hM (lv_sub hl [0, 1, 2, 3, 4] rfl) hq
      · intro x1 x3 x4 r0 r2 t0 t1 z H locs ls hr0 hr2 hM hl hq
        have hq : qm_X13_unpack_3 K (q_X13_unpack K k) x1 x3 x4 r0 r2 t0 t1 z = some z1 := hq
        unfold qm_X13_unpack_3 at hq
        refine lv_iinc (v := (x3 + 1)) (lv' := [(3, .int (x3 + 1)), (0, .ref (u r0)), (1, .int x1), (2, .ref (u r2)), (4, .int x4)]) hx hb dmX13_unpack_72 hl (k := 3) rfl rfl (by decide) rfl (fun ls hl => ?_)
        refine lv_goto (tgt := 6) hx hb dmX13_unpack_75 (by decide) ?_
        exact ih_1 x1 (x3 + 1) 0 r0 r2 0 0 z H locs ls hr0 hr2 hM (lv_sub hl [1, 2, 3, 0] rfl) hq
  exact (key K).1 x1 0 0 r0 r2 0 0 z s.heap [] ls hr0 hr2 hM (lv_sub hl [0, 1, 2] rfl) hq
theorem dmX13_has_0 : decode cX13_has 0 = .ok (.iload_n 1, 1) := by decide +kernel
theorem dmX13_has_1 : decode cX13_has 1 = .ok (.ifCond .lt 25, 3) := by decide +kernel
theorem dmX13_has_4 : decode cX13_has 4 = .ok (.iload_n 1, 1) := by decide +kernel
theorem dmX13_has_5 : decode cX13_has 5 = .ok (.bipush 40, 2) := by decide +kernel
theorem dmX13_has_7 : decode cX13_has 7 = .ok (.if_icmp .ge 19, 3) := by decide +kernel
theorem dmX13_has_10 : decode cX13_has 10 = .ok (.aload_n 0, 1) := by decide +kernel
theorem dmX13_has_11 : decode cX13_has 11 = .ok (.getfield 110, 3) := by decide +kernel
theorem dmX13_has_14 : decode cX13_has 14 = .ok (.bipush 32, 2) := by decide +kernel
theorem dmX13_has_16 : decode cX13_has 16 = .ok (.iload_n 1, 1) := by decide +kernel
theorem dmX13_has_17 : decode cX13_has 17 = .ok (.imul, 1) := by decide +kernel
theorem dmX13_has_18 : decode cX13_has 18 = .ok (.iaload, 1) := by decide +kernel
theorem dmX13_has_19 : decode cX13_has 19 = .ok (.ifCond .le 7, 3) := by decide +kernel
theorem dmX13_has_22 : decode cX13_has 22 = .ok (.iconst 1, 1) := by decide +kernel
theorem dmX13_has_23 : decode cX13_has 23 = .ok (.goto 4, 3) := by decide +kernel
theorem dmX13_has_26 : decode cX13_has 26 = .ok (.iconst 0, 1) := by decide +kernel
theorem dmX13_has_27 : decode cX13_has 27 = .ok (.ireturn, 1) := by decide +kernel
def qm_X13_has_0 (K : Nat) (x1 : Int32) (z : ow_MS) : Option (Int32 × ow_MS) :=
 (if x1 < 0 then okZ 0 (some (0, z))
 else (if 40 ≤ x1 then okZ 0 (some (0, z))
 else rdI mX z 12 (32 * x1) fun v1 => (if v1 ≤ 0 then okZ 0 (some (0, z))
 else okZ 1 (some (1, z)))))
def qe_X13_has (K : Nat) (x1 : Int32) (z : ow_MS) : Option (Int32 × ow_MS) := qm_X13_has_0 K x1 z
abbrev wm_X13_has : List Cond := .code yX13_has cX13_has 2 (some .boolean) :: wM
theorem cd_X13_has : yX13_has.cls = RX13 ∧ yX13_has.cls ≠ "java/lang/invoke/MethodHandle" ∧ yX13_has.cls ≠ "java/lang/invoke/VarHandle" ∧ (parseMethodDescriptor yX13_has.desc).map (fun d => d.parameters.length) = some 1 := by decide +kernel
set_option maxHeartbeats 4000000 in
set_option maxRecDepth 100000 in
theorem km_X13_has (l : Launch) (D : va_G) (q : ow_Q5) (u : Nat → Nat) (hU : tw_inj mX u) (K : Nat) (x1 : Int32)  (z z1 : ow_MS) (r : Int32) (hq : qe_X13_has K x1 z = some (r, z1)) : Met l yX13_has wm_X13_has ({ frames := 0, cells := 0, slots := 0, locals := 0 } : Room) (va_Pc [.ref (u 0), .int x1] (mw_pre D q u z)) (va_Qi (fun x (_ : Unit) => x = r) (fun _ t => va_P D vwCl (tw mX q u z1) t.heap) (tw_A mX u)) 0 0 (tw_A mX u) := by
  refine Met.ofW (cc := cX13_has) (maxL := 2) (ret := (some .boolean)) (by decide) rfl ?_
  intro p e s m args below meth c s₁ B hml hv
  obtain ⟨rfl, hP, hK, hN⟩ := hv
  have hx := B.exec
  have hb := B.bytes
  have hr := B.returns
  have hts := atoms_spec (ws := wm_X13_has) B.pre
  have hT : ∀ w ∈ wM, w.before ([.ref (u 0), .int x1] : List Value).toArray s = true := fun w h => hts w (List.mem_cons_of_mem _ h)
  have hown : s.vm.findClass RX13 = some m.cls := findClass_of_methodNamed B.named
  have hlocks := B.notSynchronized
  have hM : tw_M D vwCl mX q s.heap u z s.heap [] := ⟨hP, va_S.rf⟩
  have hl := lv_entry ([.ref (u 0), .int x1]) (n := 2) (Nat.le_of_ble_eq_true rfl)
  rw [lg_entry_eq]
  generalize (lg_sl ([.ref (u 0), .int x1]) ++ List.replicate (2 - (lg_sl ([.ref (u 0), .int x1])).length) Slot.unset).toArray = ls at hl ⊢
  have hl : lv_has ls 2 [(0, .ref (u 0)), (1, .int x1)] := hl
  refine ow_named (fun QQ hQQ => ?_)
  generalize ([.ref (u 0), .int x1] : List Value).toArray = args at hts hT hQQ ⊢
  have hq : qm_X13_has_0 K x1 z = some (r, z1) := hq
  unfold qm_X13_has_0 at hq
  suffices key : ∀ (H : Heap) (locs : List Loc), tw_M D vwCl mX q s.heap u z H locs → W p l e ({ frames := 0, cells := 0, slots := 0, locals := 0 } : Room) s m args below meth c H locs 0 0 QQ (F0 m 0 ls []) from key s.heap [] hM
  intro H locs hM
  refine lv_iload_n hx hb dmX13_has_0 rfl (lv_at hl 1 rfl) ?_
  refine lv_if_lt (tgt := 26) hx hb dmX13_has_1 (by decide) (fun hc => ?_) (fun hc => ?_)
  · have hq := tw_it hq hc
    refine lv_iconst (v := 0) hx hb dmX13_has_26 (by decide) ?_
    obtain ⟨hz, hq⟩ := tw_gZ hq
    exact mw_zret hx hb hr hlocks hM hz hq hQQ dmX13_has_27
  · have hq := tw_if hq hc
    refine lv_iload_n hx hb dmX13_has_4 rfl (lv_at hl 1 rfl) ?_
    refine lv_bipush (v := 40) hx hb dmX13_has_5 (by decide) ?_
    refine lv_icmp_ge (tgt := 26) hx hb dmX13_has_7 (by decide) (fun hc => ?_) (fun hc => ?_)
    · have hq := tw_it hq hc
      refine lv_iconst (v := 0) hx hb dmX13_has_26 (by decide) ?_
      obtain ⟨hz, hq⟩ := tw_gZ hq
      exact mw_zret hx hb hr hlocks hM hz hq hQQ dmX13_has_27
    · have hq := tw_if hq hc
      refine lv_aload_n hx hb dmX13_has_10 rfl (lv_at hl 0 rfl) ?_
      refine mg13_110 hx hb hT hown hK hM dmX13_has_11 ?_
      refine lv_bipush (v := 32) hx hb dmX13_has_14 (by decide) ?_
      refine lv_iload_n hx hb dmX13_has_16 rfl (lv_at hl 1 rfl) ?_
      refine lv_imul hx hb dmX13_has_17 ?_
      refine tw_iald mX_ok hx hb hK hM mr_12 hq dmX13_has_18 (fun v1 hq => ?_)
      refine lv_if_le (tgt := 26) hx hb dmX13_has_19 (by decide) (fun hc => ?_) (fun hc => ?_)
      · have hq := tw_it hq hc
        refine lv_iconst (v := 0) hx hb dmX13_has_26 (by decide) ?_
        obtain ⟨hz, hq⟩ := tw_gZ hq
        exact mw_zret hx hb hr hlocks hM hz hq hQQ dmX13_has_27
      · have hq := tw_if hq hc
        refine lv_iconst (v := 1) hx hb dmX13_has_22 (by decide) ?_
        refine lv_goto (tgt := 27) hx hb dmX13_has_23 (by decide) ?_
        obtain ⟨hz, hq⟩ := tw_gZ hq
        exact mw_zret hx hb hr hlocks hM hz hq hQQ dmX13_has_27
theorem dmX13_free_0 : decode cX13_free 0 = .ok (.iconst 0, 1) := by decide +kernel
theorem dmX13_free_1 : decode cX13_free 1 = .ok (.istore_n 1, 1) := by decide +kernel
theorem dmX13_free_2 : decode cX13_free 2 = .ok (.iload_n 1, 1) := by decide +kernel
theorem dmX13_free_3 : decode cX13_free 3 = .ok (.bipush 40, 2) := by decide +kernel
theorem dmX13_free_5 : decode cX13_free 5 = .ok (.if_icmp .ge 21, 3) := by decide +kernel
theorem dmX13_free_8 : decode cX13_free 8 = .ok (.aload_n 0, 1) := by decide +kernel
theorem dmX13_free_9 : decode cX13_free 9 = .ok (.getfield 110, 3) := by decide +kernel
theorem dmX13_free_12 : decode cX13_free 12 = .ok (.bipush 32, 2) := by decide +kernel
theorem dmX13_free_14 : decode cX13_free 14 = .ok (.iload_n 1, 1) := by decide +kernel
theorem dmX13_free_15 : decode cX13_free 15 = .ok (.imul, 1) := by decide +kernel
theorem dmX13_free_16 : decode cX13_free 16 = .ok (.iaload, 1) := by decide +kernel
theorem dmX13_free_17 : decode cX13_free 17 = .ok (.ifCond .le 9, 3) := by decide +kernel
theorem dmX13_free_20 : decode cX13_free 20 = .ok (.iinc 1 1, 3) := by decide +kernel
theorem dmX13_free_23 : decode cX13_free 23 = .ok (.goto (-21), 3) := by decide +kernel
theorem dmX13_free_26 : decode cX13_free 26 = .ok (.iload_n 1, 1) := by decide +kernel
theorem dmX13_free_27 : decode cX13_free 27 = .ok (.bipush 40, 2) := by decide +kernel
theorem dmX13_free_29 : decode cX13_free 29 = .ok (.if_icmp .ge 7, 3) := by decide +kernel
theorem dmX13_free_32 : decode cX13_free 32 = .ok (.iload_n 1, 1) := by decide +kernel
theorem dmX13_free_33 : decode cX13_free 33 = .ok (.goto 4, 3) := by decide +kernel
theorem dmX13_free_36 : decode cX13_free 36 = .ok (.iconst (-1), 1) := by decide +kernel
theorem dmX13_free_37 : decode cX13_free 37 = .ok (.ireturn, 1) := by decide +kernel
def qm_X13_free_0 (K : Nat) (go : Nat → Int32 → ow_MS → Option (Int32 × ow_MS)) (x1 : Int32) (z : ow_MS) : Option (Int32 × ow_MS) :=
 go 1 0 z
def qm_X13_free_1 (K : Nat) (go : Nat → Int32 → ow_MS → Option (Int32 × ow_MS)) (x1 : Int32) (z : ow_MS) : Option (Int32 × ow_MS) :=
 (if 40 ≤ x1 then go 2 x1 z
 else rdI mX z 12 (32 * x1) fun v1 => (if v1 ≤ 0 then go 2 x1 z
 else go 1 (x1 + 1) z))
def qm_X13_free_2 (K : Nat) (go : Nat → Int32 → ow_MS → Option (Int32 × ow_MS)) (x1 : Int32) (z : ow_MS) : Option (Int32 × ow_MS) :=
 (if 40 ≤ x1 then some ((-1), z)
 else some (x1, z))
def qb_X13_free (K : Nat) (go : Nat → Int32 → ow_MS → Option (Int32 × ow_MS)) (L : Nat) (x1 : Int32) (z : ow_MS) : Option (Int32 × ow_MS) := match L with
  | 0 => qm_X13_free_0 K go x1 z
  | 1 => qm_X13_free_1 K go x1 z
  | 2 => qm_X13_free_2 K go x1 z
  | _ => none
def q_X13_free (K : Nat) : Nat → Nat → Int32 → ow_MS → Option (Int32 × ow_MS)
  | 0 => fun _ _ _ => none
  | k + 1 => qb_X13_free K (q_X13_free K k)
def qe_X13_free (K : Nat)  (z : ow_MS) : Option (Int32 × ow_MS) := q_X13_free K K 0 0 z
abbrev wm_X13_free : List Cond := .code yX13_free cX13_free 2 (some .int) :: wM
theorem cd_X13_free : yX13_free.cls = RX13 ∧ yX13_free.cls ≠ "java/lang/invoke/MethodHandle" ∧ yX13_free.cls ≠ "java/lang/invoke/VarHandle" ∧ (parseMethodDescriptor yX13_free.desc).map (fun d => d.parameters.length) = some 0 := by decide +kernel
set_option maxHeartbeats 4000000 in
set_option maxRecDepth 100000 in
theorem km_X13_free (l : Launch) (D : va_G) (q : ow_Q5) (u : Nat → Nat) (hU : tw_inj mX u) (K : Nat)   (z z1 : ow_MS) (r : Int32) (hq : qe_X13_free K  z = some (r, z1)) : Met l yX13_free wm_X13_free ({ frames := 0, cells := 0, slots := 0, locals := 0 } : Room) (va_Pc [.ref (u 0)] (mw_pre D q u z)) (va_Qi (fun x (_ : Unit) => x = r) (fun _ t => va_P D vwCl (tw mX q u z1) t.heap) (tw_A mX u)) 0 0 (tw_A mX u) := by
  refine Met.ofW (cc := cX13_free) (maxL := 2) (ret := (some .int)) (by decide) rfl ?_
  intro p e s m args below meth c s₁ B hml hv
  obtain ⟨rfl, hP, hK, hN⟩ := hv
  have hx := B.exec
  have hb := B.bytes
  have hr := B.returns
  have hts := atoms_spec (ws := wm_X13_free) B.pre
  have hT : ∀ w ∈ wM, w.before ([.ref (u 0)] : List Value).toArray s = true := fun w h => hts w (List.mem_cons_of_mem _ h)
  have hown : s.vm.findClass RX13 = some m.cls := findClass_of_methodNamed B.named
  have hlocks := B.notSynchronized
  have hM : tw_M D vwCl mX q s.heap u z s.heap [] := ⟨hP, va_S.rf⟩
  have hl := lv_entry ([.ref (u 0)]) (n := 2) (Nat.le_of_ble_eq_true rfl)
  rw [lg_entry_eq]
  generalize (lg_sl ([.ref (u 0)]) ++ List.replicate (2 - (lg_sl ([.ref (u 0)])).length) Slot.unset).toArray = ls at hl ⊢
  have hl : lv_has ls 2 [(0, .ref (u 0))] := hl
  refine ow_named (fun QQ hQQ => ?_)
  generalize ([.ref (u 0)] : List Value).toArray = args at hts hT hQQ ⊢
  have key : ∀ k : Nat, (∀ (x1 : Int32) (z : ow_MS) (H : Heap) (locs : List Loc) (ls : Array Slot), tw_M D vwCl mX q s.heap u z H locs → lv_has ls 2 [(0, .ref (u 0))] → q_X13_free K k 0 x1 z = some (r, z1) → W p l e ({ frames := 0, cells := 0, slots := 0, locals := 0 } : Room) s m args below meth c H locs 0 0 QQ (F0 m 0 ls [])) ∧ (∀ (x1 : Int32) (z : ow_MS) (H : Heap) (locs : List Loc) (ls : Array Slot), tw_M D vwCl mX q s.heap u z H locs → lv_has ls 2 [(0, .ref (u 0)), (1, .int x1)] → q_X13_free K k 1 x1 z = some (r, z1) → W p l e ({ frames := 0, cells := 0, slots := 0, locals := 0 } : Room) s m args below meth c H locs 0 0 QQ (F0 m 2 ls [])) ∧ (∀ (x1 : Int32) (z : ow_MS) (H : Heap) (locs : List Loc) (ls : Array Slot), tw_M D vwCl mX q s.heap u z H locs → lv_has ls 2 [(0, .ref (u 0)), (1, .int x1)] → q_X13_free K k 2 x1 z = some (r, z1) → W p l e ({ frames := 0, cells := 0, slots := 0, locals := 0 } : Room) s m args below meth c H locs 0 0 QQ (F0 m 26 ls [])) := by
    intro k
    induction k with
    | zero => exact ⟨fun _ _ _ _ _  _ _ hq => tw_no hq, fun _ _ _ _ _  _ _ hq => tw_no hq, fun _ _ _ _ _  _ _ hq => tw_no hq⟩
    | succ k ih =>
      obtain ⟨ih_0, ih_1, ih_2⟩ := ih
      refine ⟨?_, ?_, ?_⟩
      · intro x1 z H locs ls  hM hl hq
        have hq : qm_X13_free_0 K (q_X13_free K k) x1 z = some (r, z1) := hq
        unfold qm_X13_free_0 at hq
        refine lv_iconst (v := 0) hx hb dmX13_free_0 (by decide) ?_
        refine lv_istore_n (lv' := [(1, .int 0), (0, .ref (u 0))]) hx hb dmX13_free_1 rfl hl (by decide) rfl (fun ls hl => ?_)
        exact ih_1 0 z H locs ls hM (lv_sub hl [1, 0] rfl) hq
      · intro x1 z H locs ls  hM hl hq
        have hq : qm_X13_free_1 K (q_X13_free K k) x1 z = some (r, z1) := hq
        unfold qm_X13_free_1 at hq
        refine lv_iload_n hx hb dmX13_free_2 rfl (lv_at hl 1 rfl) ?_
        refine lv_bipush (v := 40) hx hb dmX13_free_3 (by decide) ?_
        refine lv_icmp_ge (tgt := 26) hx hb dmX13_free_5 (by decide) (fun hc => ?_) (fun hc => ?_)
        · have hq := tw_it hq hc
          exact ih_2 x1 z H locs ls hM (lv_sub hl [0, 1] rfl) hq
        · have hq := tw_if hq hc
          refine lv_aload_n hx hb dmX13_free_8 rfl (lv_at hl 0 rfl) ?_
          refine mg13_110 hx hb hT hown hK hM dmX13_free_9 ?_
          refine lv_bipush (v := 32) hx hb dmX13_free_12 (by decide) ?_
          refine lv_iload_n hx hb dmX13_free_14 rfl (lv_at hl 1 rfl) ?_
          refine lv_imul hx hb dmX13_free_15 ?_
          refine tw_iald mX_ok hx hb hK hM mr_12 hq dmX13_free_16 (fun v1 hq => ?_)
          refine lv_if_le (tgt := 26) hx hb dmX13_free_17 (by decide) (fun hc => ?_) (fun hc => ?_)
          · have hq := tw_it hq hc
            exact ih_2 x1 z H locs ls hM (lv_sub hl [0, 1] rfl) hq
          · have hq := tw_if hq hc
            refine lv_iinc (v := (x1 + 1)) (lv' := [(1, .int (x1 + 1)), (0, .ref (u 0))]) hx hb dmX13_free_20 hl (k := 1) rfl rfl (by decide) rfl (fun ls hl => ?_)
            refine lv_goto (tgt := 2) hx hb dmX13_free_23 (by decide) ?_
            exact ih_1 (x1 + 1) z H locs ls hM (lv_sub hl [1, 0] rfl) hq
      · intro x1 z H locs ls  hM hl hq
        have hq : qm_X13_free_2 K (q_X13_free K k) x1 z = some (r, z1) := hq
        unfold qm_X13_free_2 at hq
        refine lv_iload_n hx hb dmX13_free_26 rfl (lv_at hl 1 rfl) ?_
        refine lv_bipush (v := 40) hx hb dmX13_free_27 (by decide) ?_
        refine lv_icmp_ge (tgt := 36) hx hb dmX13_free_29 (by decide) (fun hc => ?_) (fun hc => ?_)
        · have hq := tw_it hq hc
          refine lv_iconst (v := (-1)) hx hb dmX13_free_36 (by decide) ?_
          exact mw_iret hx hb hr hlocks hM hq hQQ dmX13_free_37
        · have hq := tw_if hq hc
          refine lv_iload_n hx hb dmX13_free_32 rfl (lv_at hl 1 rfl) ?_
          refine lv_goto (tgt := 37) hx hb dmX13_free_33 (by decide) ?_
          exact mw_iret hx hb hr hlocks hM hq hQQ dmX13_free_37
  exact (key K).1 0 z s.heap [] ls  hM (lv_sub hl [0] rfl) hq
theorem dmX13_keep_0 : decode cX13_keep 0 = .ok (.aload_n 0, 1) := by decide +kernel
theorem dmX13_keep_1 : decode cX13_keep 1 = .ok (.invokevirtual 392, 3) := by decide +kernel
theorem dmX13_keep_4 : decode cX13_keep 4 = .ok (.istore_n 1, 1) := by decide +kernel
theorem dmX13_keep_5 : decode cX13_keep 5 = .ok (.aload_n 0, 1) := by decide +kernel
theorem dmX13_keep_6 : decode cX13_keep 6 = .ok (.aload_n 0, 1) := by decide +kernel
theorem dmX13_keep_7 : decode cX13_keep 7 = .ok (.getfield 121, 3) := by decide +kernel
theorem dmX13_keep_10 : decode cX13_keep 10 = .ok (.aload_n 0, 1) := by decide +kernel
theorem dmX13_keep_11 : decode cX13_keep 11 = .ok (.getfield 110, 3) := by decide +kernel
theorem dmX13_keep_14 : decode cX13_keep 14 = .ok (.bipush 32, 2) := by decide +kernel
theorem dmX13_keep_16 : decode cX13_keep 16 = .ok (.iload_n 1, 1) := by decide +kernel
theorem dmX13_keep_17 : decode cX13_keep 17 = .ok (.imul, 1) := by decide +kernel
theorem dmX13_keep_18 : decode cX13_keep 18 = .ok (.invokevirtual 396, 3) := by decide +kernel
theorem dmX13_keep_21 : decode cX13_keep 21 = .ok (.iload_n 1, 1) := by decide +kernel
theorem dmX13_keep_22 : decode cX13_keep 22 = .ok (.ireturn, 1) := by decide +kernel
def qm_X13_keep_0 (K : Nat)  (z : ow_MS) : Option (Int32 × ow_MS) :=
 cs1 (qe_X13_free K z) fun v2 z1 => cs0 (qe_X13_pack K 3000 12 (32 * v2) z1) fun z3 => some (v2, z3)
def qe_X13_keep (K : Nat)  (z : ow_MS) : Option (Int32 × ow_MS) := qm_X13_keep_0 K z
abbrev wm_X13_keep : List Cond := .code yX13_keep cX13_keep 2 (some .int) :: wM
theorem cd_X13_keep : yX13_keep.cls = RX13 ∧ yX13_keep.cls ≠ "java/lang/invoke/MethodHandle" ∧ yX13_keep.cls ≠ "java/lang/invoke/VarHandle" ∧ (parseMethodDescriptor yX13_keep.desc).map (fun d => d.parameters.length) = some 0 := by decide +kernel
set_option maxHeartbeats 4000000 in
set_option maxRecDepth 100000 in
theorem km_X13_keep (l : Launch) (D : va_G) (q : ow_Q5) (u : Nat → Nat) (hU : tw_inj mX u) (K : Nat)   (z z1 : ow_MS) (r : Int32) (hq : qe_X13_keep K  z = some (r, z1)) : Met l yX13_keep wm_X13_keep ({ frames := 4, cells := 0, slots := 0, locals := 111 } : Room) (va_Pc [.ref (u 0)] (mw_pre D q u z)) (va_Qi (fun x (_ : Unit) => x = r) (fun _ t => va_P D vwCl (tw mX q u z1) t.heap) (tw_A mX u)) 0 0 (tw_A mX u) := by
  refine Met.ofW (cc := cX13_keep) (maxL := 2) (ret := (some .int)) (by decide) rfl ?_
  intro p e s m args below meth c s₁ B hml hv
  obtain ⟨rfl, hP, hK, hN⟩ := hv
  have hx := B.exec
  have hb := B.bytes
  have hr := B.returns
  have hts := atoms_spec (ws := wm_X13_keep) B.pre
  have hT : ∀ w ∈ wM, w.before ([.ref (u 0)] : List Value).toArray s = true := fun w h => hts w (List.mem_cons_of_mem _ h)
  have hown : s.vm.findClass RX13 = some m.cls := findClass_of_methodNamed B.named
  have hlocks := B.notSynchronized
  have hM : tw_M D vwCl mX q s.heap u z s.heap [] := ⟨hP, va_S.rf⟩
  have hl := lv_entry ([.ref (u 0)]) (n := 2) (Nat.le_of_ble_eq_true rfl)
  rw [lg_entry_eq]
  generalize (lg_sl ([.ref (u 0)]) ++ List.replicate (2 - (lg_sl ([.ref (u 0)])).length) Slot.unset).toArray = ls at hl ⊢
  have hl : lv_has ls 2 [(0, .ref (u 0))] := hl
  refine ow_named (fun QQ hQQ => ?_)
  generalize ([.ref (u 0)] : List Value).toArray = args at hts hT hQQ ⊢
  have hq : qm_X13_keep_0 K  z = some (r, z1) := hq
  unfold qm_X13_keep_0 at hq
  suffices key : ∀ (H : Heap) (locs : List Loc), tw_M D vwCl mX q s.heap u z H locs → W p l e ({ frames := 4, cells := 0, slots := 0, locals := 111 } : Room) s m args below meth c H locs 0 0 QQ (F0 m 0 ls []) from key s.heap [] hM
  intro H locs hM
  refine lv_aload_n hx hb dmX13_keep_0 rfl (lv_at hl 0 rfl) ?_
  obtain ⟨v2, z1, hcq, hq⟩ := tw_cl1 hq
  refine tw_cali hM (va_runV (As := []) (rest := []) ⟨hx, hb, hml, hown, hts⟩ (km_X13_free l D q u hU K z z1 v2 hcq) (cwV 0 hts (tw_gV wM_good wq_93 wq_94 wq_95 wq_61 wq_91) rfl rfl rfl cd_X13_free ⟨(Nat.le_of_ble_eq_true rfl), (Nat.le_of_ble_eq_true rfl)⟩) (mw_preV hK hN hM mo_0 rfl) rfl rfl hl.1 rfl (lv_room (Nat.le_of_ble_eq_true rfl)) dmX13_keep_1 ⟨(Nat.le_of_ble_eq_true rfl), (Nat.le_of_ble_eq_true rfl)⟩) (fun H locs hM => ?_)
  refine lv_istore_n (lv' := [(1, .int v2), (0, .ref (u 0))]) hx hb dmX13_keep_4 rfl hl (by decide) rfl (fun ls hl => ?_)
  refine lv_aload_n hx hb dmX13_keep_5 rfl (lv_at hl 1 rfl) ?_
  refine lv_aload_n hx hb dmX13_keep_6 rfl (lv_at hl 1 rfl) ?_
  refine mg13_121 hx hb hT hown hK hM dmX13_keep_7 ?_
  refine lv_aload_n hx hb dmX13_keep_10 rfl (lv_at hl 1 rfl) ?_
  refine mg13_110 hx hb hT hown hK hM dmX13_keep_11 ?_
  refine lv_bipush (v := 32) hx hb dmX13_keep_14 (by decide) ?_
  refine lv_iload_n hx hb dmX13_keep_16 rfl (lv_at hl 0 rfl) ?_
  refine lv_imul hx hb dmX13_keep_17 ?_
  obtain ⟨z3, hcq, hq⟩ := tw_cl0 hq
  refine tw_calv hM (va_runV (As := [.ref (u 3000), .ref (u 12), .int (32 * v2)]) (rest := []) ⟨hx, hb, hml, hown, hts⟩ (km_X13_pack l D q u hU K 3000 12 (32 * v2) mw_n3 mr_12 z1 z3 hcq) (cwV 3 hts (tw_gV wM_good wq_96 wq_97 wq_98 wq_61 wq_84) rfl rfl rfl cd_X13_pack ⟨(Nat.le_of_ble_eq_true rfl), (Nat.le_of_ble_eq_true rfl)⟩) (mw_preV hK hN hM mo_0 rfl) rfl rfl hl.1 rfl (lv_room (Nat.le_of_ble_eq_true rfl)) dmX13_keep_18 ⟨(Nat.le_of_ble_eq_true rfl), (Nat.le_of_ble_eq_true rfl)⟩) (fun H locs hM => ?_)
  refine lv_iload_n hx hb dmX13_keep_21 rfl (lv_at hl 0 rfl) ?_
  exact mw_iret hx hb hr hlocks hM hq hQQ dmX13_keep_22
theorem dmX13_keepRow_0 : decode cX13_keepRow 0 = .ok (.aload_n 0, 1) := dw_at cX13_keepRow_k0 (p := 0) rfl (by decide +kernel)
theorem dmX13_keepRow_1 : decode cX13_keepRow 1 = .ok (.invokevirtual 392, 3) := dw_at cX13_keepRow_k0 (p := 1) rfl (by decide +kernel)
theorem dmX13_keepRow_4 : decode cX13_keepRow 4 = .ok (.istore_n 3, 1) := dw_at cX13_keepRow_k0 (p := 4) rfl (by decide +kernel)
theorem dmX13_keepRow_5 : decode cX13_keepRow 5 = .ok (.iconst 0, 1) := dw_at cX13_keepRow_k0 (p := 5) rfl (by decide +kernel)
theorem dmX13_keepRow_6 : decode cX13_keepRow 6 = .ok (.istore 4, 2) := dw_at cX13_keepRow_k0 (p := 6) rfl (by decide +kernel)
theorem dmX13_keepRow_8 : decode cX13_keepRow 8 = .ok (.iload 4, 2) := dw_at cX13_keepRow_k0 (p := 8) rfl (by decide +kernel)
theorem dmX13_keepRow_10 : decode cX13_keepRow 10 = .ok (.aload_n 1, 1) := dw_at cX13_keepRow_k0 (p := 10) rfl (by decide +kernel)
theorem dmX13_keepRow_11 : decode cX13_keepRow 11 = .ok (.iload_n 2, 1) := dw_at cX13_keepRow_k0 (p := 11) rfl (by decide +kernel)
theorem dmX13_keepRow_12 : decode cX13_keepRow 12 = .ok (.iaload, 1) := dw_at cX13_keepRow_k0 (p := 12) rfl (by decide +kernel)
theorem dmX13_keepRow_13 : decode cX13_keepRow 13 = .ok (.if_icmp .gt 27, 3) := dw_at cX13_keepRow_k0 (p := 13) rfl (by decide +kernel)
theorem dmX13_keepRow_16 : decode cX13_keepRow 16 = .ok (.aload_n 0, 1) := dw_at cX13_keepRow_k0 (p := 16) rfl (by decide +kernel)
theorem dmX13_keepRow_17 : decode cX13_keepRow 17 = .ok (.getfield 110, 3) := dw_at cX13_keepRow_k0 (p := 17) rfl (by decide +kernel)
theorem dmX13_keepRow_20 : decode cX13_keepRow 20 = .ok (.bipush 32, 2) := dw_at cX13_keepRow_k0 (p := 20) rfl (by decide +kernel)
theorem dmX13_keepRow_22 : decode cX13_keepRow 22 = .ok (.iload_n 3, 1) := dw_at cX13_keepRow_k0 (p := 22) rfl (by decide +kernel)
theorem dmX13_keepRow_23 : decode cX13_keepRow 23 = .ok (.imul, 1) := dw_at cX13_keepRow_k0 (p := 23) rfl (by decide +kernel)
theorem dmX13_keepRow_24 : decode cX13_keepRow 24 = .ok (.iload 4, 2) := dw_at cX13_keepRow_k1 (p := 0) rfl (by decide +kernel)
theorem dmX13_keepRow_26 : decode cX13_keepRow 26 = .ok (.iadd, 1) := dw_at cX13_keepRow_k1 (p := 2) rfl (by decide +kernel)
theorem dmX13_keepRow_27 : decode cX13_keepRow 27 = .ok (.aload_n 1, 1) := dw_at cX13_keepRow_k1 (p := 3) rfl (by decide +kernel)
theorem dmX13_keepRow_28 : decode cX13_keepRow 28 = .ok (.iload_n 2, 1) := dw_at cX13_keepRow_k1 (p := 4) rfl (by decide +kernel)
theorem dmX13_keepRow_29 : decode cX13_keepRow 29 = .ok (.iload 4, 2) := dw_at cX13_keepRow_k1 (p := 5) rfl (by decide +kernel)
theorem dmX13_keepRow_31 : decode cX13_keepRow 31 = .ok (.iadd, 1) := dw_at cX13_keepRow_k1 (p := 7) rfl (by decide +kernel)
theorem dmX13_keepRow_32 : decode cX13_keepRow 32 = .ok (.iaload, 1) := dw_at cX13_keepRow_k1 (p := 8) rfl (by decide +kernel)
theorem dmX13_keepRow_33 : decode cX13_keepRow 33 = .ok (.iastore, 1) := dw_at cX13_keepRow_k1 (p := 9) rfl (by decide +kernel)
theorem dmX13_keepRow_34 : decode cX13_keepRow 34 = .ok (.iinc 4 1, 3) := dw_at cX13_keepRow_k1 (p := 10) rfl (by decide +kernel)
theorem dmX13_keepRow_37 : decode cX13_keepRow 37 = .ok (.goto (-29), 3) := dw_at cX13_keepRow_k1 (p := 13) rfl (by decide +kernel)
theorem dmX13_keepRow_40 : decode cX13_keepRow 40 = .ok (.iload_n 3, 1) := dw_at cX13_keepRow_k1 (p := 16) rfl (by decide +kernel)
theorem dmX13_keepRow_41 : decode cX13_keepRow 41 = .ok (.ireturn, 1) := dw_at cX13_keepRow_k1 (p := 17) rfl (by decide +kernel)
def qm_X13_keepRow_0 (K : Nat) (go : Nat → Int32 → Int32 → Int32 → Nat → ow_MS → Option (Int32 × ow_MS)) (x2 : Int32) (x3 : Int32) (x4 : Int32) (r1 : Nat) (z : ow_MS) : Option (Int32 × ow_MS) :=
 cs1 (qe_X13_free K z) fun v2 z1 => go 1 x2 v2 0 r1 z1
def qm_X13_keepRow_1 (K : Nat) (go : Nat → Int32 → Int32 → Int32 → Nat → ow_MS → Option (Int32 × ow_MS)) (x2 : Int32) (x3 : Int32) (x4 : Int32) (r1 : Nat) (z : ow_MS) : Option (Int32 × ow_MS) :=
 rdI mX z r1 x2 fun v3 => (if v3 < x4 then some (x3, z)
 else rdI mX z r1 (x2 + x4) fun v4 => wrI mX z 12 ((32 * x3) + x4) v4 fun z5 => go 1 x2 x3 (x4 + 1) r1 z5)
def qb_X13_keepRow (K : Nat) (go : Nat → Int32 → Int32 → Int32 → Nat → ow_MS → Option (Int32 × ow_MS)) (L : Nat) (x2 : Int32) (x3 : Int32) (x4 : Int32) (r1 : Nat) (z : ow_MS) : Option (Int32 × ow_MS) := match L with
  | 0 => qm_X13_keepRow_0 K go x2 x3 x4 r1 z
  | 1 => qm_X13_keepRow_1 K go x2 x3 x4 r1 z
  | _ => none
def q_X13_keepRow (K : Nat) : Nat → Nat → Int32 → Int32 → Int32 → Nat → ow_MS → Option (Int32 × ow_MS)
  | 0 => fun _ _ _ _ _ _ => none
  | k + 1 => qb_X13_keepRow K (q_X13_keepRow K k)
def qe_X13_keepRow (K : Nat) (r1 : Nat) (x2 : Int32) (z : ow_MS) : Option (Int32 × ow_MS) := q_X13_keepRow K K 0 x2 0 0 r1 z
abbrev wm_X13_keepRow : List Cond := .code yX13_keepRow cX13_keepRow 5 (some .int) :: wM
theorem cd_X13_keepRow : yX13_keepRow.cls = RX13 ∧ yX13_keepRow.cls ≠ "java/lang/invoke/MethodHandle" ∧ yX13_keepRow.cls ≠ "java/lang/invoke/VarHandle" ∧ (parseMethodDescriptor yX13_keepRow.desc).map (fun d => d.parameters.length) = some 2 := by decide +kernel
set_option maxHeartbeats 4000000 in
set_option maxRecDepth 100000 in
theorem km_X13_keepRow (l : Launch) (D : va_G) (q : ow_Q5) (u : Nat → Nat) (hU : tw_inj mX u) (K : Nat) (r1 : Nat) (x2 : Int32) (hr1 : tw_in mX r1 0) (z z1 : ow_MS) (r : Int32) (hq : qe_X13_keepRow K r1 x2 z = some (r, z1)) : Met l yX13_keepRow wm_X13_keepRow ({ frames := 1, cells := 0, slots := 0, locals := 21 } : Room) (va_Pc [.ref (u 0), .ref (u r1), .int x2] (mw_pre D q u z)) (va_Qi (fun x (_ : Unit) => x = r) (fun _ t => va_P D vwCl (tw mX q u z1) t.heap) (tw_A mX u)) 0 0 (tw_A mX u) := by
  refine Met.ofW (cc := cX13_keepRow) (maxL := 5) (ret := (some .int)) (by decide) rfl ?_
  intro p e s m args below meth c s₁ B hml hv
  obtain ⟨rfl, hP, hK, hN⟩ := hv
  have hx := B.exec
  have hb := B.bytes
  have hr := B.returns
  have hts := atoms_spec (ws := wm_X13_keepRow) B.pre
  have hT : ∀ w ∈ wM, w.before ([.ref (u 0), .ref (u r1), .int x2] : List Value).toArray s = true := fun w h => hts w (List.mem_cons_of_mem _ h)
  have hown : s.vm.findClass RX13 = some m.cls := findClass_of_methodNamed B.named
  have hlocks := B.notSynchronized
  have hM : tw_M D vwCl mX q s.heap u z s.heap [] := ⟨hP, va_S.rf⟩
  have hl := lv_entry ([.ref (u 0), .ref (u r1), .int x2]) (n := 5) (Nat.le_of_ble_eq_true rfl)
  rw [lg_entry_eq]
  generalize (lg_sl ([.ref (u 0), .ref (u r1), .int x2]) ++ List.replicate (5 - (lg_sl ([.ref (u 0), .ref (u r1), .int x2])).length) Slot.unset).toArray = ls at hl ⊢
  have hl : lv_has ls 5 [(0, .ref (u 0)), (1, .ref (u r1)), (2, .int x2)] := hl
  refine ow_named (fun QQ hQQ => ?_)
  generalize ([.ref (u 0), .ref (u r1), .int x2] : List Value).toArray = args at hts hT hQQ ⊢
  have key : ∀ k : Nat, (∀ (x2 : Int32) (x3 : Int32) (x4 : Int32) (r1 : Nat) (z : ow_MS) (H : Heap) (locs : List Loc) (ls : Array Slot), tw_in mX r1 0 → tw_M D vwCl mX q s.heap u z H locs → lv_has ls 5 [(0, .ref (u 0)), (1, .ref (u r1)), (2, .int x2)] → q_X13_keepRow K k 0 x2 x3 x4 r1 z = some (r, z1) → W p l e ({ frames := 1, cells := 0, slots := 0, locals := 21 } : Room) s m args below meth c H locs 0 0 QQ (F0 m 0 ls [])) ∧ (∀ (x2 : Int32) (x3 : Int32) (x4 : Int32) (r1 : Nat) (z : ow_MS) (H : Heap) (locs : List Loc) (ls : Array Slot), tw_in mX r1 0 → tw_M D vwCl mX q s.heap u z H locs → lv_has ls 5 [(0, .ref (u 0)), (1, .ref (u r1)), (2, .int x2), (3, .int x3), (4, .int x4)] → q_X13_keepRow K k 1 x2 x3 x4 r1 z = some (r, z1) → W p l e ({ frames := 1, cells := 0, slots := 0, locals := 21 } : Room) s m args below meth c H locs 0 0 QQ (F0 m 8 ls [])) := by
    intro k
    induction k with
    | zero => exact ⟨fun _ _ _ _ _ _ _ _ _ _ _ hq => tw_no hq, fun _ _ _ _ _ _ _ _ _ _ _ hq => tw_no hq⟩
    | succ k ih =>
      obtain ⟨ih_0, ih_1⟩ := ih
      refine ⟨?_, ?_⟩
      · intro x2 x3 x4 r1 z H locs ls hr1 hM hl hq
        have hq : qm_X13_keepRow_0 K (q_X13_keepRow K k) x2 x3 x4 r1 z = some (r, z1) := hq
        unfold qm_X13_keepRow_0 at hq
        refine lv_aload_n hx hb dmX13_keepRow_0 rfl (lv_at hl 0 rfl) ?_
        obtain ⟨v2, z1, hcq, hq⟩ := tw_cl1 hq
        refine tw_cali hM (va_runV (As := []) (rest := []) ⟨hx, hb, hml, hown, hts⟩ (km_X13_free l D q u hU K z z1 v2 hcq) (cwV 0 hts (tw_gV wM_good wq_93 wq_94 wq_95 wq_61 wq_91) rfl rfl rfl cd_X13_free ⟨(Nat.le_of_ble_eq_true rfl), (Nat.le_of_ble_eq_true rfl)⟩) (mw_preV hK hN hM mo_0 rfl) rfl rfl hl.1 rfl (lv_room (Nat.le_of_ble_eq_true rfl)) dmX13_keepRow_1 ⟨(Nat.le_of_ble_eq_true rfl), (Nat.le_of_ble_eq_true rfl)⟩) (fun H locs hM => ?_)
        refine lv_istore_n (lv' := [(3, .int v2), (0, .ref (u 0)), (1, .ref (u r1)), (2, .int x2)]) hx hb dmX13_keepRow_4 rfl hl (by decide) rfl (fun ls hl => ?_)
        refine lv_iconst (v := 0) hx hb dmX13_keepRow_5 (by decide) ?_
        refine lv_istore (lv' := [(4, .int 0), (3, .int v2), (0, .ref (u 0)), (1, .ref (u r1)), (2, .int x2)]) hx hb dmX13_keepRow_6 hl (by decide) rfl (fun ls hl => ?_)
        exact ih_1 x2 v2 0 r1 z1 H locs ls hr1 hM (lv_sub hl [2, 3, 4, 1, 0] rfl) hq
      · intro x2 x3 x4 r1 z H locs ls hr1 hM hl hq
        have hq : qm_X13_keepRow_1 K (q_X13_keepRow K k) x2 x3 x4 r1 z = some (r, z1) := hq
        unfold qm_X13_keepRow_1 at hq
        refine lv_iload hx hb dmX13_keepRow_8 (lv_at hl 4 rfl) ?_
        refine lv_aload_n hx hb dmX13_keepRow_10 rfl (lv_at hl 1 rfl) ?_
        refine lv_iload_n hx hb dmX13_keepRow_11 rfl (lv_at hl 2 rfl) ?_
        refine tw_iald mX_ok hx hb hK hM hr1 hq dmX13_keepRow_12 (fun v3 hq => ?_)
        refine lv_icmp_gt (tgt := 40) hx hb dmX13_keepRow_13 (by decide) (fun hc => ?_) (fun hc => ?_)
        · have hq := tw_it hq hc
          refine lv_iload_n hx hb dmX13_keepRow_40 rfl (lv_at hl 3 rfl) ?_
          exact mw_iret hx hb hr hlocks hM hq hQQ dmX13_keepRow_41
        · have hq := tw_if hq hc
          refine lv_aload_n hx hb dmX13_keepRow_16 rfl (lv_at hl 0 rfl) ?_
          refine mg13_110 hx hb hT hown hK hM dmX13_keepRow_17 ?_
          refine lv_bipush (v := 32) hx hb dmX13_keepRow_20 (by decide) ?_
          refine lv_iload_n hx hb dmX13_keepRow_22 rfl (lv_at hl 3 rfl) ?_
          refine lv_imul hx hb dmX13_keepRow_23 ?_
          refine lv_iload hx hb dmX13_keepRow_24 (lv_at hl 4 rfl) ?_
          refine lv_iadd hx hb dmX13_keepRow_26 ?_
          refine lv_aload_n hx hb dmX13_keepRow_27 rfl (lv_at hl 1 rfl) ?_
          refine lv_iload_n hx hb dmX13_keepRow_28 rfl (lv_at hl 2 rfl) ?_
          refine lv_iload hx hb dmX13_keepRow_29 (lv_at hl 4 rfl) ?_
          refine lv_iadd hx hb dmX13_keepRow_31 ?_
          refine tw_iald mX_ok hx hb hK hM hr1 hq dmX13_keepRow_32 (fun v4 hq => ?_)
          refine tw_iast mX_ok hU hx hb hK hM mr_12 hq dmX13_keepRow_33 (fun z5 H locs hM hq => ?_)
          refine lv_iinc (v := (x4 + 1)) (lv' := [(4, .int (x4 + 1)), (0, .ref (u 0)), (1, .ref (u r1)), (2, .int x2), (3, .int x3)]) hx hb dmX13_keepRow_34 hl (k := 4) rfl rfl (by decide) rfl (fun ls hl => ?_)
          refine lv_goto (tgt := 8) hx hb dmX13_keepRow_37 (by decide) ?_
          exact ih_1 x2 x3 (x4 + 1) r1 z5 H locs ls hr1 hM (lv_sub hl [1, 2, 3, 4, 0] rfl) hq
  exact (key K).1 x2 0 0 r1 z s.heap [] ls hr1 hM (lv_sub hl [0, 1, 2] rfl) hq
theorem dmX13_feed_0 : decode cX13_feed 0 = .ok (.aload_n 0, 1) := dw_at cX13_feed_k0 (p := 0) rfl (by decide +kernel)
theorem dmX13_feed_1 : decode cX13_feed 1 = .ok (.iconst 0, 1) := dw_at cX13_feed_k0 (p := 1) rfl (by decide +kernel)
theorem dmX13_feed_2 : decode cX13_feed 2 = .ok (.putfield 1, 3) := dw_at cX13_feed_k0 (p := 2) rfl (by decide +kernel)
theorem dmX13_feed_5 : decode cX13_feed 5 = .ok (.aload_n 0, 1) := dw_at cX13_feed_k0 (p := 5) rfl (by decide +kernel)
theorem dmX13_feed_6 : decode cX13_feed 6 = .ok (.getfield 400, 3) := dw_at cX13_feed_k0 (p := 6) rfl (by decide +kernel)
theorem dmX13_feed_9 : decode cX13_feed 9 = .ok (.bipush 20, 2) := dw_at cX13_feed_k0 (p := 9) rfl (by decide +kernel)
theorem dmX13_feed_11 : decode cX13_feed 11 = .ok (.iadd, 1) := dw_at cX13_feed_k0 (p := 11) rfl (by decide +kernel)
theorem dmX13_feed_12 : decode cX13_feed 12 = .ok (.sipush 400, 3) := dw_at cX13_feed_k0 (p := 12) rfl (by decide +kernel)
theorem dmX13_feed_15 : decode cX13_feed 15 = .ok (.if_icmp .le 9, 3) := dw_at cX13_feed_k0 (p := 15) rfl (by decide +kernel)
theorem dmX13_feed_18 : decode cX13_feed 18 = .ok (.aload_n 0, 1) := dw_at cX13_feed_k0 (p := 18) rfl (by decide +kernel)
theorem dmX13_feed_19 : decode cX13_feed 19 = .ok (.iconst 1, 1) := dw_at cX13_feed_k0 (p := 19) rfl (by decide +kernel)
theorem dmX13_feed_20 : decode cX13_feed 20 = .ok (.invokevirtual 403, 3) := dw_at cX13_feed_k0 (p := 20) rfl (by decide +kernel)
theorem dmX13_feed_23 : decode cX13_feed 23 = .ok (.ireturn, 1) := dw_at cX13_feed_k0 (p := 23) rfl (by decide +kernel)
theorem dmX13_feed_24 : decode cX13_feed 24 = .ok (.iconst 0, 1) := dw_at cX13_feed_k1 (p := 0) rfl (by decide +kernel)
theorem dmX13_feed_25 : decode cX13_feed 25 = .ok (.istore 6, 2) := dw_at cX13_feed_k1 (p := 1) rfl (by decide +kernel)
theorem dmX13_feed_27 : decode cX13_feed 27 = .ok (.iload 6, 2) := dw_at cX13_feed_k1 (p := 3) rfl (by decide +kernel)
theorem dmX13_feed_29 : decode cX13_feed 29 = .ok (.bipush 20, 2) := dw_at cX13_feed_k1 (p := 5) rfl (by decide +kernel)
theorem dmX13_feed_31 : decode cX13_feed 31 = .ok (.if_icmp .ge 90, 3) := dw_at cX13_feed_k1 (p := 7) rfl (by decide +kernel)
theorem dmX13_feed_34 : decode cX13_feed 34 = .ok (.iload 6, 2) := dw_at cX13_feed_k1 (p := 10) rfl (by decide +kernel)
theorem dmX13_feed_36 : decode cX13_feed 36 = .ok (.iconst 4, 1) := dw_at cX13_feed_k1 (p := 12) rfl (by decide +kernel)
theorem dmX13_feed_37 : decode cX13_feed 37 = .ok (.if_icmp .ge 7, 3) := dw_at cX13_feed_k1 (p := 13) rfl (by decide +kernel)
theorem dmX13_feed_40 : decode cX13_feed 40 = .ok (.iload_n 1, 1) := dw_at cX13_feed_k1 (p := 16) rfl (by decide +kernel)
theorem dmX13_feed_41 : decode cX13_feed 41 = .ok (.goto 39, 3) := dw_at cX13_feed_k1 (p := 17) rfl (by decide +kernel)
theorem dmX13_feed_44 : decode cX13_feed 44 = .ok (.iload 6, 2) := dw_at cX13_feed_k1 (p := 20) rfl (by decide +kernel)
theorem dmX13_feed_46 : decode cX13_feed 46 = .ok (.bipush 8, 2) := dw_at cX13_feed_k1 (p := 22) rfl (by decide +kernel)
theorem dmX13_feed_48 : decode cX13_feed 48 = .ok (.if_icmp .ge 7, 3) := dw_at cX13_feed_k2 (p := 0) rfl (by decide +kernel)
theorem dmX13_feed_51 : decode cX13_feed 51 = .ok (.iload_n 2, 1) := dw_at cX13_feed_k2 (p := 3) rfl (by decide +kernel)
theorem dmX13_feed_52 : decode cX13_feed 52 = .ok (.goto 28, 3) := dw_at cX13_feed_k2 (p := 4) rfl (by decide +kernel)
theorem dmX13_feed_55 : decode cX13_feed 55 = .ok (.iload 6, 2) := dw_at cX13_feed_k2 (p := 7) rfl (by decide +kernel)
theorem dmX13_feed_57 : decode cX13_feed 57 = .ok (.bipush 12, 2) := dw_at cX13_feed_k2 (p := 9) rfl (by decide +kernel)
theorem dmX13_feed_59 : decode cX13_feed 59 = .ok (.if_icmp .ge 7, 3) := dw_at cX13_feed_k2 (p := 11) rfl (by decide +kernel)
theorem dmX13_feed_62 : decode cX13_feed 62 = .ok (.iload_n 3, 1) := dw_at cX13_feed_k2 (p := 14) rfl (by decide +kernel)
theorem dmX13_feed_63 : decode cX13_feed 63 = .ok (.goto 17, 3) := dw_at cX13_feed_k2 (p := 15) rfl (by decide +kernel)
theorem dmX13_feed_66 : decode cX13_feed 66 = .ok (.iload 6, 2) := dw_at cX13_feed_k2 (p := 18) rfl (by decide +kernel)
theorem dmX13_feed_68 : decode cX13_feed 68 = .ok (.bipush 16, 2) := dw_at cX13_feed_k2 (p := 20) rfl (by decide +kernel)
theorem dmX13_feed_70 : decode cX13_feed 70 = .ok (.if_icmp .ge 8, 3) := dw_at cX13_feed_k2 (p := 22) rfl (by decide +kernel)
theorem dmX13_feed_73 : decode cX13_feed 73 = .ok (.iload 4, 2) := dw_at cX13_feed_k3 (p := 0) rfl (by decide +kernel)
theorem dmX13_feed_75 : decode cX13_feed 75 = .ok (.goto 5, 3) := dw_at cX13_feed_k3 (p := 2) rfl (by decide +kernel)
theorem dmX13_feed_78 : decode cX13_feed 78 = .ok (.iload 5, 2) := dw_at cX13_feed_k3 (p := 5) rfl (by decide +kernel)
theorem dmX13_feed_80 : decode cX13_feed 80 = .ok (.istore 7, 2) := dw_at cX13_feed_k3 (p := 7) rfl (by decide +kernel)
theorem dmX13_feed_82 : decode cX13_feed 82 = .ok (.aload_n 0, 1) := dw_at cX13_feed_k3 (p := 9) rfl (by decide +kernel)
theorem dmX13_feed_83 : decode cX13_feed 83 = .ok (.getfield 106, 3) := dw_at cX13_feed_k3 (p := 10) rfl (by decide +kernel)
theorem dmX13_feed_86 : decode cX13_feed 86 = .ok (.aload_n 0, 1) := dw_at cX13_feed_k3 (p := 13) rfl (by decide +kernel)
theorem dmX13_feed_87 : decode cX13_feed 87 = .ok (.getfield 400, 3) := dw_at cX13_feed_k3 (p := 14) rfl (by decide +kernel)
theorem dmX13_feed_90 : decode cX13_feed 90 = .ok (.iload 7, 2) := dw_at cX13_feed_k3 (p := 17) rfl (by decide +kernel)
theorem dmX13_feed_92 : decode cX13_feed 92 = .ok (.bipush 24, 2) := dw_at cX13_feed_k3 (p := 19) rfl (by decide +kernel)
theorem dmX13_feed_94 : decode cX13_feed 94 = .ok (.bipush 8, 2) := dw_at cX13_feed_k3 (p := 21) rfl (by decide +kernel)
theorem dmX13_feed_96 : decode cX13_feed 96 = .ok (.iload 6, 2) := dw_at cX13_feed_k3 (p := 23) rfl (by decide +kernel)
theorem dmX13_feed_98 : decode cX13_feed 98 = .ok (.iconst 3, 1) := dw_at cX13_feed_k4 (p := 0) rfl (by decide +kernel)
theorem dmX13_feed_99 : decode cX13_feed 99 = .ok (.iand, 1) := dw_at cX13_feed_k4 (p := 1) rfl (by decide +kernel)
theorem dmX13_feed_100 : decode cX13_feed 100 = .ok (.imul, 1) := dw_at cX13_feed_k4 (p := 2) rfl (by decide +kernel)
theorem dmX13_feed_101 : decode cX13_feed 101 = .ok (.isub, 1) := dw_at cX13_feed_k4 (p := 3) rfl (by decide +kernel)
theorem dmX13_feed_102 : decode cX13_feed 102 = .ok (.ishr, 1) := dw_at cX13_feed_k4 (p := 4) rfl (by decide +kernel)
theorem dmX13_feed_103 : decode cX13_feed 103 = .ok (.i2b, 1) := dw_at cX13_feed_k4 (p := 5) rfl (by decide +kernel)
theorem dmX13_feed_104 : decode cX13_feed 104 = .ok (.bastore, 1) := dw_at cX13_feed_k4 (p := 6) rfl (by decide +kernel)
theorem dmX13_feed_105 : decode cX13_feed 105 = .ok (.aload_n 0, 1) := dw_at cX13_feed_k4 (p := 7) rfl (by decide +kernel)
theorem dmX13_feed_106 : decode cX13_feed 106 = .ok (.dup, 1) := dw_at cX13_feed_k4 (p := 8) rfl (by decide +kernel)
theorem dmX13_feed_107 : decode cX13_feed 107 = .ok (.getfield 400, 3) := dw_at cX13_feed_k4 (p := 9) rfl (by decide +kernel)
theorem dmX13_feed_110 : decode cX13_feed 110 = .ok (.iconst 1, 1) := dw_at cX13_feed_k4 (p := 12) rfl (by decide +kernel)
theorem dmX13_feed_111 : decode cX13_feed 111 = .ok (.iadd, 1) := dw_at cX13_feed_k4 (p := 13) rfl (by decide +kernel)
theorem dmX13_feed_112 : decode cX13_feed 112 = .ok (.putfield 400, 3) := dw_at cX13_feed_k4 (p := 14) rfl (by decide +kernel)
theorem dmX13_feed_115 : decode cX13_feed 115 = .ok (.iinc 6 1, 3) := dw_at cX13_feed_k4 (p := 17) rfl (by decide +kernel)
theorem dmX13_feed_118 : decode cX13_feed 118 = .ok (.goto (-91), 3) := dw_at cX13_feed_k4 (p := 20) rfl (by decide +kernel)
theorem dmX13_feed_121 : decode cX13_feed 121 = .ok (.aload_n 0, 1) := dw_at cX13_feed_k4 (p := 23) rfl (by decide +kernel)
theorem dmX13_feed_122 : decode cX13_feed 122 = .ok (.getfield 400, 3) := dw_at cX13_feed_k4 (p := 24) rfl (by decide +kernel)
theorem dmX13_feed_125 : decode cX13_feed 125 = .ok (.ireturn, 1) := dw_at cX13_feed_k4 (p := 27) rfl (by decide +kernel)
def qm_X13_feed_0 (K : Nat) (go : Nat → Int32 → Int32 → Int32 → Int32 → Int32 → Int32 → Int32 → ow_MS → Option (Int32 × ow_MS)) (x1 : Int32) (x2 : Int32) (x3 : Int32) (x4 : Int32) (x5 : Int32) (x6 : Int32) (t0 : Int32) (z : ow_MS) : Option (Int32 × ow_MS) :=
 wrF z 1 0 fun z1 => rdF z1 11 fun v2 => (if (v2 + 20) ≤ 400 then go 1 x1 x2 x3 x4 x5 0 0 z1
 else cs1 (qe_X13_fails K 1 z1) fun v4 z3 => some (v4, z3))
def qm_X13_feed_1 (K : Nat) (go : Nat → Int32 → Int32 → Int32 → Int32 → Int32 → Int32 → Int32 → ow_MS → Option (Int32 × ow_MS)) (x1 : Int32) (x2 : Int32) (x3 : Int32) (x4 : Int32) (x5 : Int32) (x6 : Int32) (t0 : Int32) (z : ow_MS) : Option (Int32 × ow_MS) :=
 (if 20 ≤ x6 then rdF z 11 fun v5 => some (v5, z)
 else (if 4 ≤ x6 then (if 8 ≤ x6 then (if 12 ≤ x6 then (if 16 ≤ x6 then go 2 x1 x2 x3 x4 x5 x6 x5 z
 else go 2 x1 x2 x3 x4 x5 x6 x4 z)
 else go 2 x1 x2 x3 x4 x5 x6 x3 z)
 else go 2 x1 x2 x3 x4 x5 x6 x2 z)
 else go 2 x1 x2 x3 x4 x5 x6 x1 z))
def qm_X13_feed_2 (K : Nat) (go : Nat → Int32 → Int32 → Int32 → Int32 → Int32 → Int32 → Int32 → ow_MS → Option (Int32 × ow_MS)) (x1 : Int32) (x2 : Int32) (x3 : Int32) (x4 : Int32) (x5 : Int32) (x6 : Int32) (t0 : Int32) (z : ow_MS) : Option (Int32 × ow_MS) :=
 rdF z 11 fun v6 => wrB mX z 10 v6 (((t0 : Int32) >>> (((24 - (8 * (x6 &&& 3))) : Int32) &&& 31)).toInt8.toInt32) fun z7 => rdF z7 11 fun v8 => wrF z7 11 (v8 + 1) fun z9 => go 1 x1 x2 x3 x4 x5 (x6 + 1) 0 z9
def qb_X13_feed (K : Nat) (go : Nat → Int32 → Int32 → Int32 → Int32 → Int32 → Int32 → Int32 → ow_MS → Option (Int32 × ow_MS)) (L : Nat) (x1 : Int32) (x2 : Int32) (x3 : Int32) (x4 : Int32) (x5 : Int32) (x6 : Int32) (t0 : Int32) (z : ow_MS) : Option (Int32 × ow_MS) := match L with
  | 0 => qm_X13_feed_0 K go x1 x2 x3 x4 x5 x6 t0 z
  | 1 => qm_X13_feed_1 K go x1 x2 x3 x4 x5 x6 t0 z
  | 2 => qm_X13_feed_2 K go x1 x2 x3 x4 x5 x6 t0 z
  | _ => none
def q_X13_feed (K : Nat) : Nat → Nat → Int32 → Int32 → Int32 → Int32 → Int32 → Int32 → Int32 → ow_MS → Option (Int32 × ow_MS)
  | 0 => fun _ _ _ _ _ _ _ _ _ => none
  | k + 1 => qb_X13_feed K (q_X13_feed K k)
def qe_X13_feed (K : Nat) (x1 : Int32) (x2 : Int32) (x3 : Int32) (x4 : Int32) (x5 : Int32) (z : ow_MS) : Option (Int32 × ow_MS) := q_X13_feed K K 0 x1 x2 x3 x4 x5 0 0 z
abbrev wm_X13_feed : List Cond := .code yX13_feed cX13_feed 8 (some .int) :: wM
theorem cd_X13_feed : yX13_feed.cls = RX13 ∧ yX13_feed.cls ≠ "java/lang/invoke/MethodHandle" ∧ yX13_feed.cls ≠ "java/lang/invoke/VarHandle" ∧ (parseMethodDescriptor yX13_feed.desc).map (fun d => d.parameters.length) = some 5 := by decide +kernel
set_option maxHeartbeats 4000000 in
set_option maxRecDepth 100000 in
theorem km_X13_feed (l : Launch) (D : va_G) (q : ow_Q5) (u : Nat → Nat) (hU : tw_inj mX u) (K : Nat) (x1 : Int32) (x2 : Int32) (x3 : Int32) (x4 : Int32) (x5 : Int32)  (z z1 : ow_MS) (r : Int32) (hq : qe_X13_feed K x1 x2 x3 x4 x5 z = some (r, z1)) : Met l yX13_feed wm_X13_feed ({ frames := 1, cells := 0, slots := 0, locals := 21 } : Room) (va_Pc [.ref (u 0), .int x1, .int x2, .int x3, .int x4, .int x5] (mw_pre D q u z)) (va_Qi (fun x (_ : Unit) => x = r) (fun _ t => va_P D vwCl (tw mX q u z1) t.heap) (tw_A mX u)) 0 0 (tw_A mX u) := by
  refine Met.ofW (cc := cX13_feed) (maxL := 8) (ret := (some .int)) (by decide) rfl ?_
  intro p e s m args below meth c s₁ B hml hv
  obtain ⟨rfl, hP, hK, hN⟩ := hv
  have hx := B.exec
  have hb := B.bytes
  have hr := B.returns
  have hts := atoms_spec (ws := wm_X13_feed) B.pre
  have hT : ∀ w ∈ wM, w.before ([.ref (u 0), .int x1, .int x2, .int x3, .int x4, .int x5] : List Value).toArray s = true := fun w h => hts w (List.mem_cons_of_mem _ h)
  have hown : s.vm.findClass RX13 = some m.cls := findClass_of_methodNamed B.named
  have hlocks := B.notSynchronized
  have hM : tw_M D vwCl mX q s.heap u z s.heap [] := ⟨hP, va_S.rf⟩
  have hl := lv_entry ([.ref (u 0), .int x1, .int x2, .int x3, .int x4, .int x5]) (n := 8) (Nat.le_of_ble_eq_true rfl)
  rw [lg_entry_eq]
  generalize (lg_sl ([.ref (u 0), .int x1, .int x2, .int x3, .int x4, .int x5]) ++ List.replicate (8 - (lg_sl ([.ref (u 0), .int x1, .int x2, .int x3, .int x4, .int x5])).length) Slot.unset).toArray = ls at hl ⊢
  have hl : lv_has ls 8 [(0, .ref (u 0)), (1, .int x1), (2, .int x2), (3, .int x3), (4, .int x4), (5, .int x5)] := hl
  refine ow_named (fun QQ hQQ => ?_)
  generalize ([.ref (u 0), .int x1, .int x2, .int x3, .int x4, .int x5] : List Value).toArray = args at hts hT hQQ ⊢
  have key : ∀ k : Nat, (∀ (x1 : Int32) (x2 : Int32) (x3 : Int32) (x4 : Int32) (x5 : Int32) (x6 : Int32) (t0 : Int32) (z : ow_MS) (H : Heap) (locs : List Loc) (ls : Array Slot), tw_M D vwCl mX q s.heap u z H locs → lv_has ls 8 [(0, .ref (u 0)), (1, .int x1), (2, .int x2), (3, .int x3), (4, .int x4), (5, .int x5)] → q_X13_feed K k 0 x1 x2 x3 x4 x5 x6 t0 z = some (r, z1) → W p l e ({ frames := 1, cells := 0, slots := 0, locals := 21 } : Room) s m args below meth c H locs 0 0 QQ (F0 m 0 ls [])) ∧ (∀ (x1 : Int32) (x2 : Int32) (x3 : Int32) (x4 : Int32) (x5 : Int32) (x6 : Int32) (t0 : Int32) (z : ow_MS) (H : Heap) (locs : List Loc) (ls : Array Slot), tw_M D vwCl mX q s.heap u z H locs → lv_has ls 8 [(0, .ref (u 0)), (1, .int x1), (2, .int x2), (3, .int x3), (4, .int x4), (5, .int x5), (6, .int x6)] → q_X13_feed K k 1 x1 x2 x3 x4 x5 x6 t0 z = some (r, z1) → W p l e ({ frames := 1, cells := 0, slots := 0, locals := 21 } : Room) s m args below meth c H locs 0 0 QQ (F0 m 27 ls [])) ∧ (∀ (x1 : Int32) (x2 : Int32) (x3 : Int32) (x4 : Int32) (x5 : Int32) (x6 : Int32) (t0 : Int32) (z : ow_MS) (H : Heap) (locs : List Loc) (ls : Array Slot), tw_M D vwCl mX q s.heap u z H locs → lv_has ls 8 [(0, .ref (u 0)), (1, .int x1), (2, .int x2), (3, .int x3), (4, .int x4), (5, .int x5), (6, .int x6)] → q_X13_feed K k 2 x1 x2 x3 x4 x5 x6 t0 z = some (r, z1) → W p l e ({ frames := 1, cells := 0, slots := 0, locals := 21 } : Room) s m args below meth c H locs 0 0 QQ (F0 m 80 ls [.int t0])) := by
    intro k
    induction k with
    | zero => exact ⟨fun _ _ _ _ _ _ _ _ _ _ _  _ _ hq => tw_no hq, fun _ _ _ _ _ _ _ _ _ _ _  _ _ hq => tw_no hq, fun _ _ _ _ _ _ _ _ _ _ _  _ _ hq => tw_no hq⟩
    | succ k ih =>
      obtain ⟨ih_0, ih_1, ih_2⟩ := ih
      refine ⟨?_, ?_, ?_⟩
      · intro x1 x2 x3 x4 x5 x6 t0 z H locs ls  hM hl hq
        have hq : qm_X13_feed_0 K (q_X13_feed K k) x1 x2 x3 x4 x5 x6 t0 z = some (r, z1) := hq
        unfold qm_X13_feed_0 at hq
        refine lv_aload_n hx hb dmX13_feed_0 rfl (lv_at hl 0 rfl) ?_
        refine lv_iconst (v := 0) hx hb dmX13_feed_1 (by decide) ?_
        refine mp13_1 hx hb hT hown hK hM hU hq dmX13_feed_2 (fun z1 H locs hM hq => ?_)
        refine lv_aload_n hx hb dmX13_feed_5 rfl (lv_at hl 0 rfl) ?_
        refine mg13_400 hx hb hT hown hK hM hq dmX13_feed_6 (fun v2 hq => ?_)
        refine lv_bipush (v := 20) hx hb dmX13_feed_9 (by decide) ?_
        refine lv_iadd hx hb dmX13_feed_11 ?_
        refine lv_sipush (v := 400) hx hb dmX13_feed_12 (by decide) ?_
        refine lv_icmp_le (tgt := 24) hx hb dmX13_feed_15 (by decide) (fun hc => ?_) (fun hc => ?_)
        · have hq := tw_it hq hc
          refine lv_iconst (v := 0) hx hb dmX13_feed_24 (by decide) ?_
          refine lv_istore (lv' := [(6, .int 0), (0, .ref (u 0)), (1, .int x1), (2, .int x2), (3, .int x3), (4, .int x4), (5, .int x5)]) hx hb dmX13_feed_25 hl (by decide) rfl (fun ls hl => ?_)
          exact ih_1 x1 x2 x3 x4 x5 0 0 z1 H locs ls hM (lv_sub hl [1, 2, 3, 4, 5, 6, 0] rfl) hq
        · have hq := tw_if hq hc
          refine lv_aload_n hx hb dmX13_feed_18 rfl (lv_at hl 0 rfl) ?_
          refine lv_iconst (v := 1) hx hb dmX13_feed_19 (by decide) ?_
          obtain ⟨v4, z3, hcq, hq⟩ := tw_cl1 hq
          refine tw_cali hM (va_runV (As := [.int 1]) (rest := []) ⟨hx, hb, hml, hown, hts⟩ (km_X13_fails l D q u hU K 1 z1 z3 v4 hcq) (cwV 1 hts (tw_gV wM_good wq_103 wq_104 wq_105 wq_61 wq_50) rfl rfl rfl cd_X13_fails ⟨(Nat.le_of_ble_eq_true rfl), (Nat.le_of_ble_eq_true rfl)⟩) (mw_preV hK hN hM mo_0 rfl) rfl rfl hl.1 rfl (lv_room (Nat.le_of_ble_eq_true rfl)) dmX13_feed_20 ⟨(Nat.le_of_ble_eq_true rfl), (Nat.le_of_ble_eq_true rfl)⟩) (fun H locs hM => ?_)
          exact mw_iret hx hb hr hlocks hM hq hQQ dmX13_feed_23
      · intro x1 x2 x3 x4 x5 x6 t0 z H locs ls  hM hl hq
        have hq : qm_X13_feed_1 K (q_X13_feed K k) x1 x2 x3 x4 x5 x6 t0 z = some (r, z1) := hq
        unfold qm_X13_feed_1 at hq
        refine lv_iload hx hb dmX13_feed_27 (lv_at hl 6 rfl) ?_
        refine lv_bipush (v := 20) hx hb dmX13_feed_29 (by decide) ?_
        refine lv_icmp_ge (tgt := 121) hx hb dmX13_feed_31 (by decide) (fun hc => ?_) (fun hc => ?_)
        · have hq := tw_it hq hc
          refine lv_aload_n hx hb dmX13_feed_121 rfl (lv_at hl 0 rfl) ?_
          refine mg13_400 hx hb hT hown hK hM hq dmX13_feed_122 (fun v5 hq => ?_)
          exact mw_iret hx hb hr hlocks hM hq hQQ dmX13_feed_125
        · have hq := tw_if hq hc
          refine lv_iload hx hb dmX13_feed_34 (lv_at hl 6 rfl) ?_
          refine lv_iconst (v := 4) hx hb dmX13_feed_36 (by decide) ?_
          refine lv_icmp_ge (tgt := 44) hx hb dmX13_feed_37 (by decide) (fun hc => ?_) (fun hc => ?_)
          · have hq := tw_it hq hc
            refine lv_iload hx hb dmX13_feed_44 (lv_at hl 6 rfl) ?_
            refine lv_bipush (v := 8) hx hb dmX13_feed_46 (by decide) ?_
            refine lv_icmp_ge (tgt := 55) hx hb dmX13_feed_48 (by decide) (fun hc => ?_) (fun hc => ?_)
            · have hq := tw_it hq hc
              refine lv_iload hx hb dmX13_feed_55 (lv_at hl 6 rfl) ?_
              refine lv_bipush (v := 12) hx hb dmX13_feed_57 (by decide) ?_
              refine lv_icmp_ge (tgt := 66) hx hb dmX13_feed_59 (by decide) (fun hc => ?_) (fun hc => ?_)
              · have hq := tw_it hq hc
                refine lv_iload hx hb dmX13_feed_66 (lv_at hl 6 rfl) ?_
                refine lv_bipush (v := 16) hx hb dmX13_feed_68 (by decide) ?_
                refine lv_icmp_ge (tgt := 78) hx hb dmX13_feed_70 (by decide) (fun hc => ?_) (fun hc => ?_)
                · have hq := tw_it hq hc
                  refine lv_iload hx hb dmX13_feed_78 (lv_at hl 5 rfl) ?_
                  exact ih_2 x1 x2 x3 x4 x5 x6 x5 z H locs ls hM (lv_sub hl [0, 1, 2, 3, 4, 5, 6] rfl) hq
                · have hq := tw_if hq hc
                  refine lv_iload hx hb dmX13_feed_73 (lv_at hl 4 rfl) ?_
                  refine lv_goto (tgt := 80) hx hb dmX13_feed_75 (by decide) ?_
                  exact ih_2 x1 x2 x3 x4 x5 x6 x4 z H locs ls hM (lv_sub hl [0, 1, 2, 3, 4, 5, 6] rfl) hq
              · have hq := tw_if hq hc
                refine lv_iload_n hx hb dmX13_feed_62 rfl (lv_at hl 3 rfl) ?_
                refine lv_goto (tgt := 80) hx hb dmX13_feed_63 (by decide) ?_
                exact ih_2 x1 x2 x3 x4 x5 x6 x3 z H locs ls hM (lv_sub hl [0, 1, 2, 3, 4, 5, 6] rfl) hq
            · have hq := tw_if hq hc
              refine lv_iload_n hx hb dmX13_feed_51 rfl (lv_at hl 2 rfl) ?_
              refine lv_goto (tgt := 80) hx hb dmX13_feed_52 (by decide) ?_
              exact ih_2 x1 x2 x3 x4 x5 x6 x2 z H locs ls hM (lv_sub hl [0, 1, 2, 3, 4, 5, 6] rfl) hq
          · have hq := tw_if hq hc
            refine lv_iload_n hx hb dmX13_feed_40 rfl (lv_at hl 1 rfl) ?_
            refine lv_goto (tgt := 80) hx hb dmX13_feed_41 (by decide) ?_
            exact ih_2 x1 x2 x3 x4 x5 x6 x1 z H locs ls hM (lv_sub hl [0, 1, 2, 3, 4, 5, 6] rfl) hq
      · intro x1 x2 x3 x4 x5 x6 t0 z H locs ls  hM hl hq
        have hq : qm_X13_feed_2 K (q_X13_feed K k) x1 x2 x3 x4 x5 x6 t0 z = some (r, z1) := hq
        unfold qm_X13_feed_2 at hq
        refine lv_istore (lv' := [(7, .int t0), (0, .ref (u 0)), (1, .int x1), (2, .int x2), (3, .int x3), (4, .int x4), (5, .int x5), (6, .int x6)]) hx hb dmX13_feed_80 hl (by decide) rfl (fun ls hl => ?_)
        refine lv_aload_n hx hb dmX13_feed_82 rfl (lv_at hl 1 rfl) ?_
        refine mg13_106 hx hb hT hown hK hM dmX13_feed_83 ?_
        refine lv_aload_n hx hb dmX13_feed_86 rfl (lv_at hl 1 rfl) ?_
        refine mg13_400 hx hb hT hown hK hM hq dmX13_feed_87 (fun v6 hq => ?_)
        refine lv_iload hx hb dmX13_feed_90 (lv_at hl 0 rfl) ?_
        refine lv_bipush (v := 24) hx hb dmX13_feed_92 (by decide) ?_
        refine lv_bipush (v := 8) hx hb dmX13_feed_94 (by decide) ?_
        refine lv_iload hx hb dmX13_feed_96 (lv_at hl 7 rfl) ?_
        refine lv_iconst (v := 3) hx hb dmX13_feed_98 (by decide) ?_
        refine lv_iand hx hb dmX13_feed_99 ?_
        refine lv_imul hx hb dmX13_feed_100 ?_
        refine lv_isub hx hb dmX13_feed_101 ?_
        refine lv_ishr hx hb dmX13_feed_102 ?_
        refine lv_i2b hx hb dmX13_feed_103 rfl ?_
        refine tw_bast mX_ok hU hx hb hK hM mr_10 hq dmX13_feed_104 (fun z7 H locs hM hq => ?_)
        refine lv_aload_n hx hb dmX13_feed_105 rfl (lv_at hl 1 rfl) ?_
        refine lv_dup hx hb dmX13_feed_106 rfl ?_
        refine mg13_400 hx hb hT hown hK hM hq dmX13_feed_107 (fun v8 hq => ?_)
        refine lv_iconst (v := 1) hx hb dmX13_feed_110 (by decide) ?_
        refine lv_iadd hx hb dmX13_feed_111 ?_
        refine mp13_400 hx hb hT hown hK hM hU hq dmX13_feed_112 (fun z9 H locs hM hq => ?_)
        refine lv_iinc (v := (x6 + 1)) (lv' := [(6, .int (x6 + 1)), (7, .int t0), (0, .ref (u 0)), (1, .int x1), (2, .int x2), (3, .int x3), (4, .int x4), (5, .int x5)]) hx hb dmX13_feed_115 hl (k := 7) rfl rfl (by decide) rfl (fun ls hl => ?_)
        refine lv_goto (tgt := 27) hx hb dmX13_feed_118 (by decide) ?_
        exact ih_1 x1 x2 x3 x4 x5 (x6 + 1) 0 z9 H locs ls hM (lv_sub hl [2, 3, 4, 5, 6, 7, 0] rfl) hq
  exact (key K).1 x1 x2 x3 x4 x5 0 0 z s.heap [] ls  hM (lv_sub hl [0, 1, 2, 3, 4, 5] rfl) hq
theorem dmX13_end_0 : decode cX13_end 0 = .ok (.aload_n 0, 1) := by decide +kernel
theorem dmX13_end_1 : decode cX13_end 1 = .ok (.iconst 0, 1) := by decide +kernel
theorem dmX13_end_2 : decode cX13_end 2 = .ok (.putfield 1, 3) := by decide +kernel
theorem dmX13_end_5 : decode cX13_end 5 = .ok (.iload_n 1, 1) := by decide +kernel
theorem dmX13_end_6 : decode cX13_end 6 = .ok (.ifCond .lt 11, 3) := by decide +kernel
theorem dmX13_end_9 : decode cX13_end 9 = .ok (.iload_n 1, 1) := by decide +kernel
theorem dmX13_end_10 : decode cX13_end 10 = .ok (.aload_n 0, 1) := by decide +kernel
theorem dmX13_end_11 : decode cX13_end 11 = .ok (.getfield 400, 3) := by decide +kernel
theorem dmX13_end_14 : decode cX13_end 14 = .ok (.if_icmp .le 12, 3) := by decide +kernel
theorem dmX13_end_17 : decode cX13_end 17 = .ok (.aload_n 0, 1) := by decide +kernel
theorem dmX13_end_18 : decode cX13_end 18 = .ok (.iconst 1, 1) := by decide +kernel
theorem dmX13_end_19 : decode cX13_end 19 = .ok (.invokevirtual 403, 3) := by decide +kernel
theorem dmX13_end_22 : decode cX13_end 22 = .ok (.pop, 1) := by decide +kernel
theorem dmX13_end_23 : decode cX13_end 23 = .ok (.goto 8, 3) := by decide +kernel
theorem dmX13_end_26 : decode cX13_end 26 = .ok (.aload_n 0, 1) := by decide +kernel
theorem dmX13_end_27 : decode cX13_end 27 = .ok (.iload_n 1, 1) := by decide +kernel
theorem dmX13_end_28 : decode cX13_end 28 = .ok (.putfield 400, 3) := by decide +kernel
theorem dmX13_end_31 : decode cX13_end 31 = .ok (.return_, 1) := by decide +kernel
def qm_X13_end_0 (K : Nat) (go : Nat → Int32 → ow_MS → Option ow_MS) (x1 : Int32) (z : ow_MS) : Option ow_MS :=
 wrF z 1 0 fun z1 => (if x1 < 0 then go 1 x1 z1
 else rdF z1 11 fun v2 => (if x1 ≤ v2 then wrF z1 11 x1 fun z3 => some z3
 else go 1 x1 z1))
def qm_X13_end_1 (K : Nat) (go : Nat → Int32 → ow_MS → Option ow_MS) (x1 : Int32) (z : ow_MS) : Option ow_MS :=
 cs1 (qe_X13_fails K 1 z) fun v5 z4 => some z4
def qb_X13_end (K : Nat) (go : Nat → Int32 → ow_MS → Option ow_MS) (L : Nat) (x1 : Int32) (z : ow_MS) : Option ow_MS := match L with
  | 0 => qm_X13_end_0 K go x1 z
  | 1 => qm_X13_end_1 K go x1 z
  | _ => none
def q_X13_end (K : Nat) : Nat → Nat → Int32 → ow_MS → Option ow_MS
  | 0 => fun _ _ _ => none
  | k + 1 => qb_X13_end K (q_X13_end K k)
def qe_X13_end (K : Nat) (x1 : Int32) (z : ow_MS) : Option ow_MS := q_X13_end K K 0 x1 z
abbrev wm_X13_end : List Cond := .code yX13_end cX13_end 2 none :: wM
theorem cd_X13_end : yX13_end.cls = RX13 ∧ yX13_end.cls ≠ "java/lang/invoke/MethodHandle" ∧ yX13_end.cls ≠ "java/lang/invoke/VarHandle" ∧ (parseMethodDescriptor yX13_end.desc).map (fun d => d.parameters.length) = some 1 := by decide +kernel
set_option maxHeartbeats 4000000 in
set_option maxRecDepth 100000 in
theorem km_X13_end (l : Launch) (D : va_G) (q : ow_Q5) (u : Nat → Nat) (hU : tw_inj mX u) (K : Nat) (x1 : Int32)  (z z1 : ow_MS) (hq : qe_X13_end K x1 z = some z1) : Met l yX13_end wm_X13_end ({ frames := 1, cells := 0, slots := 0, locals := 21 } : Room) (va_Pc [.ref (u 0), .int x1] (mw_pre D q u z)) (va_Qv (fun (_ : Unit) => True) (fun _ t => va_P D vwCl (tw mX q u z1) t.heap) (tw_A mX u)) 0 0 (tw_A mX u) := by
  refine Met.ofW (cc := cX13_end) (maxL := 2) (ret := none) (by decide) rfl ?_
  intro p e s m args below meth c s₁ B hml hv
  obtain ⟨rfl, hP, hK, hN⟩ := hv
  have hx := B.exec
  have hb := B.bytes
  have hr := B.returns
  have hts := atoms_spec (ws := wm_X13_end) B.pre
  have hT : ∀ w ∈ wM, w.before ([.ref (u 0), .int x1] : List Value).toArray s = true := fun w h => hts w (List.mem_cons_of_mem _ h)
  have hown : s.vm.findClass RX13 = some m.cls := findClass_of_methodNamed B.named
  have hlocks := B.notSynchronized
  have hM : tw_M D vwCl mX q s.heap u z s.heap [] := ⟨hP, va_S.rf⟩
  have hl := lv_entry ([.ref (u 0), .int x1]) (n := 2) (Nat.le_of_ble_eq_true rfl)
  rw [lg_entry_eq]
  generalize (lg_sl ([.ref (u 0), .int x1]) ++ List.replicate (2 - (lg_sl ([.ref (u 0), .int x1])).length) Slot.unset).toArray = ls at hl ⊢
  have hl : lv_has ls 2 [(0, .ref (u 0)), (1, .int x1)] := hl
  refine ow_named (fun QQ hQQ => ?_)
  generalize ([.ref (u 0), .int x1] : List Value).toArray = args at hts hT hQQ ⊢
  have key : ∀ k : Nat, (∀ (x1 : Int32) (z : ow_MS) (H : Heap) (locs : List Loc) (ls : Array Slot), tw_M D vwCl mX q s.heap u z H locs → lv_has ls 2 [(0, .ref (u 0)), (1, .int x1)] → q_X13_end K k 0 x1 z = some z1 → W p l e ({ frames := 1, cells := 0, slots := 0, locals := 21 } : Room) s m args below meth c H locs 0 0 QQ (F0 m 0 ls [])) ∧ (∀ (x1 : Int32) (z : ow_MS) (H : Heap) (locs : List Loc) (ls : Array Slot), tw_M D vwCl mX q s.heap u z H locs → lv_has ls 2 [(0, .ref (u 0)), (1, .int x1)] → q_X13_end K k 1 x1 z = some z1 → W p l e ({ frames := 1, cells := 0, slots := 0, locals := 21 } : Room) s m args below meth c H locs 0 0 QQ (F0 m 17 ls [])) := by
    intro k
    induction k with
    | zero => exact ⟨fun _ _ _ _ _  _ _ hq => tw_no hq, fun _ _ _ _ _  _ _ hq => tw_no hq⟩
    | succ k ih =>
      obtain ⟨ih_0, ih_1⟩ := ih
      refine ⟨?_, ?_⟩
      · intro x1 z H locs ls  hM hl hq
        have hq : qm_X13_end_0 K (q_X13_end K k) x1 z = some z1 := hq
        unfold qm_X13_end_0 at hq
        refine lv_aload_n hx hb dmX13_end_0 rfl (lv_at hl 0 rfl) ?_
        refine lv_iconst (v := 0) hx hb dmX13_end_1 (by decide) ?_
        refine mp13_1 hx hb hT hown hK hM hU hq dmX13_end_2 (fun z1 H locs hM hq => ?_)
        refine lv_iload_n hx hb dmX13_end_5 rfl (lv_at hl 1 rfl) ?_
        refine lv_if_lt (tgt := 17) hx hb dmX13_end_6 (by decide) (fun hc => ?_) (fun hc => ?_)
        · have hq := tw_it hq hc
          exact ih_1 x1 z1 H locs ls hM (lv_sub hl [0, 1] rfl) hq
        · have hq := tw_if hq hc
          refine lv_iload_n hx hb dmX13_end_9 rfl (lv_at hl 1 rfl) ?_
          refine lv_aload_n hx hb dmX13_end_10 rfl (lv_at hl 0 rfl) ?_
          refine mg13_400 hx hb hT hown hK hM hq dmX13_end_11 (fun v2 hq => ?_)
          refine lv_icmp_le (tgt := 26) hx hb dmX13_end_14 (by decide) (fun hc => ?_) (fun hc => ?_)
          · have hq := tw_it hq hc
            refine lv_aload_n hx hb dmX13_end_26 rfl (lv_at hl 0 rfl) ?_
            refine lv_iload_n hx hb dmX13_end_27 rfl (lv_at hl 1 rfl) ?_
            refine mp13_400 hx hb hT hown hK hM hU hq dmX13_end_28 (fun z3 H locs hM hq => ?_)
            exact mw_vret hx hb hr hlocks hM hq hQQ dmX13_end_31
          · have hq := tw_if hq hc
            exact ih_1 x1 z1 H locs ls hM (lv_sub hl [0, 1] rfl) hq
      · intro x1 z H locs ls  hM hl hq
        have hq : qm_X13_end_1 K (q_X13_end K k) x1 z = some z1 := hq
        unfold qm_X13_end_1 at hq
        refine lv_aload_n hx hb dmX13_end_17 rfl (lv_at hl 0 rfl) ?_
        refine lv_iconst (v := 1) hx hb dmX13_end_18 (by decide) ?_
        obtain ⟨v5, z4, hcq, hq⟩ := tw_cl1 hq
        refine tw_cali hM (va_runV (As := [.int 1]) (rest := []) ⟨hx, hb, hml, hown, hts⟩ (km_X13_fails l D q u hU K 1 z z4 v5 hcq) (cwV 1 hts (tw_gV wM_good wq_103 wq_104 wq_105 wq_61 wq_50) rfl rfl rfl cd_X13_fails ⟨(Nat.le_of_ble_eq_true rfl), (Nat.le_of_ble_eq_true rfl)⟩) (mw_preV hK hN hM mo_0 rfl) rfl rfl hl.1 rfl (lv_room (Nat.le_of_ble_eq_true rfl)) dmX13_end_19 ⟨(Nat.le_of_ble_eq_true rfl), (Nat.le_of_ble_eq_true rfl)⟩) (fun H locs hM => ?_)
        refine lv_pop hx hb dmX13_end_22 rfl ?_
        refine lv_goto (tgt := 31) hx hb dmX13_end_23 (by decide) ?_
        exact mw_vret hx hb hr hlocks hM hq hQQ dmX13_end_31
  exact (key K).1 x1 z s.heap [] ls  hM (lv_sub hl [0, 1] rfl) hq
theorem dmX13_byteAt_0 : decode cX13_byteAt 0 = .ok (.iload_n 1, 1) := by decide +kernel
theorem dmX13_byteAt_1 : decode cX13_byteAt 1 = .ok (.aload_n 0, 1) := by decide +kernel
theorem dmX13_byteAt_2 : decode cX13_byteAt 2 = .ok (.getfield 400, 3) := by decide +kernel
theorem dmX13_byteAt_5 : decode cX13_byteAt 5 = .ok (.if_icmp .ge 12, 3) := by decide +kernel
theorem dmX13_byteAt_8 : decode cX13_byteAt 8 = .ok (.aload_n 0, 1) := by decide +kernel
theorem dmX13_byteAt_9 : decode cX13_byteAt 9 = .ok (.getfield 106, 3) := by decide +kernel
theorem dmX13_byteAt_12 : decode cX13_byteAt 12 = .ok (.iload_n 1, 1) := by decide +kernel
theorem dmX13_byteAt_13 : decode cX13_byteAt 13 = .ok (.baload, 1) := by decide +kernel
theorem dmX13_byteAt_14 : decode cX13_byteAt 14 = .ok (.goto 4, 3) := by decide +kernel
theorem dmX13_byteAt_17 : decode cX13_byteAt 17 = .ok (.iconst (-1), 1) := by decide +kernel
theorem dmX13_byteAt_18 : decode cX13_byteAt 18 = .ok (.ireturn, 1) := by decide +kernel
def qm_X13_byteAt_0 (K : Nat) (x1 : Int32) (z : ow_MS) : Option (Int32 × ow_MS) :=
 rdF z 11 fun v1 => (if v1 ≤ x1 then some ((-1), z)
 else rdI mX z 10 x1 fun v2 => some (v2, z))
def qe_X13_byteAt (K : Nat) (x1 : Int32) (z : ow_MS) : Option (Int32 × ow_MS) := qm_X13_byteAt_0 K x1 z
abbrev wm_X13_byteAt : List Cond := .code yX13_byteAt cX13_byteAt 2 (some .int) :: wM
theorem cd_X13_byteAt : yX13_byteAt.cls = RX13 ∧ yX13_byteAt.cls ≠ "java/lang/invoke/MethodHandle" ∧ yX13_byteAt.cls ≠ "java/lang/invoke/VarHandle" ∧ (parseMethodDescriptor yX13_byteAt.desc).map (fun d => d.parameters.length) = some 1 := by decide +kernel
set_option maxHeartbeats 4000000 in
set_option maxRecDepth 100000 in
theorem km_X13_byteAt (l : Launch) (D : va_G) (q : ow_Q5) (u : Nat → Nat) (hU : tw_inj mX u) (K : Nat) (x1 : Int32)  (z z1 : ow_MS) (r : Int32) (hq : qe_X13_byteAt K x1 z = some (r, z1)) : Met l yX13_byteAt wm_X13_byteAt ({ frames := 0, cells := 0, slots := 0, locals := 0 } : Room) (va_Pc [.ref (u 0), .int x1] (mw_pre D q u z)) (va_Qi (fun x (_ : Unit) => x = r) (fun _ t => va_P D vwCl (tw mX q u z1) t.heap) (tw_A mX u)) 0 0 (tw_A mX u) := by
  refine Met.ofW (cc := cX13_byteAt) (maxL := 2) (ret := (some .int)) (by decide) rfl ?_
  intro p e s m args below meth c s₁ B hml hv
  obtain ⟨rfl, hP, hK, hN⟩ := hv
  have hx := B.exec
  have hb := B.bytes
  have hr := B.returns
  have hts := atoms_spec (ws := wm_X13_byteAt) B.pre
  have hT : ∀ w ∈ wM, w.before ([.ref (u 0), .int x1] : List Value).toArray s = true := fun w h => hts w (List.mem_cons_of_mem _ h)
  have hown : s.vm.findClass RX13 = some m.cls := findClass_of_methodNamed B.named
  have hlocks := B.notSynchronized
  have hM : tw_M D vwCl mX q s.heap u z s.heap [] := ⟨hP, va_S.rf⟩
  have hl := lv_entry ([.ref (u 0), .int x1]) (n := 2) (Nat.le_of_ble_eq_true rfl)
  rw [lg_entry_eq]
  generalize (lg_sl ([.ref (u 0), .int x1]) ++ List.replicate (2 - (lg_sl ([.ref (u 0), .int x1])).length) Slot.unset).toArray = ls at hl ⊢
  have hl : lv_has ls 2 [(0, .ref (u 0)), (1, .int x1)] := hl
  refine ow_named (fun QQ hQQ => ?_)
  generalize ([.ref (u 0), .int x1] : List Value).toArray = args at hts hT hQQ ⊢
  have hq : qm_X13_byteAt_0 K x1 z = some (r, z1) := hq
  unfold qm_X13_byteAt_0 at hq
  suffices key : ∀ (H : Heap) (locs : List Loc), tw_M D vwCl mX q s.heap u z H locs → W p l e ({ frames := 0, cells := 0, slots := 0, locals := 0 } : Room) s m args below meth c H locs 0 0 QQ (F0 m 0 ls []) from key s.heap [] hM
  intro H locs hM
  refine lv_iload_n hx hb dmX13_byteAt_0 rfl (lv_at hl 1 rfl) ?_
  refine lv_aload_n hx hb dmX13_byteAt_1 rfl (lv_at hl 0 rfl) ?_
  refine mg13_400 hx hb hT hown hK hM hq dmX13_byteAt_2 (fun v1 hq => ?_)
  refine lv_icmp_ge (tgt := 17) hx hb dmX13_byteAt_5 (by decide) (fun hc => ?_) (fun hc => ?_)
  · have hq := tw_it hq hc
    refine lv_iconst (v := (-1)) hx hb dmX13_byteAt_17 (by decide) ?_
    exact mw_iret hx hb hr hlocks hM hq hQQ dmX13_byteAt_18
  · have hq := tw_if hq hc
    refine lv_aload_n hx hb dmX13_byteAt_8 rfl (lv_at hl 0 rfl) ?_
    refine mg13_106 hx hb hT hown hK hM dmX13_byteAt_9 ?_
    refine lv_iload_n hx hb dmX13_byteAt_12 rfl (lv_at hl 1 rfl) ?_
    refine tw_bald mX_ok hx hb hK hM mr_10 hq dmX13_byteAt_13 (fun v2 hq => ?_)
    refine lv_goto (tgt := 18) hx hb dmX13_byteAt_14 (by decide) ?_
    exact mw_iret hx hb hr hlocks hM hq hQQ dmX13_byteAt_18
theorem dmX13_read_0 : decode cX13_read 0 = .ok (.aload_n 0, 1) := dw_at cX13_read_k0 (p := 0) rfl (by decide +kernel)
theorem dmX13_read_1 : decode cX13_read 1 = .ok (.getfield 121, 3) := dw_at cX13_read_k0 (p := 1) rfl (by decide +kernel)
theorem dmX13_read_4 : decode cX13_read 4 = .ok (.invokevirtual 91, 3) := dw_at cX13_read_k0 (p := 4) rfl (by decide +kernel)
theorem dmX13_read_7 : decode cX13_read 7 = .ok (.iconst 0, 1) := dw_at cX13_read_k0 (p := 7) rfl (by decide +kernel)
theorem dmX13_read_8 : decode cX13_read 8 = .ok (.istore_n 1, 1) := dw_at cX13_read_k0 (p := 8) rfl (by decide +kernel)
theorem dmX13_read_9 : decode cX13_read 9 = .ok (.iconst 0, 1) := dw_at cX13_read_k0 (p := 9) rfl (by decide +kernel)
theorem dmX13_read_10 : decode cX13_read 10 = .ok (.istore_n 2, 1) := dw_at cX13_read_k0 (p := 10) rfl (by decide +kernel)
theorem dmX13_read_11 : decode cX13_read 11 = .ok (.iload_n 2, 1) := dw_at cX13_read_k0 (p := 11) rfl (by decide +kernel)
theorem dmX13_read_12 : decode cX13_read 12 = .ok (.aload_n 0, 1) := dw_at cX13_read_k0 (p := 12) rfl (by decide +kernel)
theorem dmX13_read_13 : decode cX13_read 13 = .ok (.getfield 400, 3) := dw_at cX13_read_k0 (p := 13) rfl (by decide +kernel)
theorem dmX13_read_16 : decode cX13_read 16 = .ok (.if_icmp .ge 368, 3) := dw_at cX13_read_k0 (p := 16) rfl (by decide +kernel)
theorem dmX13_read_19 : decode cX13_read 19 = .ok (.aload_n 0, 1) := dw_at cX13_read_k0 (p := 19) rfl (by decide +kernel)
theorem dmX13_read_20 : decode cX13_read 20 = .ok (.getfield 106, 3) := dw_at cX13_read_k0 (p := 20) rfl (by decide +kernel)
theorem dmX13_read_23 : decode cX13_read 23 = .ok (.iload_n 2, 1) := dw_at cX13_read_k0 (p := 23) rfl (by decide +kernel)
theorem dmX13_read_24 : decode cX13_read 24 = .ok (.baload, 1) := dw_at cX13_read_k1 (p := 0) rfl (by decide +kernel)
theorem dmX13_read_25 : decode cX13_read 25 = .ok (.istore_n 3, 1) := dw_at cX13_read_k1 (p := 1) rfl (by decide +kernel)
theorem dmX13_read_26 : decode cX13_read 26 = .ok (.iload_n 3, 1) := dw_at cX13_read_k1 (p := 2) rfl (by decide +kernel)
theorem dmX13_read_27 : decode cX13_read 27 = .ok (.bipush 59, 2) := dw_at cX13_read_k1 (p := 3) rfl (by decide +kernel)
theorem dmX13_read_29 : decode cX13_read 29 = .ok (.if_icmp .ne 30, 3) := dw_at cX13_read_k1 (p := 5) rfl (by decide +kernel)
theorem dmX13_read_32 : decode cX13_read 32 = .ok (.aload_n 0, 1) := dw_at cX13_read_k1 (p := 8) rfl (by decide +kernel)
theorem dmX13_read_33 : decode cX13_read 33 = .ok (.getfield 121, 3) := dw_at cX13_read_k1 (p := 9) rfl (by decide +kernel)
theorem dmX13_read_36 : decode cX13_read 36 = .ok (.invokevirtual 94, 3) := dw_at cX13_read_k1 (p := 12) rfl (by decide +kernel)
theorem dmX13_read_39 : decode cX13_read 39 = .ok (.aload_n 0, 1) := dw_at cX13_read_k1 (p := 15) rfl (by decide +kernel)
theorem dmX13_read_40 : decode cX13_read 40 = .ok (.getfield 121, 3) := dw_at cX13_read_k1 (p := 16) rfl (by decide +kernel)
theorem dmX13_read_43 : decode cX13_read 43 = .ok (.getfield 407, 3) := dw_at cX13_read_k1 (p := 19) rfl (by decide +kernel)
theorem dmX13_read_46 : decode cX13_read 46 = .ok (.bipush 6, 2) := dw_at cX13_read_k1 (p := 22) rfl (by decide +kernel)
theorem dmX13_read_48 : decode cX13_read 48 = .ok (.if_icmp .ne 5, 3) := dw_at cX13_read_k2 (p := 0) rfl (by decide +kernel)
theorem dmX13_read_51 : decode cX13_read 51 = .ok (.iload_n 2, 1) := dw_at cX13_read_k2 (p := 3) rfl (by decide +kernel)
theorem dmX13_read_52 : decode cX13_read 52 = .ok (.ireturn, 1) := dw_at cX13_read_k2 (p := 4) rfl (by decide +kernel)
theorem dmX13_read_53 : decode cX13_read 53 = .ok (.iinc 2 1, 3) := dw_at cX13_read_k2 (p := 5) rfl (by decide +kernel)
theorem dmX13_read_56 : decode cX13_read 56 = .ok (.goto (-45), 3) := dw_at cX13_read_k2 (p := 8) rfl (by decide +kernel)
theorem dmX13_read_59 : decode cX13_read 59 = .ok (.iload_n 3, 1) := dw_at cX13_read_k2 (p := 11) rfl (by decide +kernel)
theorem dmX13_read_60 : decode cX13_read 60 = .ok (.bipush 111, 2) := dw_at cX13_read_k2 (p := 12) rfl (by decide +kernel)
theorem dmX13_read_62 : decode cX13_read 62 = .ok (.if_icmp .eq 11, 3) := dw_at cX13_read_k2 (p := 14) rfl (by decide +kernel)
theorem dmX13_read_65 : decode cX13_read 65 = .ok (.iload_n 3, 1) := dw_at cX13_read_k2 (p := 17) rfl (by decide +kernel)
theorem dmX13_read_66 : decode cX13_read 66 = .ok (.bipush 117, 2) := dw_at cX13_read_k2 (p := 18) rfl (by decide +kernel)
theorem dmX13_read_68 : decode cX13_read 68 = .ok (.if_icmp .eq 5, 3) := dw_at cX13_read_k2 (p := 20) rfl (by decide +kernel)
theorem dmX13_read_71 : decode cX13_read 71 = .ok (.iload_n 2, 1) := dw_at cX13_read_k2 (p := 23) rfl (by decide +kernel)
theorem dmX13_read_72 : decode cX13_read 72 = .ok (.ireturn, 1) := dw_at cX13_read_k3 (p := 0) rfl (by decide +kernel)
theorem dmX13_read_73 : decode cX13_read 73 = .ok (.iload_n 2, 1) := dw_at cX13_read_k3 (p := 1) rfl (by decide +kernel)
theorem dmX13_read_74 : decode cX13_read 74 = .ok (.istore 4, 2) := dw_at cX13_read_k3 (p := 2) rfl (by decide +kernel)
theorem dmX13_read_76 : decode cX13_read 76 = .ok (.iinc 2 1, 3) := dw_at cX13_read_k3 (p := 4) rfl (by decide +kernel)
theorem dmX13_read_79 : decode cX13_read 79 = .ok (.iload_n 2, 1) := dw_at cX13_read_k3 (p := 7) rfl (by decide +kernel)
theorem dmX13_read_80 : decode cX13_read 80 = .ok (.aload_n 0, 1) := dw_at cX13_read_k3 (p := 8) rfl (by decide +kernel)
theorem dmX13_read_81 : decode cX13_read 81 = .ok (.getfield 400, 3) := dw_at cX13_read_k3 (p := 9) rfl (by decide +kernel)
theorem dmX13_read_84 : decode cX13_read 84 = .ok (.if_icmp .ne 8, 3) := dw_at cX13_read_k3 (p := 12) rfl (by decide +kernel)
theorem dmX13_read_87 : decode cX13_read 87 = .ok (.aload_n 0, 1) := dw_at cX13_read_k3 (p := 15) rfl (by decide +kernel)
theorem dmX13_read_88 : decode cX13_read 88 = .ok (.getfield 400, 3) := dw_at cX13_read_k3 (p := 16) rfl (by decide +kernel)
theorem dmX13_read_91 : decode cX13_read 91 = .ok (.ireturn, 1) := dw_at cX13_read_k3 (p := 19) rfl (by decide +kernel)
theorem dmX13_read_92 : decode cX13_read 92 = .ok (.aload_n 0, 1) := dw_at cX13_read_k3 (p := 20) rfl (by decide +kernel)
theorem dmX13_read_93 : decode cX13_read 93 = .ok (.iload_n 2, 1) := dw_at cX13_read_k3 (p := 21) rfl (by decide +kernel)
theorem dmX13_read_94 : decode cX13_read 94 = .ok (.invokevirtual 410, 3) := dw_at cX13_read_k3 (p := 22) rfl (by decide +kernel)
theorem dmX13_read_97 : decode cX13_read 97 = .ok (.bipush 49, 2) := dw_at cX13_read_k4 (p := 0) rfl (by decide +kernel)
theorem dmX13_read_99 : decode cX13_read 99 = .ok (.if_icmp .lt 13, 3) := dw_at cX13_read_k4 (p := 2) rfl (by decide +kernel)
theorem dmX13_read_102 : decode cX13_read 102 = .ok (.aload_n 0, 1) := dw_at cX13_read_k4 (p := 5) rfl (by decide +kernel)
theorem dmX13_read_103 : decode cX13_read 103 = .ok (.iload_n 2, 1) := dw_at cX13_read_k4 (p := 6) rfl (by decide +kernel)
theorem dmX13_read_104 : decode cX13_read 104 = .ok (.invokevirtual 410, 3) := dw_at cX13_read_k4 (p := 7) rfl (by decide +kernel)
theorem dmX13_read_107 : decode cX13_read 107 = .ok (.bipush 57, 2) := dw_at cX13_read_k4 (p := 10) rfl (by decide +kernel)
theorem dmX13_read_109 : decode cX13_read 109 = .ok (.if_icmp .le 5, 3) := dw_at cX13_read_k4 (p := 12) rfl (by decide +kernel)
theorem dmX13_read_112 : decode cX13_read 112 = .ok (.iload_n 2, 1) := dw_at cX13_read_k4 (p := 15) rfl (by decide +kernel)
theorem dmX13_read_113 : decode cX13_read 113 = .ok (.ireturn, 1) := dw_at cX13_read_k4 (p := 16) rfl (by decide +kernel)
theorem dmX13_read_114 : decode cX13_read 114 = .ok (.aload_n 0, 1) := dw_at cX13_read_k4 (p := 17) rfl (by decide +kernel)
theorem dmX13_read_115 : decode cX13_read 115 = .ok (.iload_n 2, 1) := dw_at cX13_read_k4 (p := 18) rfl (by decide +kernel)
theorem dmX13_read_116 : decode cX13_read 116 = .ok (.invokevirtual 410, 3) := dw_at cX13_read_k4 (p := 19) rfl (by decide +kernel)
theorem dmX13_read_119 : decode cX13_read 119 = .ok (.bipush 48, 2) := dw_at cX13_read_k4 (p := 22) rfl (by decide +kernel)
theorem dmX13_read_121 : decode cX13_read 121 = .ok (.isub, 1) := dw_at cX13_read_k5 (p := 0) rfl (by decide +kernel)
theorem dmX13_read_122 : decode cX13_read 122 = .ok (.istore 5, 2) := dw_at cX13_read_k5 (p := 1) rfl (by decide +kernel)
theorem dmX13_read_124 : decode cX13_read 124 = .ok (.iinc 2 1, 3) := dw_at cX13_read_k5 (p := 3) rfl (by decide +kernel)
theorem dmX13_read_127 : decode cX13_read 127 = .ok (.aload_n 0, 1) := dw_at cX13_read_k5 (p := 6) rfl (by decide +kernel)
theorem dmX13_read_128 : decode cX13_read 128 = .ok (.iload_n 2, 1) := dw_at cX13_read_k5 (p := 7) rfl (by decide +kernel)
theorem dmX13_read_129 : decode cX13_read 129 = .ok (.invokevirtual 410, 3) := dw_at cX13_read_k5 (p := 8) rfl (by decide +kernel)
theorem dmX13_read_132 : decode cX13_read 132 = .ok (.bipush 48, 2) := dw_at cX13_read_k5 (p := 11) rfl (by decide +kernel)
theorem dmX13_read_134 : decode cX13_read 134 = .ok (.if_icmp .lt 32, 3) := dw_at cX13_read_k5 (p := 13) rfl (by decide +kernel)
theorem dmX13_read_137 : decode cX13_read 137 = .ok (.aload_n 0, 1) := dw_at cX13_read_k5 (p := 16) rfl (by decide +kernel)
theorem dmX13_read_138 : decode cX13_read 138 = .ok (.iload_n 2, 1) := dw_at cX13_read_k5 (p := 17) rfl (by decide +kernel)
theorem dmX13_read_139 : decode cX13_read 139 = .ok (.invokevirtual 410, 3) := dw_at cX13_read_k5 (p := 18) rfl (by decide +kernel)
theorem dmX13_read_142 : decode cX13_read 142 = .ok (.bipush 57, 2) := dw_at cX13_read_k5 (p := 21) rfl (by decide +kernel)
theorem dmX13_read_144 : decode cX13_read 144 = .ok (.if_icmp .gt 22, 3) := dw_at cX13_read_k5 (p := 23) rfl (by decide +kernel)
theorem dmX13_read_147 : decode cX13_read 147 = .ok (.bipush 10, 2) := dw_at cX13_read_k6 (p := 0) rfl (by decide +kernel)
theorem dmX13_read_149 : decode cX13_read 149 = .ok (.iload 5, 2) := dw_at cX13_read_k6 (p := 2) rfl (by decide +kernel)
theorem dmX13_read_151 : decode cX13_read 151 = .ok (.imul, 1) := dw_at cX13_read_k6 (p := 4) rfl (by decide +kernel)
theorem dmX13_read_152 : decode cX13_read 152 = .ok (.aload_n 0, 1) := dw_at cX13_read_k6 (p := 5) rfl (by decide +kernel)
theorem dmX13_read_153 : decode cX13_read 153 = .ok (.iload_n 2, 1) := dw_at cX13_read_k6 (p := 6) rfl (by decide +kernel)
theorem dmX13_read_154 : decode cX13_read 154 = .ok (.invokevirtual 410, 3) := dw_at cX13_read_k6 (p := 7) rfl (by decide +kernel)
theorem dmX13_read_157 : decode cX13_read 157 = .ok (.iadd, 1) := dw_at cX13_read_k6 (p := 10) rfl (by decide +kernel)
theorem dmX13_read_158 : decode cX13_read 158 = .ok (.bipush 48, 2) := dw_at cX13_read_k6 (p := 11) rfl (by decide +kernel)
theorem dmX13_read_160 : decode cX13_read 160 = .ok (.isub, 1) := dw_at cX13_read_k6 (p := 13) rfl (by decide +kernel)
theorem dmX13_read_161 : decode cX13_read 161 = .ok (.istore 5, 2) := dw_at cX13_read_k6 (p := 14) rfl (by decide +kernel)
theorem dmX13_read_163 : decode cX13_read 163 = .ok (.iinc 2 1, 3) := dw_at cX13_read_k6 (p := 16) rfl (by decide +kernel)
theorem dmX13_read_166 : decode cX13_read 166 = .ok (.iload_n 2, 1) := dw_at cX13_read_k6 (p := 19) rfl (by decide +kernel)
theorem dmX13_read_167 : decode cX13_read 167 = .ok (.aload_n 0, 1) := dw_at cX13_read_k6 (p := 20) rfl (by decide +kernel)
theorem dmX13_read_168 : decode cX13_read 168 = .ok (.getfield 400, 3) := dw_at cX13_read_k6 (p := 21) rfl (by decide +kernel)
theorem dmX13_read_171 : decode cX13_read 171 = .ok (.if_icmp .ne 8, 3) := dw_at cX13_read_k7 (p := 0) rfl (by decide +kernel)
theorem dmX13_read_174 : decode cX13_read 174 = .ok (.aload_n 0, 1) := dw_at cX13_read_k7 (p := 3) rfl (by decide +kernel)
theorem dmX13_read_175 : decode cX13_read 175 = .ok (.getfield 400, 3) := dw_at cX13_read_k7 (p := 4) rfl (by decide +kernel)
theorem dmX13_read_178 : decode cX13_read 178 = .ok (.ireturn, 1) := dw_at cX13_read_k7 (p := 7) rfl (by decide +kernel)
theorem dmX13_read_179 : decode cX13_read 179 = .ok (.aload_n 0, 1) := dw_at cX13_read_k7 (p := 8) rfl (by decide +kernel)
theorem dmX13_read_180 : decode cX13_read 180 = .ok (.iload_n 2, 1) := dw_at cX13_read_k7 (p := 9) rfl (by decide +kernel)
theorem dmX13_read_181 : decode cX13_read 181 = .ok (.invokevirtual 410, 3) := dw_at cX13_read_k7 (p := 10) rfl (by decide +kernel)
theorem dmX13_read_184 : decode cX13_read 184 = .ok (.bipush 43, 2) := dw_at cX13_read_k7 (p := 13) rfl (by decide +kernel)
theorem dmX13_read_186 : decode cX13_read 186 = .ok (.if_icmp .eq 15, 3) := dw_at cX13_read_k7 (p := 15) rfl (by decide +kernel)
theorem dmX13_read_189 : decode cX13_read 189 = .ok (.aload_n 0, 1) := dw_at cX13_read_k7 (p := 18) rfl (by decide +kernel)
theorem dmX13_read_190 : decode cX13_read 190 = .ok (.iload_n 2, 1) := dw_at cX13_read_k7 (p := 19) rfl (by decide +kernel)
theorem dmX13_read_191 : decode cX13_read 191 = .ok (.invokevirtual 410, 3) := dw_at cX13_read_k7 (p := 20) rfl (by decide +kernel)
theorem dmX13_read_194 : decode cX13_read 194 = .ok (.bipush 45, 2) := dw_at cX13_read_k7 (p := 23) rfl (by decide +kernel)
theorem dmX13_read_196 : decode cX13_read 196 = .ok (.if_icmp .eq 5, 3) := dw_at cX13_read_k8 (p := 0) rfl (by decide +kernel)
theorem dmX13_read_199 : decode cX13_read 199 = .ok (.iload_n 2, 1) := dw_at cX13_read_k8 (p := 3) rfl (by decide +kernel)
theorem dmX13_read_200 : decode cX13_read 200 = .ok (.ireturn, 1) := dw_at cX13_read_k8 (p := 4) rfl (by decide +kernel)
theorem dmX13_read_201 : decode cX13_read 201 = .ok (.aload_n 0, 1) := dw_at cX13_read_k8 (p := 5) rfl (by decide +kernel)
theorem dmX13_read_202 : decode cX13_read 202 = .ok (.iload_n 2, 1) := dw_at cX13_read_k8 (p := 6) rfl (by decide +kernel)
theorem dmX13_read_203 : decode cX13_read 203 = .ok (.invokevirtual 410, 3) := dw_at cX13_read_k8 (p := 7) rfl (by decide +kernel)
theorem dmX13_read_206 : decode cX13_read 206 = .ok (.bipush 43, 2) := dw_at cX13_read_k8 (p := 10) rfl (by decide +kernel)
theorem dmX13_read_208 : decode cX13_read 208 = .ok (.if_icmp .ne 7, 3) := dw_at cX13_read_k8 (p := 12) rfl (by decide +kernel)
theorem dmX13_read_211 : decode cX13_read 211 = .ok (.iconst 1, 1) := dw_at cX13_read_k8 (p := 15) rfl (by decide +kernel)
theorem dmX13_read_212 : decode cX13_read 212 = .ok (.goto 4, 3) := dw_at cX13_read_k8 (p := 16) rfl (by decide +kernel)
theorem dmX13_read_215 : decode cX13_read 215 = .ok (.iconst (-1), 1) := dw_at cX13_read_k8 (p := 19) rfl (by decide +kernel)
theorem dmX13_read_216 : decode cX13_read 216 = .ok (.istore 6, 2) := dw_at cX13_read_k8 (p := 20) rfl (by decide +kernel)
theorem dmX13_read_218 : decode cX13_read 218 = .ok (.iinc 2 1, 3) := dw_at cX13_read_k8 (p := 22) rfl (by decide +kernel)
theorem dmX13_read_221 : decode cX13_read 221 = .ok (.iload_n 3, 1) := dw_at cX13_read_k9 (p := 0) rfl (by decide +kernel)
theorem dmX13_read_222 : decode cX13_read 222 = .ok (.bipush 117, 2) := dw_at cX13_read_k9 (p := 1) rfl (by decide +kernel)
theorem dmX13_read_224 : decode cX13_read 224 = .ok (.if_icmp .ne 7, 3) := dw_at cX13_read_k9 (p := 3) rfl (by decide +kernel)
theorem dmX13_read_227 : decode cX13_read 227 = .ok (.iconst 1, 1) := dw_at cX13_read_k9 (p := 6) rfl (by decide +kernel)
theorem dmX13_read_228 : decode cX13_read 228 = .ok (.goto 4, 3) := dw_at cX13_read_k9 (p := 7) rfl (by decide +kernel)
theorem dmX13_read_231 : decode cX13_read 231 = .ok (.iconst 0, 1) := dw_at cX13_read_k9 (p := 10) rfl (by decide +kernel)
theorem dmX13_read_232 : decode cX13_read 232 = .ok (.istore 7, 2) := dw_at cX13_read_k9 (p := 11) rfl (by decide +kernel)
theorem dmX13_read_234 : decode cX13_read 234 = .ok (.iconst 0, 1) := dw_at cX13_read_k9 (p := 13) rfl (by decide +kernel)
theorem dmX13_read_235 : decode cX13_read 235 = .ok (.istore 8, 2) := dw_at cX13_read_k9 (p := 14) rfl (by decide +kernel)
theorem dmX13_read_237 : decode cX13_read 237 = .ok (.iload 8, 2) := dw_at cX13_read_k9 (p := 16) rfl (by decide +kernel)
theorem dmX13_read_239 : decode cX13_read 239 = .ok (.iload_n 1, 1) := dw_at cX13_read_k9 (p := 18) rfl (by decide +kernel)
theorem dmX13_read_240 : decode cX13_read 240 = .ok (.if_icmp .ge 21, 3) := dw_at cX13_read_k9 (p := 19) rfl (by decide +kernel)
theorem dmX13_read_243 : decode cX13_read 243 = .ok (.aload_n 0, 1) := dw_at cX13_read_k9 (p := 22) rfl (by decide +kernel)
theorem dmX13_read_244 : decode cX13_read 244 = .ok (.getfield 124, 3) := dw_at cX13_read_k9 (p := 23) rfl (by decide +kernel)
theorem dmX13_read_247 : decode cX13_read 247 = .ok (.iload 8, 2) := dw_at cX13_read_k10 (p := 0) rfl (by decide +kernel)
theorem dmX13_read_249 : decode cX13_read 249 = .ok (.iaload, 1) := dw_at cX13_read_k10 (p := 2) rfl (by decide +kernel)
theorem dmX13_read_250 : decode cX13_read 250 = .ok (.iload 5, 2) := dw_at cX13_read_k10 (p := 3) rfl (by decide +kernel)
theorem dmX13_read_252 : decode cX13_read 252 = .ok (.if_icmp .eq 9, 3) := dw_at cX13_read_k10 (p := 5) rfl (by decide +kernel)
theorem dmX13_read_255 : decode cX13_read 255 = .ok (.iinc 8 1, 3) := dw_at cX13_read_k10 (p := 8) rfl (by decide +kernel)
theorem dmX13_read_258 : decode cX13_read 258 = .ok (.goto (-21), 3) := dw_at cX13_read_k10 (p := 11) rfl (by decide +kernel)
theorem dmX13_read_261 : decode cX13_read 261 = .ok (.iload 8, 2) := dw_at cX13_read_k10 (p := 14) rfl (by decide +kernel)
theorem dmX13_read_263 : decode cX13_read 263 = .ok (.iload_n 1, 1) := dw_at cX13_read_k10 (p := 16) rfl (by decide +kernel)
theorem dmX13_read_264 : decode cX13_read 264 = .ok (.if_icmp .ne 50, 3) := dw_at cX13_read_k10 (p := 17) rfl (by decide +kernel)
theorem dmX13_read_267 : decode cX13_read 267 = .ok (.iload_n 1, 1) := dw_at cX13_read_k10 (p := 20) rfl (by decide +kernel)
theorem dmX13_read_268 : decode cX13_read 268 = .ok (.bipush 12, 2) := dw_at cX13_read_k10 (p := 21) rfl (by decide +kernel)
theorem dmX13_read_270 : decode cX13_read 270 = .ok (.if_icmp .ne 6, 3) := dw_at cX13_read_k10 (p := 23) rfl (by decide +kernel)
theorem dmX13_read_273 : decode cX13_read 273 = .ok (.iload 4, 2) := dw_at cX13_read_k11 (p := 0) rfl (by decide +kernel)
theorem dmX13_read_275 : decode cX13_read 275 = .ok (.ireturn, 1) := dw_at cX13_read_k11 (p := 2) rfl (by decide +kernel)
theorem dmX13_read_276 : decode cX13_read 276 = .ok (.aload_n 0, 1) := dw_at cX13_read_k11 (p := 3) rfl (by decide +kernel)
theorem dmX13_read_277 : decode cX13_read 277 = .ok (.getfield 124, 3) := dw_at cX13_read_k11 (p := 4) rfl (by decide +kernel)
theorem dmX13_read_280 : decode cX13_read 280 = .ok (.iload 8, 2) := dw_at cX13_read_k11 (p := 7) rfl (by decide +kernel)
theorem dmX13_read_282 : decode cX13_read 282 = .ok (.iload 5, 2) := dw_at cX13_read_k11 (p := 9) rfl (by decide +kernel)
theorem dmX13_read_284 : decode cX13_read 284 = .ok (.iastore, 1) := dw_at cX13_read_k11 (p := 11) rfl (by decide +kernel)
theorem dmX13_read_285 : decode cX13_read 285 = .ok (.aload_n 0, 1) := dw_at cX13_read_k11 (p := 12) rfl (by decide +kernel)
theorem dmX13_read_286 : decode cX13_read 286 = .ok (.getfield 127, 3) := dw_at cX13_read_k11 (p := 13) rfl (by decide +kernel)
theorem dmX13_read_289 : decode cX13_read 289 = .ok (.iload 8, 2) := dw_at cX13_read_k11 (p := 16) rfl (by decide +kernel)
theorem dmX13_read_291 : decode cX13_read 291 = .ok (.iload 6, 2) := dw_at cX13_read_k11 (p := 18) rfl (by decide +kernel)
theorem dmX13_read_293 : decode cX13_read 293 = .ok (.iastore, 1) := dw_at cX13_read_k11 (p := 20) rfl (by decide +kernel)
theorem dmX13_read_294 : decode cX13_read 294 = .ok (.aload_n 0, 1) := dw_at cX13_read_k11 (p := 21) rfl (by decide +kernel)
theorem dmX13_read_295 : decode cX13_read 295 = .ok (.getfield 130, 3) := dw_at cX13_read_k11 (p := 22) rfl (by decide +kernel)
theorem dmX13_read_298 : decode cX13_read 298 = .ok (.iload 8, 2) := dw_at cX13_read_k12 (p := 0) rfl (by decide +kernel)
theorem dmX13_read_300 : decode cX13_read 300 = .ok (.iload 4, 2) := dw_at cX13_read_k12 (p := 2) rfl (by decide +kernel)
theorem dmX13_read_302 : decode cX13_read 302 = .ok (.iastore, 1) := dw_at cX13_read_k12 (p := 4) rfl (by decide +kernel)
theorem dmX13_read_303 : decode cX13_read 303 = .ok (.aload_n 0, 1) := dw_at cX13_read_k12 (p := 5) rfl (by decide +kernel)
theorem dmX13_read_304 : decode cX13_read 304 = .ok (.getfield 133, 3) := dw_at cX13_read_k12 (p := 6) rfl (by decide +kernel)
theorem dmX13_read_307 : decode cX13_read 307 = .ok (.iload 8, 2) := dw_at cX13_read_k12 (p := 9) rfl (by decide +kernel)
theorem dmX13_read_309 : decode cX13_read 309 = .ok (.iconst 0, 1) := dw_at cX13_read_k12 (p := 11) rfl (by decide +kernel)
theorem dmX13_read_310 : decode cX13_read 310 = .ok (.iastore, 1) := dw_at cX13_read_k12 (p := 12) rfl (by decide +kernel)
theorem dmX13_read_311 : decode cX13_read 311 = .ok (.iinc 1 1, 3) := dw_at cX13_read_k12 (p := 13) rfl (by decide +kernel)
theorem dmX13_read_314 : decode cX13_read 314 = .ok (.aload_n 0, 1) := dw_at cX13_read_k12 (p := 16) rfl (by decide +kernel)
theorem dmX13_read_315 : decode cX13_read 315 = .ok (.getfield 133, 3) := dw_at cX13_read_k12 (p := 17) rfl (by decide +kernel)
theorem dmX13_read_318 : decode cX13_read 318 = .ok (.iload 8, 2) := dw_at cX13_read_k12 (p := 20) rfl (by decide +kernel)
theorem dmX13_read_320 : decode cX13_read 320 = .ok (.iaload, 1) := dw_at cX13_read_k12 (p := 22) rfl (by decide +kernel)
theorem dmX13_read_321 : decode cX13_read 321 = .ok (.iconst 1, 1) := dw_at cX13_read_k12 (p := 23) rfl (by decide +kernel)
theorem dmX13_read_322 : decode cX13_read 322 = .ok (.iload 7, 2) := dw_at cX13_read_k13 (p := 0) rfl (by decide +kernel)
theorem dmX13_read_324 : decode cX13_read 324 = .ok (.iadd, 1) := dw_at cX13_read_k13 (p := 2) rfl (by decide +kernel)
theorem dmX13_read_325 : decode cX13_read 325 = .ok (.iand, 1) := dw_at cX13_read_k13 (p := 3) rfl (by decide +kernel)
theorem dmX13_read_326 : decode cX13_read 326 = .ok (.ifCond .ne 15, 3) := dw_at cX13_read_k13 (p := 4) rfl (by decide +kernel)
theorem dmX13_read_329 : decode cX13_read 329 = .ok (.aload_n 0, 1) := dw_at cX13_read_k13 (p := 7) rfl (by decide +kernel)
theorem dmX13_read_330 : decode cX13_read 330 = .ok (.getfield 127, 3) := dw_at cX13_read_k13 (p := 8) rfl (by decide +kernel)
theorem dmX13_read_333 : decode cX13_read 333 = .ok (.iload 8, 2) := dw_at cX13_read_k13 (p := 11) rfl (by decide +kernel)
theorem dmX13_read_335 : decode cX13_read 335 = .ok (.iaload, 1) := dw_at cX13_read_k13 (p := 13) rfl (by decide +kernel)
theorem dmX13_read_336 : decode cX13_read 336 = .ok (.iload 6, 2) := dw_at cX13_read_k13 (p := 14) rfl (by decide +kernel)
theorem dmX13_read_338 : decode cX13_read 338 = .ok (.if_icmp .eq 6, 3) := dw_at cX13_read_k13 (p := 16) rfl (by decide +kernel)
theorem dmX13_read_341 : decode cX13_read 341 = .ok (.iload 4, 2) := dw_at cX13_read_k13 (p := 19) rfl (by decide +kernel)
theorem dmX13_read_343 : decode cX13_read 343 = .ok (.ireturn, 1) := dw_at cX13_read_k13 (p := 21) rfl (by decide +kernel)
theorem dmX13_read_344 : decode cX13_read 344 = .ok (.aload_n 0, 1) := dw_at cX13_read_k13 (p := 22) rfl (by decide +kernel)
theorem dmX13_read_345 : decode cX13_read 345 = .ok (.getfield 133, 3) := dw_at cX13_read_k13 (p := 23) rfl (by decide +kernel)
theorem dmX13_read_348 : decode cX13_read 348 = .ok (.iload 8, 2) := dw_at cX13_read_k14 (p := 0) rfl (by decide +kernel)
theorem dmX13_read_350 : decode cX13_read 350 = .ok (.dup2, 1) := dw_at cX13_read_k14 (p := 2) rfl (by decide +kernel)
theorem dmX13_read_351 : decode cX13_read 351 = .ok (.iaload, 1) := dw_at cX13_read_k14 (p := 3) rfl (by decide +kernel)
theorem dmX13_read_352 : decode cX13_read 352 = .ok (.iconst 1, 1) := dw_at cX13_read_k14 (p := 4) rfl (by decide +kernel)
theorem dmX13_read_353 : decode cX13_read 353 = .ok (.iload 7, 2) := dw_at cX13_read_k14 (p := 5) rfl (by decide +kernel)
theorem dmX13_read_355 : decode cX13_read 355 = .ok (.iadd, 1) := dw_at cX13_read_k14 (p := 7) rfl (by decide +kernel)
theorem dmX13_read_356 : decode cX13_read 356 = .ok (.ior, 1) := dw_at cX13_read_k14 (p := 8) rfl (by decide +kernel)
theorem dmX13_read_357 : decode cX13_read 357 = .ok (.iastore, 1) := dw_at cX13_read_k14 (p := 9) rfl (by decide +kernel)
theorem dmX13_read_358 : decode cX13_read 358 = .ok (.aload_n 0, 1) := dw_at cX13_read_k14 (p := 10) rfl (by decide +kernel)
theorem dmX13_read_359 : decode cX13_read 359 = .ok (.getfield 121, 3) := dw_at cX13_read_k14 (p := 11) rfl (by decide +kernel)
theorem dmX13_read_362 : decode cX13_read 362 = .ok (.getfield 35, 3) := dw_at cX13_read_k14 (p := 14) rfl (by decide +kernel)
theorem dmX13_read_365 : decode cX13_read 365 = .ok (.iload 8, 2) := dw_at cX13_read_k14 (p := 17) rfl (by decide +kernel)
theorem dmX13_read_367 : decode cX13_read 367 = .ok (.iload 6, 2) := dw_at cX13_read_k14 (p := 19) rfl (by decide +kernel)
theorem dmX13_read_369 : decode cX13_read 369 = .ok (.iastore, 1) := dw_at cX13_read_k14 (p := 21) rfl (by decide +kernel)
theorem dmX13_read_370 : decode cX13_read 370 = .ok (.aload_n 0, 1) := dw_at cX13_read_k14 (p := 22) rfl (by decide +kernel)
theorem dmX13_read_371 : decode cX13_read 371 = .ok (.getfield 121, 3) := dw_at cX13_read_k14 (p := 23) rfl (by decide +kernel)
theorem dmX13_read_374 : decode cX13_read 374 = .ok (.iload 8, 2) := dw_at cX13_read_k15 (p := 0) rfl (by decide +kernel)
theorem dmX13_read_376 : decode cX13_read 376 = .ok (.iload 7, 2) := dw_at cX13_read_k15 (p := 2) rfl (by decide +kernel)
theorem dmX13_read_378 : decode cX13_read 378 = .ok (.invokevirtual 97, 3) := dw_at cX13_read_k15 (p := 4) rfl (by decide +kernel)
theorem dmX13_read_381 : decode cX13_read 381 = .ok (.goto (-370), 3) := dw_at cX13_read_k15 (p := 7) rfl (by decide +kernel)
theorem dmX13_read_384 : decode cX13_read 384 = .ok (.aload_n 0, 1) := dw_at cX13_read_k15 (p := 10) rfl (by decide +kernel)
theorem dmX13_read_385 : decode cX13_read 385 = .ok (.getfield 121, 3) := dw_at cX13_read_k15 (p := 11) rfl (by decide +kernel)
theorem dmX13_read_388 : decode cX13_read 388 = .ok (.invokevirtual 94, 3) := dw_at cX13_read_k15 (p := 14) rfl (by decide +kernel)
theorem dmX13_read_391 : decode cX13_read 391 = .ok (.aload_n 0, 1) := dw_at cX13_read_k15 (p := 17) rfl (by decide +kernel)
theorem dmX13_read_392 : decode cX13_read 392 = .ok (.getfield 400, 3) := dw_at cX13_read_k15 (p := 18) rfl (by decide +kernel)
theorem dmX13_read_395 : decode cX13_read 395 = .ok (.iconst 1, 1) := dw_at cX13_read_k15 (p := 21) rfl (by decide +kernel)
theorem dmX13_read_396 : decode cX13_read 396 = .ok (.iadd, 1) := dw_at cX13_read_k15 (p := 22) rfl (by decide +kernel)
theorem dmX13_read_397 : decode cX13_read 397 = .ok (.istore_n 3, 1) := dw_at cX13_read_k15 (p := 23) rfl (by decide +kernel)
theorem dmX13_read_398 : decode cX13_read 398 = .ok (.iconst 0, 1) := dw_at cX13_read_k16 (p := 0) rfl (by decide +kernel)
theorem dmX13_read_399 : decode cX13_read 399 = .ok (.istore 4, 2) := dw_at cX13_read_k16 (p := 1) rfl (by decide +kernel)
theorem dmX13_read_401 : decode cX13_read 401 = .ok (.iload 4, 2) := dw_at cX13_read_k16 (p := 3) rfl (by decide +kernel)
theorem dmX13_read_403 : decode cX13_read 403 = .ok (.iload_n 1, 1) := dw_at cX13_read_k16 (p := 5) rfl (by decide +kernel)
theorem dmX13_read_404 : decode cX13_read 404 = .ok (.if_icmp .ge 32, 3) := dw_at cX13_read_k16 (p := 6) rfl (by decide +kernel)
theorem dmX13_read_407 : decode cX13_read 407 = .ok (.aload_n 0, 1) := dw_at cX13_read_k16 (p := 9) rfl (by decide +kernel)
theorem dmX13_read_408 : decode cX13_read 408 = .ok (.getfield 133, 3) := dw_at cX13_read_k16 (p := 10) rfl (by decide +kernel)
theorem dmX13_read_411 : decode cX13_read 411 = .ok (.iload 4, 2) := dw_at cX13_read_k16 (p := 13) rfl (by decide +kernel)
theorem dmX13_read_413 : decode cX13_read 413 = .ok (.iaload, 1) := dw_at cX13_read_k16 (p := 15) rfl (by decide +kernel)
theorem dmX13_read_414 : decode cX13_read 414 = .ok (.iconst 3, 1) := dw_at cX13_read_k16 (p := 16) rfl (by decide +kernel)
theorem dmX13_read_415 : decode cX13_read 415 = .ok (.if_icmp .eq 15, 3) := dw_at cX13_read_k16 (p := 17) rfl (by decide +kernel)
theorem dmX13_read_418 : decode cX13_read 418 = .ok (.iload_n 3, 1) := dw_at cX13_read_k16 (p := 20) rfl (by decide +kernel)
theorem dmX13_read_419 : decode cX13_read 419 = .ok (.aload_n 0, 1) := dw_at cX13_read_k16 (p := 21) rfl (by decide +kernel)
theorem dmX13_read_420 : decode cX13_read 420 = .ok (.getfield 130, 3) := dw_at cX13_read_k16 (p := 22) rfl (by decide +kernel)
theorem dmX13_read_423 : decode cX13_read 423 = .ok (.iload 4, 2) := dw_at cX13_read_k17 (p := 0) rfl (by decide +kernel)
theorem dmX13_read_425 : decode cX13_read 425 = .ok (.iaload, 1) := dw_at cX13_read_k17 (p := 2) rfl (by decide +kernel)
theorem dmX13_read_426 : decode cX13_read 426 = .ok (.invokestatic 61, 3) := dw_at cX13_read_k17 (p := 3) rfl (by decide +kernel)
theorem dmX13_read_429 : decode cX13_read 429 = .ok (.istore_n 3, 1) := dw_at cX13_read_k17 (p := 6) rfl (by decide +kernel)
theorem dmX13_read_430 : decode cX13_read 430 = .ok (.iinc 4 1, 3) := dw_at cX13_read_k17 (p := 7) rfl (by decide +kernel)
theorem dmX13_read_433 : decode cX13_read 433 = .ok (.goto (-32), 3) := dw_at cX13_read_k17 (p := 10) rfl (by decide +kernel)
theorem dmX13_read_436 : decode cX13_read 436 = .ok (.iload_n 3, 1) := dw_at cX13_read_k17 (p := 13) rfl (by decide +kernel)
theorem dmX13_read_437 : decode cX13_read 437 = .ok (.aload_n 0, 1) := dw_at cX13_read_k17 (p := 14) rfl (by decide +kernel)
theorem dmX13_read_438 : decode cX13_read 438 = .ok (.getfield 400, 3) := dw_at cX13_read_k17 (p := 15) rfl (by decide +kernel)
theorem dmX13_read_441 : decode cX13_read 441 = .ok (.if_icmp .gt 5, 3) := dw_at cX13_read_k17 (p := 18) rfl (by decide +kernel)
theorem dmX13_read_444 : decode cX13_read 444 = .ok (.iload_n 3, 1) := dw_at cX13_read_k17 (p := 21) rfl (by decide +kernel)
theorem dmX13_read_445 : decode cX13_read 445 = .ok (.ireturn, 1) := dw_at cX13_read_k17 (p := 22) rfl (by decide +kernel)
theorem dmX13_read_446 : decode cX13_read 446 = .ok (.aload_n 0, 1) := dw_at cX13_read_k17 (p := 23) rfl (by decide +kernel)
theorem dmX13_read_447 : decode cX13_read 447 = .ok (.getfield 121, 3) := dw_at cX13_read_k18 (p := 0) rfl (by decide +kernel)
theorem dmX13_read_450 : decode cX13_read 450 = .ok (.invokevirtual 71, 3) := dw_at cX13_read_k18 (p := 3) rfl (by decide +kernel)
theorem dmX13_read_453 : decode cX13_read 453 = .ok (.aload_n 0, 1) := dw_at cX13_read_k18 (p := 6) rfl (by decide +kernel)
theorem dmX13_read_454 : decode cX13_read 454 = .ok (.getfield 121, 3) := dw_at cX13_read_k18 (p := 7) rfl (by decide +kernel)
theorem dmX13_read_457 : decode cX13_read 457 = .ok (.invokevirtual 413, 3) := dw_at cX13_read_k18 (p := 10) rfl (by decide +kernel)
theorem dmX13_read_460 : decode cX13_read 460 = .ok (.ifCond .eq 7, 3) := dw_at cX13_read_k18 (p := 13) rfl (by decide +kernel)
theorem dmX13_read_463 : decode cX13_read 463 = .ok (.iconst (-1), 1) := dw_at cX13_read_k18 (p := 16) rfl (by decide +kernel)
theorem dmX13_read_464 : decode cX13_read 464 = .ok (.goto 7, 3) := dw_at cX13_read_k18 (p := 17) rfl (by decide +kernel)
theorem dmX13_read_467 : decode cX13_read 467 = .ok (.aload_n 0, 1) := dw_at cX13_read_k18 (p := 20) rfl (by decide +kernel)
theorem dmX13_read_468 : decode cX13_read 468 = .ok (.getfield 400, 3) := dw_at cX13_read_k18 (p := 21) rfl (by decide +kernel)
theorem dmX13_read_471 : decode cX13_read 471 = .ok (.ireturn, 1) := dw_at cX13_read_k18 (p := 24) rfl (by decide +kernel)
def qm_X13_read_0 (K : Nat) (go : Nat → Int32 → Int32 → Int32 → Int32 → Int32 → Int32 → Int32 → Int32 → Int32 → ow_MS → Option (Int32 × ow_MS)) (x1 : Int32) (x2 : Int32) (x3 : Int32) (x4 : Int32) (x5 : Int32) (x6 : Int32) (x7 : Int32) (x8 : Int32) (t0 : Int32) (z : ow_MS) : Option (Int32 × ow_MS) :=
 cs0 (qe_X12_clear K 3000 z) fun z1 => go 1 0 0 0 0 0 0 0 0 0 z1
def qm_X13_read_1 (K : Nat) (go : Nat → Int32 → Int32 → Int32 → Int32 → Int32 → Int32 → Int32 → Int32 → Int32 → ow_MS → Option (Int32 × ow_MS)) (x1 : Int32) (x2 : Int32) (x3 : Int32) (x4 : Int32) (x5 : Int32) (x6 : Int32) (x7 : Int32) (x8 : Int32) (t0 : Int32) (z : ow_MS) : Option (Int32 × ow_MS) :=
 rdF z 11 fun v2 => (if v2 ≤ x2 then cs0 (qe_X12_end K 3000 z) fun z3 => rdF z3 11 fun v4 => go 10 x1 x2 (v4 + 1) 0 0 0 0 0 0 z3
 else rdI mX z 10 x2 fun v5 => (if v5 = 59 then cs0 (qe_X12_end K 3000 z) fun z6 => rdF z6 (3000 + 2) fun v7 => (if v7 = 6 then some (x2, z6)
 else go 1 x1 (x2 + 1) 0 0 0 0 0 0 0 z6)
 else (if v5 = 111 then go 2 x1 x2 v5 0 0 0 0 0 0 z
 else (if v5 = 117 then go 2 x1 x2 v5 0 0 0 0 0 0 z
 else some (x2, z)))))
def qm_X13_read_2 (K : Nat) (go : Nat → Int32 → Int32 → Int32 → Int32 → Int32 → Int32 → Int32 → Int32 → Int32 → ow_MS → Option (Int32 × ow_MS)) (x1 : Int32) (x2 : Int32) (x3 : Int32) (x4 : Int32) (x5 : Int32) (x6 : Int32) (x7 : Int32) (x8 : Int32) (t0 : Int32) (z : ow_MS) : Option (Int32 × ow_MS) :=
 rdF z 11 fun v8 => (if (x2 + 1) = v8 then rdF z 11 fun v21 => some (v21, z)
 else cs1 (qe_X13_byteAt K (x2 + 1) z) fun v10 z9 => (if v10 < 49 then some ((x2 + 1), z9)
 else cs1 (qe_X13_byteAt K (x2 + 1) z9) fun v12 z11 => (if v12 ≤ 57 then cs1 (qe_X13_byteAt K (x2 + 1) z11) fun v14 z13 => cs1 (qe_X13_byteAt K ((x2 + 1) + 1) z13) fun v16 z15 => (if v16 < 48 then go 3 x1 ((x2 + 1) + 1) x3 x2 (v14 - 48) 0 0 0 0 z15
 else cs1 (qe_X13_byteAt K ((x2 + 1) + 1) z15) fun v18 z17 => (if 57 < v18 then go 3 x1 ((x2 + 1) + 1) x3 x2 (v14 - 48) 0 0 0 0 z17
 else cs1 (qe_X13_byteAt K ((x2 + 1) + 1) z17) fun v20 z19 => go 3 x1 (((x2 + 1) + 1) + 1) x3 x2 (((10 * (v14 - 48)) + v20) - 48) 0 0 0 0 z19))
 else some ((x2 + 1), z11))))
def qm_X13_read_3 (K : Nat) (go : Nat → Int32 → Int32 → Int32 → Int32 → Int32 → Int32 → Int32 → Int32 → Int32 → ow_MS → Option (Int32 × ow_MS)) (x1 : Int32) (x2 : Int32) (x3 : Int32) (x4 : Int32) (x5 : Int32) (x6 : Int32) (x7 : Int32) (x8 : Int32) (t0 : Int32) (z : ow_MS) : Option (Int32 × ow_MS) :=
 rdF z 11 fun v22 => (if x2 = v22 then rdF z 11 fun v27 => some (v27, z)
 else cs1 (qe_X13_byteAt K x2 z) fun v24 z23 => (if v24 = 43 then go 4 x1 x2 x3 x4 x5 0 0 0 0 z23
 else cs1 (qe_X13_byteAt K x2 z23) fun v26 z25 => (if v26 = 45 then go 4 x1 x2 x3 x4 x5 0 0 0 0 z25
 else some (x2, z25))))
def qm_X13_read_4 (K : Nat) (go : Nat → Int32 → Int32 → Int32 → Int32 → Int32 → Int32 → Int32 → Int32 → Int32 → ow_MS → Option (Int32 × ow_MS)) (x1 : Int32) (x2 : Int32) (x3 : Int32) (x4 : Int32) (x5 : Int32) (x6 : Int32) (x7 : Int32) (x8 : Int32) (t0 : Int32) (z : ow_MS) : Option (Int32 × ow_MS) :=
 cs1 (qe_X13_byteAt K x2 z) fun v29 z28 => (if v29 = 43 then go 5 x1 x2 x3 x4 x5 0 0 0 1 z28
 else go 5 x1 x2 x3 x4 x5 0 0 0 (-1) z28)
def qm_X13_read_5 (K : Nat) (go : Nat → Int32 → Int32 → Int32 → Int32 → Int32 → Int32 → Int32 → Int32 → Int32 → ow_MS → Option (Int32 × ow_MS)) (x1 : Int32) (x2 : Int32) (x3 : Int32) (x4 : Int32) (x5 : Int32) (x6 : Int32) (x7 : Int32) (x8 : Int32) (t0 : Int32) (z : ow_MS) : Option (Int32 × ow_MS) :=
 (if x3 = 117 then go 6 x1 (x2 + 1) x3 x4 x5 t0 0 0 1 z
 else go 6 x1 (x2 + 1) x3 x4 x5 t0 0 0 0 z)
def qm_X13_read_6 (K : Nat) (go : Nat → Int32 → Int32 → Int32 → Int32 → Int32 → Int32 → Int32 → Int32 → Int32 → ow_MS → Option (Int32 × ow_MS)) (x1 : Int32) (x2 : Int32) (x3 : Int32) (x4 : Int32) (x5 : Int32) (x6 : Int32) (x7 : Int32) (x8 : Int32) (t0 : Int32) (z : ow_MS) : Option (Int32 × ow_MS) :=
 go 7 x1 x2 x3 x4 x5 x6 t0 0 0 z
def qm_X13_read_7 (K : Nat) (go : Nat → Int32 → Int32 → Int32 → Int32 → Int32 → Int32 → Int32 → Int32 → Int32 → ow_MS → Option (Int32 × ow_MS)) (x1 : Int32) (x2 : Int32) (x3 : Int32) (x4 : Int32) (x5 : Int32) (x6 : Int32) (x7 : Int32) (x8 : Int32) (t0 : Int32) (z : ow_MS) : Option (Int32 × ow_MS) :=
 (if x1 ≤ x8 then go 8 x1 x2 x3 x4 x5 x6 x7 x8 0 z
 else rdI mX z 16 x8 fun v30 => (if v30 = x5 then go 8 x1 x2 x3 x4 x5 x6 x7 x8 0 z
 else go 7 x1 x2 x3 x4 x5 x6 x7 (x8 + 1) 0 z))
def qm_X13_read_8 (K : Nat) (go : Nat → Int32 → Int32 → Int32 → Int32 → Int32 → Int32 → Int32 → Int32 → Int32 → ow_MS → Option (Int32 × ow_MS)) (x1 : Int32) (x2 : Int32) (x3 : Int32) (x4 : Int32) (x5 : Int32) (x6 : Int32) (x7 : Int32) (x8 : Int32) (t0 : Int32) (z : ow_MS) : Option (Int32 × ow_MS) :=
 (if x8 = x1 then (if x1 = 12 then some (x4, z)
 else wrI mX z 16 x8 x5 fun z31 => wrI mX z31 17 x8 x6 fun z32 => wrI mX z32 18 x8 x4 fun z33 => wrI mX z33 19 x8 0 fun z34 => go 9 (x1 + 1) x2 x3 x4 x5 x6 x7 x8 0 z34)
 else go 9 x1 x2 x3 x4 x5 x6 x7 x8 0 z)
def qm_X13_read_9 (K : Nat) (go : Nat → Int32 → Int32 → Int32 → Int32 → Int32 → Int32 → Int32 → Int32 → Int32 → ow_MS → Option (Int32 × ow_MS)) (x1 : Int32) (x2 : Int32) (x3 : Int32) (x4 : Int32) (x5 : Int32) (x6 : Int32) (x7 : Int32) (x8 : Int32) (t0 : Int32) (z : ow_MS) : Option (Int32 × ow_MS) :=
 rdI mX z 19 x8 fun v35 => (if (v35 &&& (1 + x7)) = 0 then rdI mX z 17 x8 fun v36 => (if v36 = x6 then rdI mX z 19 x8 fun v37 => wrI mX z 19 x8 (v37 ||| (1 + x7)) fun z38 => wrI mX z38 (3000 + 6) x8 x6 fun z39 => cs0 (qe_X12_add K 3000 x8 x7 z39) fun z40 => go 1 x1 x2 0 0 0 0 0 0 0 z40
 else some (x4, z))
 else some (x4, z))
def qm_X13_read_10 (K : Nat) (go : Nat → Int32 → Int32 → Int32 → Int32 → Int32 → Int32 → Int32 → Int32 → Int32 → ow_MS → Option (Int32 × ow_MS)) (x1 : Int32) (x2 : Int32) (x3 : Int32) (x4 : Int32) (x5 : Int32) (x6 : Int32) (x7 : Int32) (x8 : Int32) (t0 : Int32) (z : ow_MS) : Option (Int32 × ow_MS) :=
 (if x1 ≤ x4 then rdF z 11 fun v41 => (if v41 < x3 then cs0 (qe_X12_link K 3000 z) fun z42 => cs1 (qe_X12_isPlane K 3000 z42) fun v44 z43 => (if v44 = 0 then rdF z43 11 fun v45 => some (v45, z43)
 else some ((-1), z43))
 else some (x3, z))
 else rdI mX z 19 x4 fun v46 => (if v46 = 3 then go 11 x1 x2 x3 x4 0 0 0 0 0 z
 else rdI mX z 18 x4 fun v47 => go 11 x1 x2 (if v47 < x3 then v47 else x3) x4 0 0 0 0 0 z))
def qm_X13_read_11 (K : Nat) (go : Nat → Int32 → Int32 → Int32 → Int32 → Int32 → Int32 → Int32 → Int32 → Int32 → ow_MS → Option (Int32 × ow_MS)) (x1 : Int32) (x2 : Int32) (x3 : Int32) (x4 : Int32) (x5 : Int32) (x6 : Int32) (x7 : Int32) (x8 : Int32) (t0 : Int32) (z : ow_MS) : Option (Int32 × ow_MS) :=
 go 10 x1 x2 x3 (x4 + 1) 0 0 0 0 0 z
def qb_X13_read (K : Nat) (go : Nat → Int32 → Int32 → Int32 → Int32 → Int32 → Int32 → Int32 → Int32 → Int32 → ow_MS → Option (Int32 × ow_MS)) (L : Nat) (x1 : Int32) (x2 : Int32) (x3 : Int32) (x4 : Int32) (x5 : Int32) (x6 : Int32) (x7 : Int32) (x8 : Int32) (t0 : Int32) (z : ow_MS) : Option (Int32 × ow_MS) := match L with
  | 0 => qm_X13_read_0 K go x1 x2 x3 x4 x5 x6 x7 x8 t0 z
  | 1 => qm_X13_read_1 K go x1 x2 x3 x4 x5 x6 x7 x8 t0 z
  | 2 => qm_X13_read_2 K go x1 x2 x3 x4 x5 x6 x7 x8 t0 z
  | 3 => qm_X13_read_3 K go x1 x2 x3 x4 x5 x6 x7 x8 t0 z
  | 4 => qm_X13_read_4 K go x1 x2 x3 x4 x5 x6 x7 x8 t0 z
  | 5 => qm_X13_read_5 K go x1 x2 x3 x4 x5 x6 x7 x8 t0 z
  | 6 => qm_X13_read_6 K go x1 x2 x3 x4 x5 x6 x7 x8 t0 z
  | 7 => qm_X13_read_7 K go x1 x2 x3 x4 x5 x6 x7 x8 t0 z
  | 8 => qm_X13_read_8 K go x1 x2 x3 x4 x5 x6 x7 x8 t0 z
  | 9 => qm_X13_read_9 K go x1 x2 x3 x4 x5 x6 x7 x8 t0 z
  | 10 => qm_X13_read_10 K go x1 x2 x3 x4 x5 x6 x7 x8 t0 z
  | 11 => qm_X13_read_11 K go x1 x2 x3 x4 x5 x6 x7 x8 t0 z
  | _ => none
def q_X13_read (K : Nat) : Nat → Nat → Int32 → Int32 → Int32 → Int32 → Int32 → Int32 → Int32 → Int32 → Int32 → ow_MS → Option (Int32 × ow_MS)
  | 0 => fun _ _ _ _ _ _ _ _ _ _ _ => none
  | k + 1 => qb_X13_read K (q_X13_read K k)
def qe_X13_read (K : Nat)  (z : ow_MS) : Option (Int32 × ow_MS) := q_X13_read K K 0 0 0 0 0 0 0 0 0 0 z
abbrev wm_X13_read : List Cond := .code yX13_read cX13_read 9 (some .int) :: wM
theorem cd_X13_read : yX13_read.cls = RX13 ∧ yX13_read.cls ≠ "java/lang/invoke/MethodHandle" ∧ yX13_read.cls ≠ "java/lang/invoke/VarHandle" ∧ (parseMethodDescriptor yX13_read.desc).map (fun d => d.parameters.length) = some 0 := by decide +kernel
set_option maxHeartbeats 4000000 in
set_option maxRecDepth 100000 in
theorem km_X13_read (l : Launch) (D : va_G) (q : ow_Q5) (u : Nat → Nat) (hU : tw_inj mX u) (K : Nat)   (z z1 : ow_MS) (r : Int32) (hq : qe_X13_read K  z = some (r, z1)) : Met l yX13_read wm_X13_read ({ frames := 2, cells := 0, slots := 0, locals := 50 } : Room) (va_Pc [.ref (u 0)] (mw_pre D q u z)) (va_Qi (fun x (_ : Unit) => x = r) (fun _ t => va_P D vwCl (tw mX q u z1) t.heap) (tw_A mX u)) 0 0 (tw_A mX u) := by
  refine Met.ofW (cc := cX13_read) (maxL := 9) (ret := (some .int)) (by decide) rfl ?_
  intro p e s m args below meth c s₁ B hml hv
  obtain ⟨rfl, hP, hK, hN⟩ := hv
  have hx := B.exec
  have hb := B.bytes
  have hr := B.returns
  have hts := atoms_spec (ws := wm_X13_read) B.pre
  have hT : ∀ w ∈ wM, w.before ([.ref (u 0)] : List Value).toArray s = true := fun w h => hts w (List.mem_cons_of_mem _ h)
  have hown : s.vm.findClass RX13 = some m.cls := findClass_of_methodNamed B.named
  have hlocks := B.notSynchronized
  have hM : tw_M D vwCl mX q s.heap u z s.heap [] := ⟨hP, va_S.rf⟩
  have hl := lv_entry ([.ref (u 0)]) (n := 9) (Nat.le_of_ble_eq_true rfl)
  rw [lg_entry_eq]
  generalize (lg_sl ([.ref (u 0)]) ++ List.replicate (9 - (lg_sl ([.ref (u 0)])).length) Slot.unset).toArray = ls at hl ⊢
  have hl : lv_has ls 9 [(0, .ref (u 0))] := hl
  refine ow_named (fun QQ hQQ => ?_)
  generalize ([.ref (u 0)] : List Value).toArray = args at hts hT hQQ ⊢
  have key : ∀ k : Nat, (∀ (x1 : Int32) (x2 : Int32) (x3 : Int32) (x4 : Int32) (x5 : Int32) (x6 : Int32) (x7 : Int32) (x8 : Int32) (t0 : Int32) (z : ow_MS) (H : Heap) (locs : List Loc) (ls : Array Slot), tw_M D vwCl mX q s.heap u z H locs → lv_has ls 9 [(0, .ref (u 0))] → q_X13_read K k 0 x1 x2 x3 x4 x5 x6 x7 x8 t0 z = some (r, z1) → W p l e ({ frames := 2, cells := 0, slots := 0, locals := 50 } : Room) s m args below meth c H locs 0 0 QQ (F0 m 0 ls [])) ∧ (∀ (x1 : Int32) (x2 : Int32) (x3 : Int32) (x4 : Int32) (x5 : Int32) (x6 : Int32) (x7 : Int32) (x8 : Int32) (t0 : Int32) (z : ow_MS) (H : Heap) (locs : List Loc) (ls : Array Slot), tw_M D vwCl mX q s.heap u z H locs → lv_has ls 9 [(0, .ref (u 0)), (1, .int x1), (2, .int x2)] → q_X13_read K k 1 x1 x2 x3 x4 x5 x6 x7 x8 t0 z = some (r, z1) → W p l e ({ frames := 2, cells := 0, slots := 0, locals := 50 } : Room) s m args below meth c H locs 0 0 QQ (F0 m 11 ls [])) ∧ (∀ (x1 : Int32) (x2 : Int32) (x3 : Int32) (x4 : Int32) (x5 : Int32) (x6 : Int32) (x7 : Int32) (x8 : Int32) (t0 : Int32) (z : ow_MS) (H : Heap) (locs : List Loc) (ls : Array Slot), tw_M D vwCl mX q s.heap u z H locs → lv_has ls 9 [(0, .ref (u 0)), (1, .int x1), (2, .int x2), (3, .int x3)] → q_X13_read K k 2 x1 x2 x3 x4 x5 x6 x7 x8 t0 z = some (r, z1) → W p l e ({ frames := 2, cells := 0, slots := 0, locals := 50 } : Room) s m args below meth c H locs 0 0 QQ (F0 m 73 ls [])) ∧ (∀ (x1 : Int32) (x2 : Int32) (x3 : Int32) (x4 : Int32) (x5 : Int32) (x6 : Int32) (x7 : Int32) (x8 : Int32) (t0 : Int32) (z : ow_MS) (H : Heap) (locs : List Loc) (ls : Array Slot), tw_M D vwCl mX q s.heap u z H locs → lv_has ls 9 [(0, .ref (u 0)), (1, .int x1), (2, .int x2), (3, .int x3), (4, .int x4), (5, .int x5)] → q_X13_read K k 3 x1 x2 x3 x4 x5 x6 x7 x8 t0 z = some (r, z1) → W p l e ({ frames := 2, cells := 0, slots := 0, locals := 50 } : Room) s m args below meth c H locs 0 0 QQ (F0 m 166 ls [])) ∧ (∀ (x1 : Int32) (x2 : Int32) (x3 : Int32) (x4 : Int32) (x5 : Int32) (x6 : Int32) (x7 : Int32) (x8 : Int32) (t0 : Int32) (z : ow_MS) (H : Heap) (locs : List Loc) (ls : Array Slot), tw_M D vwCl mX q s.heap u z H locs → lv_has ls 9 [(0, .ref (u 0)), (1, .int x1), (2, .int x2), (3, .int x3), (4, .int x4), (5, .int x5)] → q_X13_read K k 4 x1 x2 x3 x4 x5 x6 x7 x8 t0 z = some (r, z1) → W p l e ({ frames := 2, cells := 0, slots := 0, locals := 50 } : Room) s m args below meth c H locs 0 0 QQ (F0 m 201 ls [])) ∧ (∀ (x1 : Int32) (x2 : Int32) (x3 : Int32) (x4 : Int32) (x5 : Int32) (x6 : Int32) (x7 : Int32) (x8 : Int32) (t0 : Int32) (z : ow_MS) (H : Heap) (locs : List Loc) (ls : Array Slot), tw_M D vwCl mX q s.heap u z H locs → lv_has ls 9 [(0, .ref (u 0)), (1, .int x1), (2, .int x2), (3, .int x3), (4, .int x4), (5, .int x5)] → q_X13_read K k 5 x1 x2 x3 x4 x5 x6 x7 x8 t0 z = some (r, z1) → W p l e ({ frames := 2, cells := 0, slots := 0, locals := 50 } : Room) s m args below meth c H locs 0 0 QQ (F0 m 216 ls [.int t0])) ∧ (∀ (x1 : Int32) (x2 : Int32) (x3 : Int32) (x4 : Int32) (x5 : Int32) (x6 : Int32) (x7 : Int32) (x8 : Int32) (t0 : Int32) (z : ow_MS) (H : Heap) (locs : List Loc) (ls : Array Slot), tw_M D vwCl mX q s.heap u z H locs → lv_has ls 9 [(0, .ref (u 0)), (1, .int x1), (2, .int x2), (3, .int x3), (4, .int x4), (5, .int x5), (6, .int x6)] → q_X13_read K k 6 x1 x2 x3 x4 x5 x6 x7 x8 t0 z = some (r, z1) → W p l e ({ frames := 2, cells := 0, slots := 0, locals := 50 } : Room) s m args below meth c H locs 0 0 QQ (F0 m 232 ls [.int t0])) ∧ (∀ (x1 : Int32) (x2 : Int32) (x3 : Int32) (x4 : Int32) (x5 : Int32) (x6 : Int32) (x7 : Int32) (x8 : Int32) (t0 : Int32) (z : ow_MS) (H : Heap) (locs : List Loc) (ls : Array Slot), tw_M D vwCl mX q s.heap u z H locs → lv_has ls 9 [(0, .ref (u 0)), (1, .int x1), (2, .int x2), (3, .int x3), (4, .int x4), (5, .int x5), (6, .int x6), (7, .int x7), (8, .int x8)] → q_X13_read K k 7 x1 x2 x3 x4 x5 x6 x7 x8 t0 z = some (r, z1) → W p l e ({ frames := 2, cells := 0, slots := 0, locals := 50 } : Room) s m args below meth c H locs 0 0 QQ (F0 m 237 ls [])) ∧ (∀ (x1 : Int32) (x2 : Int32) (x3 : Int32) (x4 : Int32) (x5 : Int32) (x6 : Int32) (x7 : Int32) (x8 : Int32) (t0 : Int32) (z : ow_MS) (H : Heap) (locs : List Loc) (ls : Array Slot), tw_M D vwCl mX q s.heap u z H locs → lv_has ls 9 [(0, .ref (u 0)), (1, .int x1), (2, .int x2), (3, .int x3), (4, .int x4), (5, .int x5), (6, .int x6), (7, .int x7), (8, .int x8)] → q_X13_read K k 8 x1 x2 x3 x4 x5 x6 x7 x8 t0 z = some (r, z1) → W p l e ({ frames := 2, cells := 0, slots := 0, locals := 50 } : Room) s m args below meth c H locs 0 0 QQ (F0 m 261 ls [])) ∧ (∀ (x1 : Int32) (x2 : Int32) (x3 : Int32) (x4 : Int32) (x5 : Int32) (x6 : Int32) (x7 : Int32) (x8 : Int32) (t0 : Int32) (z : ow_MS) (H : Heap) (locs : List Loc) (ls : Array Slot), tw_M D vwCl mX q s.heap u z H locs → lv_has ls 9 [(0, .ref (u 0)), (1, .int x1), (2, .int x2), (3, .int x3), (4, .int x4), (5, .int x5), (6, .int x6), (7, .int x7), (8, .int x8)] → q_X13_read K k 9 x1 x2 x3 x4 x5 x6 x7 x8 t0 z = some (r, z1) → W p l e ({ frames := 2, cells := 0, slots := 0, locals := 50 } : Room) s m args below meth c H locs 0 0 QQ (F0 m 314 ls [])) ∧ (∀ (x1 : Int32) (x2 : Int32) (x3 : Int32) (x4 : Int32) (x5 : Int32) (x6 : Int32) (x7 : Int32) (x8 : Int32) (t0 : Int32) (z : ow_MS) (H : Heap) (locs : List Loc) (ls : Array Slot), tw_M D vwCl mX q s.heap u z H locs → lv_has ls 9 [(0, .ref (u 0)), (1, .int x1), (2, .int x2), (3, .int x3), (4, .int x4)] → q_X13_read K k 10 x1 x2 x3 x4 x5 x6 x7 x8 t0 z = some (r, z1) → W p l e ({ frames := 2, cells := 0, slots := 0, locals := 50 } : Room) s m args below meth c H locs 0 0 QQ (F0 m 401 ls [])) ∧ (∀ (x1 : Int32) (x2 : Int32) (x3 : Int32) (x4 : Int32) (x5 : Int32) (x6 : Int32) (x7 : Int32) (x8 : Int32) (t0 : Int32) (z : ow_MS) (H : Heap) (locs : List Loc) (ls : Array Slot), tw_M D vwCl mX q s.heap u z H locs → lv_has ls 9 [(0, .ref (u 0)), (1, .int x1), (2, .int x2), (3, .int x3), (4, .int x4)] → q_X13_read K k 11 x1 x2 x3 x4 x5 x6 x7 x8 t0 z = some (r, z1) → W p l e ({ frames := 2, cells := 0, slots := 0, locals := 50 } : Room) s m args below meth c H locs 0 0 QQ (F0 m 430 ls [])) := by
    intro k
    induction k with
    | zero => exact ⟨fun _ _ _ _ _ _ _ _ _ _ _ _ _  _ _ hq => tw_no hq, fun _ _ _ _ _ _ _ _ _ _ _ _ _  _ _ hq => tw_no hq, fun _ _ _ _ _ _ _ _ _ _ _ _ _  _ _ hq => tw_no hq, fun _ _ _ _ _ _ _ _ _ _ _ _ _  _ _ hq => tw_no hq, fun _ _ _ _ _ _ _ _ _ _ _ _ _  _ _ hq => tw_no hq, fun _ _ _ _ _ _ _ _ _ _ _ _ _  _ _ hq => tw_no hq, fun _ _ _ _ _ _ _ _ _ _ _ _ _  _ _ hq => tw_no hq, fun _ _ _ _ _ _ _ _ _ _ _ _ _  _ _ hq => tw_no hq, fun _ _ _ _ _ _ _ _ _ _ _ _ _  _ _ hq => tw_no hq, fun _ _ _ _ _ _ _ _ _ _ _ _ _  _ _ hq => tw_no hq, fun _ _ _ _ _ _ _ _ _ _ _ _ _  _ _ hq => tw_no hq, fun _ _ _ _ _ _ _ _ _ _ _ _ _  _ _ hq => tw_no hq⟩
    | succ k ih =>
      obtain ⟨ih_0, ih_1, ih_2, ih_3, ih_4, ih_5, ih_6, ih_7, ih_8, ih_9, ih_10, ih_11⟩ := ih
      refine ⟨?_, ?_, ?_, ?_, ?_, ?_, ?_, ?_, ?_, ?_, ?_, ?_⟩
      · intro x1 x2 x3 x4 x5 x6 x7 x8 t0 z H locs ls  hM hl hq
        have hq : qm_X13_read_0 K (q_X13_read K k) x1 x2 x3 x4 x5 x6 x7 x8 t0 z = some (r, z1) := hq
        unfold qm_X13_read_0 at hq
        refine lv_aload_n hx hb dmX13_read_0 rfl (lv_at hl 0 rfl) ?_
        refine mg13_121 hx hb hT hown hK hM dmX13_read_1 ?_
        obtain ⟨z1, hcq, hq⟩ := tw_cl0 hq
        refine tw_calv hM (va_runV (As := []) (rest := []) ⟨hx, hb, hml, hown, hts⟩ (km_X12_clear l D q u hU K 3000 mw_n3 z z1 hcq) (cwV 0 hts (tw_gV wM_good wq_85 wq_11 wq_12 wq_13 wq_3) rfl rfl rfl cd_X12_clear ⟨(Nat.le_of_ble_eq_true rfl), (Nat.le_of_ble_eq_true rfl)⟩) (mw_preV hK hN hM (mo_n mw_n3) rfl) rfl rfl hl.1 rfl (lv_room (Nat.le_of_ble_eq_true rfl)) dmX13_read_4 ⟨(Nat.le_of_ble_eq_true rfl), (Nat.le_of_ble_eq_true rfl)⟩) (fun H locs hM => ?_)
        refine lv_iconst (v := 0) hx hb dmX13_read_7 (by decide) ?_
        refine lv_istore_n (lv' := [(1, .int 0), (0, .ref (u 0))]) hx hb dmX13_read_8 rfl hl (by decide) rfl (fun ls hl => ?_)
        refine lv_iconst (v := 0) hx hb dmX13_read_9 (by decide) ?_
        refine lv_istore_n (lv' := [(2, .int 0), (1, .int 0), (0, .ref (u 0))]) hx hb dmX13_read_10 rfl hl (by decide) rfl (fun ls hl => ?_)
        exact ih_1 0 0 0 0 0 0 0 0 0 z1 H locs ls hM (lv_sub hl [2, 1, 0] rfl) hq
      · intro x1 x2 x3 x4 x5 x6 x7 x8 t0 z H locs ls  hM hl hq
        have hq : qm_X13_read_1 K (q_X13_read K k) x1 x2 x3 x4 x5 x6 x7 x8 t0 z = some (r, z1) := hq
        unfold qm_X13_read_1 at hq
        refine lv_iload_n hx hb dmX13_read_11 rfl (lv_at hl 2 rfl) ?_
        refine lv_aload_n hx hb dmX13_read_12 rfl (lv_at hl 0 rfl) ?_
        refine mg13_400 hx hb hT hown hK hM hq dmX13_read_13 (fun v2 hq => ?_)
        refine lv_icmp_ge (tgt := 384) hx hb dmX13_read_16 (by decide) (fun hc => ?_) (fun hc => ?_)
        · have hq := tw_it hq hc
          refine lv_aload_n hx hb dmX13_read_384 rfl (lv_at hl 0 rfl) ?_
          refine mg13_121 hx hb hT hown hK hM dmX13_read_385 ?_
          obtain ⟨z3, hcq, hq⟩ := tw_cl0 hq
          refine tw_calv hM (va_runV (As := []) (rest := []) ⟨hx, hb, hml, hown, hts⟩ (km_X12_end l D q u hU K 3000 mw_n3 z z3 hcq) (cwV 0 hts (tw_gV wM_good wq_86 wq_18 wq_19 wq_13 wq_7) rfl rfl rfl cd_X12_end ⟨(Nat.le_of_ble_eq_true rfl), (Nat.le_of_ble_eq_true rfl)⟩) (mw_preV hK hN hM (mo_n mw_n3) rfl) rfl rfl hl.1 rfl (lv_room (Nat.le_of_ble_eq_true rfl)) dmX13_read_388 ⟨(Nat.le_of_ble_eq_true rfl), (Nat.le_of_ble_eq_true rfl)⟩) (fun H locs hM => ?_)
          refine lv_aload_n hx hb dmX13_read_391 rfl (lv_at hl 0 rfl) ?_
          refine mg13_400 hx hb hT hown hK hM hq dmX13_read_392 (fun v4 hq => ?_)
          refine lv_iconst (v := 1) hx hb dmX13_read_395 (by decide) ?_
          refine lv_iadd hx hb dmX13_read_396 ?_
          refine lv_istore_n (lv' := [(3, .int (v4 + 1)), (0, .ref (u 0)), (1, .int x1), (2, .int x2)]) hx hb dmX13_read_397 rfl hl (by decide) rfl (fun ls hl => ?_)
          refine lv_iconst (v := 0) hx hb dmX13_read_398 (by decide) ?_
          refine lv_istore (lv' := [(4, .int 0), (3, .int (v4 + 1)), (0, .ref (u 0)), (1, .int x1), (2, .int x2)]) hx hb dmX13_read_399 hl (by decide) rfl (fun ls hl => ?_)
          exact ih_10 x1 x2 (v4 + 1) 0 0 0 0 0 0 z3 H locs ls hM (lv_sub hl [2, 3, 4, 1, 0] rfl) hq
        · have hq := tw_if hq hc
          refine lv_aload_n hx hb dmX13_read_19 rfl (lv_at hl 0 rfl) ?_
          refine mg13_106 hx hb hT hown hK hM dmX13_read_20 ?_
          refine lv_iload_n hx hb dmX13_read_23 rfl (lv_at hl 2 rfl) ?_
          refine tw_bald mX_ok hx hb hK hM mr_10 hq dmX13_read_24 (fun v5 hq => ?_)
          refine lv_istore_n (lv' := [(3, .int v5), (0, .ref (u 0)), (1, .int x1), (2, .int x2)]) hx hb dmX13_read_25 rfl hl (by decide) rfl (fun ls hl => ?_)
          refine lv_iload_n hx hb dmX13_read_26 rfl (lv_at hl 0 rfl) ?_
          refine lv_bipush (v := 59) hx hb dmX13_read_27 (by decide) ?_
          refine lv_icmp_ne (tgt := 59) hx hb dmX13_read_29 (by decide) (fun hc => ?_) (fun hc => ?_)
          · have hq := tw_if hq hc
            refine lv_iload_n hx hb dmX13_read_59 rfl (lv_at hl 0 rfl) ?_
            refine lv_bipush (v := 111) hx hb dmX13_read_60 (by decide) ?_
            refine lv_icmp_eq (tgt := 73) hx hb dmX13_read_62 (by decide) (fun hc => ?_) (fun hc => ?_)
            · have hq := tw_it hq hc
              exact ih_2 x1 x2 v5 0 0 0 0 0 0 z H locs ls hM (lv_sub hl [1, 2, 3, 0] rfl) hq
            · have hq := tw_if hq hc
              refine lv_iload_n hx hb dmX13_read_65 rfl (lv_at hl 0 rfl) ?_
              refine lv_bipush (v := 117) hx hb dmX13_read_66 (by decide) ?_
              refine lv_icmp_eq (tgt := 73) hx hb dmX13_read_68 (by decide) (fun hc => ?_) (fun hc => ?_)
              · have hq := tw_it hq hc
                exact ih_2 x1 x2 v5 0 0 0 0 0 0 z H locs ls hM (lv_sub hl [1, 2, 3, 0] rfl) hq
              · have hq := tw_if hq hc
                refine lv_iload_n hx hb dmX13_read_71 rfl (lv_at hl 3 rfl) ?_
                exact mw_iret hx hb hr hlocks hM hq hQQ dmX13_read_72
          · have hq := tw_it hq hc
            refine lv_aload_n hx hb dmX13_read_32 rfl (lv_at hl 1 rfl) ?_
            refine mg13_121 hx hb hT hown hK hM dmX13_read_33 ?_
            obtain ⟨z6, hcq, hq⟩ := tw_cl0 hq
            refine tw_calv hM (va_runV (As := []) (rest := []) ⟨hx, hb, hml, hown, hts⟩ (km_X12_end l D q u hU K 3000 mw_n3 z z6 hcq) (cwV 0 hts (tw_gV wM_good wq_86 wq_18 wq_19 wq_13 wq_7) rfl rfl rfl cd_X12_end ⟨(Nat.le_of_ble_eq_true rfl), (Nat.le_of_ble_eq_true rfl)⟩) (mw_preV hK hN hM (mo_n mw_n3) rfl) rfl rfl hl.1 rfl (lv_room (Nat.le_of_ble_eq_true rfl)) dmX13_read_36 ⟨(Nat.le_of_ble_eq_true rfl), (Nat.le_of_ble_eq_true rfl)⟩) (fun H locs hM => ?_)
            refine lv_aload_n hx hb dmX13_read_39 rfl (lv_at hl 1 rfl) ?_
            refine mg13_121 hx hb hT hown hK hM dmX13_read_40 ?_
            refine mg13_407 hx hb hT hown hK hM hN mw_n3 hq dmX13_read_43 (fun v7 hq => ?_)
            refine lv_bipush (v := 6) hx hb dmX13_read_46 (by decide) ?_
            refine lv_icmp_ne (tgt := 53) hx hb dmX13_read_48 (by decide) (fun hc => ?_) (fun hc => ?_)
            · have hq := tw_if hq hc
              refine lv_iinc (v := (x2 + 1)) (lv' := [(2, .int (x2 + 1)), (3, .int v5), (0, .ref (u 0)), (1, .int x1)]) hx hb dmX13_read_53 hl (k := 3) rfl rfl (by decide) rfl (fun ls hl => ?_)
              refine lv_goto (tgt := 11) hx hb dmX13_read_56 (by decide) ?_
              exact ih_1 x1 (x2 + 1) 0 0 0 0 0 0 0 z6 H locs ls hM (lv_sub hl [2, 3, 0] rfl) hq
            · have hq := tw_it hq hc
              refine lv_iload_n hx hb dmX13_read_51 rfl (lv_at hl 3 rfl) ?_
              exact mw_iret hx hb hr hlocks hM hq hQQ dmX13_read_52
      · intro x1 x2 x3 x4 x5 x6 x7 x8 t0 z H locs ls  hM hl hq
        have hq : qm_X13_read_2 K (q_X13_read K k) x1 x2 x3 x4 x5 x6 x7 x8 t0 z = some (r, z1) := hq
        unfold qm_X13_read_2 at hq
        refine lv_iload_n hx hb dmX13_read_73 rfl (lv_at hl 2 rfl) ?_
        refine lv_istore (lv' := [(4, .int x2), (0, .ref (u 0)), (1, .int x1), (2, .int x2), (3, .int x3)]) hx hb dmX13_read_74 hl (by decide) rfl (fun ls hl => ?_)
        refine lv_iinc (v := (x2 + 1)) (lv' := [(2, .int (x2 + 1)), (4, .int x2), (0, .ref (u 0)), (1, .int x1), (3, .int x3)]) hx hb dmX13_read_76 hl (k := 3) rfl rfl (by decide) rfl (fun ls hl => ?_)
        refine lv_iload_n hx hb dmX13_read_79 rfl (lv_at hl 0 rfl) ?_
        refine lv_aload_n hx hb dmX13_read_80 rfl (lv_at hl 2 rfl) ?_
        refine mg13_400 hx hb hT hown hK hM hq dmX13_read_81 (fun v8 hq => ?_)
        refine lv_icmp_ne (tgt := 92) hx hb dmX13_read_84 (by decide) (fun hc => ?_) (fun hc => ?_)
        · have hq := tw_if hq hc
          refine lv_aload_n hx hb dmX13_read_92 rfl (lv_at hl 2 rfl) ?_
          refine lv_iload_n hx hb dmX13_read_93 rfl (lv_at hl 0 rfl) ?_
          obtain ⟨v10, z9, hcq, hq⟩ := tw_cl1 hq
          refine tw_cali hM (va_runV (As := [.int (x2 + 1)]) (rest := []) ⟨hx, hb, hml, hown, hts⟩ (km_X13_byteAt l D q u hU K (x2 + 1) z z9 v10 hcq) (cwV 1 hts (tw_gV wM_good wq_113 wq_114 wq_115 wq_61 wq_108) rfl rfl rfl cd_X13_byteAt ⟨(Nat.le_of_ble_eq_true rfl), (Nat.le_of_ble_eq_true rfl)⟩) (mw_preV hK hN hM mo_0 rfl) rfl rfl hl.1 rfl (lv_room (Nat.le_of_ble_eq_true rfl)) dmX13_read_94 ⟨(Nat.le_of_ble_eq_true rfl), (Nat.le_of_ble_eq_true rfl)⟩) (fun H locs hM => ?_)
          refine lv_bipush (v := 49) hx hb dmX13_read_97 (by decide) ?_
          refine lv_icmp_lt (tgt := 112) hx hb dmX13_read_99 (by decide) (fun hc => ?_) (fun hc => ?_)
          · have hq := tw_it hq hc
            refine lv_iload_n hx hb dmX13_read_112 rfl (lv_at hl 0 rfl) ?_
            exact mw_iret hx hb hr hlocks hM hq hQQ dmX13_read_113
          · have hq := tw_if hq hc
            refine lv_aload_n hx hb dmX13_read_102 rfl (lv_at hl 2 rfl) ?_
            refine lv_iload_n hx hb dmX13_read_103 rfl (lv_at hl 0 rfl) ?_
            obtain ⟨v12, z11, hcq, hq⟩ := tw_cl1 hq
            refine tw_cali hM (va_runV (As := [.int (x2 + 1)]) (rest := []) ⟨hx, hb, hml, hown, hts⟩ (km_X13_byteAt l D q u hU K (x2 + 1) z9 z11 v12 hcq) (cwV 1 hts (tw_gV wM_good wq_113 wq_114 wq_115 wq_61 wq_108) rfl rfl rfl cd_X13_byteAt ⟨(Nat.le_of_ble_eq_true rfl), (Nat.le_of_ble_eq_true rfl)⟩) (mw_preV hK hN hM mo_0 rfl) rfl rfl hl.1 rfl (lv_room (Nat.le_of_ble_eq_true rfl)) dmX13_read_104 ⟨(Nat.le_of_ble_eq_true rfl), (Nat.le_of_ble_eq_true rfl)⟩) (fun H locs hM => ?_)
            refine lv_bipush (v := 57) hx hb dmX13_read_107 (by decide) ?_
            refine lv_icmp_le (tgt := 114) hx hb dmX13_read_109 (by decide) (fun hc => ?_) (fun hc => ?_)
            · have hq := tw_it hq hc
              refine lv_aload_n hx hb dmX13_read_114 rfl (lv_at hl 2 rfl) ?_
              refine lv_iload_n hx hb dmX13_read_115 rfl (lv_at hl 0 rfl) ?_
              obtain ⟨v14, z13, hcq, hq⟩ := tw_cl1 hq
              refine tw_cali hM (va_runV (As := [.int (x2 + 1)]) (rest := []) ⟨hx, hb, hml, hown, hts⟩ (km_X13_byteAt l D q u hU K (x2 + 1) z11 z13 v14 hcq) (cwV 1 hts (tw_gV wM_good wq_113 wq_114 wq_115 wq_61 wq_108) rfl rfl rfl cd_X13_byteAt ⟨(Nat.le_of_ble_eq_true rfl), (Nat.le_of_ble_eq_true rfl)⟩) (mw_preV hK hN hM mo_0 rfl) rfl rfl hl.1 rfl (lv_room (Nat.le_of_ble_eq_true rfl)) dmX13_read_116 ⟨(Nat.le_of_ble_eq_true rfl), (Nat.le_of_ble_eq_true rfl)⟩) (fun H locs hM => ?_)
              refine lv_bipush (v := 48) hx hb dmX13_read_119 (by decide) ?_
              refine lv_isub hx hb dmX13_read_121 ?_
              refine lv_istore (lv' := [(5, .int (v14 - 48)), (2, .int (x2 + 1)), (4, .int x2), (0, .ref (u 0)), (1, .int x1), (3, .int x3)]) hx hb dmX13_read_122 hl (by decide) rfl (fun ls hl => ?_)
              refine lv_iinc (v := ((x2 + 1) + 1)) (lv' := [(2, .int ((x2 + 1) + 1)), (5, .int (v14 - 48)), (4, .int x2), (0, .ref (u 0)), (1, .int x1), (3, .int x3)]) hx hb dmX13_read_124 hl (k := 1) rfl rfl (by decide) rfl (fun ls hl => ?_)
              refine lv_aload_n hx hb dmX13_read_127 rfl (lv_at hl 3 rfl) ?_
              refine lv_iload_n hx hb dmX13_read_128 rfl (lv_at hl 0 rfl) ?_
              obtain ⟨v16, z15, hcq, hq⟩ := tw_cl1 hq
              refine tw_cali hM (va_runV (As := [.int ((x2 + 1) + 1)]) (rest := []) ⟨hx, hb, hml, hown, hts⟩ (km_X13_byteAt l D q u hU K ((x2 + 1) + 1) z13 z15 v16 hcq) (cwV 1 hts (tw_gV wM_good wq_113 wq_114 wq_115 wq_61 wq_108) rfl rfl rfl cd_X13_byteAt ⟨(Nat.le_of_ble_eq_true rfl), (Nat.le_of_ble_eq_true rfl)⟩) (mw_preV hK hN hM mo_0 rfl) rfl rfl hl.1 rfl (lv_room (Nat.le_of_ble_eq_true rfl)) dmX13_read_129 ⟨(Nat.le_of_ble_eq_true rfl), (Nat.le_of_ble_eq_true rfl)⟩) (fun H locs hM => ?_)
              refine lv_bipush (v := 48) hx hb dmX13_read_132 (by decide) ?_
              refine lv_icmp_lt (tgt := 166) hx hb dmX13_read_134 (by decide) (fun hc => ?_) (fun hc => ?_)
              · have hq := tw_it hq hc
                exact ih_3 x1 ((x2 + 1) + 1) x3 x2 (v14 - 48) 0 0 0 0 z15 H locs ls hM (lv_sub hl [3, 4, 0, 5, 2, 1] rfl) hq
              · have hq := tw_if hq hc
                refine lv_aload_n hx hb dmX13_read_137 rfl (lv_at hl 3 rfl) ?_
                refine lv_iload_n hx hb dmX13_read_138 rfl (lv_at hl 0 rfl) ?_
                obtain ⟨v18, z17, hcq, hq⟩ := tw_cl1 hq
                refine tw_cali hM (va_runV (As := [.int ((x2 + 1) + 1)]) (rest := []) ⟨hx, hb, hml, hown, hts⟩ (km_X13_byteAt l D q u hU K ((x2 + 1) + 1) z15 z17 v18 hcq) (cwV 1 hts (tw_gV wM_good wq_113 wq_114 wq_115 wq_61 wq_108) rfl rfl rfl cd_X13_byteAt ⟨(Nat.le_of_ble_eq_true rfl), (Nat.le_of_ble_eq_true rfl)⟩) (mw_preV hK hN hM mo_0 rfl) rfl rfl hl.1 rfl (lv_room (Nat.le_of_ble_eq_true rfl)) dmX13_read_139 ⟨(Nat.le_of_ble_eq_true rfl), (Nat.le_of_ble_eq_true rfl)⟩) (fun H locs hM => ?_)
                refine lv_bipush (v := 57) hx hb dmX13_read_142 (by decide) ?_
                refine lv_icmp_gt (tgt := 166) hx hb dmX13_read_144 (by decide) (fun hc => ?_) (fun hc => ?_)
                · have hq := tw_it hq hc
                  exact ih_3 x1 ((x2 + 1) + 1) x3 x2 (v14 - 48) 0 0 0 0 z17 H locs ls hM (lv_sub hl [3, 4, 0, 5, 2, 1] rfl) hq
                · have hq := tw_if hq hc
                  refine lv_bipush (v := 10) hx hb dmX13_read_147 (by decide) ?_
                  refine lv_iload hx hb dmX13_read_149 (lv_at hl 1 rfl) ?_
                  refine lv_imul hx hb dmX13_read_151 ?_
                  refine lv_aload_n hx hb dmX13_read_152 rfl (lv_at hl 3 rfl) ?_
                  refine lv_iload_n hx hb dmX13_read_153 rfl (lv_at hl 0 rfl) ?_
                  obtain ⟨v20, z19, hcq, hq⟩ := tw_cl1 hq
                  refine tw_cali hM (va_runV (As := [.int ((x2 + 1) + 1)]) (rest := [.int (10 * (v14 - 48))]) ⟨hx, hb, hml, hown, hts⟩ (km_X13_byteAt l D q u hU K ((x2 + 1) + 1) z17 z19 v20 hcq) (cwV 1 hts (tw_gV wM_good wq_113 wq_114 wq_115 wq_61 wq_108) rfl rfl rfl cd_X13_byteAt ⟨(Nat.le_of_ble_eq_true rfl), (Nat.le_of_ble_eq_true rfl)⟩) (mw_preV hK hN hM mo_0 rfl) rfl rfl hl.1 rfl (lv_room (Nat.le_of_ble_eq_true rfl)) dmX13_read_154 ⟨(Nat.le_of_ble_eq_true rfl), (Nat.le_of_ble_eq_true rfl)⟩) (fun H locs hM => ?_)
                  refine lv_iadd hx hb dmX13_read_157 ?_
                  refine lv_bipush (v := 48) hx hb dmX13_read_158 (by decide) ?_
                  refine lv_isub hx hb dmX13_read_160 ?_
                  refine lv_istore (lv' := [(5, .int (((10 * (v14 - 48)) + v20) - 48)), (2, .int ((x2 + 1) + 1)), (4, .int x2), (0, .ref (u 0)), (1, .int x1), (3, .int x3)]) hx hb dmX13_read_161 hl (by decide) rfl (fun ls hl => ?_)
                  refine lv_iinc (v := (((x2 + 1) + 1) + 1)) (lv' := [(2, .int (((x2 + 1) + 1) + 1)), (5, .int (((10 * (v14 - 48)) + v20) - 48)), (4, .int x2), (0, .ref (u 0)), (1, .int x1), (3, .int x3)]) hx hb dmX13_read_163 hl (k := 1) rfl rfl (by decide) rfl (fun ls hl => ?_)
                  exact ih_3 x1 (((x2 + 1) + 1) + 1) x3 x2 (((10 * (v14 - 48)) + v20) - 48) 0 0 0 0 z19 H locs ls hM (lv_sub hl [3, 4, 0, 5, 2, 1] rfl) hq
            · have hq := tw_if hq hc
              refine lv_iload_n hx hb dmX13_read_112 rfl (lv_at hl 0 rfl) ?_
              exact mw_iret hx hb hr hlocks hM hq hQQ dmX13_read_113
        · have hq := tw_it hq hc
          refine lv_aload_n hx hb dmX13_read_87 rfl (lv_at hl 2 rfl) ?_
          refine mg13_400 hx hb hT hown hK hM hq dmX13_read_88 (fun v21 hq => ?_)
          exact mw_iret hx hb hr hlocks hM hq hQQ dmX13_read_91
      · intro x1 x2 x3 x4 x5 x6 x7 x8 t0 z H locs ls  hM hl hq
        have hq : qm_X13_read_3 K (q_X13_read K k) x1 x2 x3 x4 x5 x6 x7 x8 t0 z = some (r, z1) := hq
        unfold qm_X13_read_3 at hq
        refine lv_iload_n hx hb dmX13_read_166 rfl (lv_at hl 2 rfl) ?_
        refine lv_aload_n hx hb dmX13_read_167 rfl (lv_at hl 0 rfl) ?_
        refine mg13_400 hx hb hT hown hK hM hq dmX13_read_168 (fun v22 hq => ?_)
        refine lv_icmp_ne (tgt := 179) hx hb dmX13_read_171 (by decide) (fun hc => ?_) (fun hc => ?_)
        · have hq := tw_if hq hc
          refine lv_aload_n hx hb dmX13_read_179 rfl (lv_at hl 0 rfl) ?_
          refine lv_iload_n hx hb dmX13_read_180 rfl (lv_at hl 2 rfl) ?_
          obtain ⟨v24, z23, hcq, hq⟩ := tw_cl1 hq
          refine tw_cali hM (va_runV (As := [.int x2]) (rest := []) ⟨hx, hb, hml, hown, hts⟩ (km_X13_byteAt l D q u hU K x2 z z23 v24 hcq) (cwV 1 hts (tw_gV wM_good wq_113 wq_114 wq_115 wq_61 wq_108) rfl rfl rfl cd_X13_byteAt ⟨(Nat.le_of_ble_eq_true rfl), (Nat.le_of_ble_eq_true rfl)⟩) (mw_preV hK hN hM mo_0 rfl) rfl rfl hl.1 rfl (lv_room (Nat.le_of_ble_eq_true rfl)) dmX13_read_181 ⟨(Nat.le_of_ble_eq_true rfl), (Nat.le_of_ble_eq_true rfl)⟩) (fun H locs hM => ?_)
          refine lv_bipush (v := 43) hx hb dmX13_read_184 (by decide) ?_
          refine lv_icmp_eq (tgt := 201) hx hb dmX13_read_186 (by decide) (fun hc => ?_) (fun hc => ?_)
          · have hq := tw_it hq hc
            exact ih_4 x1 x2 x3 x4 x5 0 0 0 0 z23 H locs ls hM (lv_sub hl [0, 1, 2, 3, 4, 5] rfl) hq
          · have hq := tw_if hq hc
            refine lv_aload_n hx hb dmX13_read_189 rfl (lv_at hl 0 rfl) ?_
            refine lv_iload_n hx hb dmX13_read_190 rfl (lv_at hl 2 rfl) ?_
            obtain ⟨v26, z25, hcq, hq⟩ := tw_cl1 hq
            refine tw_cali hM (va_runV (As := [.int x2]) (rest := []) ⟨hx, hb, hml, hown, hts⟩ (km_X13_byteAt l D q u hU K x2 z23 z25 v26 hcq) (cwV 1 hts (tw_gV wM_good wq_113 wq_114 wq_115 wq_61 wq_108) rfl rfl rfl cd_X13_byteAt ⟨(Nat.le_of_ble_eq_true rfl), (Nat.le_of_ble_eq_true rfl)⟩) (mw_preV hK hN hM mo_0 rfl) rfl rfl hl.1 rfl (lv_room (Nat.le_of_ble_eq_true rfl)) dmX13_read_191 ⟨(Nat.le_of_ble_eq_true rfl), (Nat.le_of_ble_eq_true rfl)⟩) (fun H locs hM => ?_)
            refine lv_bipush (v := 45) hx hb dmX13_read_194 (by decide) ?_
            refine lv_icmp_eq (tgt := 201) hx hb dmX13_read_196 (by decide) (fun hc => ?_) (fun hc => ?_)
            · have hq := tw_it hq hc
              exact ih_4 x1 x2 x3 x4 x5 0 0 0 0 z25 H locs ls hM (lv_sub hl [0, 1, 2, 3, 4, 5] rfl) hq
            · have hq := tw_if hq hc
              refine lv_iload_n hx hb dmX13_read_199 rfl (lv_at hl 2 rfl) ?_
              exact mw_iret hx hb hr hlocks hM hq hQQ dmX13_read_200
        · have hq := tw_it hq hc
          refine lv_aload_n hx hb dmX13_read_174 rfl (lv_at hl 0 rfl) ?_
          refine mg13_400 hx hb hT hown hK hM hq dmX13_read_175 (fun v27 hq => ?_)
          exact mw_iret hx hb hr hlocks hM hq hQQ dmX13_read_178
      · intro x1 x2 x3 x4 x5 x6 x7 x8 t0 z H locs ls  hM hl hq
        have hq : qm_X13_read_4 K (q_X13_read K k) x1 x2 x3 x4 x5 x6 x7 x8 t0 z = some (r, z1) := hq
        unfold qm_X13_read_4 at hq
        refine lv_aload_n hx hb dmX13_read_201 rfl (lv_at hl 0 rfl) ?_
        refine lv_iload_n hx hb dmX13_read_202 rfl (lv_at hl 2 rfl) ?_
        obtain ⟨v29, z28, hcq, hq⟩ := tw_cl1 hq
        refine tw_cali hM (va_runV (As := [.int x2]) (rest := []) ⟨hx, hb, hml, hown, hts⟩ (km_X13_byteAt l D q u hU K x2 z z28 v29 hcq) (cwV 1 hts (tw_gV wM_good wq_113 wq_114 wq_115 wq_61 wq_108) rfl rfl rfl cd_X13_byteAt ⟨(Nat.le_of_ble_eq_true rfl), (Nat.le_of_ble_eq_true rfl)⟩) (mw_preV hK hN hM mo_0 rfl) rfl rfl hl.1 rfl (lv_room (Nat.le_of_ble_eq_true rfl)) dmX13_read_203 ⟨(Nat.le_of_ble_eq_true rfl), (Nat.le_of_ble_eq_true rfl)⟩) (fun H locs hM => ?_)
        refine lv_bipush (v := 43) hx hb dmX13_read_206 (by decide) ?_
        refine lv_icmp_ne (tgt := 215) hx hb dmX13_read_208 (by decide) (fun hc => ?_) (fun hc => ?_)
        · have hq := tw_if hq hc
          refine lv_iconst (v := (-1)) hx hb dmX13_read_215 (by decide) ?_
          exact ih_5 x1 x2 x3 x4 x5 0 0 0 (-1) z28 H locs ls hM (lv_sub hl [0, 1, 2, 3, 4, 5] rfl) hq
        · have hq := tw_it hq hc
          refine lv_iconst (v := 1) hx hb dmX13_read_211 (by decide) ?_
          refine lv_goto (tgt := 216) hx hb dmX13_read_212 (by decide) ?_
          exact ih_5 x1 x2 x3 x4 x5 0 0 0 1 z28 H locs ls hM (lv_sub hl [0, 1, 2, 3, 4, 5] rfl) hq
      · intro x1 x2 x3 x4 x5 x6 x7 x8 t0 z H locs ls  hM hl hq
        have hq : qm_X13_read_5 K (q_X13_read K k) x1 x2 x3 x4 x5 x6 x7 x8 t0 z = some (r, z1) := hq
        unfold qm_X13_read_5 at hq
        refine lv_istore (lv' := [(6, .int t0), (0, .ref (u 0)), (1, .int x1), (2, .int x2), (3, .int x3), (4, .int x4), (5, .int x5)]) hx hb dmX13_read_216 hl (by decide) rfl (fun ls hl => ?_)
        refine lv_iinc (v := (x2 + 1)) (lv' := [(2, .int (x2 + 1)), (6, .int t0), (0, .ref (u 0)), (1, .int x1), (3, .int x3), (4, .int x4), (5, .int x5)]) hx hb dmX13_read_218 hl (k := 3) rfl rfl (by decide) rfl (fun ls hl => ?_)
        refine lv_iload_n hx hb dmX13_read_221 rfl (lv_at hl 4 rfl) ?_
        refine lv_bipush (v := 117) hx hb dmX13_read_222 (by decide) ?_
        refine lv_icmp_ne (tgt := 231) hx hb dmX13_read_224 (by decide) (fun hc => ?_) (fun hc => ?_)
        · have hq := tw_if hq hc
          refine lv_iconst (v := 0) hx hb dmX13_read_231 (by decide) ?_
          exact ih_6 x1 (x2 + 1) x3 x4 x5 t0 0 0 0 z H locs ls hM (lv_sub hl [2, 3, 0, 4, 5, 6, 1] rfl) hq
        · have hq := tw_it hq hc
          refine lv_iconst (v := 1) hx hb dmX13_read_227 (by decide) ?_
          refine lv_goto (tgt := 232) hx hb dmX13_read_228 (by decide) ?_
          exact ih_6 x1 (x2 + 1) x3 x4 x5 t0 0 0 1 z H locs ls hM (lv_sub hl [2, 3, 0, 4, 5, 6, 1] rfl) hq
      · intro x1 x2 x3 x4 x5 x6 x7 x8 t0 z H locs ls  hM hl hq
        have hq : qm_X13_read_6 K (q_X13_read K k) x1 x2 x3 x4 x5 x6 x7 x8 t0 z = some (r, z1) := hq
        unfold qm_X13_read_6 at hq
        refine lv_istore (lv' := [(7, .int t0), (0, .ref (u 0)), (1, .int x1), (2, .int x2), (3, .int x3), (4, .int x4), (5, .int x5), (6, .int x6)]) hx hb dmX13_read_232 hl (by decide) rfl (fun ls hl => ?_)
        refine lv_iconst (v := 0) hx hb dmX13_read_234 (by decide) ?_
        refine lv_istore (lv' := [(8, .int 0), (7, .int t0), (0, .ref (u 0)), (1, .int x1), (2, .int x2), (3, .int x3), (4, .int x4), (5, .int x5), (6, .int x6)]) hx hb dmX13_read_235 hl (by decide) rfl (fun ls hl => ?_)
        exact ih_7 x1 x2 x3 x4 x5 x6 t0 0 0 z H locs ls hM (lv_sub hl [2, 3, 4, 5, 6, 7, 8, 1, 0] rfl) hq
      · intro x1 x2 x3 x4 x5 x6 x7 x8 t0 z H locs ls  hM hl hq
        have hq : qm_X13_read_7 K (q_X13_read K k) x1 x2 x3 x4 x5 x6 x7 x8 t0 z = some (r, z1) := hq
        unfold qm_X13_read_7 at hq
        refine lv_iload hx hb dmX13_read_237 (lv_at hl 8 rfl) ?_
        refine lv_iload_n hx hb dmX13_read_239 rfl (lv_at hl 1 rfl) ?_
        refine lv_icmp_ge (tgt := 261) hx hb dmX13_read_240 (by decide) (fun hc => ?_) (fun hc => ?_)
        · have hq := tw_it hq hc
          exact ih_8 x1 x2 x3 x4 x5 x6 x7 x8 0 z H locs ls hM (lv_sub hl [0, 1, 2, 3, 4, 5, 6, 7, 8] rfl) hq
        · have hq := tw_if hq hc
          refine lv_aload_n hx hb dmX13_read_243 rfl (lv_at hl 0 rfl) ?_
          refine mg13_124 hx hb hT hown hK hM dmX13_read_244 ?_
          refine lv_iload hx hb dmX13_read_247 (lv_at hl 8 rfl) ?_
          refine tw_iald mX_ok hx hb hK hM mr_16 hq dmX13_read_249 (fun v30 hq => ?_)
          refine lv_iload hx hb dmX13_read_250 (lv_at hl 5 rfl) ?_
          refine lv_icmp_eq (tgt := 261) hx hb dmX13_read_252 (by decide) (fun hc => ?_) (fun hc => ?_)
          · have hq := tw_it hq hc
            exact ih_8 x1 x2 x3 x4 x5 x6 x7 x8 0 z H locs ls hM (lv_sub hl [0, 1, 2, 3, 4, 5, 6, 7, 8] rfl) hq
          · have hq := tw_if hq hc
            refine lv_iinc (v := (x8 + 1)) (lv' := [(8, .int (x8 + 1)), (0, .ref (u 0)), (1, .int x1), (2, .int x2), (3, .int x3), (4, .int x4), (5, .int x5), (6, .int x6), (7, .int x7)]) hx hb dmX13_read_255 hl (k := 8) rfl rfl (by decide) rfl (fun ls hl => ?_)
            refine lv_goto (tgt := 237) hx hb dmX13_read_258 (by decide) ?_
            exact ih_7 x1 x2 x3 x4 x5 x6 x7 (x8 + 1) 0 z H locs ls hM (lv_sub hl [1, 2, 3, 4, 5, 6, 7, 8, 0] rfl) hq
      · intro x1 x2 x3 x4 x5 x6 x7 x8 t0 z H locs ls  hM hl hq
        have hq : qm_X13_read_8 K (q_X13_read K k) x1 x2 x3 x4 x5 x6 x7 x8 t0 z = some (r, z1) := hq
        unfold qm_X13_read_8 at hq
        refine lv_iload hx hb dmX13_read_261 (lv_at hl 8 rfl) ?_
        refine lv_iload_n hx hb dmX13_read_263 rfl (lv_at hl 1 rfl) ?_
        refine lv_icmp_ne (tgt := 314) hx hb dmX13_read_264 (by decide) (fun hc => ?_) (fun hc => ?_)
        · have hq := tw_if hq hc
          exact ih_9 x1 x2 x3 x4 x5 x6 x7 x8 0 z H locs ls hM (lv_sub hl [0, 1, 2, 3, 4, 5, 6, 7, 8] rfl) hq
        · have hq := tw_it hq hc
          refine lv_iload_n hx hb dmX13_read_267 rfl (lv_at hl 1 rfl) ?_
          refine lv_bipush (v := 12) hx hb dmX13_read_268 (by decide) ?_
          refine lv_icmp_ne (tgt := 276) hx hb dmX13_read_270 (by decide) (fun hc => ?_) (fun hc => ?_)
          · have hq := tw_if hq hc
            refine lv_aload_n hx hb dmX13_read_276 rfl (lv_at hl 0 rfl) ?_
            refine mg13_124 hx hb hT hown hK hM dmX13_read_277 ?_
            refine lv_iload hx hb dmX13_read_280 (lv_at hl 8 rfl) ?_
            refine lv_iload hx hb dmX13_read_282 (lv_at hl 5 rfl) ?_
            refine tw_iast mX_ok hU hx hb hK hM mr_16 hq dmX13_read_284 (fun z31 H locs hM hq => ?_)
            refine lv_aload_n hx hb dmX13_read_285 rfl (lv_at hl 0 rfl) ?_
            refine mg13_127 hx hb hT hown hK hM dmX13_read_286 ?_
            refine lv_iload hx hb dmX13_read_289 (lv_at hl 8 rfl) ?_
            refine lv_iload hx hb dmX13_read_291 (lv_at hl 6 rfl) ?_
            refine tw_iast mX_ok hU hx hb hK hM mr_17 hq dmX13_read_293 (fun z32 H locs hM hq => ?_)
            refine lv_aload_n hx hb dmX13_read_294 rfl (lv_at hl 0 rfl) ?_
            refine mg13_130 hx hb hT hown hK hM dmX13_read_295 ?_
            refine lv_iload hx hb dmX13_read_298 (lv_at hl 8 rfl) ?_
            refine lv_iload hx hb dmX13_read_300 (lv_at hl 4 rfl) ?_
            refine tw_iast mX_ok hU hx hb hK hM mr_18 hq dmX13_read_302 (fun z33 H locs hM hq => ?_)
            refine lv_aload_n hx hb dmX13_read_303 rfl (lv_at hl 0 rfl) ?_
            refine mg13_133 hx hb hT hown hK hM dmX13_read_304 ?_
            refine lv_iload hx hb dmX13_read_307 (lv_at hl 8 rfl) ?_
            refine lv_iconst (v := 0) hx hb dmX13_read_309 (by decide) ?_
            refine tw_iast mX_ok hU hx hb hK hM mr_19 hq dmX13_read_310 (fun z34 H locs hM hq => ?_)
            refine lv_iinc (v := (x1 + 1)) (lv' := [(1, .int (x1 + 1)), (0, .ref (u 0)), (2, .int x2), (3, .int x3), (4, .int x4), (5, .int x5), (6, .int x6), (7, .int x7), (8, .int x8)]) hx hb dmX13_read_311 hl (k := 1) rfl rfl (by decide) rfl (fun ls hl => ?_)
            exact ih_9 (x1 + 1) x2 x3 x4 x5 x6 x7 x8 0 z34 H locs ls hM (lv_sub hl [1, 0, 2, 3, 4, 5, 6, 7, 8] rfl) hq
          · have hq := tw_it hq hc
            refine lv_iload hx hb dmX13_read_273 (lv_at hl 4 rfl) ?_
            exact mw_iret hx hb hr hlocks hM hq hQQ dmX13_read_275
      · intro x1 x2 x3 x4 x5 x6 x7 x8 t0 z H locs ls  hM hl hq
        have hq : qm_X13_read_9 K (q_X13_read K k) x1 x2 x3 x4 x5 x6 x7 x8 t0 z = some (r, z1) := hq
        unfold qm_X13_read_9 at hq
        refine lv_aload_n hx hb dmX13_read_314 rfl (lv_at hl 0 rfl) ?_
        refine mg13_133 hx hb hT hown hK hM dmX13_read_315 ?_
        refine lv_iload hx hb dmX13_read_318 (lv_at hl 8 rfl) ?_
        refine tw_iald mX_ok hx hb hK hM mr_19 hq dmX13_read_320 (fun v35 hq => ?_)
        refine lv_iconst (v := 1) hx hb dmX13_read_321 (by decide) ?_
        refine lv_iload hx hb dmX13_read_322 (lv_at hl 7 rfl) ?_
        refine lv_iadd hx hb dmX13_read_324 ?_
        refine lv_iand hx hb dmX13_read_325 ?_
        refine lv_if_ne (tgt := 341) hx hb dmX13_read_326 (by decide) (fun hc => ?_) (fun hc => ?_)
        · have hq := tw_if hq hc
          refine lv_iload hx hb dmX13_read_341 (lv_at hl 4 rfl) ?_
          exact mw_iret hx hb hr hlocks hM hq hQQ dmX13_read_343
        · have hq := tw_it hq hc
          refine lv_aload_n hx hb dmX13_read_329 rfl (lv_at hl 0 rfl) ?_
          refine mg13_127 hx hb hT hown hK hM dmX13_read_330 ?_
          refine lv_iload hx hb dmX13_read_333 (lv_at hl 8 rfl) ?_
          refine tw_iald mX_ok hx hb hK hM mr_17 hq dmX13_read_335 (fun v36 hq => ?_)
          refine lv_iload hx hb dmX13_read_336 (lv_at hl 6 rfl) ?_
          refine lv_icmp_eq (tgt := 344) hx hb dmX13_read_338 (by decide) (fun hc => ?_) (fun hc => ?_)
          · have hq := tw_it hq hc
            refine lv_aload_n hx hb dmX13_read_344 rfl (lv_at hl 0 rfl) ?_
            refine mg13_133 hx hb hT hown hK hM dmX13_read_345 ?_
            refine lv_iload hx hb dmX13_read_348 (lv_at hl 8 rfl) ?_
            refine lv_dup2_11 hx hb dmX13_read_350 rfl rfl ?_
            refine tw_iald mX_ok hx hb hK hM mr_19 hq dmX13_read_351 (fun v37 hq => ?_)
            refine lv_iconst (v := 1) hx hb dmX13_read_352 (by decide) ?_
            refine lv_iload hx hb dmX13_read_353 (lv_at hl 7 rfl) ?_
            refine lv_iadd hx hb dmX13_read_355 ?_
            refine lv_ior hx hb dmX13_read_356 ?_
            refine tw_iast mX_ok hU hx hb hK hM mr_19 hq dmX13_read_357 (fun z38 H locs hM hq => ?_)
            refine lv_aload_n hx hb dmX13_read_358 rfl (lv_at hl 0 rfl) ?_
            refine mg13_121 hx hb hT hown hK hM dmX13_read_359 ?_
            refine mg13_35 hx hb hT hown hK hM hN mw_n3 dmX13_read_362 ?_
            refine lv_iload hx hb dmX13_read_365 (lv_at hl 8 rfl) ?_
            refine lv_iload hx hb dmX13_read_367 (lv_at hl 6 rfl) ?_
            refine tw_iast mX_ok hU hx hb hK hM (mrn_6 mw_n3) hq dmX13_read_369 (fun z39 H locs hM hq => ?_)
            refine lv_aload_n hx hb dmX13_read_370 rfl (lv_at hl 0 rfl) ?_
            refine mg13_121 hx hb hT hown hK hM dmX13_read_371 ?_
            refine lv_iload hx hb dmX13_read_374 (lv_at hl 8 rfl) ?_
            refine lv_iload hx hb dmX13_read_376 (lv_at hl 7 rfl) ?_
            obtain ⟨z40, hcq, hq⟩ := tw_cl0 hq
            refine tw_calv hM (va_runV (As := [.int x8, .int x7]) (rest := []) ⟨hx, hb, hml, hown, hts⟩ (km_X12_add l D q u hU K 3000 x8 x7 mw_n3 z39 z40 hcq) (cwV 2 hts (tw_gV wM_good wq_87 wq_15 wq_16 wq_13 wq_6) rfl rfl rfl cd_X12_add ⟨(Nat.le_of_ble_eq_true rfl), (Nat.le_of_ble_eq_true rfl)⟩) (mw_preV hK hN hM (mo_n mw_n3) rfl) rfl rfl hl.1 rfl (lv_room (Nat.le_of_ble_eq_true rfl)) dmX13_read_378 ⟨(Nat.le_of_ble_eq_true rfl), (Nat.le_of_ble_eq_true rfl)⟩) (fun H locs hM => ?_)
            refine lv_goto (tgt := 11) hx hb dmX13_read_381 (by decide) ?_
            exact ih_1 x1 x2 0 0 0 0 0 0 0 z40 H locs ls hM (lv_sub hl [0, 1, 2] rfl) hq
          · have hq := tw_if hq hc
            refine lv_iload hx hb dmX13_read_341 (lv_at hl 4 rfl) ?_
            exact mw_iret hx hb hr hlocks hM hq hQQ dmX13_read_343
      · intro x1 x2 x3 x4 x5 x6 x7 x8 t0 z H locs ls  hM hl hq
        have hq : qm_X13_read_10 K (q_X13_read K k) x1 x2 x3 x4 x5 x6 x7 x8 t0 z = some (r, z1) := hq
        unfold qm_X13_read_10 at hq
        refine lv_iload hx hb dmX13_read_401 (lv_at hl 4 rfl) ?_
        refine lv_iload_n hx hb dmX13_read_403 rfl (lv_at hl 1 rfl) ?_
        refine lv_icmp_ge (tgt := 436) hx hb dmX13_read_404 (by decide) (fun hc => ?_) (fun hc => ?_)
        · have hq := tw_it hq hc
          refine lv_iload_n hx hb dmX13_read_436 rfl (lv_at hl 3 rfl) ?_
          refine lv_aload_n hx hb dmX13_read_437 rfl (lv_at hl 0 rfl) ?_
          refine mg13_400 hx hb hT hown hK hM hq dmX13_read_438 (fun v41 hq => ?_)
          refine lv_icmp_gt (tgt := 446) hx hb dmX13_read_441 (by decide) (fun hc => ?_) (fun hc => ?_)
          · have hq := tw_it hq hc
            refine lv_aload_n hx hb dmX13_read_446 rfl (lv_at hl 0 rfl) ?_
            refine mg13_121 hx hb hT hown hK hM dmX13_read_447 ?_
            obtain ⟨z42, hcq, hq⟩ := tw_cl0 hq
            refine tw_calv hM (va_runV (As := []) (rest := []) ⟨hx, hb, hml, hown, hts⟩ (km_X12_link l D q u hU K 3000 mw_n3 z z42 hcq) (cwV 0 hts (tw_gV wM_good wq_77 wq_78 wq_79 wq_13 wq_30) rfl rfl rfl cd_X12_link ⟨(Nat.le_of_ble_eq_true rfl), (Nat.le_of_ble_eq_true rfl)⟩) (mw_preV hK hN hM (mo_n mw_n3) rfl) rfl rfl hl.1 rfl (lv_room (Nat.le_of_ble_eq_true rfl)) dmX13_read_450 ⟨(Nat.le_of_ble_eq_true rfl), (Nat.le_of_ble_eq_true rfl)⟩) (fun H locs hM => ?_)
            refine lv_aload_n hx hb dmX13_read_453 rfl (lv_at hl 0 rfl) ?_
            refine mg13_121 hx hb hT hown hK hM dmX13_read_454 ?_
            obtain ⟨v44, z43, hcq, hq⟩ := tw_cl1 hq
            refine tw_cali hM (va_runV (As := []) (rest := []) ⟨hx, hb, hml, hown, hts⟩ (km_X12_isPlane l D q u hU K 3000 mw_n3 z42 z43 v44 hcq) (cwV 0 hts (tw_gV wM_good wq_116 wq_117 wq_118 wq_13 wq_47) rfl rfl rfl cd_X12_isPlane ⟨(Nat.le_of_ble_eq_true rfl), (Nat.le_of_ble_eq_true rfl)⟩) (mw_preV hK hN hM (mo_n mw_n3) rfl) rfl rfl hl.1 rfl (lv_room (Nat.le_of_ble_eq_true rfl)) dmX13_read_457 ⟨(Nat.le_of_ble_eq_true rfl), (Nat.le_of_ble_eq_true rfl)⟩) (fun H locs hM => ?_)
            refine lv_if_eq (tgt := 467) hx hb dmX13_read_460 (by decide) (fun hc => ?_) (fun hc => ?_)
            · have hq := tw_it hq hc
              refine lv_aload_n hx hb dmX13_read_467 rfl (lv_at hl 0 rfl) ?_
              refine mg13_400 hx hb hT hown hK hM hq dmX13_read_468 (fun v45 hq => ?_)
              exact mw_iret hx hb hr hlocks hM hq hQQ dmX13_read_471
            · have hq := tw_if hq hc
              refine lv_iconst (v := (-1)) hx hb dmX13_read_463 (by decide) ?_
              refine lv_goto (tgt := 471) hx hb dmX13_read_464 (by decide) ?_
              exact mw_iret hx hb hr hlocks hM hq hQQ dmX13_read_471
          · have hq := tw_if hq hc
            refine lv_iload_n hx hb dmX13_read_444 rfl (lv_at hl 3 rfl) ?_
            exact mw_iret hx hb hr hlocks hM hq hQQ dmX13_read_445
        · have hq := tw_if hq hc
          refine lv_aload_n hx hb dmX13_read_407 rfl (lv_at hl 0 rfl) ?_
          refine mg13_133 hx hb hT hown hK hM dmX13_read_408 ?_
          refine lv_iload hx hb dmX13_read_411 (lv_at hl 4 rfl) ?_
          refine tw_iald mX_ok hx hb hK hM mr_19 hq dmX13_read_413 (fun v46 hq => ?_)
          refine lv_iconst (v := 3) hx hb dmX13_read_414 (by decide) ?_
          refine lv_icmp_eq (tgt := 430) hx hb dmX13_read_415 (by decide) (fun hc => ?_) (fun hc => ?_)
          · have hq := tw_it hq hc
            exact ih_11 x1 x2 x3 x4 0 0 0 0 0 z H locs ls hM (lv_sub hl [0, 1, 2, 3, 4] rfl) hq
          · have hq := tw_if hq hc
            refine lv_iload_n hx hb dmX13_read_418 rfl (lv_at hl 3 rfl) ?_
            refine lv_aload_n hx hb dmX13_read_419 rfl (lv_at hl 0 rfl) ?_
            refine mg13_130 hx hb hT hown hK hM dmX13_read_420 ?_
            refine lv_iload hx hb dmX13_read_423 (lv_at hl 4 rfl) ?_
            refine tw_iald mX_ok hx hb hK hM mr_18 hq dmX13_read_425 (fun v47 hq => ?_)
            refine va_mmin hx hb (by rw [hml]; exact hl.1.symm) hown (hT _ wq_65) (hT _ wq_66) (hT _ wq_67) (hT _ wq_68) (Nat.le_of_ble_eq_true rfl) (by decide) (Nat.le_of_ble_eq_true rfl) (Nat.le_of_ble_eq_true rfl) dmX13_read_426 ?_
            refine lv_istore_n (lv' := [(3, .int (if v47 < x3 then v47 else x3)), (0, .ref (u 0)), (1, .int x1), (2, .int x2), (4, .int x4)]) hx hb dmX13_read_429 rfl hl (by decide) rfl (fun ls hl => ?_)
            exact ih_11 x1 x2 (if v47 < x3 then v47 else x3) x4 0 0 0 0 0 z H locs ls hM (lv_sub hl [1, 2, 3, 0, 4] rfl) hq
      · intro x1 x2 x3 x4 x5 x6 x7 x8 t0 z H locs ls  hM hl hq
        have hq : qm_X13_read_11 K (q_X13_read K k) x1 x2 x3 x4 x5 x6 x7 x8 t0 z = some (r, z1) := hq
        unfold qm_X13_read_11 at hq
        refine lv_iinc (v := (x4 + 1)) (lv' := [(4, .int (x4 + 1)), (0, .ref (u 0)), (1, .int x1), (2, .int x2), (3, .int x3)]) hx hb dmX13_read_430 hl (k := 4) rfl rfl (by decide) rfl (fun ls hl => ?_)
        refine lv_goto (tgt := 401) hx hb dmX13_read_433 (by decide) ?_
        exact ih_10 x1 x2 x3 (x4 + 1) 0 0 0 0 0 z H locs ls hM (lv_sub hl [1, 2, 3, 4, 0] rfl) hq
  exact (key K).1 0 0 0 0 0 0 0 0 0 z s.heap [] ls  hM (lv_sub hl [0] rfl) hq
theorem dmX13_diagram_0 : decode cX13_diagram 0 = .ok (.aload_n 0, 1) := dw_at cX13_diagram_k0 (p := 0) rfl (by decide +kernel)
theorem dmX13_diagram_1 : decode cX13_diagram 1 = .ok (.iconst 0, 1) := dw_at cX13_diagram_k0 (p := 1) rfl (by decide +kernel)
theorem dmX13_diagram_2 : decode cX13_diagram 2 = .ok (.putfield 1, 3) := dw_at cX13_diagram_k0 (p := 2) rfl (by decide +kernel)
theorem dmX13_diagram_5 : decode cX13_diagram 5 = .ok (.aload_n 0, 1) := dw_at cX13_diagram_k0 (p := 5) rfl (by decide +kernel)
theorem dmX13_diagram_6 : decode cX13_diagram 6 = .ok (.invokevirtual 392, 3) := dw_at cX13_diagram_k0 (p := 6) rfl (by decide +kernel)
theorem dmX13_diagram_9 : decode cX13_diagram 9 = .ok (.iconst (-1), 1) := dw_at cX13_diagram_k0 (p := 9) rfl (by decide +kernel)
theorem dmX13_diagram_10 : decode cX13_diagram 10 = .ok (.if_icmp .ne 9, 3) := dw_at cX13_diagram_k0 (p := 10) rfl (by decide +kernel)
theorem dmX13_diagram_13 : decode cX13_diagram 13 = .ok (.aload_n 0, 1) := dw_at cX13_diagram_k0 (p := 13) rfl (by decide +kernel)
theorem dmX13_diagram_14 : decode cX13_diagram 14 = .ok (.iconst 1, 1) := dw_at cX13_diagram_k0 (p := 14) rfl (by decide +kernel)
theorem dmX13_diagram_15 : decode cX13_diagram 15 = .ok (.invokevirtual 403, 3) := dw_at cX13_diagram_k0 (p := 15) rfl (by decide +kernel)
theorem dmX13_diagram_18 : decode cX13_diagram 18 = .ok (.ireturn, 1) := dw_at cX13_diagram_k0 (p := 18) rfl (by decide +kernel)
theorem dmX13_diagram_19 : decode cX13_diagram 19 = .ok (.aload_n 0, 1) := dw_at cX13_diagram_k0 (p := 19) rfl (by decide +kernel)
theorem dmX13_diagram_20 : decode cX13_diagram 20 = .ok (.invokevirtual 417, 3) := dw_at cX13_diagram_k0 (p := 20) rfl (by decide +kernel)
theorem dmX13_diagram_23 : decode cX13_diagram 23 = .ok (.istore_n 1, 1) := dw_at cX13_diagram_k0 (p := 23) rfl (by decide +kernel)
theorem dmX13_diagram_24 : decode cX13_diagram 24 = .ok (.aload_n 0, 1) := dw_at cX13_diagram_k1 (p := 0) rfl (by decide +kernel)
theorem dmX13_diagram_25 : decode cX13_diagram 25 = .ok (.iconst 0, 1) := dw_at cX13_diagram_k1 (p := 1) rfl (by decide +kernel)
theorem dmX13_diagram_26 : decode cX13_diagram 26 = .ok (.putfield 400, 3) := dw_at cX13_diagram_k1 (p := 2) rfl (by decide +kernel)
theorem dmX13_diagram_29 : decode cX13_diagram 29 = .ok (.iload_n 1, 1) := dw_at cX13_diagram_k1 (p := 5) rfl (by decide +kernel)
theorem dmX13_diagram_30 : decode cX13_diagram 30 = .ok (.iconst (-1), 1) := dw_at cX13_diagram_k1 (p := 6) rfl (by decide +kernel)
theorem dmX13_diagram_31 : decode cX13_diagram 31 = .ok (.if_icmp .eq 9, 3) := dw_at cX13_diagram_k1 (p := 7) rfl (by decide +kernel)
theorem dmX13_diagram_34 : decode cX13_diagram 34 = .ok (.iconst (-1), 1) := dw_at cX13_diagram_k1 (p := 10) rfl (by decide +kernel)
theorem dmX13_diagram_35 : decode cX13_diagram 35 = .ok (.iload_n 1, 1) := dw_at cX13_diagram_k1 (p := 11) rfl (by decide +kernel)
theorem dmX13_diagram_36 : decode cX13_diagram 36 = .ok (.isub, 1) := dw_at cX13_diagram_k1 (p := 12) rfl (by decide +kernel)
theorem dmX13_diagram_37 : decode cX13_diagram 37 = .ok (.goto 7, 3) := dw_at cX13_diagram_k1 (p := 13) rfl (by decide +kernel)
theorem dmX13_diagram_40 : decode cX13_diagram 40 = .ok (.aload_n 0, 1) := dw_at cX13_diagram_k1 (p := 16) rfl (by decide +kernel)
theorem dmX13_diagram_41 : decode cX13_diagram 41 = .ok (.invokevirtual 420, 3) := dw_at cX13_diagram_k1 (p := 17) rfl (by decide +kernel)
theorem dmX13_diagram_44 : decode cX13_diagram 44 = .ok (.ireturn, 1) := dw_at cX13_diagram_k1 (p := 20) rfl (by decide +kernel)
def qm_X13_diagram_0 (K : Nat)  (z : ow_MS) : Option (Int32 × ow_MS) :=
 wrF z 1 0 fun z1 => cs1 (qe_X13_free K z1) fun v3 z2 => (if v3 = (-1) then cs1 (qe_X13_fails K 1 z2) fun v10 z9 => some (v10, z9)
 else cs1 (qe_X13_read K z2) fun v5 z4 => wrF z4 11 0 fun z6 => (if v5 = (-1) then cs1 (qe_X13_keep K z6) fun v8 z7 => some (v8, z7)
 else some (((-1) - v5), z6)))
def qe_X13_diagram (K : Nat)  (z : ow_MS) : Option (Int32 × ow_MS) := qm_X13_diagram_0 K z
abbrev wm_X13_diagram : List Cond := .code yX13_diagram cX13_diagram 2 (some .int) :: wM
theorem cd_X13_diagram : yX13_diagram.cls = RX13 ∧ yX13_diagram.cls ≠ "java/lang/invoke/MethodHandle" ∧ yX13_diagram.cls ≠ "java/lang/invoke/VarHandle" ∧ (parseMethodDescriptor yX13_diagram.desc).map (fun d => d.parameters.length) = some 0 := by decide +kernel
set_option maxHeartbeats 4000000 in
set_option maxRecDepth 100000 in
theorem km_X13_diagram (l : Launch) (D : va_G) (q : ow_Q5) (u : Nat → Nat) (hU : tw_inj mX u) (K : Nat)   (z z1 : ow_MS) (r : Int32) (hq : qe_X13_diagram K  z = some (r, z1)) : Met l yX13_diagram wm_X13_diagram ({ frames := 5, cells := 0, slots := 0, locals := 132 } : Room) (va_Pc [.ref (u 0)] (mw_pre D q u z)) (va_Qi (fun x (_ : Unit) => x = r) (fun _ t => va_P D vwCl (tw mX q u z1) t.heap) (tw_A mX u)) 0 0 (tw_A mX u) := by
  refine Met.ofW (cc := cX13_diagram) (maxL := 2) (ret := (some .int)) (by decide) rfl ?_
  intro p e s m args below meth c s₁ B hml hv
  obtain ⟨rfl, hP, hK, hN⟩ := hv
  have hx := B.exec
  have hb := B.bytes
  have hr := B.returns
  have hts := atoms_spec (ws := wm_X13_diagram) B.pre
  have hT : ∀ w ∈ wM, w.before ([.ref (u 0)] : List Value).toArray s = true := fun w h => hts w (List.mem_cons_of_mem _ h)
  have hown : s.vm.findClass RX13 = some m.cls := findClass_of_methodNamed B.named
  have hlocks := B.notSynchronized
  have hM : tw_M D vwCl mX q s.heap u z s.heap [] := ⟨hP, va_S.rf⟩
  have hl := lv_entry ([.ref (u 0)]) (n := 2) (Nat.le_of_ble_eq_true rfl)
  rw [lg_entry_eq]
  generalize (lg_sl ([.ref (u 0)]) ++ List.replicate (2 - (lg_sl ([.ref (u 0)])).length) Slot.unset).toArray = ls at hl ⊢
  have hl : lv_has ls 2 [(0, .ref (u 0))] := hl
  refine ow_named (fun QQ hQQ => ?_)
  generalize ([.ref (u 0)] : List Value).toArray = args at hts hT hQQ ⊢
  have hq : qm_X13_diagram_0 K  z = some (r, z1) := hq
  unfold qm_X13_diagram_0 at hq
  suffices key : ∀ (H : Heap) (locs : List Loc), tw_M D vwCl mX q s.heap u z H locs → W p l e ({ frames := 5, cells := 0, slots := 0, locals := 132 } : Room) s m args below meth c H locs 0 0 QQ (F0 m 0 ls []) from key s.heap [] hM
  intro H locs hM
  refine lv_aload_n hx hb dmX13_diagram_0 rfl (lv_at hl 0 rfl) ?_
  refine lv_iconst (v := 0) hx hb dmX13_diagram_1 (by decide) ?_
  refine mp13_1 hx hb hT hown hK hM hU hq dmX13_diagram_2 (fun z1 H locs hM hq => ?_)
  refine lv_aload_n hx hb dmX13_diagram_5 rfl (lv_at hl 0 rfl) ?_
  obtain ⟨v3, z2, hcq, hq⟩ := tw_cl1 hq
  refine tw_cali hM (va_runV (As := []) (rest := []) ⟨hx, hb, hml, hown, hts⟩ (km_X13_free l D q u hU K z1 z2 v3 hcq) (cwV 0 hts (tw_gV wM_good wq_93 wq_94 wq_95 wq_61 wq_91) rfl rfl rfl cd_X13_free ⟨(Nat.le_of_ble_eq_true rfl), (Nat.le_of_ble_eq_true rfl)⟩) (mw_preV hK hN hM mo_0 rfl) rfl rfl hl.1 rfl (lv_room (Nat.le_of_ble_eq_true rfl)) dmX13_diagram_6 ⟨(Nat.le_of_ble_eq_true rfl), (Nat.le_of_ble_eq_true rfl)⟩) (fun H locs hM => ?_)
  refine lv_iconst (v := (-1)) hx hb dmX13_diagram_9 (by decide) ?_
  refine lv_icmp_ne (tgt := 19) hx hb dmX13_diagram_10 (by decide) (fun hc => ?_) (fun hc => ?_)
  · have hq := tw_if hq hc
    refine lv_aload_n hx hb dmX13_diagram_19 rfl (lv_at hl 0 rfl) ?_
    obtain ⟨v5, z4, hcq, hq⟩ := tw_cl1 hq
    refine tw_cali hM (va_runV (As := []) (rest := []) ⟨hx, hb, hml, hown, hts⟩ (km_X13_read l D q u hU K z2 z4 v5 hcq) (cwV 0 hts (tw_gV wM_good wq_120 wq_121 wq_122 wq_61 wq_119) rfl rfl rfl cd_X13_read ⟨(Nat.le_of_ble_eq_true rfl), (Nat.le_of_ble_eq_true rfl)⟩) (mw_preV hK hN hM mo_0 rfl) rfl rfl hl.1 rfl (lv_room (Nat.le_of_ble_eq_true rfl)) dmX13_diagram_20 ⟨(Nat.le_of_ble_eq_true rfl), (Nat.le_of_ble_eq_true rfl)⟩) (fun H locs hM => ?_)
    refine lv_istore_n (lv' := [(1, .int v5), (0, .ref (u 0))]) hx hb dmX13_diagram_23 rfl hl (by decide) rfl (fun ls hl => ?_)
    refine lv_aload_n hx hb dmX13_diagram_24 rfl (lv_at hl 1 rfl) ?_
    refine lv_iconst (v := 0) hx hb dmX13_diagram_25 (by decide) ?_
    refine mp13_400 hx hb hT hown hK hM hU hq dmX13_diagram_26 (fun z6 H locs hM hq => ?_)
    refine lv_iload_n hx hb dmX13_diagram_29 rfl (lv_at hl 0 rfl) ?_
    refine lv_iconst (v := (-1)) hx hb dmX13_diagram_30 (by decide) ?_
    refine lv_icmp_eq (tgt := 40) hx hb dmX13_diagram_31 (by decide) (fun hc => ?_) (fun hc => ?_)
    · have hq := tw_it hq hc
      refine lv_aload_n hx hb dmX13_diagram_40 rfl (lv_at hl 1 rfl) ?_
      obtain ⟨v8, z7, hcq, hq⟩ := tw_cl1 hq
      refine tw_cali hM (va_runV (As := []) (rest := []) ⟨hx, hb, hml, hown, hts⟩ (km_X13_keep l D q u hU K z6 z7 v8 hcq) (cwV 0 hts (tw_gV wM_good wq_123 wq_124 wq_125 wq_61 wq_99) rfl rfl rfl cd_X13_keep ⟨(Nat.le_of_ble_eq_true rfl), (Nat.le_of_ble_eq_true rfl)⟩) (mw_preV hK hN hM mo_0 rfl) rfl rfl hl.1 rfl (lv_room (Nat.le_of_ble_eq_true rfl)) dmX13_diagram_41 ⟨(Nat.le_of_ble_eq_true rfl), (Nat.le_of_ble_eq_true rfl)⟩) (fun H locs hM => ?_)
      exact mw_iret hx hb hr hlocks hM hq hQQ dmX13_diagram_44
    · have hq := tw_if hq hc
      refine lv_iconst (v := (-1)) hx hb dmX13_diagram_34 (by decide) ?_
      refine lv_iload_n hx hb dmX13_diagram_35 rfl (lv_at hl 0 rfl) ?_
      refine lv_isub hx hb dmX13_diagram_36 ?_
      refine lv_goto (tgt := 44) hx hb dmX13_diagram_37 (by decide) ?_
      exact mw_iret hx hb hr hlocks hM hq hQQ dmX13_diagram_44
  · have hq := tw_it hq hc
    refine lv_aload_n hx hb dmX13_diagram_13 rfl (lv_at hl 0 rfl) ?_
    refine lv_iconst (v := 1) hx hb dmX13_diagram_14 (by decide) ?_
    obtain ⟨v10, z9, hcq, hq⟩ := tw_cl1 hq
    refine tw_cali hM (va_runV (As := [.int 1]) (rest := []) ⟨hx, hb, hml, hown, hts⟩ (km_X13_fails l D q u hU K 1 z2 z9 v10 hcq) (cwV 1 hts (tw_gV wM_good wq_103 wq_104 wq_105 wq_61 wq_50) rfl rfl rfl cd_X13_fails ⟨(Nat.le_of_ble_eq_true rfl), (Nat.le_of_ble_eq_true rfl)⟩) (mw_preV hK hN hM mo_0 rfl) rfl rfl hl.1 rfl (lv_room (Nat.le_of_ble_eq_true rfl)) dmX13_diagram_15 ⟨(Nat.le_of_ble_eq_true rfl), (Nat.le_of_ble_eq_true rfl)⟩) (fun H locs hM => ?_)
    exact mw_iret hx hb hr hlocks hM hq hQQ dmX13_diagram_18
theorem dmX13_drop_0 : decode cX13_drop 0 = .ok (.aload_n 0, 1) := by decide +kernel
theorem dmX13_drop_1 : decode cX13_drop 1 = .ok (.iconst 0, 1) := by decide +kernel
theorem dmX13_drop_2 : decode cX13_drop 2 = .ok (.putfield 1, 3) := by decide +kernel
theorem dmX13_drop_5 : decode cX13_drop 5 = .ok (.aload_n 0, 1) := by decide +kernel
theorem dmX13_drop_6 : decode cX13_drop 6 = .ok (.iload_n 1, 1) := by decide +kernel
theorem dmX13_drop_7 : decode cX13_drop 7 = .ok (.invokevirtual 423, 3) := by decide +kernel
theorem dmX13_drop_10 : decode cX13_drop 10 = .ok (.istore_n 2, 1) := by decide +kernel
theorem dmX13_drop_11 : decode cX13_drop 11 = .ok (.iload_n 2, 1) := by decide +kernel
theorem dmX13_drop_12 : decode cX13_drop 12 = .ok (.ifCond .eq 13, 3) := by decide +kernel
theorem dmX13_drop_15 : decode cX13_drop 15 = .ok (.aload_n 0, 1) := by decide +kernel
theorem dmX13_drop_16 : decode cX13_drop 16 = .ok (.getfield 110, 3) := by decide +kernel
theorem dmX13_drop_19 : decode cX13_drop 19 = .ok (.bipush 32, 2) := by decide +kernel
theorem dmX13_drop_21 : decode cX13_drop 21 = .ok (.iload_n 1, 1) := by decide +kernel
theorem dmX13_drop_22 : decode cX13_drop 22 = .ok (.imul, 1) := by decide +kernel
theorem dmX13_drop_23 : decode cX13_drop 23 = .ok (.iconst 0, 1) := by decide +kernel
theorem dmX13_drop_24 : decode cX13_drop 24 = .ok (.iastore, 1) := by decide +kernel
theorem dmX13_drop_25 : decode cX13_drop 25 = .ok (.iload_n 2, 1) := by decide +kernel
theorem dmX13_drop_26 : decode cX13_drop 26 = .ok (.ireturn, 1) := by decide +kernel
def qm_X13_drop_0 (K : Nat) (x1 : Int32) (z : ow_MS) : Option (Int32 × ow_MS) :=
 wrF z 1 0 fun z1 => cs1 (qe_X13_has K x1 z1) fun v3 z2 => (if v3 = 0 then okZ v3 (some (v3, z2))
 else wrI mX z2 12 (32 * x1) 0 fun z4 => okZ v3 (some (v3, z4)))
def qe_X13_drop (K : Nat) (x1 : Int32) (z : ow_MS) : Option (Int32 × ow_MS) := qm_X13_drop_0 K x1 z
abbrev wm_X13_drop : List Cond := .code yX13_drop cX13_drop 3 (some .boolean) :: wM
theorem cd_X13_drop : yX13_drop.cls = RX13 ∧ yX13_drop.cls ≠ "java/lang/invoke/MethodHandle" ∧ yX13_drop.cls ≠ "java/lang/invoke/VarHandle" ∧ (parseMethodDescriptor yX13_drop.desc).map (fun d => d.parameters.length) = some 1 := by decide +kernel
set_option maxHeartbeats 4000000 in
set_option maxRecDepth 100000 in
theorem km_X13_drop (l : Launch) (D : va_G) (q : ow_Q5) (u : Nat → Nat) (hU : tw_inj mX u) (K : Nat) (x1 : Int32)  (z z1 : ow_MS) (r : Int32) (hq : qe_X13_drop K x1 z = some (r, z1)) : Met l yX13_drop wm_X13_drop ({ frames := 1, cells := 0, slots := 0, locals := 21 } : Room) (va_Pc [.ref (u 0), .int x1] (mw_pre D q u z)) (va_Qi (fun x (_ : Unit) => x = r) (fun _ t => va_P D vwCl (tw mX q u z1) t.heap) (tw_A mX u)) 0 0 (tw_A mX u) := by
  refine Met.ofW (cc := cX13_drop) (maxL := 3) (ret := (some .boolean)) (by decide) rfl ?_
  intro p e s m args below meth c s₁ B hml hv
  obtain ⟨rfl, hP, hK, hN⟩ := hv
  have hx := B.exec
  have hb := B.bytes
  have hr := B.returns
  have hts := atoms_spec (ws := wm_X13_drop) B.pre
  have hT : ∀ w ∈ wM, w.before ([.ref (u 0), .int x1] : List Value).toArray s = true := fun w h => hts w (List.mem_cons_of_mem _ h)
  have hown : s.vm.findClass RX13 = some m.cls := findClass_of_methodNamed B.named
  have hlocks := B.notSynchronized
  have hM : tw_M D vwCl mX q s.heap u z s.heap [] := ⟨hP, va_S.rf⟩
  have hl := lv_entry ([.ref (u 0), .int x1]) (n := 3) (Nat.le_of_ble_eq_true rfl)
  rw [lg_entry_eq]
  generalize (lg_sl ([.ref (u 0), .int x1]) ++ List.replicate (3 - (lg_sl ([.ref (u 0), .int x1])).length) Slot.unset).toArray = ls at hl ⊢
  have hl : lv_has ls 3 [(0, .ref (u 0)), (1, .int x1)] := hl
  refine ow_named (fun QQ hQQ => ?_)
  generalize ([.ref (u 0), .int x1] : List Value).toArray = args at hts hT hQQ ⊢
  have hq : qm_X13_drop_0 K x1 z = some (r, z1) := hq
  unfold qm_X13_drop_0 at hq
  suffices key : ∀ (H : Heap) (locs : List Loc), tw_M D vwCl mX q s.heap u z H locs → W p l e ({ frames := 1, cells := 0, slots := 0, locals := 21 } : Room) s m args below meth c H locs 0 0 QQ (F0 m 0 ls []) from key s.heap [] hM
  intro H locs hM
  refine lv_aload_n hx hb dmX13_drop_0 rfl (lv_at hl 0 rfl) ?_
  refine lv_iconst (v := 0) hx hb dmX13_drop_1 (by decide) ?_
  refine mp13_1 hx hb hT hown hK hM hU hq dmX13_drop_2 (fun z1 H locs hM hq => ?_)
  refine lv_aload_n hx hb dmX13_drop_5 rfl (lv_at hl 0 rfl) ?_
  refine lv_iload_n hx hb dmX13_drop_6 rfl (lv_at hl 1 rfl) ?_
  obtain ⟨v3, z2, hcq, hq⟩ := tw_cl1 hq
  refine tw_cali hM (va_runV (As := [.int x1]) (rest := []) ⟨hx, hb, hml, hown, hts⟩ (km_X13_has l D q u hU K x1 z1 z2 v3 hcq) (cwV 1 hts (tw_gV wM_good wq_127 wq_128 wq_129 wq_61 wq_90) rfl rfl rfl cd_X13_has ⟨(Nat.le_of_ble_eq_true rfl), (Nat.le_of_ble_eq_true rfl)⟩) (mw_preV hK hN hM mo_0 rfl) rfl rfl hl.1 rfl (lv_room (Nat.le_of_ble_eq_true rfl)) dmX13_drop_7 ⟨(Nat.le_of_ble_eq_true rfl), (Nat.le_of_ble_eq_true rfl)⟩) (fun H locs hM => ?_)
  refine lv_istore_n (lv' := [(2, .int v3), (0, .ref (u 0)), (1, .int x1)]) hx hb dmX13_drop_10 rfl hl (by decide) rfl (fun ls hl => ?_)
  refine lv_iload_n hx hb dmX13_drop_11 rfl (lv_at hl 0 rfl) ?_
  refine lv_if_eq (tgt := 25) hx hb dmX13_drop_12 (by decide) (fun hc => ?_) (fun hc => ?_)
  · have hq := tw_it hq hc
    refine lv_iload_n hx hb dmX13_drop_25 rfl (lv_at hl 0 rfl) ?_
    obtain ⟨hz, hq⟩ := tw_gZ hq
    exact mw_zret hx hb hr hlocks hM hz hq hQQ dmX13_drop_26
  · have hq := tw_if hq hc
    refine lv_aload_n hx hb dmX13_drop_15 rfl (lv_at hl 1 rfl) ?_
    refine mg13_110 hx hb hT hown hK hM dmX13_drop_16 ?_
    refine lv_bipush (v := 32) hx hb dmX13_drop_19 (by decide) ?_
    refine lv_iload_n hx hb dmX13_drop_21 rfl (lv_at hl 2 rfl) ?_
    refine lv_imul hx hb dmX13_drop_22 ?_
    refine lv_iconst (v := 0) hx hb dmX13_drop_23 (by decide) ?_
    refine tw_iast mX_ok hU hx hb hK hM mr_12 hq dmX13_drop_24 (fun z4 H locs hM hq => ?_)
    refine lv_iload_n hx hb dmX13_drop_25 rfl (lv_at hl 0 rfl) ?_
    obtain ⟨hz, hq⟩ := tw_gZ hq
    exact mw_zret hx hb hr hlocks hM hz hq hQQ dmX13_drop_26
theorem dmX13_circlesOf_0 : decode cX13_circlesOf 0 = .ok (.iconst 0, 1) := by decide +kernel
theorem dmX13_circlesOf_1 : decode cX13_circlesOf 1 = .ok (.istore_n 2, 1) := by decide +kernel
theorem dmX13_circlesOf_2 : decode cX13_circlesOf 2 = .ok (.iconst 0, 1) := by decide +kernel
theorem dmX13_circlesOf_3 : decode cX13_circlesOf 3 = .ok (.istore_n 3, 1) := by decide +kernel
theorem dmX13_circlesOf_4 : decode cX13_circlesOf 4 = .ok (.iload_n 3, 1) := by decide +kernel
theorem dmX13_circlesOf_5 : decode cX13_circlesOf 5 = .ok (.aload_n 1, 1) := by decide +kernel
theorem dmX13_circlesOf_6 : decode cX13_circlesOf 6 = .ok (.getfield 407, 3) := by decide +kernel
theorem dmX13_circlesOf_9 : decode cX13_circlesOf 9 = .ok (.if_icmp .ge 25, 3) := by decide +kernel
theorem dmX13_circlesOf_12 : decode cX13_circlesOf 12 = .ok (.iload_n 2, 1) := by decide +kernel
theorem dmX13_circlesOf_13 : decode cX13_circlesOf 13 = .ok (.aload_n 1, 1) := by decide +kernel
theorem dmX13_circlesOf_14 : decode cX13_circlesOf 14 = .ok (.iload_n 3, 1) := by decide +kernel
theorem dmX13_circlesOf_15 : decode cX13_circlesOf 15 = .ok (.invokevirtual 427, 3) := by decide +kernel
theorem dmX13_circlesOf_18 : decode cX13_circlesOf 18 = .ok (.ifCond .eq 7, 3) := by decide +kernel
theorem dmX13_circlesOf_21 : decode cX13_circlesOf 21 = .ok (.iconst 1, 1) := by decide +kernel
theorem dmX13_circlesOf_22 : decode cX13_circlesOf 22 = .ok (.goto 4, 3) := by decide +kernel
theorem dmX13_circlesOf_25 : decode cX13_circlesOf 25 = .ok (.iconst 0, 1) := by decide +kernel
theorem dmX13_circlesOf_26 : decode cX13_circlesOf 26 = .ok (.iadd, 1) := by decide +kernel
theorem dmX13_circlesOf_27 : decode cX13_circlesOf 27 = .ok (.istore_n 2, 1) := by decide +kernel
theorem dmX13_circlesOf_28 : decode cX13_circlesOf 28 = .ok (.iinc 3 1, 3) := by decide +kernel
theorem dmX13_circlesOf_31 : decode cX13_circlesOf 31 = .ok (.goto (-27), 3) := by decide +kernel
theorem dmX13_circlesOf_34 : decode cX13_circlesOf 34 = .ok (.iload_n 2, 1) := by decide +kernel
theorem dmX13_circlesOf_35 : decode cX13_circlesOf 35 = .ok (.ireturn, 1) := by decide +kernel
def qm_X13_circlesOf_0 (K : Nat) (go : Nat → Int32 → Int32 → Nat → Int32 → Int32 → ow_MS → Option (Int32 × ow_MS)) (x2 : Int32) (x3 : Int32) (r1 : Nat) (t0 : Int32) (t1 : Int32) (z : ow_MS) : Option (Int32 × ow_MS) :=
 go 1 0 0 r1 0 0 z
def qm_X13_circlesOf_1 (K : Nat) (go : Nat → Int32 → Int32 → Nat → Int32 → Int32 → ow_MS → Option (Int32 × ow_MS)) (x2 : Int32) (x3 : Int32) (r1 : Nat) (t0 : Int32) (t1 : Int32) (z : ow_MS) : Option (Int32 × ow_MS) :=
 rdF z (r1 + 2) fun v1 => (if v1 ≤ x3 then some (x2, z)
 else cs1 (qe_X12_isCircle K r1 x3 z) fun v3 z2 => (if v3 = 0 then go 2 x2 x3 r1 0 x2 z2
 else go 2 x2 x3 r1 1 x2 z2))
def qm_X13_circlesOf_2 (K : Nat) (go : Nat → Int32 → Int32 → Nat → Int32 → Int32 → ow_MS → Option (Int32 × ow_MS)) (x2 : Int32) (x3 : Int32) (r1 : Nat) (t0 : Int32) (t1 : Int32) (z : ow_MS) : Option (Int32 × ow_MS) :=
 go 1 (t1 + t0) (x3 + 1) r1 0 0 z
def qb_X13_circlesOf (K : Nat) (go : Nat → Int32 → Int32 → Nat → Int32 → Int32 → ow_MS → Option (Int32 × ow_MS)) (L : Nat) (x2 : Int32) (x3 : Int32) (r1 : Nat) (t0 : Int32) (t1 : Int32) (z : ow_MS) : Option (Int32 × ow_MS) := match L with
  | 0 => qm_X13_circlesOf_0 K go x2 x3 r1 t0 t1 z
  | 1 => qm_X13_circlesOf_1 K go x2 x3 r1 t0 t1 z
  | 2 => qm_X13_circlesOf_2 K go x2 x3 r1 t0 t1 z
  | _ => none
def q_X13_circlesOf (K : Nat) : Nat → Nat → Int32 → Int32 → Nat → Int32 → Int32 → ow_MS → Option (Int32 × ow_MS)
  | 0 => fun _ _ _ _ _ _ _ => none
  | k + 1 => qb_X13_circlesOf K (q_X13_circlesOf K k)
def qe_X13_circlesOf (K : Nat) (r1 : Nat) (z : ow_MS) : Option (Int32 × ow_MS) := q_X13_circlesOf K K 0 0 0 r1 0 0 z
abbrev wm_X13_circlesOf : List Cond := .code yX13_circlesOf cX13_circlesOf 4 (some .int) :: wM
theorem cd_X13_circlesOf : yX13_circlesOf.cls = RX13 ∧ yX13_circlesOf.cls ≠ "java/lang/invoke/MethodHandle" ∧ yX13_circlesOf.cls ≠ "java/lang/invoke/VarHandle" ∧ (parseMethodDescriptor yX13_circlesOf.desc).map (fun d => d.parameters.length) = some 1 := by decide +kernel
set_option maxHeartbeats 4000000 in
set_option maxRecDepth 100000 in
theorem km_X13_circlesOf (l : Launch) (D : va_G) (q : ow_Q5) (u : Nat → Nat) (hU : tw_inj mX u) (K : Nat) (r1 : Nat) (hr1 : mw_net r1) (z z1 : ow_MS) (r : Int32) (hq : qe_X13_circlesOf K r1 z = some (r, z1)) : Met l yX13_circlesOf wm_X13_circlesOf ({ frames := 1, cells := 0, slots := 0, locals := 21 } : Room) (va_Pc [.ref (u 0), .ref (u r1)] (mw_pre D q u z)) (va_Qi (fun x (_ : Unit) => x = r) (fun _ t => va_P D vwCl (tw mX q u z1) t.heap) (tw_A mX u)) 0 0 (tw_A mX u) := by
  refine Met.ofW (cc := cX13_circlesOf) (maxL := 4) (ret := (some .int)) (by decide) rfl ?_
  intro p e s m args below meth c s₁ B hml hv
  obtain ⟨rfl, hP, hK, hN⟩ := hv
  have hx := B.exec
  have hb := B.bytes
  have hr := B.returns
  have hts := atoms_spec (ws := wm_X13_circlesOf) B.pre
  have hT : ∀ w ∈ wM, w.before ([.ref (u 0), .ref (u r1)] : List Value).toArray s = true := fun w h => hts w (List.mem_cons_of_mem _ h)
  have hown : s.vm.findClass RX13 = some m.cls := findClass_of_methodNamed B.named
  have hlocks := B.notSynchronized
  have hM : tw_M D vwCl mX q s.heap u z s.heap [] := ⟨hP, va_S.rf⟩
  have hl := lv_entry ([.ref (u 0), .ref (u r1)]) (n := 4) (Nat.le_of_ble_eq_true rfl)
  rw [lg_entry_eq]
  generalize (lg_sl ([.ref (u 0), .ref (u r1)]) ++ List.replicate (4 - (lg_sl ([.ref (u 0), .ref (u r1)])).length) Slot.unset).toArray = ls at hl ⊢
  have hl : lv_has ls 4 [(0, .ref (u 0)), (1, .ref (u r1))] := hl
  refine ow_named (fun QQ hQQ => ?_)
  generalize ([.ref (u 0), .ref (u r1)] : List Value).toArray = args at hts hT hQQ ⊢
  have key : ∀ k : Nat, (∀ (x2 : Int32) (x3 : Int32) (r1 : Nat) (t0 : Int32) (t1 : Int32) (z : ow_MS) (H : Heap) (locs : List Loc) (ls : Array Slot), mw_net r1 → tw_M D vwCl mX q s.heap u z H locs → lv_has ls 4 [(0, .ref (u 0)), (1, .ref (u r1))] → q_X13_circlesOf K k 0 x2 x3 r1 t0 t1 z = some (r, z1) → W p l e ({ frames := 1, cells := 0, slots := 0, locals := 21 } : Room) s m args below meth c H locs 0 0 QQ (F0 m 0 ls [])) ∧ (∀ (x2 : Int32) (x3 : Int32) (r1 : Nat) (t0 : Int32) (t1 : Int32) (z : ow_MS) (H : Heap) (locs : List Loc) (ls : Array Slot), mw_net r1 → tw_M D vwCl mX q s.heap u z H locs → lv_has ls 4 [(0, .ref (u 0)), (1, .ref (u r1)), (2, .int x2), (3, .int x3)] → q_X13_circlesOf K k 1 x2 x3 r1 t0 t1 z = some (r, z1) → W p l e ({ frames := 1, cells := 0, slots := 0, locals := 21 } : Room) s m args below meth c H locs 0 0 QQ (F0 m 4 ls [])) ∧ (∀ (x2 : Int32) (x3 : Int32) (r1 : Nat) (t0 : Int32) (t1 : Int32) (z : ow_MS) (H : Heap) (locs : List Loc) (ls : Array Slot), mw_net r1 → tw_M D vwCl mX q s.heap u z H locs → lv_has ls 4 [(0, .ref (u 0)), (1, .ref (u r1)), (2, .int x2), (3, .int x3)] → q_X13_circlesOf K k 2 x2 x3 r1 t0 t1 z = some (r, z1) → W p l e ({ frames := 1, cells := 0, slots := 0, locals := 21 } : Room) s m args below meth c H locs 0 0 QQ (F0 m 26 ls [.int t0, .int t1])) := by
    intro k
    induction k with
    | zero => exact ⟨fun _ _ _ _ _ _ _ _ _ _ _ _ hq => tw_no hq, fun _ _ _ _ _ _ _ _ _ _ _ _ hq => tw_no hq, fun _ _ _ _ _ _ _ _ _ _ _ _ hq => tw_no hq⟩
    | succ k ih =>
      obtain ⟨ih_0, ih_1, ih_2⟩ := ih
      refine ⟨?_, ?_, ?_⟩
      · intro x2 x3 r1 t0 t1 z H locs ls hr1 hM hl hq
        have hq : qm_X13_circlesOf_0 K (q_X13_circlesOf K k) x2 x3 r1 t0 t1 z = some (r, z1) := hq
        unfold qm_X13_circlesOf_0 at hq
        refine lv_iconst (v := 0) hx hb dmX13_circlesOf_0 (by decide) ?_
        refine lv_istore_n (lv' := [(2, .int 0), (0, .ref (u 0)), (1, .ref (u r1))]) hx hb dmX13_circlesOf_1 rfl hl (by decide) rfl (fun ls hl => ?_)
        refine lv_iconst (v := 0) hx hb dmX13_circlesOf_2 (by decide) ?_
        refine lv_istore_n (lv' := [(3, .int 0), (2, .int 0), (0, .ref (u 0)), (1, .ref (u r1))]) hx hb dmX13_circlesOf_3 rfl hl (by decide) rfl (fun ls hl => ?_)
        exact ih_1 0 0 r1 0 0 z H locs ls hr1 hM (lv_sub hl [2, 3, 1, 0] rfl) hq
      · intro x2 x3 r1 t0 t1 z H locs ls hr1 hM hl hq
        have hq : qm_X13_circlesOf_1 K (q_X13_circlesOf K k) x2 x3 r1 t0 t1 z = some (r, z1) := hq
        unfold qm_X13_circlesOf_1 at hq
        refine lv_iload_n hx hb dmX13_circlesOf_4 rfl (lv_at hl 3 rfl) ?_
        refine lv_aload_n hx hb dmX13_circlesOf_5 rfl (lv_at hl 1 rfl) ?_
        refine mg13_407 hx hb hT hown hK hM hN hr1 hq dmX13_circlesOf_6 (fun v1 hq => ?_)
        refine lv_icmp_ge (tgt := 34) hx hb dmX13_circlesOf_9 (by decide) (fun hc => ?_) (fun hc => ?_)
        · have hq := tw_it hq hc
          refine lv_iload_n hx hb dmX13_circlesOf_34 rfl (lv_at hl 2 rfl) ?_
          exact mw_iret hx hb hr hlocks hM hq hQQ dmX13_circlesOf_35
        · have hq := tw_if hq hc
          refine lv_iload_n hx hb dmX13_circlesOf_12 rfl (lv_at hl 2 rfl) ?_
          refine lv_aload_n hx hb dmX13_circlesOf_13 rfl (lv_at hl 1 rfl) ?_
          refine lv_iload_n hx hb dmX13_circlesOf_14 rfl (lv_at hl 3 rfl) ?_
          obtain ⟨v3, z2, hcq, hq⟩ := tw_cl1 hq
          refine tw_cali hM (va_runV (As := [.int x3]) (rest := [.int x2]) ⟨hx, hb, hml, hown, hts⟩ (km_X12_isCircle l D q u hU K r1 x3 hr1 z z2 v3 hcq) (cwV 1 hts (tw_gV wM_good wq_131 wq_45 wq_46 wq_13 wq_24) rfl rfl rfl cd_X12_isCircle ⟨(Nat.le_of_ble_eq_true rfl), (Nat.le_of_ble_eq_true rfl)⟩) (mw_preV hK hN hM (mo_n hr1) rfl) rfl rfl hl.1 rfl (lv_room (Nat.le_of_ble_eq_true rfl)) dmX13_circlesOf_15 ⟨(Nat.le_of_ble_eq_true rfl), (Nat.le_of_ble_eq_true rfl)⟩) (fun H locs hM => ?_)
          refine lv_if_eq (tgt := 25) hx hb dmX13_circlesOf_18 (by decide) (fun hc => ?_) (fun hc => ?_)
          · have hq := tw_it hq hc
            refine lv_iconst (v := 0) hx hb dmX13_circlesOf_25 (by decide) ?_
            exact ih_2 x2 x3 r1 0 x2 z2 H locs ls hr1 hM (lv_sub hl [0, 1, 2, 3] rfl) hq
          · have hq := tw_if hq hc
            refine lv_iconst (v := 1) hx hb dmX13_circlesOf_21 (by decide) ?_
            refine lv_goto (tgt := 26) hx hb dmX13_circlesOf_22 (by decide) ?_
            exact ih_2 x2 x3 r1 1 x2 z2 H locs ls hr1 hM (lv_sub hl [0, 1, 2, 3] rfl) hq
      · intro x2 x3 r1 t0 t1 z H locs ls hr1 hM hl hq
        have hq : qm_X13_circlesOf_2 K (q_X13_circlesOf K k) x2 x3 r1 t0 t1 z = some (r, z1) := hq
        unfold qm_X13_circlesOf_2 at hq
        refine lv_iadd hx hb dmX13_circlesOf_26 ?_
        refine lv_istore_n (lv' := [(2, .int (t1 + t0)), (0, .ref (u 0)), (1, .ref (u r1)), (3, .int x3)]) hx hb dmX13_circlesOf_27 rfl hl (by decide) rfl (fun ls hl => ?_)
        refine lv_iinc (v := (x3 + 1)) (lv' := [(3, .int (x3 + 1)), (2, .int (t1 + t0)), (0, .ref (u 0)), (1, .ref (u r1))]) hx hb dmX13_circlesOf_28 hl (k := 3) rfl rfl (by decide) rfl (fun ls hl => ?_)
        refine lv_goto (tgt := 4) hx hb dmX13_circlesOf_31 (by decide) ?_
        exact ih_1 (t1 + t0) (x3 + 1) r1 0 0 z H locs ls hr1 hM (lv_sub hl [2, 3, 1, 0] rfl) hq
  exact (key K).1 0 0 r1 0 0 z s.heap [] ls hr1 hM (lv_sub hl [0, 1] rfl) hq
theorem dmX13_writheOf_0 : decode cX13_writheOf 0 = .ok (.iconst 0, 1) := dw_at cX13_writheOf_k0 (p := 0) rfl (by decide +kernel)
theorem dmX13_writheOf_1 : decode cX13_writheOf 1 = .ok (.istore_n 1, 1) := dw_at cX13_writheOf_k0 (p := 1) rfl (by decide +kernel)
theorem dmX13_writheOf_2 : decode cX13_writheOf 2 = .ok (.iconst 0, 1) := dw_at cX13_writheOf_k0 (p := 2) rfl (by decide +kernel)
theorem dmX13_writheOf_3 : decode cX13_writheOf 3 = .ok (.istore_n 2, 1) := dw_at cX13_writheOf_k0 (p := 3) rfl (by decide +kernel)
theorem dmX13_writheOf_4 : decode cX13_writheOf 4 = .ok (.iload_n 2, 1) := dw_at cX13_writheOf_k0 (p := 4) rfl (by decide +kernel)
theorem dmX13_writheOf_5 : decode cX13_writheOf 5 = .ok (.aload_n 0, 1) := dw_at cX13_writheOf_k0 (p := 5) rfl (by decide +kernel)
theorem dmX13_writheOf_6 : decode cX13_writheOf 6 = .ok (.getfield 44, 3) := dw_at cX13_writheOf_k0 (p := 6) rfl (by decide +kernel)
theorem dmX13_writheOf_9 : decode cX13_writheOf 9 = .ok (.if_icmp .ge 36, 3) := dw_at cX13_writheOf_k0 (p := 9) rfl (by decide +kernel)
theorem dmX13_writheOf_12 : decode cX13_writheOf 12 = .ok (.iload_n 1, 1) := dw_at cX13_writheOf_k0 (p := 12) rfl (by decide +kernel)
theorem dmX13_writheOf_13 : decode cX13_writheOf 13 = .ok (.aload_n 0, 1) := dw_at cX13_writheOf_k0 (p := 13) rfl (by decide +kernel)
theorem dmX13_writheOf_14 : decode cX13_writheOf 14 = .ok (.getfield 32, 3) := dw_at cX13_writheOf_k0 (p := 14) rfl (by decide +kernel)
theorem dmX13_writheOf_17 : decode cX13_writheOf 17 = .ok (.iload_n 2, 1) := dw_at cX13_writheOf_k0 (p := 17) rfl (by decide +kernel)
theorem dmX13_writheOf_18 : decode cX13_writheOf 18 = .ok (.iaload, 1) := dw_at cX13_writheOf_k0 (p := 18) rfl (by decide +kernel)
theorem dmX13_writheOf_19 : decode cX13_writheOf 19 = .ok (.ifCond .ne 17, 3) := dw_at cX13_writheOf_k0 (p := 19) rfl (by decide +kernel)
theorem dmX13_writheOf_22 : decode cX13_writheOf 22 = .ok (.aload_n 0, 1) := dw_at cX13_writheOf_k0 (p := 22) rfl (by decide +kernel)
theorem dmX13_writheOf_23 : decode cX13_writheOf 23 = .ok (.getfield 35, 3) := dw_at cX13_writheOf_k0 (p := 23) rfl (by decide +kernel)
theorem dmX13_writheOf_26 : decode cX13_writheOf 26 = .ok (.aload_n 0, 1) := dw_at cX13_writheOf_k1 (p := 0) rfl (by decide +kernel)
theorem dmX13_writheOf_27 : decode cX13_writheOf 27 = .ok (.getfield 23, 3) := dw_at cX13_writheOf_k1 (p := 1) rfl (by decide +kernel)
theorem dmX13_writheOf_30 : decode cX13_writheOf 30 = .ok (.iload_n 2, 1) := dw_at cX13_writheOf_k1 (p := 4) rfl (by decide +kernel)
theorem dmX13_writheOf_31 : decode cX13_writheOf 31 = .ok (.iaload, 1) := dw_at cX13_writheOf_k1 (p := 5) rfl (by decide +kernel)
theorem dmX13_writheOf_32 : decode cX13_writheOf 32 = .ok (.iaload, 1) := dw_at cX13_writheOf_k1 (p := 6) rfl (by decide +kernel)
theorem dmX13_writheOf_33 : decode cX13_writheOf 33 = .ok (.goto 4, 3) := dw_at cX13_writheOf_k1 (p := 7) rfl (by decide +kernel)
theorem dmX13_writheOf_36 : decode cX13_writheOf 36 = .ok (.iconst 0, 1) := dw_at cX13_writheOf_k1 (p := 10) rfl (by decide +kernel)
theorem dmX13_writheOf_37 : decode cX13_writheOf 37 = .ok (.iadd, 1) := dw_at cX13_writheOf_k1 (p := 11) rfl (by decide +kernel)
theorem dmX13_writheOf_38 : decode cX13_writheOf 38 = .ok (.istore_n 1, 1) := dw_at cX13_writheOf_k1 (p := 12) rfl (by decide +kernel)
theorem dmX13_writheOf_39 : decode cX13_writheOf 39 = .ok (.iinc 2 1, 3) := dw_at cX13_writheOf_k1 (p := 13) rfl (by decide +kernel)
theorem dmX13_writheOf_42 : decode cX13_writheOf 42 = .ok (.goto (-38), 3) := dw_at cX13_writheOf_k1 (p := 16) rfl (by decide +kernel)
theorem dmX13_writheOf_45 : decode cX13_writheOf 45 = .ok (.iload_n 1, 1) := dw_at cX13_writheOf_k1 (p := 19) rfl (by decide +kernel)
theorem dmX13_writheOf_46 : decode cX13_writheOf 46 = .ok (.ireturn, 1) := dw_at cX13_writheOf_k1 (p := 20) rfl (by decide +kernel)
def qm_X13_writheOf_0 (K : Nat) (go : Nat → Int32 → Int32 → Nat → Int32 → Int32 → ow_MS → Option (Int32 × ow_MS)) (x1 : Int32) (x2 : Int32) (r0 : Nat) (t0 : Int32) (t1 : Int32) (z : ow_MS) : Option (Int32 × ow_MS) :=
 go 1 0 0 r0 0 0 z
def qm_X13_writheOf_1 (K : Nat) (go : Nat → Int32 → Int32 → Nat → Int32 → Int32 → ow_MS → Option (Int32 × ow_MS)) (x1 : Int32) (x2 : Int32) (r0 : Nat) (t0 : Int32) (t1 : Int32) (z : ow_MS) : Option (Int32 × ow_MS) :=
 rdF z (r0 + 1) fun v1 => (if v1 ≤ x2 then some (x1, z)
 else rdI mX z (r0 + 5) x2 fun v2 => (if v2 = 0 then rdI mX z (r0 + 4) x2 fun v3 => rdI mX z (r0 + 6) v3 fun v4 => go 2 x1 x2 r0 v4 x1 z
 else go 2 x1 x2 r0 0 x1 z))
def qm_X13_writheOf_2 (K : Nat) (go : Nat → Int32 → Int32 → Nat → Int32 → Int32 → ow_MS → Option (Int32 × ow_MS)) (x1 : Int32) (x2 : Int32) (r0 : Nat) (t0 : Int32) (t1 : Int32) (z : ow_MS) : Option (Int32 × ow_MS) :=
 go 1 (t1 + t0) (x2 + 1) r0 0 0 z
def qb_X13_writheOf (K : Nat) (go : Nat → Int32 → Int32 → Nat → Int32 → Int32 → ow_MS → Option (Int32 × ow_MS)) (L : Nat) (x1 : Int32) (x2 : Int32) (r0 : Nat) (t0 : Int32) (t1 : Int32) (z : ow_MS) : Option (Int32 × ow_MS) := match L with
  | 0 => qm_X13_writheOf_0 K go x1 x2 r0 t0 t1 z
  | 1 => qm_X13_writheOf_1 K go x1 x2 r0 t0 t1 z
  | 2 => qm_X13_writheOf_2 K go x1 x2 r0 t0 t1 z
  | _ => none
def q_X13_writheOf (K : Nat) : Nat → Nat → Int32 → Int32 → Nat → Int32 → Int32 → ow_MS → Option (Int32 × ow_MS)
  | 0 => fun _ _ _ _ _ _ _ => none
  | k + 1 => qb_X13_writheOf K (q_X13_writheOf K k)
def qe_X13_writheOf (K : Nat) (r0 : Nat) (z : ow_MS) : Option (Int32 × ow_MS) := q_X13_writheOf K K 0 0 0 r0 0 0 z
abbrev wm_X13_writheOf : List Cond := .code yX13_writheOf cX13_writheOf 3 (some .int) :: wM
theorem cd_X13_writheOf : yX13_writheOf.cls ≠ "java/lang/invoke/MethodHandle" ∧ yX13_writheOf.cls ≠ "java/lang/invoke/VarHandle" ∧ (parseMethodDescriptor yX13_writheOf.desc).map (fun d => d.parameters.length) = some 1 := by decide +kernel
set_option maxHeartbeats 4000000 in
set_option maxRecDepth 100000 in
theorem km_X13_writheOf (l : Launch) (D : va_G) (q : ow_Q5) (u : Nat → Nat) (hU : tw_inj mX u) (K : Nat) (r0 : Nat) (hr0 : mw_net r0) (z z1 : ow_MS) (r : Int32) (hq : qe_X13_writheOf K r0 z = some (r, z1)) : Met l yX13_writheOf wm_X13_writheOf ({ frames := 0, cells := 0, slots := 0, locals := 0 } : Room) (va_Pc [.ref (u r0)] (mw_pre D q u z)) (va_Qi (fun x (_ : Unit) => x = r) (fun _ t => va_P D vwCl (tw mX q u z1) t.heap) (tw_A mX u)) 0 0 (tw_A mX u) := by
  refine Met.ofW (cc := cX13_writheOf) (maxL := 3) (ret := (some .int)) (by decide) rfl ?_
  intro p e s m args below meth c s₁ B hml hv
  obtain ⟨rfl, hP, hK, hN⟩ := hv
  have hx := B.exec
  have hb := B.bytes
  have hr := B.returns
  have hts := atoms_spec (ws := wm_X13_writheOf) B.pre
  have hT : ∀ w ∈ wM, w.before ([.ref (u r0)] : List Value).toArray s = true := fun w h => hts w (List.mem_cons_of_mem _ h)
  have hown : s.vm.findClass RX13 = some m.cls := findClass_of_methodNamed B.named
  have hlocks := B.notSynchronized
  have hM : tw_M D vwCl mX q s.heap u z s.heap [] := ⟨hP, va_S.rf⟩
  have hl := lv_entry ([.ref (u r0)]) (n := 3) (Nat.le_of_ble_eq_true rfl)
  rw [lg_entry_eq]
  generalize (lg_sl ([.ref (u r0)]) ++ List.replicate (3 - (lg_sl ([.ref (u r0)])).length) Slot.unset).toArray = ls at hl ⊢
  have hl : lv_has ls 3 [(0, .ref (u r0))] := hl
  refine ow_named (fun QQ hQQ => ?_)
  generalize ([.ref (u r0)] : List Value).toArray = args at hts hT hQQ ⊢
  have key : ∀ k : Nat, (∀ (x1 : Int32) (x2 : Int32) (r0 : Nat) (t0 : Int32) (t1 : Int32) (z : ow_MS) (H : Heap) (locs : List Loc) (ls : Array Slot), mw_net r0 → tw_M D vwCl mX q s.heap u z H locs → lv_has ls 3 [(0, .ref (u r0))] → q_X13_writheOf K k 0 x1 x2 r0 t0 t1 z = some (r, z1) → W p l e ({ frames := 0, cells := 0, slots := 0, locals := 0 } : Room) s m args below meth c H locs 0 0 QQ (F0 m 0 ls [])) ∧ (∀ (x1 : Int32) (x2 : Int32) (r0 : Nat) (t0 : Int32) (t1 : Int32) (z : ow_MS) (H : Heap) (locs : List Loc) (ls : Array Slot), mw_net r0 → tw_M D vwCl mX q s.heap u z H locs → lv_has ls 3 [(0, .ref (u r0)), (1, .int x1), (2, .int x2)] → q_X13_writheOf K k 1 x1 x2 r0 t0 t1 z = some (r, z1) → W p l e ({ frames := 0, cells := 0, slots := 0, locals := 0 } : Room) s m args below meth c H locs 0 0 QQ (F0 m 4 ls [])) ∧ (∀ (x1 : Int32) (x2 : Int32) (r0 : Nat) (t0 : Int32) (t1 : Int32) (z : ow_MS) (H : Heap) (locs : List Loc) (ls : Array Slot), mw_net r0 → tw_M D vwCl mX q s.heap u z H locs → lv_has ls 3 [(0, .ref (u r0)), (1, .int x1), (2, .int x2)] → q_X13_writheOf K k 2 x1 x2 r0 t0 t1 z = some (r, z1) → W p l e ({ frames := 0, cells := 0, slots := 0, locals := 0 } : Room) s m args below meth c H locs 0 0 QQ (F0 m 37 ls [.int t0, .int t1])) := by
    intro k
    induction k with
    | zero => exact ⟨fun _ _ _ _ _ _ _ _ _ _ _ _ hq => tw_no hq, fun _ _ _ _ _ _ _ _ _ _ _ _ hq => tw_no hq, fun _ _ _ _ _ _ _ _ _ _ _ _ hq => tw_no hq⟩
    | succ k ih =>
      obtain ⟨ih_0, ih_1, ih_2⟩ := ih
      refine ⟨?_, ?_, ?_⟩
      · intro x1 x2 r0 t0 t1 z H locs ls hr0 hM hl hq
        have hq : qm_X13_writheOf_0 K (q_X13_writheOf K k) x1 x2 r0 t0 t1 z = some (r, z1) := hq
        unfold qm_X13_writheOf_0 at hq
        refine lv_iconst (v := 0) hx hb dmX13_writheOf_0 (by decide) ?_
        refine lv_istore_n (lv' := [(1, .int 0), (0, .ref (u r0))]) hx hb dmX13_writheOf_1 rfl hl (by decide) rfl (fun ls hl => ?_)
        refine lv_iconst (v := 0) hx hb dmX13_writheOf_2 (by decide) ?_
        refine lv_istore_n (lv' := [(2, .int 0), (1, .int 0), (0, .ref (u r0))]) hx hb dmX13_writheOf_3 rfl hl (by decide) rfl (fun ls hl => ?_)
        exact ih_1 0 0 r0 0 0 z H locs ls hr0 hM (lv_sub hl [2, 1, 0] rfl) hq
      · intro x1 x2 r0 t0 t1 z H locs ls hr0 hM hl hq
        have hq : qm_X13_writheOf_1 K (q_X13_writheOf K k) x1 x2 r0 t0 t1 z = some (r, z1) := hq
        unfold qm_X13_writheOf_1 at hq
        refine lv_iload_n hx hb dmX13_writheOf_4 rfl (lv_at hl 2 rfl) ?_
        refine lv_aload_n hx hb dmX13_writheOf_5 rfl (lv_at hl 0 rfl) ?_
        refine mg13_44 hx hb hT hown hK hM hN hr0 hq dmX13_writheOf_6 (fun v1 hq => ?_)
        refine lv_icmp_ge (tgt := 45) hx hb dmX13_writheOf_9 (by decide) (fun hc => ?_) (fun hc => ?_)
        · have hq := tw_it hq hc
          refine lv_iload_n hx hb dmX13_writheOf_45 rfl (lv_at hl 1 rfl) ?_
          exact mw_iret hx hb hr hlocks hM hq hQQ dmX13_writheOf_46
        · have hq := tw_if hq hc
          refine lv_iload_n hx hb dmX13_writheOf_12 rfl (lv_at hl 1 rfl) ?_
          refine lv_aload_n hx hb dmX13_writheOf_13 rfl (lv_at hl 0 rfl) ?_
          refine mg13_32 hx hb hT hown hK hM hN hr0 dmX13_writheOf_14 ?_
          refine lv_iload_n hx hb dmX13_writheOf_17 rfl (lv_at hl 2 rfl) ?_
          refine tw_iald mX_ok hx hb hK hM (mrn_5 hr0) hq dmX13_writheOf_18 (fun v2 hq => ?_)
          refine lv_if_ne (tgt := 36) hx hb dmX13_writheOf_19 (by decide) (fun hc => ?_) (fun hc => ?_)
          · have hq := tw_if hq hc
            refine lv_iconst (v := 0) hx hb dmX13_writheOf_36 (by decide) ?_
            exact ih_2 x1 x2 r0 0 x1 z H locs ls hr0 hM (lv_sub hl [0, 1, 2] rfl) hq
          · have hq := tw_it hq hc
            refine lv_aload_n hx hb dmX13_writheOf_22 rfl (lv_at hl 0 rfl) ?_
            refine mg13_35 hx hb hT hown hK hM hN hr0 dmX13_writheOf_23 ?_
            refine lv_aload_n hx hb dmX13_writheOf_26 rfl (lv_at hl 0 rfl) ?_
            refine mg13_23 hx hb hT hown hK hM hN hr0 dmX13_writheOf_27 ?_
            refine lv_iload_n hx hb dmX13_writheOf_30 rfl (lv_at hl 2 rfl) ?_
            refine tw_iald mX_ok hx hb hK hM (mrn_4 hr0) hq dmX13_writheOf_31 (fun v3 hq => ?_)
            refine tw_iald mX_ok hx hb hK hM (mrn_6 hr0) hq dmX13_writheOf_32 (fun v4 hq => ?_)
            refine lv_goto (tgt := 37) hx hb dmX13_writheOf_33 (by decide) ?_
            exact ih_2 x1 x2 r0 v4 x1 z H locs ls hr0 hM (lv_sub hl [0, 1, 2] rfl) hq
      · intro x1 x2 r0 t0 t1 z H locs ls hr0 hM hl hq
        have hq : qm_X13_writheOf_2 K (q_X13_writheOf K k) x1 x2 r0 t0 t1 z = some (r, z1) := hq
        unfold qm_X13_writheOf_2 at hq
        refine lv_iadd hx hb dmX13_writheOf_37 ?_
        refine lv_istore_n (lv' := [(1, .int (t1 + t0)), (0, .ref (u r0)), (2, .int x2)]) hx hb dmX13_writheOf_38 rfl hl (by decide) rfl (fun ls hl => ?_)
        refine lv_iinc (v := (x2 + 1)) (lv' := [(2, .int (x2 + 1)), (1, .int (t1 + t0)), (0, .ref (u r0))]) hx hb dmX13_writheOf_39 hl (k := 2) rfl rfl (by decide) rfl (fun ls hl => ?_)
        refine lv_goto (tgt := 4) hx hb dmX13_writheOf_42 (by decide) ?_
        exact ih_1 (t1 + t0) (x2 + 1) r0 0 0 z H locs ls hr0 hM (lv_sub hl [2, 1, 0] rfl) hq
  exact (key K).1 0 0 r0 0 0 z s.heap [] ls hr0 hM (lv_sub hl [0] rfl) hq
theorem dmX13_open_0 : decode cX13_open 0 = .ok (.aload_n 0, 1) := by decide +kernel
theorem dmX13_open_1 : decode cX13_open 1 = .ok (.getfield 110, 3) := by decide +kernel
theorem dmX13_open_4 : decode cX13_open 4 = .ok (.bipush 32, 2) := by decide +kernel
theorem dmX13_open_6 : decode cX13_open 6 = .ok (.iload_n 1, 1) := by decide +kernel
theorem dmX13_open_7 : decode cX13_open 7 = .ok (.imul, 1) := by decide +kernel
theorem dmX13_open_8 : decode cX13_open 8 = .ok (.aload_n 2, 1) := by decide +kernel
theorem dmX13_open_9 : decode cX13_open 9 = .ok (.invokestatic 430, 3) := by decide +kernel
theorem dmX13_open_12 : decode cX13_open 12 = .ok (.aload_n 2, 1) := by decide +kernel
theorem dmX13_open_13 : decode cX13_open 13 = .ok (.invokevirtual 71, 3) := by decide +kernel
theorem dmX13_open_16 : decode cX13_open 16 = .ok (.return_, 1) := by decide +kernel
def qm_X13_open_0 (K : Nat) (x1 : Int32) (r2 : Nat) (z : ow_MS) : Option ow_MS :=
 cs0 (qe_X13_unpack K 12 (32 * x1) r2 z) fun z1 => cs0 (qe_X12_link K r2 z1) fun z2 => some z2
def qe_X13_open (K : Nat) (x1 : Int32) (r2 : Nat) (z : ow_MS) : Option ow_MS := qm_X13_open_0 K x1 r2 z
abbrev wm_X13_open : List Cond := .code yX13_open cX13_open 3 none :: wM
theorem cd_X13_open : yX13_open.cls = RX13 ∧ yX13_open.cls ≠ "java/lang/invoke/MethodHandle" ∧ yX13_open.cls ≠ "java/lang/invoke/VarHandle" ∧ (parseMethodDescriptor yX13_open.desc).map (fun d => d.parameters.length) = some 2 := by decide +kernel
set_option maxHeartbeats 4000000 in
set_option maxRecDepth 100000 in
theorem km_X13_open (l : Launch) (D : va_G) (q : ow_Q5) (u : Nat → Nat) (hU : tw_inj mX u) (K : Nat) (x1 : Int32) (r2 : Nat) (hr2 : mw_net r2) (z z1 : ow_MS) (hq : qe_X13_open K x1 r2 z = some z1) : Met l yX13_open wm_X13_open ({ frames := 2, cells := 0, slots := 0, locals := 46 } : Room) (va_Pc [.ref (u 0), .int x1, .ref (u r2)] (mw_pre D q u z)) (va_Qv (fun (_ : Unit) => True) (fun _ t => va_P D vwCl (tw mX q u z1) t.heap) (tw_A mX u)) 0 0 (tw_A mX u) := by
  refine Met.ofW (cc := cX13_open) (maxL := 3) (ret := none) (by decide) rfl ?_
  intro p e s m args below meth c s₁ B hml hv
  obtain ⟨rfl, hP, hK, hN⟩ := hv
  have hx := B.exec
  have hb := B.bytes
  have hr := B.returns
  have hts := atoms_spec (ws := wm_X13_open) B.pre
  have hT : ∀ w ∈ wM, w.before ([.ref (u 0), .int x1, .ref (u r2)] : List Value).toArray s = true := fun w h => hts w (List.mem_cons_of_mem _ h)
  have hown : s.vm.findClass RX13 = some m.cls := findClass_of_methodNamed B.named
  have hlocks := B.notSynchronized
  have hM : tw_M D vwCl mX q s.heap u z s.heap [] := ⟨hP, va_S.rf⟩
  have hl := lv_entry ([.ref (u 0), .int x1, .ref (u r2)]) (n := 3) (Nat.le_of_ble_eq_true rfl)
  rw [lg_entry_eq]
  generalize (lg_sl ([.ref (u 0), .int x1, .ref (u r2)]) ++ List.replicate (3 - (lg_sl ([.ref (u 0), .int x1, .ref (u r2)])).length) Slot.unset).toArray = ls at hl ⊢
  have hl : lv_has ls 3 [(0, .ref (u 0)), (1, .int x1), (2, .ref (u r2))] := hl
  refine ow_named (fun QQ hQQ => ?_)
  generalize ([.ref (u 0), .int x1, .ref (u r2)] : List Value).toArray = args at hts hT hQQ ⊢
  have hq : qm_X13_open_0 K x1 r2 z = some z1 := hq
  unfold qm_X13_open_0 at hq
  suffices key : ∀ (H : Heap) (locs : List Loc), tw_M D vwCl mX q s.heap u z H locs → W p l e ({ frames := 2, cells := 0, slots := 0, locals := 46 } : Room) s m args below meth c H locs 0 0 QQ (F0 m 0 ls []) from key s.heap [] hM
  intro H locs hM
  refine lv_aload_n hx hb dmX13_open_0 rfl (lv_at hl 0 rfl) ?_
  refine mg13_110 hx hb hT hown hK hM dmX13_open_1 ?_
  refine lv_bipush (v := 32) hx hb dmX13_open_4 (by decide) ?_
  refine lv_iload_n hx hb dmX13_open_6 rfl (lv_at hl 1 rfl) ?_
  refine lv_imul hx hb dmX13_open_7 ?_
  refine lv_aload_n hx hb dmX13_open_8 rfl (lv_at hl 2 rfl) ?_
  obtain ⟨z1, hcq, hq⟩ := tw_cl0 hq
  refine tw_calv hM (va_runS (As := [.ref (u 12), .int (32 * x1), .ref (u r2)]) (rest := []) ⟨hx, hb, hml, hown, hts⟩ (km_X13_unpack l D q u hU K 12 (32 * x1) r2 mr_12 hr2 z z1 hcq) (va_cwS 3 hts (tw_gS wM_good wq_134 wq_135 wq_61 wq_88) rfl rfl rfl cd_X13_unpack ⟨(Nat.le_of_ble_eq_true rfl), (Nat.le_of_ble_eq_true rfl)⟩) (mw_preS hK hN hM) rfl rfl hl.1 rfl (lv_room (Nat.le_of_ble_eq_true rfl)) dmX13_open_9 ⟨(Nat.le_of_ble_eq_true rfl), (Nat.le_of_ble_eq_true rfl)⟩) (fun H locs hM => ?_)
  refine lv_aload_n hx hb dmX13_open_12 rfl (lv_at hl 2 rfl) ?_
  obtain ⟨z2, hcq, hq⟩ := tw_cl0 hq
  refine tw_calv hM (va_runV (As := []) (rest := []) ⟨hx, hb, hml, hown, hts⟩ (km_X12_link l D q u hU K r2 hr2 z1 z2 hcq) (cwV 0 hts (tw_gV wM_good wq_77 wq_78 wq_79 wq_13 wq_30) rfl rfl rfl cd_X12_link ⟨(Nat.le_of_ble_eq_true rfl), (Nat.le_of_ble_eq_true rfl)⟩) (mw_preV hK hN hM (mo_n hr2) rfl) rfl rfl hl.1 rfl (lv_room (Nat.le_of_ble_eq_true rfl)) dmX13_open_13 ⟨(Nat.le_of_ble_eq_true rfl), (Nat.le_of_ble_eq_true rfl)⟩) (fun H locs hM => ?_)
  exact mw_vret hx hb hr hlocks hM hq hQQ dmX13_open_16
theorem dmX13_figure_0 : decode cX13_figure 0 = .ok (.aload_n 0, 1) := dw_at cX13_figure_k0 (p := 0) rfl (by decide +kernel)
theorem dmX13_figure_1 : decode cX13_figure 1 = .ok (.iconst 0, 1) := dw_at cX13_figure_k0 (p := 1) rfl (by decide +kernel)
theorem dmX13_figure_2 : decode cX13_figure 2 = .ok (.putfield 1, 3) := dw_at cX13_figure_k0 (p := 2) rfl (by decide +kernel)
theorem dmX13_figure_5 : decode cX13_figure 5 = .ok (.aload_n 0, 1) := dw_at cX13_figure_k0 (p := 5) rfl (by decide +kernel)
theorem dmX13_figure_6 : decode cX13_figure 6 = .ok (.iload_n 1, 1) := dw_at cX13_figure_k0 (p := 6) rfl (by decide +kernel)
theorem dmX13_figure_7 : decode cX13_figure 7 = .ok (.invokevirtual 423, 3) := dw_at cX13_figure_k0 (p := 7) rfl (by decide +kernel)
theorem dmX13_figure_10 : decode cX13_figure 10 = .ok (.ifCond .ne 9, 3) := dw_at cX13_figure_k0 (p := 10) rfl (by decide +kernel)
theorem dmX13_figure_13 : decode cX13_figure 13 = .ok (.aload_n 0, 1) := dw_at cX13_figure_k0 (p := 13) rfl (by decide +kernel)
theorem dmX13_figure_14 : decode cX13_figure 14 = .ok (.iconst 1, 1) := dw_at cX13_figure_k0 (p := 14) rfl (by decide +kernel)
theorem dmX13_figure_15 : decode cX13_figure 15 = .ok (.invokevirtual 403, 3) := dw_at cX13_figure_k0 (p := 15) rfl (by decide +kernel)
theorem dmX13_figure_18 : decode cX13_figure 18 = .ok (.ireturn, 1) := dw_at cX13_figure_k0 (p := 18) rfl (by decide +kernel)
theorem dmX13_figure_19 : decode cX13_figure 19 = .ok (.iload_n 2, 1) := dw_at cX13_figure_k0 (p := 19) rfl (by decide +kernel)
theorem dmX13_figure_20 : decode cX13_figure 20 = .ok (.ifCond .lt 8, 3) := dw_at cX13_figure_k0 (p := 20) rfl (by decide +kernel)
theorem dmX13_figure_23 : decode cX13_figure 23 = .ok (.iload_n 2, 1) := dw_at cX13_figure_k0 (p := 23) rfl (by decide +kernel)
theorem dmX13_figure_24 : decode cX13_figure 24 = .ok (.iconst 5, 1) := dw_at cX13_figure_k1 (p := 0) rfl (by decide +kernel)
theorem dmX13_figure_25 : decode cX13_figure 25 = .ok (.if_icmp .le 9, 3) := dw_at cX13_figure_k1 (p := 1) rfl (by decide +kernel)
theorem dmX13_figure_28 : decode cX13_figure 28 = .ok (.aload_n 0, 1) := dw_at cX13_figure_k1 (p := 4) rfl (by decide +kernel)
theorem dmX13_figure_29 : decode cX13_figure 29 = .ok (.iconst 2, 1) := dw_at cX13_figure_k1 (p := 5) rfl (by decide +kernel)
theorem dmX13_figure_30 : decode cX13_figure 30 = .ok (.invokevirtual 403, 3) := dw_at cX13_figure_k1 (p := 6) rfl (by decide +kernel)
theorem dmX13_figure_33 : decode cX13_figure 33 = .ok (.ireturn, 1) := dw_at cX13_figure_k1 (p := 9) rfl (by decide +kernel)
theorem dmX13_figure_34 : decode cX13_figure 34 = .ok (.aload_n 0, 1) := dw_at cX13_figure_k1 (p := 10) rfl (by decide +kernel)
theorem dmX13_figure_35 : decode cX13_figure 35 = .ok (.iload_n 1, 1) := dw_at cX13_figure_k1 (p := 11) rfl (by decide +kernel)
theorem dmX13_figure_36 : decode cX13_figure 36 = .ok (.aload_n 0, 1) := dw_at cX13_figure_k1 (p := 12) rfl (by decide +kernel)
theorem dmX13_figure_37 : decode cX13_figure 37 = .ok (.getfield 114, 3) := dw_at cX13_figure_k1 (p := 13) rfl (by decide +kernel)
theorem dmX13_figure_40 : decode cX13_figure 40 = .ok (.invokevirtual 434, 3) := dw_at cX13_figure_k1 (p := 16) rfl (by decide +kernel)
theorem dmX13_figure_43 : decode cX13_figure 43 = .ok (.iload_n 2, 1) := dw_at cX13_figure_k1 (p := 19) rfl (by decide +kernel)
theorem dmX13_figure_44 : decode cX13_figure 44 = .ok (.ifCond .ne 13, 3) := dw_at cX13_figure_k1 (p := 20) rfl (by decide +kernel)
theorem dmX13_figure_47 : decode cX13_figure 47 = .ok (.aload_n 0, 1) := dw_at cX13_figure_k1 (p := 23) rfl (by decide +kernel)
theorem dmX13_figure_48 : decode cX13_figure 48 = .ok (.getfield 114, 3) := dw_at cX13_figure_k2 (p := 0) rfl (by decide +kernel)
theorem dmX13_figure_51 : decode cX13_figure 51 = .ok (.getfield 44, 3) := dw_at cX13_figure_k2 (p := 3) rfl (by decide +kernel)
theorem dmX13_figure_54 : decode cX13_figure 54 = .ok (.iconst 2, 1) := dw_at cX13_figure_k2 (p := 6) rfl (by decide +kernel)
theorem dmX13_figure_55 : decode cX13_figure 55 = .ok (.idiv, 1) := dw_at cX13_figure_k2 (p := 7) rfl (by decide +kernel)
theorem dmX13_figure_56 : decode cX13_figure 56 = .ok (.ireturn, 1) := dw_at cX13_figure_k2 (p := 8) rfl (by decide +kernel)
theorem dmX13_figure_57 : decode cX13_figure 57 = .ok (.iload_n 2, 1) := dw_at cX13_figure_k2 (p := 9) rfl (by decide +kernel)
theorem dmX13_figure_58 : decode cX13_figure 58 = .ok (.iconst 1, 1) := dw_at cX13_figure_k2 (p := 10) rfl (by decide +kernel)
theorem dmX13_figure_59 : decode cX13_figure 59 = .ok (.if_icmp .ne 11, 3) := dw_at cX13_figure_k2 (p := 11) rfl (by decide +kernel)
theorem dmX13_figure_62 : decode cX13_figure 62 = .ok (.aload_n 0, 1) := dw_at cX13_figure_k2 (p := 14) rfl (by decide +kernel)
theorem dmX13_figure_63 : decode cX13_figure 63 = .ok (.getfield 114, 3) := dw_at cX13_figure_k2 (p := 15) rfl (by decide +kernel)
theorem dmX13_figure_66 : decode cX13_figure 66 = .ok (.getfield 407, 3) := dw_at cX13_figure_k2 (p := 18) rfl (by decide +kernel)
theorem dmX13_figure_69 : decode cX13_figure 69 = .ok (.ireturn, 1) := dw_at cX13_figure_k2 (p := 21) rfl (by decide +kernel)
theorem dmX13_figure_70 : decode cX13_figure 70 = .ok (.iload_n 2, 1) := dw_at cX13_figure_k2 (p := 22) rfl (by decide +kernel)
theorem dmX13_figure_71 : decode cX13_figure 71 = .ok (.iconst 2, 1) := dw_at cX13_figure_k2 (p := 23) rfl (by decide +kernel)
theorem dmX13_figure_72 : decode cX13_figure 72 = .ok (.if_icmp .ne 12, 3) := dw_at cX13_figure_k3 (p := 0) rfl (by decide +kernel)
theorem dmX13_figure_75 : decode cX13_figure 75 = .ok (.aload_n 0, 1) := dw_at cX13_figure_k3 (p := 3) rfl (by decide +kernel)
theorem dmX13_figure_76 : decode cX13_figure 76 = .ok (.aload_n 0, 1) := dw_at cX13_figure_k3 (p := 4) rfl (by decide +kernel)
theorem dmX13_figure_77 : decode cX13_figure 77 = .ok (.getfield 114, 3) := dw_at cX13_figure_k3 (p := 5) rfl (by decide +kernel)
theorem dmX13_figure_80 : decode cX13_figure 80 = .ok (.invokevirtual 438, 3) := dw_at cX13_figure_k3 (p := 8) rfl (by decide +kernel)
theorem dmX13_figure_83 : decode cX13_figure 83 = .ok (.ireturn, 1) := dw_at cX13_figure_k3 (p := 11) rfl (by decide +kernel)
theorem dmX13_figure_84 : decode cX13_figure 84 = .ok (.iload_n 2, 1) := dw_at cX13_figure_k3 (p := 12) rfl (by decide +kernel)
theorem dmX13_figure_85 : decode cX13_figure 85 = .ok (.iconst 3, 1) := dw_at cX13_figure_k3 (p := 13) rfl (by decide +kernel)
theorem dmX13_figure_86 : decode cX13_figure 86 = .ok (.if_icmp .ne 18, 3) := dw_at cX13_figure_k3 (p := 14) rfl (by decide +kernel)
theorem dmX13_figure_89 : decode cX13_figure 89 = .ok (.aload_n 0, 1) := dw_at cX13_figure_k3 (p := 17) rfl (by decide +kernel)
theorem dmX13_figure_90 : decode cX13_figure 90 = .ok (.getfield 114, 3) := dw_at cX13_figure_k3 (p := 18) rfl (by decide +kernel)
theorem dmX13_figure_93 : decode cX13_figure 93 = .ok (.invokevirtual 75, 3) := dw_at cX13_figure_k3 (p := 21) rfl (by decide +kernel)
theorem dmX13_figure_96 : decode cX13_figure 96 = .ok (.aload_n 0, 1) := dw_at cX13_figure_k4 (p := 0) rfl (by decide +kernel)
theorem dmX13_figure_97 : decode cX13_figure 97 = .ok (.getfield 114, 3) := dw_at cX13_figure_k4 (p := 1) rfl (by decide +kernel)
theorem dmX13_figure_100 : decode cX13_figure 100 = .ok (.getfield 78, 3) := dw_at cX13_figure_k4 (p := 4) rfl (by decide +kernel)
theorem dmX13_figure_103 : decode cX13_figure 103 = .ok (.ireturn, 1) := dw_at cX13_figure_k4 (p := 7) rfl (by decide +kernel)
theorem dmX13_figure_104 : decode cX13_figure 104 = .ok (.iload_n 2, 1) := dw_at cX13_figure_k4 (p := 8) rfl (by decide +kernel)
theorem dmX13_figure_105 : decode cX13_figure 105 = .ok (.iconst 4, 1) := dw_at cX13_figure_k4 (p := 9) rfl (by decide +kernel)
theorem dmX13_figure_106 : decode cX13_figure 106 = .ok (.if_icmp .ne 11, 3) := dw_at cX13_figure_k4 (p := 10) rfl (by decide +kernel)
theorem dmX13_figure_109 : decode cX13_figure 109 = .ok (.aload_n 0, 1) := dw_at cX13_figure_k4 (p := 13) rfl (by decide +kernel)
theorem dmX13_figure_110 : decode cX13_figure 110 = .ok (.getfield 114, 3) := dw_at cX13_figure_k4 (p := 14) rfl (by decide +kernel)
theorem dmX13_figure_113 : decode cX13_figure 113 = .ok (.invokestatic 442, 3) := dw_at cX13_figure_k4 (p := 17) rfl (by decide +kernel)
theorem dmX13_figure_116 : decode cX13_figure 116 = .ok (.ireturn, 1) := dw_at cX13_figure_k4 (p := 20) rfl (by decide +kernel)
theorem dmX13_figure_117 : decode cX13_figure 117 = .ok (.iconst 0, 1) := dw_at cX13_figure_k4 (p := 21) rfl (by decide +kernel)
theorem dmX13_figure_118 : decode cX13_figure 118 = .ok (.istore_n 3, 1) := dw_at cX13_figure_k4 (p := 22) rfl (by decide +kernel)
theorem dmX13_figure_119 : decode cX13_figure 119 = .ok (.iload_n 3, 1) := dw_at cX13_figure_k4 (p := 23) rfl (by decide +kernel)
theorem dmX13_figure_120 : decode cX13_figure 120 = .ok (.aload_n 0, 1) := dw_at cX13_figure_k5 (p := 0) rfl (by decide +kernel)
theorem dmX13_figure_121 : decode cX13_figure 121 = .ok (.getfield 114, 3) := dw_at cX13_figure_k5 (p := 1) rfl (by decide +kernel)
theorem dmX13_figure_124 : decode cX13_figure 124 = .ok (.getfield 44, 3) := dw_at cX13_figure_k5 (p := 4) rfl (by decide +kernel)
theorem dmX13_figure_127 : decode cX13_figure 127 = .ok (.if_icmp .ge 40, 3) := dw_at cX13_figure_k5 (p := 7) rfl (by decide +kernel)
theorem dmX13_figure_130 : decode cX13_figure 130 = .ok (.aload_n 0, 1) := dw_at cX13_figure_k5 (p := 10) rfl (by decide +kernel)
theorem dmX13_figure_131 : decode cX13_figure 131 = .ok (.getfield 114, 3) := dw_at cX13_figure_k5 (p := 11) rfl (by decide +kernel)
theorem dmX13_figure_134 : decode cX13_figure 134 = .ok (.getfield 32, 3) := dw_at cX13_figure_k5 (p := 14) rfl (by decide +kernel)
theorem dmX13_figure_137 : decode cX13_figure 137 = .ok (.iload_n 3, 1) := dw_at cX13_figure_k5 (p := 17) rfl (by decide +kernel)
theorem dmX13_figure_138 : decode cX13_figure 138 = .ok (.iaload, 1) := dw_at cX13_figure_k5 (p := 18) rfl (by decide +kernel)
theorem dmX13_figure_139 : decode cX13_figure 139 = .ok (.aload_n 0, 1) := dw_at cX13_figure_k5 (p := 19) rfl (by decide +kernel)
theorem dmX13_figure_140 : decode cX13_figure 140 = .ok (.getfield 114, 3) := dw_at cX13_figure_k5 (p := 20) rfl (by decide +kernel)
theorem dmX13_figure_143 : decode cX13_figure 143 = .ok (.getfield 32, 3) := dw_at cX13_figure_k5 (p := 23) rfl (by decide +kernel)
theorem dmX13_figure_146 : decode cX13_figure 146 = .ok (.aload_n 0, 1) := dw_at cX13_figure_k6 (p := 0) rfl (by decide +kernel)
theorem dmX13_figure_147 : decode cX13_figure 147 = .ok (.getfield 114, 3) := dw_at cX13_figure_k6 (p := 1) rfl (by decide +kernel)
theorem dmX13_figure_150 : decode cX13_figure 150 = .ok (.getfield 38, 3) := dw_at cX13_figure_k6 (p := 4) rfl (by decide +kernel)
theorem dmX13_figure_153 : decode cX13_figure 153 = .ok (.iload_n 3, 1) := dw_at cX13_figure_k6 (p := 7) rfl (by decide +kernel)
theorem dmX13_figure_154 : decode cX13_figure 154 = .ok (.iaload, 1) := dw_at cX13_figure_k6 (p := 8) rfl (by decide +kernel)
theorem dmX13_figure_155 : decode cX13_figure 155 = .ok (.iaload, 1) := dw_at cX13_figure_k6 (p := 9) rfl (by decide +kernel)
theorem dmX13_figure_156 : decode cX13_figure 156 = .ok (.if_icmp .ne 5, 3) := dw_at cX13_figure_k6 (p := 10) rfl (by decide +kernel)
theorem dmX13_figure_159 : decode cX13_figure 159 = .ok (.iconst 0, 1) := dw_at cX13_figure_k6 (p := 13) rfl (by decide +kernel)
theorem dmX13_figure_160 : decode cX13_figure 160 = .ok (.ireturn, 1) := dw_at cX13_figure_k6 (p := 14) rfl (by decide +kernel)
theorem dmX13_figure_161 : decode cX13_figure 161 = .ok (.iinc 3 1, 3) := dw_at cX13_figure_k6 (p := 15) rfl (by decide +kernel)
theorem dmX13_figure_164 : decode cX13_figure 164 = .ok (.goto (-45), 3) := dw_at cX13_figure_k6 (p := 18) rfl (by decide +kernel)
theorem dmX13_figure_167 : decode cX13_figure 167 = .ok (.iconst 1, 1) := dw_at cX13_figure_k6 (p := 21) rfl (by decide +kernel)
theorem dmX13_figure_168 : decode cX13_figure 168 = .ok (.ireturn, 1) := dw_at cX13_figure_k6 (p := 22) rfl (by decide +kernel)
def qm_X13_figure_0 (K : Nat) (go : Nat → Int32 → Int32 → Int32 → ow_MS → Option (Int32 × ow_MS)) (x1 : Int32) (x2 : Int32) (x3 : Int32) (z : ow_MS) : Option (Int32 × ow_MS) :=
 wrF z 1 0 fun z1 => cs1 (qe_X13_has K x1 z1) fun v3 z2 => (if v3 = 0 then cs1 (qe_X13_fails K 1 z2) fun v14 z13 => some (v14, z13)
 else (if x2 < 0 then go 1 x1 x2 0 z2
 else (if x2 ≤ 5 then cs0 (qe_X13_open K x1 1000 z2) fun z4 => (if x2 = 0 then rdF z4 (1000 + 1) fun v12 => nzI 2 (some ((v12 / 2), z4))
 else (if x2 = 1 then rdF z4 (1000 + 2) fun v11 => some (v11, z4)
 else (if x2 = 2 then cs1 (qe_X13_circlesOf K 1000 z4) fun v10 z9 => some (v10, z9)
 else (if x2 = 3 then cs0 (qe_X12_split K 1000 z4) fun z7 => rdF z7 (1000 + 13) fun v8 => some (v8, z7)
 else (if x2 = 4 then cs1 (qe_X13_writheOf K 1000 z4) fun v6 z5 => some (v6, z5)
 else go 2 x1 x2 0 z4)))))
 else go 1 x1 x2 0 z2)))
def qm_X13_figure_1 (K : Nat) (go : Nat → Int32 → Int32 → Int32 → ow_MS → Option (Int32 × ow_MS)) (x1 : Int32) (x2 : Int32) (x3 : Int32) (z : ow_MS) : Option (Int32 × ow_MS) :=
 cs1 (qe_X13_fails K 2 z) fun v16 z15 => some (v16, z15)
def qm_X13_figure_2 (K : Nat) (go : Nat → Int32 → Int32 → Int32 → ow_MS → Option (Int32 × ow_MS)) (x1 : Int32) (x2 : Int32) (x3 : Int32) (z : ow_MS) : Option (Int32 × ow_MS) :=
 rdF z (1000 + 1) fun v17 => (if v17 ≤ x3 then some (1, z)
 else rdI mX z (1000 + 5) x3 fun v18 => rdI mX z (1000 + 9) x3 fun v19 => rdI mX z (1000 + 5) v19 fun v20 => (if v18 = v20 then some (0, z)
 else go 2 x1 x2 (x3 + 1) z))
def qb_X13_figure (K : Nat) (go : Nat → Int32 → Int32 → Int32 → ow_MS → Option (Int32 × ow_MS)) (L : Nat) (x1 : Int32) (x2 : Int32) (x3 : Int32) (z : ow_MS) : Option (Int32 × ow_MS) := match L with
  | 0 => qm_X13_figure_0 K go x1 x2 x3 z
  | 1 => qm_X13_figure_1 K go x1 x2 x3 z
  | 2 => qm_X13_figure_2 K go x1 x2 x3 z
  | _ => none
def q_X13_figure (K : Nat) : Nat → Nat → Int32 → Int32 → Int32 → ow_MS → Option (Int32 × ow_MS)
  | 0 => fun _ _ _ _ _ => none
  | k + 1 => qb_X13_figure K (q_X13_figure K k)
def qe_X13_figure (K : Nat) (x1 : Int32) (x2 : Int32) (z : ow_MS) : Option (Int32 × ow_MS) := q_X13_figure K K 0 x1 x2 0 z
abbrev wm_X13_figure : List Cond := .code yX13_figure cX13_figure 4 (some .int) :: wM
theorem cd_X13_figure : yX13_figure.cls = RX13 ∧ yX13_figure.cls ≠ "java/lang/invoke/MethodHandle" ∧ yX13_figure.cls ≠ "java/lang/invoke/VarHandle" ∧ (parseMethodDescriptor yX13_figure.desc).map (fun d => d.parameters.length) = some 2 := by decide +kernel
set_option maxHeartbeats 4000000 in
set_option maxRecDepth 100000 in
theorem km_X13_figure (l : Launch) (D : va_G) (q : ow_Q5) (u : Nat → Nat) (hU : tw_inj mX u) (K : Nat) (x1 : Int32) (x2 : Int32)  (z z1 : ow_MS) (r : Int32) (hq : qe_X13_figure K x1 x2 z = some (r, z1)) : Met l yX13_figure wm_X13_figure ({ frames := 3, cells := 0, slots := 0, locals := 68 } : Room) (va_Pc [.ref (u 0), .int x1, .int x2] (mw_pre D q u z)) (va_Qi (fun x (_ : Unit) => x = r) (fun _ t => va_P D vwCl (tw mX q u z1) t.heap) (tw_A mX u)) 0 0 (tw_A mX u) := by
  refine Met.ofW (cc := cX13_figure) (maxL := 4) (ret := (some .int)) (by decide) rfl ?_
  intro p e s m args below meth c s₁ B hml hv
  obtain ⟨rfl, hP, hK, hN⟩ := hv
  have hx := B.exec
  have hb := B.bytes
  have hr := B.returns
  have hts := atoms_spec (ws := wm_X13_figure) B.pre
  have hT : ∀ w ∈ wM, w.before ([.ref (u 0), .int x1, .int x2] : List Value).toArray s = true := fun w h => hts w (List.mem_cons_of_mem _ h)
  have hown : s.vm.findClass RX13 = some m.cls := findClass_of_methodNamed B.named
  have hlocks := B.notSynchronized
  have hM : tw_M D vwCl mX q s.heap u z s.heap [] := ⟨hP, va_S.rf⟩
  have hl := lv_entry ([.ref (u 0), .int x1, .int x2]) (n := 4) (Nat.le_of_ble_eq_true rfl)
  rw [lg_entry_eq]
  generalize (lg_sl ([.ref (u 0), .int x1, .int x2]) ++ List.replicate (4 - (lg_sl ([.ref (u 0), .int x1, .int x2])).length) Slot.unset).toArray = ls at hl ⊢
  have hl : lv_has ls 4 [(0, .ref (u 0)), (1, .int x1), (2, .int x2)] := hl
  refine ow_named (fun QQ hQQ => ?_)
  generalize ([.ref (u 0), .int x1, .int x2] : List Value).toArray = args at hts hT hQQ ⊢
  have key : ∀ k : Nat, (∀ (x1 : Int32) (x2 : Int32) (x3 : Int32) (z : ow_MS) (H : Heap) (locs : List Loc) (ls : Array Slot), tw_M D vwCl mX q s.heap u z H locs → lv_has ls 4 [(0, .ref (u 0)), (1, .int x1), (2, .int x2)] → q_X13_figure K k 0 x1 x2 x3 z = some (r, z1) → W p l e ({ frames := 3, cells := 0, slots := 0, locals := 68 } : Room) s m args below meth c H locs 0 0 QQ (F0 m 0 ls [])) ∧ (∀ (x1 : Int32) (x2 : Int32) (x3 : Int32) (z : ow_MS) (H : Heap) (locs : List Loc) (ls : Array Slot), tw_M D vwCl mX q s.heap u z H locs → lv_has ls 4 [(0, .ref (u 0)), (1, .int x1), (2, .int x2)] → q_X13_figure K k 1 x1 x2 x3 z = some (r, z1) → W p l e ({ frames := 3, cells := 0, slots := 0, locals := 68 } : Room) s m args below meth c H locs 0 0 QQ (F0 m 28 ls [])) ∧ (∀ (x1 : Int32) (x2 : Int32) (x3 : Int32) (z : ow_MS) (H : Heap) (locs : List Loc) (ls : Array Slot), tw_M D vwCl mX q s.heap u z H locs → lv_has ls 4 [(0, .ref (u 0)), (1, .int x1), (2, .int x2), (3, .int x3)] → q_X13_figure K k 2 x1 x2 x3 z = some (r, z1) → W p l e ({ frames := 3, cells := 0, slots := 0, locals := 68 } : Room) s m args below meth c H locs 0 0 QQ (F0 m 119 ls [])) := by
    intro k
    induction k with
    | zero => exact ⟨fun _ _ _ _ _ _ _  _ _ hq => tw_no hq, fun _ _ _ _ _ _ _  _ _ hq => tw_no hq, fun _ _ _ _ _ _ _  _ _ hq => tw_no hq⟩
    | succ k ih =>
      obtain ⟨ih_0, ih_1, ih_2⟩ := ih
      refine ⟨?_, ?_, ?_⟩
      · intro x1 x2 x3 z H locs ls  hM hl hq
        have hq : qm_X13_figure_0 K (q_X13_figure K k) x1 x2 x3 z = some (r, z1) := hq
        unfold qm_X13_figure_0 at hq
        refine lv_aload_n hx hb dmX13_figure_0 rfl (lv_at hl 0 rfl) ?_
        refine lv_iconst (v := 0) hx hb dmX13_figure_1 (by decide) ?_
        refine mp13_1 hx hb hT hown hK hM hU hq dmX13_figure_2 (fun z1 H locs hM hq => ?_)
        refine lv_aload_n hx hb dmX13_figure_5 rfl (lv_at hl 0 rfl) ?_
        refine lv_iload_n hx hb dmX13_figure_6 rfl (lv_at hl 1 rfl) ?_
        obtain ⟨v3, z2, hcq, hq⟩ := tw_cl1 hq
        refine tw_cali hM (va_runV (As := [.int x1]) (rest := []) ⟨hx, hb, hml, hown, hts⟩ (km_X13_has l D q u hU K x1 z1 z2 v3 hcq) (cwV 1 hts (tw_gV wM_good wq_127 wq_128 wq_129 wq_61 wq_90) rfl rfl rfl cd_X13_has ⟨(Nat.le_of_ble_eq_true rfl), (Nat.le_of_ble_eq_true rfl)⟩) (mw_preV hK hN hM mo_0 rfl) rfl rfl hl.1 rfl (lv_room (Nat.le_of_ble_eq_true rfl)) dmX13_figure_7 ⟨(Nat.le_of_ble_eq_true rfl), (Nat.le_of_ble_eq_true rfl)⟩) (fun H locs hM => ?_)
        refine lv_if_ne (tgt := 19) hx hb dmX13_figure_10 (by decide) (fun hc => ?_) (fun hc => ?_)
        · have hq := tw_if hq hc
          refine lv_iload_n hx hb dmX13_figure_19 rfl (lv_at hl 2 rfl) ?_
          refine lv_if_lt (tgt := 28) hx hb dmX13_figure_20 (by decide) (fun hc => ?_) (fun hc => ?_)
          · have hq := tw_it hq hc
            exact ih_1 x1 x2 0 z2 H locs ls hM (lv_sub hl [0, 1, 2] rfl) hq
          · have hq := tw_if hq hc
            refine lv_iload_n hx hb dmX13_figure_23 rfl (lv_at hl 2 rfl) ?_
            refine lv_iconst (v := 5) hx hb dmX13_figure_24 (by decide) ?_
            refine lv_icmp_le (tgt := 34) hx hb dmX13_figure_25 (by decide) (fun hc => ?_) (fun hc => ?_)
            · have hq := tw_it hq hc
              refine lv_aload_n hx hb dmX13_figure_34 rfl (lv_at hl 0 rfl) ?_
              refine lv_iload_n hx hb dmX13_figure_35 rfl (lv_at hl 1 rfl) ?_
              refine lv_aload_n hx hb dmX13_figure_36 rfl (lv_at hl 0 rfl) ?_
              refine mg13_114 hx hb hT hown hK hM dmX13_figure_37 ?_
              obtain ⟨z4, hcq, hq⟩ := tw_cl0 hq
              refine tw_calv hM (va_runV (As := [.int x1, .ref (u 1000)]) (rest := []) ⟨hx, hb, hml, hown, hts⟩ (km_X13_open l D q u hU K x1 1000 mw_n1 z2 z4 hcq) (cwV 2 hts (tw_gV wM_good wq_138 wq_139 wq_140 wq_61 wq_136) rfl rfl rfl cd_X13_open ⟨(Nat.le_of_ble_eq_true rfl), (Nat.le_of_ble_eq_true rfl)⟩) (mw_preV hK hN hM mo_0 rfl) rfl rfl hl.1 rfl (lv_room (Nat.le_of_ble_eq_true rfl)) dmX13_figure_40 ⟨(Nat.le_of_ble_eq_true rfl), (Nat.le_of_ble_eq_true rfl)⟩) (fun H locs hM => ?_)
              refine lv_iload_n hx hb dmX13_figure_43 rfl (lv_at hl 2 rfl) ?_
              refine lv_if_ne (tgt := 57) hx hb dmX13_figure_44 (by decide) (fun hc => ?_) (fun hc => ?_)
              · have hq := tw_if hq hc
                refine lv_iload_n hx hb dmX13_figure_57 rfl (lv_at hl 2 rfl) ?_
                refine lv_iconst (v := 1) hx hb dmX13_figure_58 (by decide) ?_
                refine lv_icmp_ne (tgt := 70) hx hb dmX13_figure_59 (by decide) (fun hc => ?_) (fun hc => ?_)
                · have hq := tw_if hq hc
                  refine lv_iload_n hx hb dmX13_figure_70 rfl (lv_at hl 2 rfl) ?_
                  refine lv_iconst (v := 2) hx hb dmX13_figure_71 (by decide) ?_
                  refine lv_icmp_ne (tgt := 84) hx hb dmX13_figure_72 (by decide) (fun hc => ?_) (fun hc => ?_)
                  · have hq := tw_if hq hc
                    refine lv_iload_n hx hb dmX13_figure_84 rfl (lv_at hl 2 rfl) ?_
                    refine lv_iconst (v := 3) hx hb dmX13_figure_85 (by decide) ?_
                    refine lv_icmp_ne (tgt := 104) hx hb dmX13_figure_86 (by decide) (fun hc => ?_) (fun hc => ?_)
                    · have hq := tw_if hq hc
                      refine lv_iload_n hx hb dmX13_figure_104 rfl (lv_at hl 2 rfl) ?_
                      refine lv_iconst (v := 4) hx hb dmX13_figure_105 (by decide) ?_
                      refine lv_icmp_ne (tgt := 117) hx hb dmX13_figure_106 (by decide) (fun hc => ?_) (fun hc => ?_)
                      · have hq := tw_if hq hc
                        refine lv_iconst (v := 0) hx hb dmX13_figure_117 (by decide) ?_
                        refine lv_istore_n (lv' := [(3, .int 0), (0, .ref (u 0)), (1, .int x1), (2, .int x2)]) hx hb dmX13_figure_118 rfl hl (by decide) rfl (fun ls hl => ?_)
                        exact ih_2 x1 x2 0 z4 H locs ls hM (lv_sub hl [1, 2, 3, 0] rfl) hq
                      · have hq := tw_it hq hc
                        refine lv_aload_n hx hb dmX13_figure_109 rfl (lv_at hl 0 rfl) ?_
                        refine mg13_114 hx hb hT hown hK hM dmX13_figure_110 ?_
                        obtain ⟨v6, z5, hcq, hq⟩ := tw_cl1 hq
                        refine tw_cali hM (va_runS (As := [.ref (u 1000)]) (rest := []) ⟨hx, hb, hml, hown, hts⟩ (km_X13_writheOf l D q u hU K 1000 mw_n1 z4 z5 v6 hcq) (va_cwS 1 hts (tw_gS wM_good wq_144 wq_145 wq_61 wq_133) rfl rfl rfl cd_X13_writheOf ⟨(Nat.le_of_ble_eq_true rfl), (Nat.le_of_ble_eq_true rfl)⟩) (mw_preS hK hN hM) rfl rfl hl.1 rfl (lv_room (Nat.le_of_ble_eq_true rfl)) dmX13_figure_113 ⟨(Nat.le_of_ble_eq_true rfl), (Nat.le_of_ble_eq_true rfl)⟩) (fun H locs hM => ?_)
                        exact mw_iret hx hb hr hlocks hM hq hQQ dmX13_figure_116
                    · have hq := tw_it hq hc
                      refine lv_aload_n hx hb dmX13_figure_89 rfl (lv_at hl 0 rfl) ?_
                      refine mg13_114 hx hb hT hown hK hM dmX13_figure_90 ?_
                      obtain ⟨z7, hcq, hq⟩ := tw_cl0 hq
                      refine tw_calv hM (va_runV (As := []) (rest := []) ⟨hx, hb, hml, hown, hts⟩ (km_X12_split l D q u hU K 1000 mw_n1 z4 z7 hcq) (cwV 0 hts (tw_gV wM_good wq_80 wq_39 wq_40 wq_13 wq_33) rfl rfl rfl cd_X12_split ⟨(Nat.le_of_ble_eq_true rfl), (Nat.le_of_ble_eq_true rfl)⟩) (mw_preV hK hN hM (mo_n mw_n1) rfl) rfl rfl hl.1 rfl (lv_room (Nat.le_of_ble_eq_true rfl)) dmX13_figure_93 ⟨(Nat.le_of_ble_eq_true rfl), (Nat.le_of_ble_eq_true rfl)⟩) (fun H locs hM => ?_)
                      refine lv_aload_n hx hb dmX13_figure_96 rfl (lv_at hl 0 rfl) ?_
                      refine mg13_114 hx hb hT hown hK hM dmX13_figure_97 ?_
                      refine mg13_78 hx hb hT hown hK hM hN mw_n1 hq dmX13_figure_100 (fun v8 hq => ?_)
                      exact mw_iret hx hb hr hlocks hM hq hQQ dmX13_figure_103
                  · have hq := tw_it hq hc
                    refine lv_aload_n hx hb dmX13_figure_75 rfl (lv_at hl 0 rfl) ?_
                    refine lv_aload_n hx hb dmX13_figure_76 rfl (lv_at hl 0 rfl) ?_
                    refine mg13_114 hx hb hT hown hK hM dmX13_figure_77 ?_
                    obtain ⟨v10, z9, hcq, hq⟩ := tw_cl1 hq
                    refine tw_cali hM (va_runV (As := [.ref (u 1000)]) (rest := []) ⟨hx, hb, hml, hown, hts⟩ (km_X13_circlesOf l D q u hU K 1000 mw_n1 z4 z9 v10 hcq) (cwV 1 hts (tw_gV wM_good wq_141 wq_142 wq_143 wq_61 wq_132) rfl rfl rfl cd_X13_circlesOf ⟨(Nat.le_of_ble_eq_true rfl), (Nat.le_of_ble_eq_true rfl)⟩) (mw_preV hK hN hM mo_0 rfl) rfl rfl hl.1 rfl (lv_room (Nat.le_of_ble_eq_true rfl)) dmX13_figure_80 ⟨(Nat.le_of_ble_eq_true rfl), (Nat.le_of_ble_eq_true rfl)⟩) (fun H locs hM => ?_)
                    exact mw_iret hx hb hr hlocks hM hq hQQ dmX13_figure_83
                · have hq := tw_it hq hc
                  refine lv_aload_n hx hb dmX13_figure_62 rfl (lv_at hl 0 rfl) ?_
                  refine mg13_114 hx hb hT hown hK hM dmX13_figure_63 ?_
                  refine mg13_407 hx hb hT hown hK hM hN mw_n1 hq dmX13_figure_66 (fun v11 hq => ?_)
                  exact mw_iret hx hb hr hlocks hM hq hQQ dmX13_figure_69
              · have hq := tw_it hq hc
                refine lv_aload_n hx hb dmX13_figure_47 rfl (lv_at hl 0 rfl) ?_
                refine mg13_114 hx hb hT hown hK hM dmX13_figure_48 ?_
                refine mg13_44 hx hb hT hown hK hM hN mw_n1 hq dmX13_figure_51 (fun v12 hq => ?_)
                refine lv_iconst (v := 2) hx hb dmX13_figure_54 (by decide) ?_
                obtain ⟨hz, hq⟩ := tw_nzI hq
                refine lv_idiv hx hb dmX13_figure_55 hz ?_
                exact mw_iret hx hb hr hlocks hM hq hQQ dmX13_figure_56
            · have hq := tw_if hq hc
              exact ih_1 x1 x2 0 z2 H locs ls hM (lv_sub hl [0, 1, 2] rfl) hq
        · have hq := tw_it hq hc
          refine lv_aload_n hx hb dmX13_figure_13 rfl (lv_at hl 0 rfl) ?_
          refine lv_iconst (v := 1) hx hb dmX13_figure_14 (by decide) ?_
          obtain ⟨v14, z13, hcq, hq⟩ := tw_cl1 hq
          refine tw_cali hM (va_runV (As := [.int 1]) (rest := []) ⟨hx, hb, hml, hown, hts⟩ (km_X13_fails l D q u hU K 1 z2 z13 v14 hcq) (cwV 1 hts (tw_gV wM_good wq_103 wq_104 wq_105 wq_61 wq_50) rfl rfl rfl cd_X13_fails ⟨(Nat.le_of_ble_eq_true rfl), (Nat.le_of_ble_eq_true rfl)⟩) (mw_preV hK hN hM mo_0 rfl) rfl rfl hl.1 rfl (lv_room (Nat.le_of_ble_eq_true rfl)) dmX13_figure_15 ⟨(Nat.le_of_ble_eq_true rfl), (Nat.le_of_ble_eq_true rfl)⟩) (fun H locs hM => ?_)
          exact mw_iret hx hb hr hlocks hM hq hQQ dmX13_figure_18
      · intro x1 x2 x3 z H locs ls  hM hl hq
        have hq : qm_X13_figure_1 K (q_X13_figure K k) x1 x2 x3 z = some (r, z1) := hq
        unfold qm_X13_figure_1 at hq
        refine lv_aload_n hx hb dmX13_figure_28 rfl (lv_at hl 0 rfl) ?_
        refine lv_iconst (v := 2) hx hb dmX13_figure_29 (by decide) ?_
        obtain ⟨v16, z15, hcq, hq⟩ := tw_cl1 hq
        refine tw_cali hM (va_runV (As := [.int 2]) (rest := []) ⟨hx, hb, hml, hown, hts⟩ (km_X13_fails l D q u hU K 2 z z15 v16 hcq) (cwV 1 hts (tw_gV wM_good wq_103 wq_104 wq_105 wq_61 wq_50) rfl rfl rfl cd_X13_fails ⟨(Nat.le_of_ble_eq_true rfl), (Nat.le_of_ble_eq_true rfl)⟩) (mw_preV hK hN hM mo_0 rfl) rfl rfl hl.1 rfl (lv_room (Nat.le_of_ble_eq_true rfl)) dmX13_figure_30 ⟨(Nat.le_of_ble_eq_true rfl), (Nat.le_of_ble_eq_true rfl)⟩) (fun H locs hM => ?_)
        exact mw_iret hx hb hr hlocks hM hq hQQ dmX13_figure_33
      · intro x1 x2 x3 z H locs ls  hM hl hq
        have hq : qm_X13_figure_2 K (q_X13_figure K k) x1 x2 x3 z = some (r, z1) := hq
        unfold qm_X13_figure_2 at hq
        refine lv_iload_n hx hb dmX13_figure_119 rfl (lv_at hl 3 rfl) ?_
        refine lv_aload_n hx hb dmX13_figure_120 rfl (lv_at hl 0 rfl) ?_
        refine mg13_114 hx hb hT hown hK hM dmX13_figure_121 ?_
        refine mg13_44 hx hb hT hown hK hM hN mw_n1 hq dmX13_figure_124 (fun v17 hq => ?_)
        refine lv_icmp_ge (tgt := 167) hx hb dmX13_figure_127 (by decide) (fun hc => ?_) (fun hc => ?_)
        · have hq := tw_it hq hc
          refine lv_iconst (v := 1) hx hb dmX13_figure_167 (by decide) ?_
          exact mw_iret hx hb hr hlocks hM hq hQQ dmX13_figure_168
        · have hq := tw_if hq hc
          refine lv_aload_n hx hb dmX13_figure_130 rfl (lv_at hl 0 rfl) ?_
          refine mg13_114 hx hb hT hown hK hM dmX13_figure_131 ?_
          refine mg13_32 hx hb hT hown hK hM hN mw_n1 dmX13_figure_134 ?_
          refine lv_iload_n hx hb dmX13_figure_137 rfl (lv_at hl 3 rfl) ?_
          refine tw_iald mX_ok hx hb hK hM (mrn_5 mw_n1) hq dmX13_figure_138 (fun v18 hq => ?_)
          refine lv_aload_n hx hb dmX13_figure_139 rfl (lv_at hl 0 rfl) ?_
          refine mg13_114 hx hb hT hown hK hM dmX13_figure_140 ?_
          refine mg13_32 hx hb hT hown hK hM hN mw_n1 dmX13_figure_143 ?_
          refine lv_aload_n hx hb dmX13_figure_146 rfl (lv_at hl 0 rfl) ?_
          refine mg13_114 hx hb hT hown hK hM dmX13_figure_147 ?_
          refine mg13_38 hx hb hT hown hK hM hN mw_n1 dmX13_figure_150 ?_
          refine lv_iload_n hx hb dmX13_figure_153 rfl (lv_at hl 3 rfl) ?_
          refine tw_iald mX_ok hx hb hK hM (mrn_9 mw_n1) hq dmX13_figure_154 (fun v19 hq => ?_)
          refine tw_iald mX_ok hx hb hK hM (mrn_5 mw_n1) hq dmX13_figure_155 (fun v20 hq => ?_)
          refine lv_icmp_ne (tgt := 161) hx hb dmX13_figure_156 (by decide) (fun hc => ?_) (fun hc => ?_)
          · have hq := tw_if hq hc
            refine lv_iinc (v := (x3 + 1)) (lv' := [(3, .int (x3 + 1)), (0, .ref (u 0)), (1, .int x1), (2, .int x2)]) hx hb dmX13_figure_161 hl (k := 3) rfl rfl (by decide) rfl (fun ls hl => ?_)
            refine lv_goto (tgt := 119) hx hb dmX13_figure_164 (by decide) ?_
            exact ih_2 x1 x2 (x3 + 1) z H locs ls hM (lv_sub hl [1, 2, 3, 0] rfl) hq
          · have hq := tw_it hq hc
            refine lv_iconst (v := 0) hx hb dmX13_figure_159 (by decide) ?_
            exact mw_iret hx hb hr hlocks hM hq hQQ dmX13_figure_160
  exact (key K).1 x1 x2 0 z s.heap [] ls  hM (lv_sub hl [0, 1, 2] rfl) hq
