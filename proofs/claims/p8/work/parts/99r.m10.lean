theorem dmX13_summit_0 : decode cX13_summit 0 = .ok (.aload_n 0, 1) := dw_at cX13_summit_k0 (p := 0) rfl (by decide +kernel)
theorem dmX13_summit_1 : decode cX13_summit 1 = .ok (.iconst 0, 1) := dw_at cX13_summit_k0 (p := 1) rfl (by decide +kernel)
theorem dmX13_summit_2 : decode cX13_summit 2 = .ok (.putfield 1, 3) := dw_at cX13_summit_k0 (p := 2) rfl (by decide +kernel)
theorem dmX13_summit_5 : decode cX13_summit 5 = .ok (.aload_n 0, 1) := dw_at cX13_summit_k0 (p := 5) rfl (by decide +kernel)
theorem dmX13_summit_6 : decode cX13_summit 6 = .ok (.iload_n 1, 1) := dw_at cX13_summit_k0 (p := 6) rfl (by decide +kernel)
theorem dmX13_summit_7 : decode cX13_summit 7 = .ok (.invokevirtual 739, 3) := dw_at cX13_summit_k0 (p := 7) rfl (by decide +kernel)
theorem dmX13_summit_10 : decode cX13_summit 10 = .ok (.ifCond .ne 9, 3) := dw_at cX13_summit_k0 (p := 10) rfl (by decide +kernel)
theorem dmX13_summit_13 : decode cX13_summit 13 = .ok (.aload_n 0, 1) := dw_at cX13_summit_k0 (p := 13) rfl (by decide +kernel)
theorem dmX13_summit_14 : decode cX13_summit 14 = .ok (.iconst 1, 1) := dw_at cX13_summit_k0 (p := 14) rfl (by decide +kernel)
theorem dmX13_summit_15 : decode cX13_summit 15 = .ok (.invokevirtual 403, 3) := dw_at cX13_summit_k0 (p := 15) rfl (by decide +kernel)
theorem dmX13_summit_18 : decode cX13_summit 18 = .ok (.ireturn, 1) := dw_at cX13_summit_k0 (p := 18) rfl (by decide +kernel)
theorem dmX13_summit_19 : decode cX13_summit 19 = .ok (.aload_n 0, 1) := dw_at cX13_summit_k0 (p := 19) rfl (by decide +kernel)
theorem dmX13_summit_20 : decode cX13_summit 20 = .ok (.getfield 326, 3) := dw_at cX13_summit_k0 (p := 20) rfl (by decide +kernel)
theorem dmX13_summit_23 : decode cX13_summit 23 = .ok (.iload_n 1, 1) := dw_at cX13_summit_k0 (p := 23) rfl (by decide +kernel)
theorem dmX13_summit_24 : decode cX13_summit 24 = .ok (.iaload, 1) := dw_at cX13_summit_k1 (p := 0) rfl (by decide +kernel)
theorem dmX13_summit_25 : decode cX13_summit 25 = .ok (.iconst 5, 1) := dw_at cX13_summit_k1 (p := 1) rfl (by decide +kernel)
theorem dmX13_summit_26 : decode cX13_summit 26 = .ok (.if_icmp .ne 9, 3) := dw_at cX13_summit_k1 (p := 2) rfl (by decide +kernel)
theorem dmX13_summit_29 : decode cX13_summit 29 = .ok (.aload_n 0, 1) := dw_at cX13_summit_k1 (p := 5) rfl (by decide +kernel)
theorem dmX13_summit_30 : decode cX13_summit 30 = .ok (.iconst 2, 1) := dw_at cX13_summit_k1 (p := 6) rfl (by decide +kernel)
theorem dmX13_summit_31 : decode cX13_summit 31 = .ok (.invokevirtual 403, 3) := dw_at cX13_summit_k1 (p := 7) rfl (by decide +kernel)
theorem dmX13_summit_34 : decode cX13_summit 34 = .ok (.ireturn, 1) := dw_at cX13_summit_k1 (p := 10) rfl (by decide +kernel)
theorem dmX13_summit_35 : decode cX13_summit 35 = .ok (.aload_n 0, 1) := dw_at cX13_summit_k1 (p := 11) rfl (by decide +kernel)
theorem dmX13_summit_36 : decode cX13_summit 36 = .ok (.iload_n 1, 1) := dw_at cX13_summit_k1 (p := 12) rfl (by decide +kernel)
theorem dmX13_summit_37 : decode cX13_summit 37 = .ok (.invokevirtual 787, 3) := dw_at cX13_summit_k1 (p := 13) rfl (by decide +kernel)
theorem dmX13_summit_40 : decode cX13_summit 40 = .ok (.aload_n 0, 1) := dw_at cX13_summit_k1 (p := 16) rfl (by decide +kernel)
theorem dmX13_summit_41 : decode cX13_summit 41 = .ok (.aload_n 0, 1) := dw_at cX13_summit_k1 (p := 17) rfl (by decide +kernel)
theorem dmX13_summit_42 : decode cX13_summit 42 = .ok (.getfield 326, 3) := dw_at cX13_summit_k1 (p := 18) rfl (by decide +kernel)
theorem dmX13_summit_45 : decode cX13_summit 45 = .ok (.iload_n 1, 1) := dw_at cX13_summit_k1 (p := 21) rfl (by decide +kernel)
theorem dmX13_summit_46 : decode cX13_summit 46 = .ok (.iaload, 1) := dw_at cX13_summit_k1 (p := 22) rfl (by decide +kernel)
theorem dmX13_summit_47 : decode cX13_summit 47 = .ok (.invokevirtual 790, 3) := dw_at cX13_summit_k1 (p := 23) rfl (by decide +kernel)
theorem dmX13_summit_50 : decode cX13_summit 50 = .ok (.ifCond .eq 10, 3) := dw_at cX13_summit_k2 (p := 0) rfl (by decide +kernel)
theorem dmX13_summit_53 : decode cX13_summit 53 = .ok (.aload_n 0, 1) := dw_at cX13_summit_k2 (p := 3) rfl (by decide +kernel)
theorem dmX13_summit_54 : decode cX13_summit 54 = .ok (.getfield 780, 3) := dw_at cX13_summit_k2 (p := 4) rfl (by decide +kernel)
theorem dmX13_summit_57 : decode cX13_summit 57 = .ok (.goto 5, 3) := dw_at cX13_summit_k2 (p := 7) rfl (by decide +kernel)
theorem dmX13_summit_60 : decode cX13_summit 60 = .ok (.bipush (-2), 2) := dw_at cX13_summit_k2 (p := 10) rfl (by decide +kernel)
theorem dmX13_summit_62 : decode cX13_summit 62 = .ok (.ireturn, 1) := dw_at cX13_summit_k2 (p := 12) rfl (by decide +kernel)
def qm_X13_summit_0 (K : Nat) (x1 : Int32) (z : ow_MS) : Option (Int32 × ow_MS) :=
 wrF z 1 0 fun z1 => cs1 (qe_X13_hasBraid K x1 z1) fun v3 z2 => (if v3 = 0 then cs1 (qe_X13_fails K 1 z2) fun v13 z12 => some (v13, z12)
 else rdI mX z2 96 x1 fun v4 => (if v4 = 5 then cs1 (qe_X13_fails K 2 z2) fun v11 z10 => some (v11, z10)
 else cs0 (qe_X13_summitOf K x1 z2) fun z5 => rdI mX z5 96 x1 fun v6 => cs1 (qe_X13_allForms K v6 z5) fun v8 z7 => (if v8 = 0 then some ((-2), z7)
 else rdF z7 116 fun v9 => some (v9, z7))))
def qe_X13_summit (K : Nat) (x1 : Int32) (z : ow_MS) : Option (Int32 × ow_MS) := qm_X13_summit_0 K x1 z
abbrev wm_X13_summit : List Cond := .code yX13_summit cX13_summit 2 (some .int) :: wM
theorem cd_X13_summit : yX13_summit.cls = RX13 ∧ yX13_summit.cls ≠ "java/lang/invoke/MethodHandle" ∧ yX13_summit.cls ≠ "java/lang/invoke/VarHandle" ∧ (parseMethodDescriptor yX13_summit.desc).map (fun d => d.parameters.length) = some 1 := by decide +kernel
set_option maxHeartbeats 4000000 in
set_option maxRecDepth 100000 in
theorem km_X13_summit (l : Launch) (D : va_G) (q : ow_Q5) (u : Nat → Nat) (hU : tw_inj mX u) (K : Nat) (x1 : Int32)  (z z1 : ow_MS) (r : Int32) (hq : qe_X13_summit K x1 z = some (r, z1)) : Met l yX13_summit wm_X13_summit ({ frames := 4, cells := 0, slots := 0, locals := 106 } : Room) (va_Pc [.ref (u 0), .int x1] (mw_pre D q u z)) (va_Qi (fun x (_ : Unit) => x = r) (fun _ t => va_P D vwCl (tw mX q u z1) t.heap) (tw_A mX u)) 0 0 (tw_A mX u) := by
  refine Met.ofW (cc := cX13_summit) (maxL := 2) (ret := (some .int)) (by decide) rfl ?_
  intro p e s m args below meth c s₁ B hml hv
  obtain ⟨rfl, hP, hK, hN⟩ := hv
  have hx := B.exec
  have hb := B.bytes
  have hr := B.returns
  have hts := atoms_spec (ws := wm_X13_summit) B.pre
  have hT : ∀ w ∈ wM, w.before ([.ref (u 0), .int x1] : List Value).toArray s = true := fun w h => hts w (List.mem_cons_of_mem _ h)
  have hown : s.vm.findClass RX13 = some m.cls := findClass_of_methodNamed B.named
  have hlocks := B.notSynchronized
  have hM : tw_M D vwCl mX q s.heap u z s.heap [] := ⟨hP, va_S.rf⟩
  have hl := lv_entry ([.ref (u 0), .int x1]) (n := 2) (Nat.le_of_ble_eq_true rfl)
  rw [lg_entry_eq]
  generalize (lg_sl ([.ref (u 0), .int x1]) ++ List.replicate (2 - (lg_sl ([.ref (u 0), .int x1])).length) Slot.unset).toArray = ls at hl ⊢
  have hl : lv_has ls 2 [(0, .ref (u 0)), (1, .int x1)] := hl
  refine ow_named (fun QQ hQQ => ?_)
  generalize ([.ref (u 0), .int x1] : List Value).toArray = args at hts hT hQQ ⊢
  have hq : qm_X13_summit_0 K x1 z = some (r, z1) := hq
  unfold qm_X13_summit_0 at hq
  suffices key : ∀ (H : Heap) (locs : List Loc), tw_M D vwCl mX q s.heap u z H locs → W p l e ({ frames := 4, cells := 0, slots := 0, locals := 106 } : Room) s m args below meth c H locs 0 0 QQ (F0 m 0 ls []) from key s.heap [] hM
  intro H locs hM
  refine lv_aload_n hx hb dmX13_summit_0 rfl (lv_at hl 0 rfl) ?_
  refine lv_iconst (v := 0) hx hb dmX13_summit_1 (by decide) ?_
  refine mp13_1 hx hb hT hown hK hM hU hq dmX13_summit_2 (fun z1 H locs hM hq => ?_)
  refine lv_aload_n hx hb dmX13_summit_5 rfl (lv_at hl 0 rfl) ?_
  refine lv_iload_n hx hb dmX13_summit_6 rfl (lv_at hl 1 rfl) ?_
  obtain ⟨v3, z2, hcq, hq⟩ := tw_cl1 hq
  refine tw_cali hM (va_runV (As := [.int x1]) (rest := []) ⟨hx, hb, hml, hown, hts⟩ (km_X13_hasBraid l D q u hU K x1 z1 z2 v3 hcq) (cwV 1 hts (tw_gV wM_good wq_490 wq_491 wq_492 wq_61 wq_482) rfl rfl rfl cd_X13_hasBraid ⟨(Nat.le_of_ble_eq_true rfl), (Nat.le_of_ble_eq_true rfl)⟩) (mw_preV hK hN hM mo_0 rfl) rfl rfl hl.1 rfl (lv_room (Nat.le_of_ble_eq_true rfl)) dmX13_summit_7 ⟨(Nat.le_of_ble_eq_true rfl), (Nat.le_of_ble_eq_true rfl)⟩) (fun H locs hM => ?_)
  refine lv_if_ne (tgt := 19) hx hb dmX13_summit_10 (by decide) (fun hc => ?_) (fun hc => ?_)
  · have hq := tw_if hq hc
    refine lv_aload_n hx hb dmX13_summit_19 rfl (lv_at hl 0 rfl) ?_
    refine mg13_326 hx hb hT hown hK hM dmX13_summit_20 ?_
    refine lv_iload_n hx hb dmX13_summit_23 rfl (lv_at hl 1 rfl) ?_
    refine tw_iald mX_ok hx hb hK hM mr_96 hq dmX13_summit_24 (fun v4 hq => ?_)
    refine lv_iconst (v := 5) hx hb dmX13_summit_25 (by decide) ?_
    refine lv_icmp_ne (tgt := 35) hx hb dmX13_summit_26 (by decide) (fun hc => ?_) (fun hc => ?_)
    · have hq := tw_if hq hc
      refine lv_aload_n hx hb dmX13_summit_35 rfl (lv_at hl 0 rfl) ?_
      refine lv_iload_n hx hb dmX13_summit_36 rfl (lv_at hl 1 rfl) ?_
      obtain ⟨z5, hcq, hq⟩ := tw_cl0 hq
      refine tw_calv hM (va_runV (As := [.int x1]) (rest := []) ⟨hx, hb, hml, hown, hts⟩ (km_X13_summitOf l D q u hU K x1 z2 z5 hcq) (cwV 1 hts (tw_gV wM_good wq_554 wq_555 wq_556 wq_61 wq_546) rfl rfl rfl cd_X13_summitOf ⟨(Nat.le_of_ble_eq_true rfl), (Nat.le_of_ble_eq_true rfl)⟩) (mw_preV hK hN hM mo_0 rfl) rfl rfl hl.1 rfl (lv_room (Nat.le_of_ble_eq_true rfl)) dmX13_summit_37 ⟨(Nat.le_of_ble_eq_true rfl), (Nat.le_of_ble_eq_true rfl)⟩) (fun H locs hM => ?_)
      refine lv_aload_n hx hb dmX13_summit_40 rfl (lv_at hl 0 rfl) ?_
      refine lv_aload_n hx hb dmX13_summit_41 rfl (lv_at hl 0 rfl) ?_
      refine mg13_326 hx hb hT hown hK hM dmX13_summit_42 ?_
      refine lv_iload_n hx hb dmX13_summit_45 rfl (lv_at hl 1 rfl) ?_
      refine tw_iald mX_ok hx hb hK hM mr_96 hq dmX13_summit_46 (fun v6 hq => ?_)
      obtain ⟨v8, z7, hcq, hq⟩ := tw_cl1 hq
      refine tw_cali hM (va_runV (As := [.int v6]) (rest := []) ⟨hx, hb, hml, hown, hts⟩ (km_X13_allForms l D q u hU K v6 z5 z7 v8 hcq) (cwV 1 hts (tw_gV wM_good wq_557 wq_558 wq_559 wq_61 wq_553) rfl rfl rfl cd_X13_allForms ⟨(Nat.le_of_ble_eq_true rfl), (Nat.le_of_ble_eq_true rfl)⟩) (mw_preV hK hN hM mo_0 rfl) rfl rfl hl.1 rfl (lv_room (Nat.le_of_ble_eq_true rfl)) dmX13_summit_47 ⟨(Nat.le_of_ble_eq_true rfl), (Nat.le_of_ble_eq_true rfl)⟩) (fun H locs hM => ?_)
      refine lv_if_eq (tgt := 60) hx hb dmX13_summit_50 (by decide) (fun hc => ?_) (fun hc => ?_)
      · have hq := tw_it hq hc
        refine lv_bipush (v := (-2)) hx hb dmX13_summit_60 (by decide) ?_
        exact mw_iret hx hb hr hlocks hM hq hQQ dmX13_summit_62
      · have hq := tw_if hq hc
        refine lv_aload_n hx hb dmX13_summit_53 rfl (lv_at hl 0 rfl) ?_
        refine mg13_780 hx hb hT hown hK hM hq dmX13_summit_54 (fun v9 hq => ?_)
        refine lv_goto (tgt := 62) hx hb dmX13_summit_57 (by decide) ?_
        exact mw_iret hx hb hr hlocks hM hq hQQ dmX13_summit_62
    · have hq := tw_it hq hc
      refine lv_aload_n hx hb dmX13_summit_29 rfl (lv_at hl 0 rfl) ?_
      refine lv_iconst (v := 2) hx hb dmX13_summit_30 (by decide) ?_
      obtain ⟨v11, z10, hcq, hq⟩ := tw_cl1 hq
      refine tw_cali hM (va_runV (As := [.int 2]) (rest := []) ⟨hx, hb, hml, hown, hts⟩ (km_X13_fails l D q u hU K 2 z2 z10 v11 hcq) (cwV 1 hts (tw_gV wM_good wq_103 wq_104 wq_105 wq_61 wq_50) rfl rfl rfl cd_X13_fails ⟨(Nat.le_of_ble_eq_true rfl), (Nat.le_of_ble_eq_true rfl)⟩) (mw_preV hK hN hM mo_0 rfl) rfl rfl hl.1 rfl (lv_room (Nat.le_of_ble_eq_true rfl)) dmX13_summit_31 ⟨(Nat.le_of_ble_eq_true rfl), (Nat.le_of_ble_eq_true rfl)⟩) (fun H locs hM => ?_)
      exact mw_iret hx hb hr hlocks hM hq hQQ dmX13_summit_34
  · have hq := tw_it hq hc
    refine lv_aload_n hx hb dmX13_summit_13 rfl (lv_at hl 0 rfl) ?_
    refine lv_iconst (v := 1) hx hb dmX13_summit_14 (by decide) ?_
    obtain ⟨v13, z12, hcq, hq⟩ := tw_cl1 hq
    refine tw_cali hM (va_runV (As := [.int 1]) (rest := []) ⟨hx, hb, hml, hown, hts⟩ (km_X13_fails l D q u hU K 1 z2 z12 v13 hcq) (cwV 1 hts (tw_gV wM_good wq_103 wq_104 wq_105 wq_61 wq_50) rfl rfl rfl cd_X13_fails ⟨(Nat.le_of_ble_eq_true rfl), (Nat.le_of_ble_eq_true rfl)⟩) (mw_preV hK hN hM mo_0 rfl) rfl rfl hl.1 rfl (lv_room (Nat.le_of_ble_eq_true rfl)) dmX13_summit_15 ⟨(Nat.le_of_ble_eq_true rfl), (Nat.le_of_ble_eq_true rfl)⟩) (fun H locs hM => ?_)
    exact mw_iret hx hb hr hlocks hM hq hQQ dmX13_summit_18
theorem dmX13_conjugate_0 : decode cX13_conjugate 0 = .ok (.aload_n 0, 1) := dw_at cX13_conjugate_k0 (p := 0) rfl (by decide +kernel)
theorem dmX13_conjugate_1 : decode cX13_conjugate 1 = .ok (.iconst 0, 1) := dw_at cX13_conjugate_k0 (p := 1) rfl (by decide +kernel)
theorem dmX13_conjugate_2 : decode cX13_conjugate 2 = .ok (.putfield 1, 3) := dw_at cX13_conjugate_k0 (p := 2) rfl (by decide +kernel)
theorem dmX13_conjugate_5 : decode cX13_conjugate 5 = .ok (.aload_n 0, 1) := dw_at cX13_conjugate_k0 (p := 5) rfl (by decide +kernel)
theorem dmX13_conjugate_6 : decode cX13_conjugate 6 = .ok (.iload_n 1, 1) := dw_at cX13_conjugate_k0 (p := 6) rfl (by decide +kernel)
theorem dmX13_conjugate_7 : decode cX13_conjugate 7 = .ok (.invokevirtual 739, 3) := dw_at cX13_conjugate_k0 (p := 7) rfl (by decide +kernel)
theorem dmX13_conjugate_10 : decode cX13_conjugate 10 = .ok (.ifCond .eq 11, 3) := dw_at cX13_conjugate_k0 (p := 10) rfl (by decide +kernel)
theorem dmX13_conjugate_13 : decode cX13_conjugate 13 = .ok (.aload_n 0, 1) := dw_at cX13_conjugate_k0 (p := 13) rfl (by decide +kernel)
theorem dmX13_conjugate_14 : decode cX13_conjugate 14 = .ok (.iload_n 2, 1) := dw_at cX13_conjugate_k0 (p := 14) rfl (by decide +kernel)
theorem dmX13_conjugate_15 : decode cX13_conjugate 15 = .ok (.invokevirtual 739, 3) := dw_at cX13_conjugate_k0 (p := 15) rfl (by decide +kernel)
theorem dmX13_conjugate_18 : decode cX13_conjugate 18 = .ok (.ifCond .ne 9, 3) := dw_at cX13_conjugate_k0 (p := 18) rfl (by decide +kernel)
theorem dmX13_conjugate_21 : decode cX13_conjugate 21 = .ok (.aload_n 0, 1) := dw_at cX13_conjugate_k0 (p := 21) rfl (by decide +kernel)
theorem dmX13_conjugate_22 : decode cX13_conjugate 22 = .ok (.iconst 1, 1) := dw_at cX13_conjugate_k0 (p := 22) rfl (by decide +kernel)
theorem dmX13_conjugate_23 : decode cX13_conjugate 23 = .ok (.invokevirtual 403, 3) := dw_at cX13_conjugate_k0 (p := 23) rfl (by decide +kernel)
theorem dmX13_conjugate_26 : decode cX13_conjugate 26 = .ok (.ireturn, 1) := dw_at cX13_conjugate_k1 (p := 0) rfl (by decide +kernel)
theorem dmX13_conjugate_27 : decode cX13_conjugate 27 = .ok (.aload_n 0, 1) := dw_at cX13_conjugate_k1 (p := 1) rfl (by decide +kernel)
theorem dmX13_conjugate_28 : decode cX13_conjugate 28 = .ok (.getfield 326, 3) := dw_at cX13_conjugate_k1 (p := 2) rfl (by decide +kernel)
theorem dmX13_conjugate_31 : decode cX13_conjugate 31 = .ok (.iload_n 1, 1) := dw_at cX13_conjugate_k1 (p := 5) rfl (by decide +kernel)
theorem dmX13_conjugate_32 : decode cX13_conjugate 32 = .ok (.iaload, 1) := dw_at cX13_conjugate_k1 (p := 6) rfl (by decide +kernel)
theorem dmX13_conjugate_33 : decode cX13_conjugate 33 = .ok (.aload_n 0, 1) := dw_at cX13_conjugate_k1 (p := 7) rfl (by decide +kernel)
theorem dmX13_conjugate_34 : decode cX13_conjugate 34 = .ok (.getfield 326, 3) := dw_at cX13_conjugate_k1 (p := 8) rfl (by decide +kernel)
theorem dmX13_conjugate_37 : decode cX13_conjugate 37 = .ok (.iload_n 2, 1) := dw_at cX13_conjugate_k1 (p := 11) rfl (by decide +kernel)
theorem dmX13_conjugate_38 : decode cX13_conjugate 38 = .ok (.iaload, 1) := dw_at cX13_conjugate_k1 (p := 12) rfl (by decide +kernel)
theorem dmX13_conjugate_39 : decode cX13_conjugate 39 = .ok (.if_icmp .eq 9, 3) := dw_at cX13_conjugate_k1 (p := 13) rfl (by decide +kernel)
theorem dmX13_conjugate_42 : decode cX13_conjugate 42 = .ok (.aload_n 0, 1) := dw_at cX13_conjugate_k1 (p := 16) rfl (by decide +kernel)
theorem dmX13_conjugate_43 : decode cX13_conjugate 43 = .ok (.iconst 2, 1) := dw_at cX13_conjugate_k1 (p := 17) rfl (by decide +kernel)
theorem dmX13_conjugate_44 : decode cX13_conjugate 44 = .ok (.invokevirtual 403, 3) := dw_at cX13_conjugate_k1 (p := 18) rfl (by decide +kernel)
theorem dmX13_conjugate_47 : decode cX13_conjugate 47 = .ok (.ireturn, 1) := dw_at cX13_conjugate_k1 (p := 21) rfl (by decide +kernel)
theorem dmX13_conjugate_48 : decode cX13_conjugate 48 = .ok (.aload_n 0, 1) := dw_at cX13_conjugate_k1 (p := 22) rfl (by decide +kernel)
theorem dmX13_conjugate_49 : decode cX13_conjugate 49 = .ok (.getfield 326, 3) := dw_at cX13_conjugate_k1 (p := 23) rfl (by decide +kernel)
theorem dmX13_conjugate_52 : decode cX13_conjugate 52 = .ok (.iload_n 1, 1) := dw_at cX13_conjugate_k2 (p := 0) rfl (by decide +kernel)
theorem dmX13_conjugate_53 : decode cX13_conjugate 53 = .ok (.iaload, 1) := dw_at cX13_conjugate_k2 (p := 1) rfl (by decide +kernel)
theorem dmX13_conjugate_54 : decode cX13_conjugate 54 = .ok (.istore_n 3, 1) := dw_at cX13_conjugate_k2 (p := 2) rfl (by decide +kernel)
theorem dmX13_conjugate_55 : decode cX13_conjugate 55 = .ok (.iload_n 3, 1) := dw_at cX13_conjugate_k2 (p := 3) rfl (by decide +kernel)
theorem dmX13_conjugate_56 : decode cX13_conjugate 56 = .ok (.iconst 5, 1) := dw_at cX13_conjugate_k2 (p := 4) rfl (by decide +kernel)
theorem dmX13_conjugate_57 : decode cX13_conjugate 57 = .ok (.if_icmp .ne 9, 3) := dw_at cX13_conjugate_k2 (p := 5) rfl (by decide +kernel)
theorem dmX13_conjugate_60 : decode cX13_conjugate 60 = .ok (.aload_n 0, 1) := dw_at cX13_conjugate_k2 (p := 8) rfl (by decide +kernel)
theorem dmX13_conjugate_61 : decode cX13_conjugate 61 = .ok (.iconst 3, 1) := dw_at cX13_conjugate_k2 (p := 9) rfl (by decide +kernel)
theorem dmX13_conjugate_62 : decode cX13_conjugate 62 = .ok (.invokevirtual 403, 3) := dw_at cX13_conjugate_k2 (p := 10) rfl (by decide +kernel)
theorem dmX13_conjugate_65 : decode cX13_conjugate 65 = .ok (.ireturn, 1) := dw_at cX13_conjugate_k2 (p := 13) rfl (by decide +kernel)
theorem dmX13_conjugate_66 : decode cX13_conjugate 66 = .ok (.aload_n 0, 1) := dw_at cX13_conjugate_k2 (p := 14) rfl (by decide +kernel)
theorem dmX13_conjugate_67 : decode cX13_conjugate 67 = .ok (.iload_n 2, 1) := dw_at cX13_conjugate_k2 (p := 15) rfl (by decide +kernel)
theorem dmX13_conjugate_68 : decode cX13_conjugate 68 = .ok (.invokevirtual 787, 3) := dw_at cX13_conjugate_k2 (p := 16) rfl (by decide +kernel)
theorem dmX13_conjugate_71 : decode cX13_conjugate 71 = .ok (.aload_n 0, 1) := dw_at cX13_conjugate_k2 (p := 19) rfl (by decide +kernel)
theorem dmX13_conjugate_72 : decode cX13_conjugate 72 = .ok (.aload_n 0, 1) := dw_at cX13_conjugate_k2 (p := 20) rfl (by decide +kernel)
theorem dmX13_conjugate_73 : decode cX13_conjugate 73 = .ok (.getfield 377, 3) := dw_at cX13_conjugate_k2 (p := 21) rfl (by decide +kernel)
theorem dmX13_conjugate_76 : decode cX13_conjugate 76 = .ok (.iconst 0, 1) := dw_at cX13_conjugate_k3 (p := 0) rfl (by decide +kernel)
theorem dmX13_conjugate_77 : decode cX13_conjugate 77 = .ok (.invokevirtual 766, 3) := dw_at cX13_conjugate_k3 (p := 1) rfl (by decide +kernel)
theorem dmX13_conjugate_80 : decode cX13_conjugate 80 = .ok (.aload_n 0, 1) := dw_at cX13_conjugate_k3 (p := 4) rfl (by decide +kernel)
theorem dmX13_conjugate_81 : decode cX13_conjugate 81 = .ok (.iload_n 1, 1) := dw_at cX13_conjugate_k3 (p := 5) rfl (by decide +kernel)
theorem dmX13_conjugate_82 : decode cX13_conjugate 82 = .ok (.invokevirtual 787, 3) := dw_at cX13_conjugate_k3 (p := 6) rfl (by decide +kernel)
theorem dmX13_conjugate_85 : decode cX13_conjugate 85 = .ok (.aload_n 0, 1) := dw_at cX13_conjugate_k3 (p := 9) rfl (by decide +kernel)
theorem dmX13_conjugate_86 : decode cX13_conjugate 86 = .ok (.iload_n 3, 1) := dw_at cX13_conjugate_k3 (p := 10) rfl (by decide +kernel)
theorem dmX13_conjugate_87 : decode cX13_conjugate 87 = .ok (.invokevirtual 790, 3) := dw_at cX13_conjugate_k3 (p := 11) rfl (by decide +kernel)
theorem dmX13_conjugate_90 : decode cX13_conjugate 90 = .ok (.ifCond .ne 6, 3) := dw_at cX13_conjugate_k3 (p := 14) rfl (by decide +kernel)
theorem dmX13_conjugate_93 : decode cX13_conjugate 93 = .ok (.bipush (-2), 2) := dw_at cX13_conjugate_k3 (p := 17) rfl (by decide +kernel)
theorem dmX13_conjugate_95 : decode cX13_conjugate 95 = .ok (.ireturn, 1) := dw_at cX13_conjugate_k3 (p := 19) rfl (by decide +kernel)
theorem dmX13_conjugate_96 : decode cX13_conjugate 96 = .ok (.aload_n 0, 1) := dw_at cX13_conjugate_k3 (p := 20) rfl (by decide +kernel)
theorem dmX13_conjugate_97 : decode cX13_conjugate 97 = .ok (.aload_n 0, 1) := dw_at cX13_conjugate_k3 (p := 21) rfl (by decide +kernel)
theorem dmX13_conjugate_98 : decode cX13_conjugate 98 = .ok (.getfield 377, 3) := dw_at cX13_conjugate_k3 (p := 22) rfl (by decide +kernel)
theorem dmX13_conjugate_101 : decode cX13_conjugate 101 = .ok (.invokevirtual 783, 3) := dw_at cX13_conjugate_k4 (p := 0) rfl (by decide +kernel)
theorem dmX13_conjugate_104 : decode cX13_conjugate 104 = .ok (.ifCond .eq 5, 3) := dw_at cX13_conjugate_k4 (p := 3) rfl (by decide +kernel)
theorem dmX13_conjugate_107 : decode cX13_conjugate 107 = .ok (.iconst 1, 1) := dw_at cX13_conjugate_k4 (p := 6) rfl (by decide +kernel)
theorem dmX13_conjugate_108 : decode cX13_conjugate 108 = .ok (.ireturn, 1) := dw_at cX13_conjugate_k4 (p := 7) rfl (by decide +kernel)
theorem dmX13_conjugate_109 : decode cX13_conjugate 109 = .ok (.aload_n 0, 1) := dw_at cX13_conjugate_k4 (p := 8) rfl (by decide +kernel)
theorem dmX13_conjugate_110 : decode cX13_conjugate 110 = .ok (.iload_n 2, 1) := dw_at cX13_conjugate_k4 (p := 9) rfl (by decide +kernel)
theorem dmX13_conjugate_111 : decode cX13_conjugate 111 = .ok (.invokevirtual 787, 3) := dw_at cX13_conjugate_k4 (p := 10) rfl (by decide +kernel)
theorem dmX13_conjugate_114 : decode cX13_conjugate 114 = .ok (.aload_n 0, 1) := dw_at cX13_conjugate_k4 (p := 13) rfl (by decide +kernel)
theorem dmX13_conjugate_115 : decode cX13_conjugate 115 = .ok (.iload_n 3, 1) := dw_at cX13_conjugate_k4 (p := 14) rfl (by decide +kernel)
theorem dmX13_conjugate_116 : decode cX13_conjugate 116 = .ok (.invokevirtual 790, 3) := dw_at cX13_conjugate_k4 (p := 15) rfl (by decide +kernel)
theorem dmX13_conjugate_119 : decode cX13_conjugate 119 = .ok (.ifCond .eq 7, 3) := dw_at cX13_conjugate_k4 (p := 18) rfl (by decide +kernel)
theorem dmX13_conjugate_122 : decode cX13_conjugate 122 = .ok (.iconst 0, 1) := dw_at cX13_conjugate_k4 (p := 21) rfl (by decide +kernel)
theorem dmX13_conjugate_123 : decode cX13_conjugate 123 = .ok (.goto 5, 3) := dw_at cX13_conjugate_k4 (p := 22) rfl (by decide +kernel)
theorem dmX13_conjugate_126 : decode cX13_conjugate 126 = .ok (.bipush (-2), 2) := dw_at cX13_conjugate_k4 (p := 25) rfl (by decide +kernel)
theorem dmX13_conjugate_128 : decode cX13_conjugate 128 = .ok (.ireturn, 1) := dw_at cX13_conjugate_k4 (p := 27) rfl (by decide +kernel)
def qm_X13_conjugate_0 (K : Nat) (go : Nat → Int32 → Int32 → ow_MS → Option (Int32 × ow_MS)) (x1 : Int32) (x2 : Int32) (z : ow_MS) : Option (Int32 × ow_MS) :=
 wrF z 1 0 fun z1 => cs1 (qe_X13_hasBraid K x1 z1) fun v3 z2 => (if v3 = 0 then go 1 x1 x2 z2
 else cs1 (qe_X13_hasBraid K x2 z2) fun v5 z4 => (if v5 = 0 then go 1 x1 x2 z4
 else rdI mX z4 96 x1 fun v6 => rdI mX z4 96 x2 fun v7 => (if v6 = v7 then rdI mX z4 96 x1 fun v8 => (if v8 = 5 then cs1 (qe_X13_fails K 3 z4) fun v20 z19 => some (v20, z19)
 else cs0 (qe_X13_summitOf K x2 z4) fun z9 => cs0 (qe_X13_formTo K 118 0 z9) fun z10 => cs0 (qe_X13_summitOf K x1 z10) fun z11 => cs1 (qe_X13_allForms K v8 z11) fun v13 z12 => (if v13 = 0 then some ((-2), z12)
 else cs1 (qe_X13_isThere K 118 z12) fun v15 z14 => (if v15 = 0 then cs0 (qe_X13_summitOf K x2 z14) fun z16 => cs1 (qe_X13_allForms K v8 z16) fun v18 z17 => (if v18 = 0 then some ((-2), z17)
 else some (0, z17))
 else some (1, z14))))
 else cs1 (qe_X13_fails K 2 z4) fun v22 z21 => some (v22, z21))))
def qm_X13_conjugate_1 (K : Nat) (go : Nat → Int32 → Int32 → ow_MS → Option (Int32 × ow_MS)) (x1 : Int32) (x2 : Int32) (z : ow_MS) : Option (Int32 × ow_MS) :=
 cs1 (qe_X13_fails K 1 z) fun v24 z23 => some (v24, z23)
def qb_X13_conjugate (K : Nat) (go : Nat → Int32 → Int32 → ow_MS → Option (Int32 × ow_MS)) (L : Nat) (x1 : Int32) (x2 : Int32) (z : ow_MS) : Option (Int32 × ow_MS) := match L with
  | 0 => qm_X13_conjugate_0 K go x1 x2 z
  | 1 => qm_X13_conjugate_1 K go x1 x2 z
  | _ => none
def q_X13_conjugate (K : Nat) : Nat → Nat → Int32 → Int32 → ow_MS → Option (Int32 × ow_MS)
  | 0 => fun _ _ _ _ => none
  | k + 1 => qb_X13_conjugate K (q_X13_conjugate K k)
def qe_X13_conjugate (K : Nat) (x1 : Int32) (x2 : Int32) (z : ow_MS) : Option (Int32 × ow_MS) := q_X13_conjugate K K 0 x1 x2 z
abbrev wm_X13_conjugate : List Cond := .code yX13_conjugate cX13_conjugate 4 (some .int) :: wM
theorem cd_X13_conjugate : yX13_conjugate.cls = RX13 ∧ yX13_conjugate.cls ≠ "java/lang/invoke/MethodHandle" ∧ yX13_conjugate.cls ≠ "java/lang/invoke/VarHandle" ∧ (parseMethodDescriptor yX13_conjugate.desc).map (fun d => d.parameters.length) = some 2 := by decide +kernel
set_option maxHeartbeats 4000000 in
set_option maxRecDepth 100000 in
theorem km_X13_conjugate (l : Launch) (D : va_G) (q : ow_Q5) (u : Nat → Nat) (hU : tw_inj mX u) (K : Nat) (x1 : Int32) (x2 : Int32)  (z z1 : ow_MS) (r : Int32) (hq : qe_X13_conjugate K x1 x2 z = some (r, z1)) : Met l yX13_conjugate wm_X13_conjugate ({ frames := 4, cells := 0, slots := 0, locals := 106 } : Room) (va_Pc [.ref (u 0), .int x1, .int x2] (mw_pre D q u z)) (va_Qi (fun x (_ : Unit) => x = r) (fun _ t => va_P D vwCl (tw mX q u z1) t.heap) (tw_A mX u)) 0 0 (tw_A mX u) := by
  refine Met.ofW (cc := cX13_conjugate) (maxL := 4) (ret := (some .int)) (by decide) rfl ?_
  intro p e s m args below meth c s₁ B hml hv
  obtain ⟨rfl, hP, hK, hN⟩ := hv
  have hx := B.exec
  have hb := B.bytes
  have hr := B.returns
  have hts := atoms_spec (ws := wm_X13_conjugate) B.pre
  have hT : ∀ w ∈ wM, w.before ([.ref (u 0), .int x1, .int x2] : List Value).toArray s = true := fun w h => hts w (List.mem_cons_of_mem _ h)
  have hown : s.vm.findClass RX13 = some m.cls := findClass_of_methodNamed B.named
  have hlocks := B.notSynchronized
  have hM : tw_M D vwCl mX q s.heap u z s.heap [] := ⟨hP, va_S.rf⟩
  have hl := lv_entry ([.ref (u 0), .int x1, .int x2]) (n := 4) (Nat.le_of_ble_eq_true rfl)
  rw [lg_entry_eq]
  generalize (lg_sl ([.ref (u 0), .int x1, .int x2]) ++ List.replicate (4 - (lg_sl ([.ref (u 0), .int x1, .int x2])).length) Slot.unset).toArray = ls at hl ⊢
  have hl : lv_has ls 4 [(0, .ref (u 0)), (1, .int x1), (2, .int x2)] := hl
  refine ow_named (fun QQ hQQ => ?_)
  generalize ([.ref (u 0), .int x1, .int x2] : List Value).toArray = args at hts hT hQQ ⊢
  have key : ∀ k : Nat, (∀ (x1 : Int32) (x2 : Int32) (z : ow_MS) (H : Heap) (locs : List Loc) (ls : Array Slot), tw_M D vwCl mX q s.heap u z H locs → lv_has ls 4 [(0, .ref (u 0)), (1, .int x1), (2, .int x2)] → q_X13_conjugate K k 0 x1 x2 z = some (r, z1) → W p l e ({ frames := 4, cells := 0, slots := 0, locals := 106 } : Room) s m args below meth c H locs 0 0 QQ (F0 m 0 ls [])) ∧ (∀ (x1 : Int32) (x2 : Int32) (z : ow_MS) (H : Heap) (locs : List Loc) (ls : Array Slot), tw_M D vwCl mX q s.heap u z H locs → lv_has ls 4 [(0, .ref (u 0)), (1, .int x1), (2, .int x2)] → q_X13_conjugate K k 1 x1 x2 z = some (r, z1) → W p l e ({ frames := 4, cells := 0, slots := 0, locals := 106 } : Room) s m args below meth c H locs 0 0 QQ (F0 m 21 ls [])) := by
    intro k
    induction k with
    | zero => exact ⟨fun _ _ _ _ _ _  _ _ hq => tw_no hq, fun _ _ _ _ _ _  _ _ hq => tw_no hq⟩
    | succ k ih =>
      obtain ⟨ih_0, ih_1⟩ := ih
      refine ⟨?_, ?_⟩
      · intro x1 x2 z H locs ls  hM hl hq
        have hq : qm_X13_conjugate_0 K (q_X13_conjugate K k) x1 x2 z = some (r, z1) := hq
        unfold qm_X13_conjugate_0 at hq
        refine lv_aload_n hx hb dmX13_conjugate_0 rfl (lv_at hl 0 rfl) ?_
        refine lv_iconst (v := 0) hx hb dmX13_conjugate_1 (by decide) ?_
        refine mp13_1 hx hb hT hown hK hM hU hq dmX13_conjugate_2 (fun z1 H locs hM hq => ?_)
        refine lv_aload_n hx hb dmX13_conjugate_5 rfl (lv_at hl 0 rfl) ?_
        refine lv_iload_n hx hb dmX13_conjugate_6 rfl (lv_at hl 1 rfl) ?_
        obtain ⟨v3, z2, hcq, hq⟩ := tw_cl1 hq
        refine tw_cali hM (va_runV (As := [.int x1]) (rest := []) ⟨hx, hb, hml, hown, hts⟩ (km_X13_hasBraid l D q u hU K x1 z1 z2 v3 hcq) (cwV 1 hts (tw_gV wM_good wq_490 wq_491 wq_492 wq_61 wq_482) rfl rfl rfl cd_X13_hasBraid ⟨(Nat.le_of_ble_eq_true rfl), (Nat.le_of_ble_eq_true rfl)⟩) (mw_preV hK hN hM mo_0 rfl) rfl rfl hl.1 rfl (lv_room (Nat.le_of_ble_eq_true rfl)) dmX13_conjugate_7 ⟨(Nat.le_of_ble_eq_true rfl), (Nat.le_of_ble_eq_true rfl)⟩) (fun H locs hM => ?_)
        refine lv_if_eq (tgt := 21) hx hb dmX13_conjugate_10 (by decide) (fun hc => ?_) (fun hc => ?_)
        · have hq := tw_it hq hc
          exact ih_1 x1 x2 z2 H locs ls hM (lv_sub hl [0, 1, 2] rfl) hq
        · have hq := tw_if hq hc
          refine lv_aload_n hx hb dmX13_conjugate_13 rfl (lv_at hl 0 rfl) ?_
          refine lv_iload_n hx hb dmX13_conjugate_14 rfl (lv_at hl 2 rfl) ?_
          obtain ⟨v5, z4, hcq, hq⟩ := tw_cl1 hq
          refine tw_cali hM (va_runV (As := [.int x2]) (rest := []) ⟨hx, hb, hml, hown, hts⟩ (km_X13_hasBraid l D q u hU K x2 z2 z4 v5 hcq) (cwV 1 hts (tw_gV wM_good wq_490 wq_491 wq_492 wq_61 wq_482) rfl rfl rfl cd_X13_hasBraid ⟨(Nat.le_of_ble_eq_true rfl), (Nat.le_of_ble_eq_true rfl)⟩) (mw_preV hK hN hM mo_0 rfl) rfl rfl hl.1 rfl (lv_room (Nat.le_of_ble_eq_true rfl)) dmX13_conjugate_15 ⟨(Nat.le_of_ble_eq_true rfl), (Nat.le_of_ble_eq_true rfl)⟩) (fun H locs hM => ?_)
          refine lv_if_ne (tgt := 27) hx hb dmX13_conjugate_18 (by decide) (fun hc => ?_) (fun hc => ?_)
          · have hq := tw_if hq hc
            refine lv_aload_n hx hb dmX13_conjugate_27 rfl (lv_at hl 0 rfl) ?_
            refine mg13_326 hx hb hT hown hK hM dmX13_conjugate_28 ?_
            refine lv_iload_n hx hb dmX13_conjugate_31 rfl (lv_at hl 1 rfl) ?_
            refine tw_iald mX_ok hx hb hK hM mr_96 hq dmX13_conjugate_32 (fun v6 hq => ?_)
            refine lv_aload_n hx hb dmX13_conjugate_33 rfl (lv_at hl 0 rfl) ?_
            refine mg13_326 hx hb hT hown hK hM dmX13_conjugate_34 ?_
            refine lv_iload_n hx hb dmX13_conjugate_37 rfl (lv_at hl 2 rfl) ?_
            refine tw_iald mX_ok hx hb hK hM mr_96 hq dmX13_conjugate_38 (fun v7 hq => ?_)
            refine lv_icmp_eq (tgt := 48) hx hb dmX13_conjugate_39 (by decide) (fun hc => ?_) (fun hc => ?_)
            · have hq := tw_it hq hc
              refine lv_aload_n hx hb dmX13_conjugate_48 rfl (lv_at hl 0 rfl) ?_
              refine mg13_326 hx hb hT hown hK hM dmX13_conjugate_49 ?_
              refine lv_iload_n hx hb dmX13_conjugate_52 rfl (lv_at hl 1 rfl) ?_
              refine tw_iald mX_ok hx hb hK hM mr_96 hq dmX13_conjugate_53 (fun v8 hq => ?_)
              refine lv_istore_n (lv' := [(3, .int v8), (0, .ref (u 0)), (1, .int x1), (2, .int x2)]) hx hb dmX13_conjugate_54 rfl hl (by decide) rfl (fun ls hl => ?_)
              refine lv_iload_n hx hb dmX13_conjugate_55 rfl (lv_at hl 0 rfl) ?_
              refine lv_iconst (v := 5) hx hb dmX13_conjugate_56 (by decide) ?_
              refine lv_icmp_ne (tgt := 66) hx hb dmX13_conjugate_57 (by decide) (fun hc => ?_) (fun hc => ?_)
              · have hq := tw_if hq hc
                refine lv_aload_n hx hb dmX13_conjugate_66 rfl (lv_at hl 1 rfl) ?_
                refine lv_iload_n hx hb dmX13_conjugate_67 rfl (lv_at hl 3 rfl) ?_
                obtain ⟨z9, hcq, hq⟩ := tw_cl0 hq
                refine tw_calv hM (va_runV (As := [.int x2]) (rest := []) ⟨hx, hb, hml, hown, hts⟩ (km_X13_summitOf l D q u hU K x2 z4 z9 hcq) (cwV 1 hts (tw_gV wM_good wq_554 wq_555 wq_556 wq_61 wq_546) rfl rfl rfl cd_X13_summitOf ⟨(Nat.le_of_ble_eq_true rfl), (Nat.le_of_ble_eq_true rfl)⟩) (mw_preV hK hN hM mo_0 rfl) rfl rfl hl.1 rfl (lv_room (Nat.le_of_ble_eq_true rfl)) dmX13_conjugate_68 ⟨(Nat.le_of_ble_eq_true rfl), (Nat.le_of_ble_eq_true rfl)⟩) (fun H locs hM => ?_)
                refine lv_aload_n hx hb dmX13_conjugate_71 rfl (lv_at hl 1 rfl) ?_
                refine lv_aload_n hx hb dmX13_conjugate_72 rfl (lv_at hl 1 rfl) ?_
                refine mg13_377 hx hb hT hown hK hM dmX13_conjugate_73 ?_
                refine lv_iconst (v := 0) hx hb dmX13_conjugate_76 (by decide) ?_
                obtain ⟨z10, hcq, hq⟩ := tw_cl0 hq
                refine tw_calv hM (va_runV (As := [.ref (u 118), .int 0]) (rest := []) ⟨hx, hb, hml, hown, hts⟩ (km_X13_formTo l D q u hU K 118 0 mr_118 z9 z10 hcq) (cwV 2 hts (tw_gV wM_good wq_531 wq_532 wq_533 wq_61 wq_527) rfl rfl rfl cd_X13_formTo ⟨(Nat.le_of_ble_eq_true rfl), (Nat.le_of_ble_eq_true rfl)⟩) (mw_preV hK hN hM mo_0 rfl) rfl rfl hl.1 rfl (lv_room (Nat.le_of_ble_eq_true rfl)) dmX13_conjugate_77 ⟨(Nat.le_of_ble_eq_true rfl), (Nat.le_of_ble_eq_true rfl)⟩) (fun H locs hM => ?_)
                refine lv_aload_n hx hb dmX13_conjugate_80 rfl (lv_at hl 1 rfl) ?_
                refine lv_iload_n hx hb dmX13_conjugate_81 rfl (lv_at hl 2 rfl) ?_
                obtain ⟨z11, hcq, hq⟩ := tw_cl0 hq
                refine tw_calv hM (va_runV (As := [.int x1]) (rest := []) ⟨hx, hb, hml, hown, hts⟩ (km_X13_summitOf l D q u hU K x1 z10 z11 hcq) (cwV 1 hts (tw_gV wM_good wq_554 wq_555 wq_556 wq_61 wq_546) rfl rfl rfl cd_X13_summitOf ⟨(Nat.le_of_ble_eq_true rfl), (Nat.le_of_ble_eq_true rfl)⟩) (mw_preV hK hN hM mo_0 rfl) rfl rfl hl.1 rfl (lv_room (Nat.le_of_ble_eq_true rfl)) dmX13_conjugate_82 ⟨(Nat.le_of_ble_eq_true rfl), (Nat.le_of_ble_eq_true rfl)⟩) (fun H locs hM => ?_)
                refine lv_aload_n hx hb dmX13_conjugate_85 rfl (lv_at hl 1 rfl) ?_
                refine lv_iload_n hx hb dmX13_conjugate_86 rfl (lv_at hl 0 rfl) ?_
                obtain ⟨v13, z12, hcq, hq⟩ := tw_cl1 hq
                refine tw_cali hM (va_runV (As := [.int v8]) (rest := []) ⟨hx, hb, hml, hown, hts⟩ (km_X13_allForms l D q u hU K v8 z11 z12 v13 hcq) (cwV 1 hts (tw_gV wM_good wq_557 wq_558 wq_559 wq_61 wq_553) rfl rfl rfl cd_X13_allForms ⟨(Nat.le_of_ble_eq_true rfl), (Nat.le_of_ble_eq_true rfl)⟩) (mw_preV hK hN hM mo_0 rfl) rfl rfl hl.1 rfl (lv_room (Nat.le_of_ble_eq_true rfl)) dmX13_conjugate_87 ⟨(Nat.le_of_ble_eq_true rfl), (Nat.le_of_ble_eq_true rfl)⟩) (fun H locs hM => ?_)
                refine lv_if_ne (tgt := 96) hx hb dmX13_conjugate_90 (by decide) (fun hc => ?_) (fun hc => ?_)
                · have hq := tw_if hq hc
                  refine lv_aload_n hx hb dmX13_conjugate_96 rfl (lv_at hl 1 rfl) ?_
                  refine lv_aload_n hx hb dmX13_conjugate_97 rfl (lv_at hl 1 rfl) ?_
                  refine mg13_377 hx hb hT hown hK hM dmX13_conjugate_98 ?_
                  obtain ⟨v15, z14, hcq, hq⟩ := tw_cl1 hq
                  refine tw_cali hM (va_runV (As := [.ref (u 118)]) (rest := []) ⟨hx, hb, hml, hown, hts⟩ (km_X13_isThere l D q u hU K 118 mr_118 z12 z14 v15 hcq) (cwV 1 hts (tw_gV wM_good wq_549 wq_550 wq_551 wq_61 wq_552) rfl rfl rfl cd_X13_isThere ⟨(Nat.le_of_ble_eq_true rfl), (Nat.le_of_ble_eq_true rfl)⟩) (mw_preV hK hN hM mo_0 rfl) rfl rfl hl.1 rfl (lv_room (Nat.le_of_ble_eq_true rfl)) dmX13_conjugate_101 ⟨(Nat.le_of_ble_eq_true rfl), (Nat.le_of_ble_eq_true rfl)⟩) (fun H locs hM => ?_)
                  refine lv_if_eq (tgt := 109) hx hb dmX13_conjugate_104 (by decide) (fun hc => ?_) (fun hc => ?_)
                  · have hq := tw_it hq hc
                    refine lv_aload_n hx hb dmX13_conjugate_109 rfl (lv_at hl 1 rfl) ?_
                    refine lv_iload_n hx hb dmX13_conjugate_110 rfl (lv_at hl 3 rfl) ?_
                    obtain ⟨z16, hcq, hq⟩ := tw_cl0 hq
                    refine tw_calv hM (va_runV (As := [.int x2]) (rest := []) ⟨hx, hb, hml, hown, hts⟩ (km_X13_summitOf l D q u hU K x2 z14 z16 hcq) (cwV 1 hts (tw_gV wM_good wq_554 wq_555 wq_556 wq_61 wq_546) rfl rfl rfl cd_X13_summitOf ⟨(Nat.le_of_ble_eq_true rfl), (Nat.le_of_ble_eq_true rfl)⟩) (mw_preV hK hN hM mo_0 rfl) rfl rfl hl.1 rfl (lv_room (Nat.le_of_ble_eq_true rfl)) dmX13_conjugate_111 ⟨(Nat.le_of_ble_eq_true rfl), (Nat.le_of_ble_eq_true rfl)⟩) (fun H locs hM => ?_)
                    refine lv_aload_n hx hb dmX13_conjugate_114 rfl (lv_at hl 1 rfl) ?_
                    refine lv_iload_n hx hb dmX13_conjugate_115 rfl (lv_at hl 0 rfl) ?_
                    obtain ⟨v18, z17, hcq, hq⟩ := tw_cl1 hq
                    refine tw_cali hM (va_runV (As := [.int v8]) (rest := []) ⟨hx, hb, hml, hown, hts⟩ (km_X13_allForms l D q u hU K v8 z16 z17 v18 hcq) (cwV 1 hts (tw_gV wM_good wq_557 wq_558 wq_559 wq_61 wq_553) rfl rfl rfl cd_X13_allForms ⟨(Nat.le_of_ble_eq_true rfl), (Nat.le_of_ble_eq_true rfl)⟩) (mw_preV hK hN hM mo_0 rfl) rfl rfl hl.1 rfl (lv_room (Nat.le_of_ble_eq_true rfl)) dmX13_conjugate_116 ⟨(Nat.le_of_ble_eq_true rfl), (Nat.le_of_ble_eq_true rfl)⟩) (fun H locs hM => ?_)
                    refine lv_if_eq (tgt := 126) hx hb dmX13_conjugate_119 (by decide) (fun hc => ?_) (fun hc => ?_)
                    · have hq := tw_it hq hc
                      refine lv_bipush (v := (-2)) hx hb dmX13_conjugate_126 (by decide) ?_
                      exact mw_iret hx hb hr hlocks hM hq hQQ dmX13_conjugate_128
                    · have hq := tw_if hq hc
                      refine lv_iconst (v := 0) hx hb dmX13_conjugate_122 (by decide) ?_
                      refine lv_goto (tgt := 128) hx hb dmX13_conjugate_123 (by decide) ?_
                      exact mw_iret hx hb hr hlocks hM hq hQQ dmX13_conjugate_128
                  · have hq := tw_if hq hc
                    refine lv_iconst (v := 1) hx hb dmX13_conjugate_107 (by decide) ?_
                    exact mw_iret hx hb hr hlocks hM hq hQQ dmX13_conjugate_108
                · have hq := tw_it hq hc
                  refine lv_bipush (v := (-2)) hx hb dmX13_conjugate_93 (by decide) ?_
                  exact mw_iret hx hb hr hlocks hM hq hQQ dmX13_conjugate_95
              · have hq := tw_it hq hc
                refine lv_aload_n hx hb dmX13_conjugate_60 rfl (lv_at hl 1 rfl) ?_
                refine lv_iconst (v := 3) hx hb dmX13_conjugate_61 (by decide) ?_
                obtain ⟨v20, z19, hcq, hq⟩ := tw_cl1 hq
                refine tw_cali hM (va_runV (As := [.int 3]) (rest := []) ⟨hx, hb, hml, hown, hts⟩ (km_X13_fails l D q u hU K 3 z4 z19 v20 hcq) (cwV 1 hts (tw_gV wM_good wq_103 wq_104 wq_105 wq_61 wq_50) rfl rfl rfl cd_X13_fails ⟨(Nat.le_of_ble_eq_true rfl), (Nat.le_of_ble_eq_true rfl)⟩) (mw_preV hK hN hM mo_0 rfl) rfl rfl hl.1 rfl (lv_room (Nat.le_of_ble_eq_true rfl)) dmX13_conjugate_62 ⟨(Nat.le_of_ble_eq_true rfl), (Nat.le_of_ble_eq_true rfl)⟩) (fun H locs hM => ?_)
                exact mw_iret hx hb hr hlocks hM hq hQQ dmX13_conjugate_65
            · have hq := tw_if hq hc
              refine lv_aload_n hx hb dmX13_conjugate_42 rfl (lv_at hl 0 rfl) ?_
              refine lv_iconst (v := 2) hx hb dmX13_conjugate_43 (by decide) ?_
              obtain ⟨v22, z21, hcq, hq⟩ := tw_cl1 hq
              refine tw_cali hM (va_runV (As := [.int 2]) (rest := []) ⟨hx, hb, hml, hown, hts⟩ (km_X13_fails l D q u hU K 2 z4 z21 v22 hcq) (cwV 1 hts (tw_gV wM_good wq_103 wq_104 wq_105 wq_61 wq_50) rfl rfl rfl cd_X13_fails ⟨(Nat.le_of_ble_eq_true rfl), (Nat.le_of_ble_eq_true rfl)⟩) (mw_preV hK hN hM mo_0 rfl) rfl rfl hl.1 rfl (lv_room (Nat.le_of_ble_eq_true rfl)) dmX13_conjugate_44 ⟨(Nat.le_of_ble_eq_true rfl), (Nat.le_of_ble_eq_true rfl)⟩) (fun H locs hM => ?_)
              exact mw_iret hx hb hr hlocks hM hq hQQ dmX13_conjugate_47
          · have hq := tw_it hq hc
            exact ih_1 x1 x2 z4 H locs ls hM (lv_sub hl [0, 1, 2] rfl) hq
      · intro x1 x2 z H locs ls  hM hl hq
        have hq : qm_X13_conjugate_1 K (q_X13_conjugate K k) x1 x2 z = some (r, z1) := hq
        unfold qm_X13_conjugate_1 at hq
        refine lv_aload_n hx hb dmX13_conjugate_21 rfl (lv_at hl 0 rfl) ?_
        refine lv_iconst (v := 1) hx hb dmX13_conjugate_22 (by decide) ?_
        obtain ⟨v24, z23, hcq, hq⟩ := tw_cl1 hq
        refine tw_cali hM (va_runV (As := [.int 1]) (rest := []) ⟨hx, hb, hml, hown, hts⟩ (km_X13_fails l D q u hU K 1 z z23 v24 hcq) (cwV 1 hts (tw_gV wM_good wq_103 wq_104 wq_105 wq_61 wq_50) rfl rfl rfl cd_X13_fails ⟨(Nat.le_of_ble_eq_true rfl), (Nat.le_of_ble_eq_true rfl)⟩) (mw_preV hK hN hM mo_0 rfl) rfl rfl hl.1 rfl (lv_room (Nat.le_of_ble_eq_true rfl)) dmX13_conjugate_23 ⟨(Nat.le_of_ble_eq_true rfl), (Nat.le_of_ble_eq_true rfl)⟩) (fun H locs hM => ?_)
        exact mw_iret hx hb hr hlocks hM hq hQQ dmX13_conjugate_26
  exact (key K).1 x1 x2 z s.heap [] ls  hM (lv_sub hl [0, 1, 2] rfl) hq
theorem dmX13_run_0 : decode cX13_run 0 = .ok (.iload_n 2, 1) := dw_at cX13_run_k0 (p := 0) rfl (by decide +kernel)
theorem dmX13_run_1 : decode cX13_run 1 = .ok (.istore_n 3, 1) := dw_at cX13_run_k0 (p := 1) rfl (by decide +kernel)
theorem dmX13_run_2 : decode cX13_run 2 = .ok (.iconst 0, 1) := dw_at cX13_run_k0 (p := 2) rfl (by decide +kernel)
theorem dmX13_run_3 : decode cX13_run 3 = .ok (.istore 4, 2) := dw_at cX13_run_k0 (p := 3) rfl (by decide +kernel)
theorem dmX13_run_5 : decode cX13_run 5 = .ok (.iload 4, 2) := dw_at cX13_run_k0 (p := 5) rfl (by decide +kernel)
theorem dmX13_run_7 : decode cX13_run 7 = .ok (.aload_n 0, 1) := dw_at cX13_run_k0 (p := 7) rfl (by decide +kernel)
theorem dmX13_run_8 : decode cX13_run 8 = .ok (.getfield 323, 3) := dw_at cX13_run_k0 (p := 8) rfl (by decide +kernel)
theorem dmX13_run_11 : decode cX13_run 11 = .ok (.iload_n 1, 1) := dw_at cX13_run_k0 (p := 11) rfl (by decide +kernel)
theorem dmX13_run_12 : decode cX13_run 12 = .ok (.iaload, 1) := dw_at cX13_run_k0 (p := 12) rfl (by decide +kernel)
theorem dmX13_run_13 : decode cX13_run 13 = .ok (.if_icmp .ge 113, 3) := dw_at cX13_run_k0 (p := 13) rfl (by decide +kernel)
theorem dmX13_run_16 : decode cX13_run 16 = .ok (.aload_n 0, 1) := dw_at cX13_run_k0 (p := 16) rfl (by decide +kernel)
theorem dmX13_run_17 : decode cX13_run 17 = .ok (.getfield 320, 3) := dw_at cX13_run_k0 (p := 17) rfl (by decide +kernel)
theorem dmX13_run_20 : decode cX13_run 20 = .ok (.bipush 16, 2) := dw_at cX13_run_k0 (p := 20) rfl (by decide +kernel)
theorem dmX13_run_22 : decode cX13_run 22 = .ok (.iload_n 1, 1) := dw_at cX13_run_k0 (p := 22) rfl (by decide +kernel)
theorem dmX13_run_23 : decode cX13_run 23 = .ok (.imul, 1) := dw_at cX13_run_k0 (p := 23) rfl (by decide +kernel)
theorem dmX13_run_24 : decode cX13_run 24 = .ok (.iload 4, 2) := dw_at cX13_run_k1 (p := 0) rfl (by decide +kernel)
theorem dmX13_run_26 : decode cX13_run 26 = .ok (.iadd, 1) := dw_at cX13_run_k1 (p := 2) rfl (by decide +kernel)
theorem dmX13_run_27 : decode cX13_run 27 = .ok (.iaload, 1) := dw_at cX13_run_k1 (p := 3) rfl (by decide +kernel)
theorem dmX13_run_28 : decode cX13_run 28 = .ok (.istore 5, 2) := dw_at cX13_run_k1 (p := 4) rfl (by decide +kernel)
theorem dmX13_run_30 : decode cX13_run 30 = .ok (.iload 5, 2) := dw_at cX13_run_k1 (p := 6) rfl (by decide +kernel)
theorem dmX13_run_32 : decode cX13_run 32 = .ok (.invokestatic 734, 3) := dw_at cX13_run_k1 (p := 8) rfl (by decide +kernel)
theorem dmX13_run_35 : decode cX13_run 35 = .ok (.iconst 1, 1) := dw_at cX13_run_k1 (p := 11) rfl (by decide +kernel)
theorem dmX13_run_36 : decode cX13_run 36 = .ok (.isub, 1) := dw_at cX13_run_k1 (p := 12) rfl (by decide +kernel)
theorem dmX13_run_37 : decode cX13_run 37 = .ok (.istore 6, 2) := dw_at cX13_run_k1 (p := 13) rfl (by decide +kernel)
theorem dmX13_run_39 : decode cX13_run 39 = .ok (.iload_n 3, 1) := dw_at cX13_run_k1 (p := 15) rfl (by decide +kernel)
theorem dmX13_run_40 : decode cX13_run 40 = .ok (.iload 6, 2) := dw_at cX13_run_k1 (p := 16) rfl (by decide +kernel)
theorem dmX13_run_42 : decode cX13_run 42 = .ok (.if_icmp .eq 11, 3) := dw_at cX13_run_k1 (p := 18) rfl (by decide +kernel)
theorem dmX13_run_45 : decode cX13_run 45 = .ok (.iload_n 3, 1) := dw_at cX13_run_k1 (p := 21) rfl (by decide +kernel)
theorem dmX13_run_46 : decode cX13_run 46 = .ok (.iload 6, 2) := dw_at cX13_run_k1 (p := 22) rfl (by decide +kernel)
theorem dmX13_run_48 : decode cX13_run 48 = .ok (.iconst 1, 1) := dw_at cX13_run_k2 (p := 0) rfl (by decide +kernel)
theorem dmX13_run_49 : decode cX13_run 49 = .ok (.iadd, 1) := dw_at cX13_run_k2 (p := 1) rfl (by decide +kernel)
theorem dmX13_run_50 : decode cX13_run 50 = .ok (.if_icmp .ne 70, 3) := dw_at cX13_run_k2 (p := 2) rfl (by decide +kernel)
theorem dmX13_run_53 : decode cX13_run 53 = .ok (.aload_n 0, 1) := dw_at cX13_run_k2 (p := 5) rfl (by decide +kernel)
theorem dmX13_run_54 : decode cX13_run 54 = .ok (.getfield 121, 3) := dw_at cX13_run_k2 (p := 6) rfl (by decide +kernel)
theorem dmX13_run_57 : decode cX13_run 57 = .ok (.iload 4, 2) := dw_at cX13_run_k2 (p := 9) rfl (by decide +kernel)
theorem dmX13_run_59 : decode cX13_run 59 = .ok (.iload_n 3, 1) := dw_at cX13_run_k2 (p := 11) rfl (by decide +kernel)
theorem dmX13_run_60 : decode cX13_run 60 = .ok (.iload 6, 2) := dw_at cX13_run_k2 (p := 12) rfl (by decide +kernel)
theorem dmX13_run_62 : decode cX13_run 62 = .ok (.if_icmp .ne 7, 3) := dw_at cX13_run_k2 (p := 14) rfl (by decide +kernel)
theorem dmX13_run_65 : decode cX13_run 65 = .ok (.iconst 1, 1) := dw_at cX13_run_k2 (p := 17) rfl (by decide +kernel)
theorem dmX13_run_66 : decode cX13_run 66 = .ok (.goto 4, 3) := dw_at cX13_run_k2 (p := 18) rfl (by decide +kernel)
theorem dmX13_run_69 : decode cX13_run 69 = .ok (.iconst 0, 1) := dw_at cX13_run_k2 (p := 21) rfl (by decide +kernel)
theorem dmX13_run_70 : decode cX13_run 70 = .ok (.iload 5, 2) := dw_at cX13_run_k2 (p := 22) rfl (by decide +kernel)
theorem dmX13_run_72 : decode cX13_run 72 = .ok (.ifCond .le 7, 3) := dw_at cX13_run_k3 (p := 0) rfl (by decide +kernel)
theorem dmX13_run_75 : decode cX13_run 75 = .ok (.iconst 1, 1) := dw_at cX13_run_k3 (p := 3) rfl (by decide +kernel)
theorem dmX13_run_76 : decode cX13_run 76 = .ok (.goto 4, 3) := dw_at cX13_run_k3 (p := 4) rfl (by decide +kernel)
theorem dmX13_run_79 : decode cX13_run 79 = .ok (.iconst 0, 1) := dw_at cX13_run_k3 (p := 7) rfl (by decide +kernel)
theorem dmX13_run_80 : decode cX13_run 80 = .ok (.if_icmp .ne 7, 3) := dw_at cX13_run_k3 (p := 8) rfl (by decide +kernel)
theorem dmX13_run_83 : decode cX13_run 83 = .ok (.iconst 0, 1) := dw_at cX13_run_k3 (p := 11) rfl (by decide +kernel)
theorem dmX13_run_84 : decode cX13_run 84 = .ok (.goto 4, 3) := dw_at cX13_run_k3 (p := 12) rfl (by decide +kernel)
theorem dmX13_run_87 : decode cX13_run 87 = .ok (.iconst 1, 1) := dw_at cX13_run_k3 (p := 15) rfl (by decide +kernel)
theorem dmX13_run_88 : decode cX13_run 88 = .ok (.invokevirtual 97, 3) := dw_at cX13_run_k3 (p := 16) rfl (by decide +kernel)
theorem dmX13_run_91 : decode cX13_run 91 = .ok (.aload_n 0, 1) := dw_at cX13_run_k3 (p := 19) rfl (by decide +kernel)
theorem dmX13_run_92 : decode cX13_run 92 = .ok (.getfield 121, 3) := dw_at cX13_run_k3 (p := 20) rfl (by decide +kernel)
theorem dmX13_run_95 : decode cX13_run 95 = .ok (.getfield 35, 3) := dw_at cX13_run_k3 (p := 23) rfl (by decide +kernel)
theorem dmX13_run_98 : decode cX13_run 98 = .ok (.iload 4, 2) := dw_at cX13_run_k4 (p := 0) rfl (by decide +kernel)
theorem dmX13_run_100 : decode cX13_run 100 = .ok (.iload 5, 2) := dw_at cX13_run_k4 (p := 2) rfl (by decide +kernel)
theorem dmX13_run_102 : decode cX13_run 102 = .ok (.ifCond .le 7, 3) := dw_at cX13_run_k4 (p := 4) rfl (by decide +kernel)
theorem dmX13_run_105 : decode cX13_run 105 = .ok (.iconst 1, 1) := dw_at cX13_run_k4 (p := 7) rfl (by decide +kernel)
theorem dmX13_run_106 : decode cX13_run 106 = .ok (.goto 4, 3) := dw_at cX13_run_k4 (p := 8) rfl (by decide +kernel)
theorem dmX13_run_109 : decode cX13_run 109 = .ok (.iconst (-1), 1) := dw_at cX13_run_k4 (p := 11) rfl (by decide +kernel)
theorem dmX13_run_110 : decode cX13_run 110 = .ok (.iastore, 1) := dw_at cX13_run_k4 (p := 12) rfl (by decide +kernel)
theorem dmX13_run_111 : decode cX13_run 111 = .ok (.iconst 2, 1) := dw_at cX13_run_k4 (p := 13) rfl (by decide +kernel)
theorem dmX13_run_112 : decode cX13_run 112 = .ok (.iload 6, 2) := dw_at cX13_run_k4 (p := 14) rfl (by decide +kernel)
theorem dmX13_run_114 : decode cX13_run 114 = .ok (.imul, 1) := dw_at cX13_run_k4 (p := 16) rfl (by decide +kernel)
theorem dmX13_run_115 : decode cX13_run 115 = .ok (.iconst 1, 1) := dw_at cX13_run_k4 (p := 17) rfl (by decide +kernel)
theorem dmX13_run_116 : decode cX13_run 116 = .ok (.iadd, 1) := dw_at cX13_run_k4 (p := 18) rfl (by decide +kernel)
theorem dmX13_run_117 : decode cX13_run 117 = .ok (.iload_n 3, 1) := dw_at cX13_run_k4 (p := 19) rfl (by decide +kernel)
theorem dmX13_run_118 : decode cX13_run 118 = .ok (.isub, 1) := dw_at cX13_run_k4 (p := 20) rfl (by decide +kernel)
theorem dmX13_run_119 : decode cX13_run 119 = .ok (.istore_n 3, 1) := dw_at cX13_run_k4 (p := 21) rfl (by decide +kernel)
theorem dmX13_run_120 : decode cX13_run 120 = .ok (.iinc 4 1, 3) := dw_at cX13_run_k4 (p := 22) rfl (by decide +kernel)
theorem dmX13_run_123 : decode cX13_run 123 = .ok (.goto (-118), 3) := dw_at cX13_run_k4 (p := 25) rfl (by decide +kernel)
theorem dmX13_run_126 : decode cX13_run 126 = .ok (.iload_n 3, 1) := dw_at cX13_run_k4 (p := 28) rfl (by decide +kernel)
theorem dmX13_run_127 : decode cX13_run 127 = .ok (.ireturn, 1) := dw_at cX13_run_k4 (p := 29) rfl (by decide +kernel)
def qm_X13_run_0 (K : Nat) (go : Nat → Int32 → Int32 → Int32 → Int32 → Int32 → Int32 → Int32 → Int32 → Int32 → ow_MS → Option (Int32 × ow_MS)) (x1 : Int32) (x2 : Int32) (x3 : Int32) (x4 : Int32) (x5 : Int32) (x6 : Int32) (t0 : Int32) (t1 : Int32) (t2 : Int32) (z : ow_MS) : Option (Int32 × ow_MS) :=
 go 1 x1 x2 x2 0 0 0 0 0 0 z
def qm_X13_run_1 (K : Nat) (go : Nat → Int32 → Int32 → Int32 → Int32 → Int32 → Int32 → Int32 → Int32 → Int32 → ow_MS → Option (Int32 × ow_MS)) (x1 : Int32) (x2 : Int32) (x3 : Int32) (x4 : Int32) (x5 : Int32) (x6 : Int32) (t0 : Int32) (t1 : Int32) (t2 : Int32) (z : ow_MS) : Option (Int32 × ow_MS) :=
 rdI mX z 95 x1 fun v1 => (if v1 ≤ x4 then some (x3, z)
 else rdI mX z 94 ((16 * x1) + x4) fun v2 => (if x3 = ((if 0 ≤ v2 then v2 else 0 - v2) - 1) then go 2 x1 x2 x3 x4 v2 ((if 0 ≤ v2 then v2 else 0 - v2) - 1) 0 0 0 z
 else (if x3 = (((if 0 ≤ v2 then v2 else 0 - v2) - 1) + 1) then go 2 x1 x2 x3 x4 v2 ((if 0 ≤ v2 then v2 else 0 - v2) - 1) 0 0 0 z
 else go 7 x1 x2 x3 x4 v2 ((if 0 ≤ v2 then v2 else 0 - v2) - 1) 0 0 0 z)))
def qm_X13_run_2 (K : Nat) (go : Nat → Int32 → Int32 → Int32 → Int32 → Int32 → Int32 → Int32 → Int32 → Int32 → ow_MS → Option (Int32 × ow_MS)) (x1 : Int32) (x2 : Int32) (x3 : Int32) (x4 : Int32) (x5 : Int32) (x6 : Int32) (t0 : Int32) (t1 : Int32) (t2 : Int32) (z : ow_MS) : Option (Int32 × ow_MS) :=
 (if x3 = x6 then go 3 x1 x2 x3 x4 x5 x6 1 x4 0 z
 else go 3 x1 x2 x3 x4 x5 x6 0 x4 0 z)
def qm_X13_run_3 (K : Nat) (go : Nat → Int32 → Int32 → Int32 → Int32 → Int32 → Int32 → Int32 → Int32 → Int32 → ow_MS → Option (Int32 × ow_MS)) (x1 : Int32) (x2 : Int32) (x3 : Int32) (x4 : Int32) (x5 : Int32) (x6 : Int32) (t0 : Int32) (t1 : Int32) (t2 : Int32) (z : ow_MS) : Option (Int32 × ow_MS) :=
 (if x5 ≤ 0 then go 4 x1 x2 x3 x4 x5 x6 0 t0 t1 z
 else go 4 x1 x2 x3 x4 x5 x6 1 t0 t1 z)
def qm_X13_run_4 (K : Nat) (go : Nat → Int32 → Int32 → Int32 → Int32 → Int32 → Int32 → Int32 → Int32 → Int32 → ow_MS → Option (Int32 × ow_MS)) (x1 : Int32) (x2 : Int32) (x3 : Int32) (x4 : Int32) (x5 : Int32) (x6 : Int32) (t0 : Int32) (t1 : Int32) (t2 : Int32) (z : ow_MS) : Option (Int32 × ow_MS) :=
 (if t1 = t0 then go 5 x1 x2 x3 x4 x5 x6 0 t2 0 z
 else go 5 x1 x2 x3 x4 x5 x6 1 t2 0 z)
def qm_X13_run_5 (K : Nat) (go : Nat → Int32 → Int32 → Int32 → Int32 → Int32 → Int32 → Int32 → Int32 → Int32 → ow_MS → Option (Int32 × ow_MS)) (x1 : Int32) (x2 : Int32) (x3 : Int32) (x4 : Int32) (x5 : Int32) (x6 : Int32) (t0 : Int32) (t1 : Int32) (t2 : Int32) (z : ow_MS) : Option (Int32 × ow_MS) :=
 cs0 (qe_X12_add K 3000 t1 t0 z) fun z3 => (if x5 ≤ 0 then go 6 x1 x2 x3 x4 x5 x6 (-1) x4 0 z3
 else go 6 x1 x2 x3 x4 x5 x6 1 x4 0 z3)
def qm_X13_run_6 (K : Nat) (go : Nat → Int32 → Int32 → Int32 → Int32 → Int32 → Int32 → Int32 → Int32 → Int32 → ow_MS → Option (Int32 × ow_MS)) (x1 : Int32) (x2 : Int32) (x3 : Int32) (x4 : Int32) (x5 : Int32) (x6 : Int32) (t0 : Int32) (t1 : Int32) (t2 : Int32) (z : ow_MS) : Option (Int32 × ow_MS) :=
 wrI mX z (3000 + 6) t1 t0 fun z4 => go 7 x1 x2 (((2 * x6) + 1) - x3) x4 x5 x6 0 0 0 z4
def qm_X13_run_7 (K : Nat) (go : Nat → Int32 → Int32 → Int32 → Int32 → Int32 → Int32 → Int32 → Int32 → Int32 → ow_MS → Option (Int32 × ow_MS)) (x1 : Int32) (x2 : Int32) (x3 : Int32) (x4 : Int32) (x5 : Int32) (x6 : Int32) (t0 : Int32) (t1 : Int32) (t2 : Int32) (z : ow_MS) : Option (Int32 × ow_MS) :=
 go 1 x1 x2 x3 (x4 + 1) 0 0 0 0 0 z
def qb_X13_run (K : Nat) (go : Nat → Int32 → Int32 → Int32 → Int32 → Int32 → Int32 → Int32 → Int32 → Int32 → ow_MS → Option (Int32 × ow_MS)) (L : Nat) (x1 : Int32) (x2 : Int32) (x3 : Int32) (x4 : Int32) (x5 : Int32) (x6 : Int32) (t0 : Int32) (t1 : Int32) (t2 : Int32) (z : ow_MS) : Option (Int32 × ow_MS) := match L with
  | 0 => qm_X13_run_0 K go x1 x2 x3 x4 x5 x6 t0 t1 t2 z
  | 1 => qm_X13_run_1 K go x1 x2 x3 x4 x5 x6 t0 t1 t2 z
  | 2 => qm_X13_run_2 K go x1 x2 x3 x4 x5 x6 t0 t1 t2 z
  | 3 => qm_X13_run_3 K go x1 x2 x3 x4 x5 x6 t0 t1 t2 z
  | 4 => qm_X13_run_4 K go x1 x2 x3 x4 x5 x6 t0 t1 t2 z
  | 5 => qm_X13_run_5 K go x1 x2 x3 x4 x5 x6 t0 t1 t2 z
  | 6 => qm_X13_run_6 K go x1 x2 x3 x4 x5 x6 t0 t1 t2 z
  | 7 => qm_X13_run_7 K go x1 x2 x3 x4 x5 x6 t0 t1 t2 z
  | _ => none
def q_X13_run (K : Nat) : Nat → Nat → Int32 → Int32 → Int32 → Int32 → Int32 → Int32 → Int32 → Int32 → Int32 → ow_MS → Option (Int32 × ow_MS)
  | 0 => fun _ _ _ _ _ _ _ _ _ _ _ => none
  | k + 1 => qb_X13_run K (q_X13_run K k)
def qe_X13_run (K : Nat) (x1 : Int32) (x2 : Int32) (z : ow_MS) : Option (Int32 × ow_MS) := q_X13_run K K 0 x1 x2 0 0 0 0 0 0 0 z
abbrev wm_X13_run : List Cond := .code yX13_run cX13_run 7 (some .int) :: wM
theorem cd_X13_run : yX13_run.cls = RX13 ∧ yX13_run.cls ≠ "java/lang/invoke/MethodHandle" ∧ yX13_run.cls ≠ "java/lang/invoke/VarHandle" ∧ (parseMethodDescriptor yX13_run.desc).map (fun d => d.parameters.length) = some 2 := by decide +kernel
set_option maxHeartbeats 4000000 in
set_option maxRecDepth 100000 in
theorem km_X13_run (l : Launch) (D : va_G) (q : ow_Q5) (u : Nat → Nat) (hU : tw_inj mX u) (K : Nat) (x1 : Int32) (x2 : Int32)  (z z1 : ow_MS) (r : Int32) (hq : qe_X13_run K x1 x2 z = some (r, z1)) : Met l yX13_run wm_X13_run ({ frames := 1, cells := 0, slots := 0, locals := 29 } : Room) (va_Pc [.ref (u 0), .int x1, .int x2] (mw_pre D q u z)) (va_Qi (fun x (_ : Unit) => x = r) (fun _ t => va_P D vwCl (tw mX q u z1) t.heap) (tw_A mX u)) 0 0 (tw_A mX u) := by
  refine Met.ofW (cc := cX13_run) (maxL := 7) (ret := (some .int)) (by decide) rfl ?_
  intro p e s m args below meth c s₁ B hml hv
  obtain ⟨rfl, hP, hK, hN⟩ := hv
  have hx := B.exec
  have hb := B.bytes
  have hr := B.returns
  have hts := atoms_spec (ws := wm_X13_run) B.pre
  have hT : ∀ w ∈ wM, w.before ([.ref (u 0), .int x1, .int x2] : List Value).toArray s = true := fun w h => hts w (List.mem_cons_of_mem _ h)
  have hown : s.vm.findClass RX13 = some m.cls := findClass_of_methodNamed B.named
  have hlocks := B.notSynchronized
  have hM : tw_M D vwCl mX q s.heap u z s.heap [] := ⟨hP, va_S.rf⟩
  have hl := lv_entry ([.ref (u 0), .int x1, .int x2]) (n := 7) (Nat.le_of_ble_eq_true rfl)
  rw [lg_entry_eq]
  generalize (lg_sl ([.ref (u 0), .int x1, .int x2]) ++ List.replicate (7 - (lg_sl ([.ref (u 0), .int x1, .int x2])).length) Slot.unset).toArray = ls at hl ⊢
  have hl : lv_has ls 7 [(0, .ref (u 0)), (1, .int x1), (2, .int x2)] := hl
  refine ow_named (fun QQ hQQ => ?_)
  generalize ([.ref (u 0), .int x1, .int x2] : List Value).toArray = args at hts hT hQQ ⊢
  have key : ∀ k : Nat, (∀ (x1 : Int32) (x2 : Int32) (x3 : Int32) (x4 : Int32) (x5 : Int32) (x6 : Int32) (t0 : Int32) (t1 : Int32) (t2 : Int32) (z : ow_MS) (H : Heap) (locs : List Loc) (ls : Array Slot), tw_M D vwCl mX q s.heap u z H locs → lv_has ls 7 [(0, .ref (u 0)), (1, .int x1), (2, .int x2)] → q_X13_run K k 0 x1 x2 x3 x4 x5 x6 t0 t1 t2 z = some (r, z1) → W p l e ({ frames := 1, cells := 0, slots := 0, locals := 29 } : Room) s m args below meth c H locs 0 0 QQ (F0 m 0 ls [])) ∧ (∀ (x1 : Int32) (x2 : Int32) (x3 : Int32) (x4 : Int32) (x5 : Int32) (x6 : Int32) (t0 : Int32) (t1 : Int32) (t2 : Int32) (z : ow_MS) (H : Heap) (locs : List Loc) (ls : Array Slot), tw_M D vwCl mX q s.heap u z H locs → lv_has ls 7 [(0, .ref (u 0)), (1, .int x1), (2, .int x2), (3, .int x3), (4, .int x4)] → q_X13_run K k 1 x1 x2 x3 x4 x5 x6 t0 t1 t2 z = some (r, z1) → W p l e ({ frames := 1, cells := 0, slots := 0, locals := 29 } : Room) s m args below meth c H locs 0 0 QQ (F0 m 5 ls [])) ∧ (∀ (x1 : Int32) (x2 : Int32) (x3 : Int32) (x4 : Int32) (x5 : Int32) (x6 : Int32) (t0 : Int32) (t1 : Int32) (t2 : Int32) (z : ow_MS) (H : Heap) (locs : List Loc) (ls : Array Slot), tw_M D vwCl mX q s.heap u z H locs → lv_has ls 7 [(0, .ref (u 0)), (1, .int x1), (2, .int x2), (3, .int x3), (4, .int x4), (5, .int x5), (6, .int x6)] → q_X13_run K k 2 x1 x2 x3 x4 x5 x6 t0 t1 t2 z = some (r, z1) → W p l e ({ frames := 1, cells := 0, slots := 0, locals := 29 } : Room) s m args below meth c H locs 0 0 QQ (F0 m 53 ls [])) ∧ (∀ (x1 : Int32) (x2 : Int32) (x3 : Int32) (x4 : Int32) (x5 : Int32) (x6 : Int32) (t0 : Int32) (t1 : Int32) (t2 : Int32) (z : ow_MS) (H : Heap) (locs : List Loc) (ls : Array Slot), tw_M D vwCl mX q s.heap u z H locs → lv_has ls 7 [(0, .ref (u 0)), (1, .int x1), (2, .int x2), (3, .int x3), (4, .int x4), (5, .int x5), (6, .int x6)] → q_X13_run K k 3 x1 x2 x3 x4 x5 x6 t0 t1 t2 z = some (r, z1) → W p l e ({ frames := 1, cells := 0, slots := 0, locals := 29 } : Room) s m args below meth c H locs 0 0 QQ (F0 m 70 ls [.int t0, .int t1, .ref (u 3000)])) ∧ (∀ (x1 : Int32) (x2 : Int32) (x3 : Int32) (x4 : Int32) (x5 : Int32) (x6 : Int32) (t0 : Int32) (t1 : Int32) (t2 : Int32) (z : ow_MS) (H : Heap) (locs : List Loc) (ls : Array Slot), tw_M D vwCl mX q s.heap u z H locs → lv_has ls 7 [(0, .ref (u 0)), (1, .int x1), (2, .int x2), (3, .int x3), (4, .int x4), (5, .int x5), (6, .int x6)] → q_X13_run K k 4 x1 x2 x3 x4 x5 x6 t0 t1 t2 z = some (r, z1) → W p l e ({ frames := 1, cells := 0, slots := 0, locals := 29 } : Room) s m args below meth c H locs 0 0 QQ (F0 m 80 ls [.int t0, .int t1, .int t2, .ref (u 3000)])) ∧ (∀ (x1 : Int32) (x2 : Int32) (x3 : Int32) (x4 : Int32) (x5 : Int32) (x6 : Int32) (t0 : Int32) (t1 : Int32) (t2 : Int32) (z : ow_MS) (H : Heap) (locs : List Loc) (ls : Array Slot), tw_M D vwCl mX q s.heap u z H locs → lv_has ls 7 [(0, .ref (u 0)), (1, .int x1), (2, .int x2), (3, .int x3), (4, .int x4), (5, .int x5), (6, .int x6)] → q_X13_run K k 5 x1 x2 x3 x4 x5 x6 t0 t1 t2 z = some (r, z1) → W p l e ({ frames := 1, cells := 0, slots := 0, locals := 29 } : Room) s m args below meth c H locs 0 0 QQ (F0 m 88 ls [.int t0, .int t1, .ref (u 3000)])) ∧ (∀ (x1 : Int32) (x2 : Int32) (x3 : Int32) (x4 : Int32) (x5 : Int32) (x6 : Int32) (t0 : Int32) (t1 : Int32) (t2 : Int32) (z : ow_MS) (H : Heap) (locs : List Loc) (ls : Array Slot), tw_M D vwCl mX q s.heap u z H locs → lv_has ls 7 [(0, .ref (u 0)), (1, .int x1), (2, .int x2), (3, .int x3), (4, .int x4), (5, .int x5), (6, .int x6)] → q_X13_run K k 6 x1 x2 x3 x4 x5 x6 t0 t1 t2 z = some (r, z1) → W p l e ({ frames := 1, cells := 0, slots := 0, locals := 29 } : Room) s m args below meth c H locs 0 0 QQ (F0 m 110 ls [.int t0, .int t1, .ref (u (3000 + 6))])) ∧ (∀ (x1 : Int32) (x2 : Int32) (x3 : Int32) (x4 : Int32) (x5 : Int32) (x6 : Int32) (t0 : Int32) (t1 : Int32) (t2 : Int32) (z : ow_MS) (H : Heap) (locs : List Loc) (ls : Array Slot), tw_M D vwCl mX q s.heap u z H locs → lv_has ls 7 [(0, .ref (u 0)), (1, .int x1), (2, .int x2), (3, .int x3), (4, .int x4), (5, .int x5), (6, .int x6)] → q_X13_run K k 7 x1 x2 x3 x4 x5 x6 t0 t1 t2 z = some (r, z1) → W p l e ({ frames := 1, cells := 0, slots := 0, locals := 29 } : Room) s m args below meth c H locs 0 0 QQ (F0 m 120 ls [])) := by
    intro k
    induction k with
    | zero => exact ⟨fun _ _ _ _ _ _ _ _ _ _ _ _ _  _ _ hq => tw_no hq, fun _ _ _ _ _ _ _ _ _ _ _ _ _  _ _ hq => tw_no hq, fun _ _ _ _ _ _ _ _ _ _ _ _ _  _ _ hq => tw_no hq, fun _ _ _ _ _ _ _ _ _ _ _ _ _  _ _ hq => tw_no hq, fun _ _ _ _ _ _ _ _ _ _ _ _ _  _ _ hq => tw_no hq, fun _ _ _ _ _ _ _ _ _ _ _ _ _  _ _ hq => tw_no hq, fun _ _ _ _ _ _ _ _ _ _ _ _ _  _ _ hq => tw_no hq, fun _ _ _ _ _ _ _ _ _ _ _ _ _  _ _ hq => tw_no hq⟩
    | succ k ih =>
      obtain ⟨ih_0, ih_1, ih_2, ih_3, ih_4, ih_5, ih_6, ih_7⟩ := ih
      refine ⟨?_, ?_, ?_, ?_, ?_, ?_, ?_, ?_⟩
      · intro x1 x2 x3 x4 x5 x6 t0 t1 t2 z H locs ls  hM hl hq
        have hq : qm_X13_run_0 K (q_X13_run K k) x1 x2 x3 x4 x5 x6 t0 t1 t2 z = some (r, z1) := hq
        unfold qm_X13_run_0 at hq
        refine lv_iload_n hx hb dmX13_run_0 rfl (lv_at hl 2 rfl) ?_
        refine lv_istore_n (lv' := [(3, .int x2), (0, .ref (u 0)), (1, .int x1), (2, .int x2)]) hx hb dmX13_run_1 rfl hl (by decide) rfl (fun ls hl => ?_)
        refine lv_iconst (v := 0) hx hb dmX13_run_2 (by decide) ?_
        refine lv_istore (lv' := [(4, .int 0), (3, .int x2), (0, .ref (u 0)), (1, .int x1), (2, .int x2)]) hx hb dmX13_run_3 hl (by decide) rfl (fun ls hl => ?_)
        exact ih_1 x1 x2 x2 0 0 0 0 0 0 z H locs ls hM (lv_sub hl [2, 3, 4, 1, 0] rfl) hq
      · intro x1 x2 x3 x4 x5 x6 t0 t1 t2 z H locs ls  hM hl hq
        have hq : qm_X13_run_1 K (q_X13_run K k) x1 x2 x3 x4 x5 x6 t0 t1 t2 z = some (r, z1) := hq
        unfold qm_X13_run_1 at hq
        refine lv_iload hx hb dmX13_run_5 (lv_at hl 4 rfl) ?_
        refine lv_aload_n hx hb dmX13_run_7 rfl (lv_at hl 0 rfl) ?_
        refine mg13_323 hx hb hT hown hK hM dmX13_run_8 ?_
        refine lv_iload_n hx hb dmX13_run_11 rfl (lv_at hl 1 rfl) ?_
        refine tw_iald mX_ok hx hb hK hM mr_95 hq dmX13_run_12 (fun v1 hq => ?_)
        refine lv_icmp_ge (tgt := 126) hx hb dmX13_run_13 (by decide) (fun hc => ?_) (fun hc => ?_)
        · have hq := tw_it hq hc
          refine lv_iload_n hx hb dmX13_run_126 rfl (lv_at hl 3 rfl) ?_
          exact mw_iret hx hb hr hlocks hM hq hQQ dmX13_run_127
        · have hq := tw_if hq hc
          refine lv_aload_n hx hb dmX13_run_16 rfl (lv_at hl 0 rfl) ?_
          refine mg13_320 hx hb hT hown hK hM dmX13_run_17 ?_
          refine lv_bipush (v := 16) hx hb dmX13_run_20 (by decide) ?_
          refine lv_iload_n hx hb dmX13_run_22 rfl (lv_at hl 1 rfl) ?_
          refine lv_imul hx hb dmX13_run_23 ?_
          refine lv_iload hx hb dmX13_run_24 (lv_at hl 4 rfl) ?_
          refine lv_iadd hx hb dmX13_run_26 ?_
          refine tw_iald mX_ok hx hb hK hM mr_94 hq dmX13_run_27 (fun v2 hq => ?_)
          refine lv_istore (lv' := [(5, .int v2), (0, .ref (u 0)), (1, .int x1), (2, .int x2), (3, .int x3), (4, .int x4)]) hx hb dmX13_run_28 hl (by decide) rfl (fun ls hl => ?_)
          refine lv_iload hx hb dmX13_run_30 (lv_at hl 0 rfl) ?_
          refine va_mabs hx hb (by rw [hml]; exact hl.1.symm) hown (hT _ wq_562) (hT _ wq_563) (hT _ wq_67) (hT _ wq_564) (Nat.le_of_ble_eq_true rfl) (Nat.le_of_ble_eq_true rfl) (Nat.le_of_ble_eq_true rfl) (Nat.le_of_ble_eq_true rfl) dmX13_run_32 ?_
          refine lv_iconst (v := 1) hx hb dmX13_run_35 (by decide) ?_
          refine lv_isub hx hb dmX13_run_36 ?_
          refine lv_istore (lv' := [(6, .int ((if 0 ≤ v2 then v2 else 0 - v2) - 1)), (5, .int v2), (0, .ref (u 0)), (1, .int x1), (2, .int x2), (3, .int x3), (4, .int x4)]) hx hb dmX13_run_37 hl (by decide) rfl (fun ls hl => ?_)
          refine lv_iload_n hx hb dmX13_run_39 rfl (lv_at hl 5 rfl) ?_
          refine lv_iload hx hb dmX13_run_40 (lv_at hl 0 rfl) ?_
          refine lv_icmp_eq (tgt := 53) hx hb dmX13_run_42 (by decide) (fun hc => ?_) (fun hc => ?_)
          · have hq := tw_it hq hc
            exact ih_2 x1 x2 x3 x4 v2 ((if 0 ≤ v2 then v2 else 0 - v2) - 1) 0 0 0 z H locs ls hM (lv_sub hl [2, 3, 4, 5, 6, 1, 0] rfl) hq
          · have hq := tw_if hq hc
            refine lv_iload_n hx hb dmX13_run_45 rfl (lv_at hl 5 rfl) ?_
            refine lv_iload hx hb dmX13_run_46 (lv_at hl 0 rfl) ?_
            refine lv_iconst (v := 1) hx hb dmX13_run_48 (by decide) ?_
            refine lv_iadd hx hb dmX13_run_49 ?_
            refine lv_icmp_ne (tgt := 120) hx hb dmX13_run_50 (by decide) (fun hc => ?_) (fun hc => ?_)
            · have hq := tw_if hq hc
              exact ih_7 x1 x2 x3 x4 v2 ((if 0 ≤ v2 then v2 else 0 - v2) - 1) 0 0 0 z H locs ls hM (lv_sub hl [2, 3, 4, 5, 6, 1, 0] rfl) hq
            · have hq := tw_it hq hc
              exact ih_2 x1 x2 x3 x4 v2 ((if 0 ≤ v2 then v2 else 0 - v2) - 1) 0 0 0 z H locs ls hM (lv_sub hl [2, 3, 4, 5, 6, 1, 0] rfl) hq
      · intro x1 x2 x3 x4 x5 x6 t0 t1 t2 z H locs ls  hM hl hq
        have hq : qm_X13_run_2 K (q_X13_run K k) x1 x2 x3 x4 x5 x6 t0 t1 t2 z = some (r, z1) := hq
        unfold qm_X13_run_2 at hq
        refine lv_aload_n hx hb dmX13_run_53 rfl (lv_at hl 0 rfl) ?_
        refine mg13_121 hx hb hT hown hK hM dmX13_run_54 ?_
        refine lv_iload hx hb dmX13_run_57 (lv_at hl 4 rfl) ?_
        refine lv_iload_n hx hb dmX13_run_59 rfl (lv_at hl 3 rfl) ?_
        refine lv_iload hx hb dmX13_run_60 (lv_at hl 6 rfl) ?_
        refine lv_icmp_ne (tgt := 69) hx hb dmX13_run_62 (by decide) (fun hc => ?_) (fun hc => ?_)
        · have hq := tw_if hq hc
          refine lv_iconst (v := 0) hx hb dmX13_run_69 (by decide) ?_
          exact ih_3 x1 x2 x3 x4 x5 x6 0 x4 0 z H locs ls hM (lv_sub hl [0, 1, 2, 3, 4, 5, 6] rfl) hq
        · have hq := tw_it hq hc
          refine lv_iconst (v := 1) hx hb dmX13_run_65 (by decide) ?_
          refine lv_goto (tgt := 70) hx hb dmX13_run_66 (by decide) ?_
          exact ih_3 x1 x2 x3 x4 x5 x6 1 x4 0 z H locs ls hM (lv_sub hl [0, 1, 2, 3, 4, 5, 6] rfl) hq
      · intro x1 x2 x3 x4 x5 x6 t0 t1 t2 z H locs ls  hM hl hq
        have hq : qm_X13_run_3 K (q_X13_run K k) x1 x2 x3 x4 x5 x6 t0 t1 t2 z = some (r, z1) := hq
        unfold qm_X13_run_3 at hq
        refine lv_iload hx hb dmX13_run_70 (lv_at hl 5 rfl) ?_
        refine lv_if_le (tgt := 79) hx hb dmX13_run_72 (by decide) (fun hc => ?_) (fun hc => ?_)
        · have hq := tw_it hq hc
          refine lv_iconst (v := 0) hx hb dmX13_run_79 (by decide) ?_
          exact ih_4 x1 x2 x3 x4 x5 x6 0 t0 t1 z H locs ls hM (lv_sub hl [0, 1, 2, 3, 4, 5, 6] rfl) hq
        · have hq := tw_if hq hc
          refine lv_iconst (v := 1) hx hb dmX13_run_75 (by decide) ?_
          refine lv_goto (tgt := 80) hx hb dmX13_run_76 (by decide) ?_
          exact ih_4 x1 x2 x3 x4 x5 x6 1 t0 t1 z H locs ls hM (lv_sub hl [0, 1, 2, 3, 4, 5, 6] rfl) hq
      · intro x1 x2 x3 x4 x5 x6 t0 t1 t2 z H locs ls  hM hl hq
        have hq : qm_X13_run_4 K (q_X13_run K k) x1 x2 x3 x4 x5 x6 t0 t1 t2 z = some (r, z1) := hq
        unfold qm_X13_run_4 at hq
        refine lv_icmp_ne (tgt := 87) hx hb dmX13_run_80 (by decide) (fun hc => ?_) (fun hc => ?_)
        · have hq := tw_if hq hc
          refine lv_iconst (v := 1) hx hb dmX13_run_87 (by decide) ?_
          exact ih_5 x1 x2 x3 x4 x5 x6 1 t2 0 z H locs ls hM (lv_sub hl [0, 1, 2, 3, 4, 5, 6] rfl) hq
        · have hq := tw_it hq hc
          refine lv_iconst (v := 0) hx hb dmX13_run_83 (by decide) ?_
          refine lv_goto (tgt := 88) hx hb dmX13_run_84 (by decide) ?_
          exact ih_5 x1 x2 x3 x4 x5 x6 0 t2 0 z H locs ls hM (lv_sub hl [0, 1, 2, 3, 4, 5, 6] rfl) hq
      · intro x1 x2 x3 x4 x5 x6 t0 t1 t2 z H locs ls  hM hl hq
        have hq : qm_X13_run_5 K (q_X13_run K k) x1 x2 x3 x4 x5 x6 t0 t1 t2 z = some (r, z1) := hq
        unfold qm_X13_run_5 at hq
        obtain ⟨z3, hcq, hq⟩ := tw_cl0 hq
        refine tw_calv hM (va_runV (As := [.int t1, .int t0]) (rest := []) ⟨hx, hb, hml, hown, hts⟩ (km_X12_add l D q u hU K 3000 t1 t0 mw_n3 z z3 hcq) (cwV 2 hts (tw_gV wM_good wq_87 wq_15 wq_16 wq_13 wq_6) rfl rfl rfl cd_X12_add ⟨(Nat.le_of_ble_eq_true rfl), (Nat.le_of_ble_eq_true rfl)⟩) (mw_preV hK hN hM (mo_n mw_n3) rfl) rfl rfl hl.1 rfl (lv_room (Nat.le_of_ble_eq_true rfl)) dmX13_run_88 ⟨(Nat.le_of_ble_eq_true rfl), (Nat.le_of_ble_eq_true rfl)⟩) (fun H locs hM => ?_)
        refine lv_aload_n hx hb dmX13_run_91 rfl (lv_at hl 0 rfl) ?_
        refine mg13_121 hx hb hT hown hK hM dmX13_run_92 ?_
        refine mg13_35 hx hb hT hown hK hM hN mw_n3 dmX13_run_95 ?_
        refine lv_iload hx hb dmX13_run_98 (lv_at hl 4 rfl) ?_
        refine lv_iload hx hb dmX13_run_100 (lv_at hl 5 rfl) ?_
        refine lv_if_le (tgt := 109) hx hb dmX13_run_102 (by decide) (fun hc => ?_) (fun hc => ?_)
        · have hq := tw_it hq hc
          refine lv_iconst (v := (-1)) hx hb dmX13_run_109 (by decide) ?_
          exact ih_6 x1 x2 x3 x4 x5 x6 (-1) x4 0 z3 H locs ls hM (lv_sub hl [0, 1, 2, 3, 4, 5, 6] rfl) hq
        · have hq := tw_if hq hc
          refine lv_iconst (v := 1) hx hb dmX13_run_105 (by decide) ?_
          refine lv_goto (tgt := 110) hx hb dmX13_run_106 (by decide) ?_
          exact ih_6 x1 x2 x3 x4 x5 x6 1 x4 0 z3 H locs ls hM (lv_sub hl [0, 1, 2, 3, 4, 5, 6] rfl) hq
      · intro x1 x2 x3 x4 x5 x6 t0 t1 t2 z H locs ls  hM hl hq
        have hq : qm_X13_run_6 K (q_X13_run K k) x1 x2 x3 x4 x5 x6 t0 t1 t2 z = some (r, z1) := hq
        unfold qm_X13_run_6 at hq
        refine tw_iast mX_ok hU hx hb hK hM (mrn_6 mw_n3) hq dmX13_run_110 (fun z4 H locs hM hq => ?_)
        refine lv_iconst (v := 2) hx hb dmX13_run_111 (by decide) ?_
        refine lv_iload hx hb dmX13_run_112 (lv_at hl 6 rfl) ?_
        refine lv_imul hx hb dmX13_run_114 ?_
        refine lv_iconst (v := 1) hx hb dmX13_run_115 (by decide) ?_
        refine lv_iadd hx hb dmX13_run_116 ?_
        refine lv_iload_n hx hb dmX13_run_117 rfl (lv_at hl 3 rfl) ?_
        refine lv_isub hx hb dmX13_run_118 ?_
        refine lv_istore_n (lv' := [(3, .int (((2 * x6) + 1) - x3)), (0, .ref (u 0)), (1, .int x1), (2, .int x2), (4, .int x4), (5, .int x5), (6, .int x6)]) hx hb dmX13_run_119 rfl hl (by decide) rfl (fun ls hl => ?_)
        exact ih_7 x1 x2 (((2 * x6) + 1) - x3) x4 x5 x6 0 0 0 z4 H locs ls hM (lv_sub hl [1, 2, 3, 0, 4, 5, 6] rfl) hq
      · intro x1 x2 x3 x4 x5 x6 t0 t1 t2 z H locs ls  hM hl hq
        have hq : qm_X13_run_7 K (q_X13_run K k) x1 x2 x3 x4 x5 x6 t0 t1 t2 z = some (r, z1) := hq
        unfold qm_X13_run_7 at hq
        refine lv_iinc (v := (x4 + 1)) (lv' := [(4, .int (x4 + 1)), (0, .ref (u 0)), (1, .int x1), (2, .int x2), (3, .int x3), (5, .int x5), (6, .int x6)]) hx hb dmX13_run_120 hl (k := 4) rfl rfl (by decide) rfl (fun ls hl => ?_)
        refine lv_goto (tgt := 5) hx hb dmX13_run_123 (by decide) ?_
        exact ih_1 x1 x2 x3 (x4 + 1) 0 0 0 0 0 z H locs ls hM (lv_sub hl [1, 2, 3, 4, 0] rfl) hq
  exact (key K).1 x1 x2 0 0 0 0 0 0 0 z s.heap [] ls  hM (lv_sub hl [0, 1, 2] rfl) hq
theorem dmX13_close_0 : decode cX13_close 0 = .ok (.aload_n 0, 1) := dw_at cX13_close_k0 (p := 0) rfl (by decide +kernel)
theorem dmX13_close_1 : decode cX13_close 1 = .ok (.getfield 121, 3) := dw_at cX13_close_k0 (p := 1) rfl (by decide +kernel)
theorem dmX13_close_4 : decode cX13_close 4 = .ok (.invokevirtual 91, 3) := dw_at cX13_close_k0 (p := 4) rfl (by decide +kernel)
theorem dmX13_close_7 : decode cX13_close 7 = .ok (.iconst 0, 1) := dw_at cX13_close_k0 (p := 7) rfl (by decide +kernel)
theorem dmX13_close_8 : decode cX13_close 8 = .ok (.istore_n 2, 1) := dw_at cX13_close_k0 (p := 8) rfl (by decide +kernel)
theorem dmX13_close_9 : decode cX13_close 9 = .ok (.iload_n 2, 1) := dw_at cX13_close_k0 (p := 9) rfl (by decide +kernel)
theorem dmX13_close_10 : decode cX13_close 10 = .ok (.iconst 5, 1) := dw_at cX13_close_k0 (p := 10) rfl (by decide +kernel)
theorem dmX13_close_11 : decode cX13_close 11 = .ok (.if_icmp .ge 16, 3) := dw_at cX13_close_k0 (p := 11) rfl (by decide +kernel)
theorem dmX13_close_14 : decode cX13_close 14 = .ok (.aload_n 0, 1) := dw_at cX13_close_k0 (p := 14) rfl (by decide +kernel)
theorem dmX13_close_15 : decode cX13_close 15 = .ok (.getfield 383, 3) := dw_at cX13_close_k0 (p := 15) rfl (by decide +kernel)
theorem dmX13_close_18 : decode cX13_close 18 = .ok (.iload_n 2, 1) := dw_at cX13_close_k0 (p := 18) rfl (by decide +kernel)
theorem dmX13_close_19 : decode cX13_close 19 = .ok (.iconst 0, 1) := dw_at cX13_close_k0 (p := 19) rfl (by decide +kernel)
theorem dmX13_close_20 : decode cX13_close 20 = .ok (.bastore, 1) := dw_at cX13_close_k0 (p := 20) rfl (by decide +kernel)
theorem dmX13_close_21 : decode cX13_close 21 = .ok (.iinc 2 1, 3) := dw_at cX13_close_k0 (p := 21) rfl (by decide +kernel)
theorem dmX13_close_24 : decode cX13_close 24 = .ok (.goto (-15), 3) := dw_at cX13_close_k1 (p := 0) rfl (by decide +kernel)
theorem dmX13_close_27 : decode cX13_close 27 = .ok (.iconst 0, 1) := dw_at cX13_close_k1 (p := 3) rfl (by decide +kernel)
theorem dmX13_close_28 : decode cX13_close 28 = .ok (.istore_n 2, 1) := dw_at cX13_close_k1 (p := 4) rfl (by decide +kernel)
theorem dmX13_close_29 : decode cX13_close 29 = .ok (.iload_n 2, 1) := dw_at cX13_close_k1 (p := 5) rfl (by decide +kernel)
theorem dmX13_close_30 : decode cX13_close 30 = .ok (.aload_n 0, 1) := dw_at cX13_close_k1 (p := 6) rfl (by decide +kernel)
theorem dmX13_close_31 : decode cX13_close 31 = .ok (.getfield 326, 3) := dw_at cX13_close_k1 (p := 7) rfl (by decide +kernel)
theorem dmX13_close_34 : decode cX13_close 34 = .ok (.iload_n 1, 1) := dw_at cX13_close_k1 (p := 10) rfl (by decide +kernel)
theorem dmX13_close_35 : decode cX13_close 35 = .ok (.iaload, 1) := dw_at cX13_close_k1 (p := 11) rfl (by decide +kernel)
theorem dmX13_close_36 : decode cX13_close 36 = .ok (.if_icmp .ge 46, 3) := dw_at cX13_close_k1 (p := 12) rfl (by decide +kernel)
theorem dmX13_close_39 : decode cX13_close 39 = .ok (.aload_n 0, 1) := dw_at cX13_close_k1 (p := 15) rfl (by decide +kernel)
theorem dmX13_close_40 : decode cX13_close 40 = .ok (.getfield 383, 3) := dw_at cX13_close_k1 (p := 16) rfl (by decide +kernel)
theorem dmX13_close_43 : decode cX13_close 43 = .ok (.iload_n 2, 1) := dw_at cX13_close_k1 (p := 19) rfl (by decide +kernel)
theorem dmX13_close_44 : decode cX13_close 44 = .ok (.baload, 1) := dw_at cX13_close_k1 (p := 20) rfl (by decide +kernel)
theorem dmX13_close_45 : decode cX13_close 45 = .ok (.ifCond .ne 31, 3) := dw_at cX13_close_k1 (p := 21) rfl (by decide +kernel)
theorem dmX13_close_48 : decode cX13_close 48 = .ok (.iload_n 2, 1) := dw_at cX13_close_k2 (p := 0) rfl (by decide +kernel)
theorem dmX13_close_49 : decode cX13_close 49 = .ok (.istore_n 3, 1) := dw_at cX13_close_k2 (p := 1) rfl (by decide +kernel)
theorem dmX13_close_50 : decode cX13_close 50 = .ok (.aload_n 0, 1) := dw_at cX13_close_k2 (p := 2) rfl (by decide +kernel)
theorem dmX13_close_51 : decode cX13_close 51 = .ok (.getfield 383, 3) := dw_at cX13_close_k2 (p := 3) rfl (by decide +kernel)
theorem dmX13_close_54 : decode cX13_close 54 = .ok (.iload_n 3, 1) := dw_at cX13_close_k2 (p := 6) rfl (by decide +kernel)
theorem dmX13_close_55 : decode cX13_close 55 = .ok (.iconst 1, 1) := dw_at cX13_close_k2 (p := 7) rfl (by decide +kernel)
theorem dmX13_close_56 : decode cX13_close 56 = .ok (.bastore, 1) := dw_at cX13_close_k2 (p := 8) rfl (by decide +kernel)
theorem dmX13_close_57 : decode cX13_close 57 = .ok (.aload_n 0, 1) := dw_at cX13_close_k2 (p := 9) rfl (by decide +kernel)
theorem dmX13_close_58 : decode cX13_close 58 = .ok (.iload_n 1, 1) := dw_at cX13_close_k2 (p := 10) rfl (by decide +kernel)
theorem dmX13_close_59 : decode cX13_close 59 = .ok (.iload_n 3, 1) := dw_at cX13_close_k2 (p := 11) rfl (by decide +kernel)
theorem dmX13_close_60 : decode cX13_close 60 = .ok (.invokevirtual 793, 3) := dw_at cX13_close_k2 (p := 12) rfl (by decide +kernel)
theorem dmX13_close_63 : decode cX13_close 63 = .ok (.istore_n 3, 1) := dw_at cX13_close_k2 (p := 15) rfl (by decide +kernel)
theorem dmX13_close_64 : decode cX13_close 64 = .ok (.iload_n 3, 1) := dw_at cX13_close_k2 (p := 16) rfl (by decide +kernel)
theorem dmX13_close_65 : decode cX13_close 65 = .ok (.iload_n 2, 1) := dw_at cX13_close_k2 (p := 17) rfl (by decide +kernel)
theorem dmX13_close_66 : decode cX13_close 66 = .ok (.if_icmp .ne (-16), 3) := dw_at cX13_close_k2 (p := 18) rfl (by decide +kernel)
theorem dmX13_close_69 : decode cX13_close 69 = .ok (.aload_n 0, 1) := dw_at cX13_close_k2 (p := 21) rfl (by decide +kernel)
theorem dmX13_close_70 : decode cX13_close 70 = .ok (.getfield 121, 3) := dw_at cX13_close_k2 (p := 22) rfl (by decide +kernel)
theorem dmX13_close_73 : decode cX13_close 73 = .ok (.invokevirtual 94, 3) := dw_at cX13_close_k3 (p := 0) rfl (by decide +kernel)
theorem dmX13_close_76 : decode cX13_close 76 = .ok (.iinc 2 1, 3) := dw_at cX13_close_k3 (p := 3) rfl (by decide +kernel)
theorem dmX13_close_79 : decode cX13_close 79 = .ok (.goto (-50), 3) := dw_at cX13_close_k3 (p := 6) rfl (by decide +kernel)
theorem dmX13_close_82 : decode cX13_close 82 = .ok (.return_, 1) := dw_at cX13_close_k3 (p := 9) rfl (by decide +kernel)
def qm_X13_close_0 (K : Nat) (go : Nat → Int32 → Int32 → Int32 → ow_MS → Option ow_MS) (x1 : Int32) (x2 : Int32) (x3 : Int32) (z : ow_MS) : Option ow_MS :=
 cs0 (qe_X12_clear K 3000 z) fun z1 => go 1 x1 0 0 z1
def qm_X13_close_1 (K : Nat) (go : Nat → Int32 → Int32 → Int32 → ow_MS → Option ow_MS) (x1 : Int32) (x2 : Int32) (x3 : Int32) (z : ow_MS) : Option ow_MS :=
 (if 5 ≤ x2 then go 2 x1 0 0 z
 else wrZ mX z 120 x2 0 fun z2 => go 1 x1 (x2 + 1) 0 z2)
def qm_X13_close_2 (K : Nat) (go : Nat → Int32 → Int32 → Int32 → ow_MS → Option ow_MS) (x1 : Int32) (x2 : Int32) (x3 : Int32) (z : ow_MS) : Option ow_MS :=
 rdI mX z 96 x1 fun v3 => (if v3 ≤ x2 then some z
 else rdI mX z 120 x2 fun v4 => (if v4 = 0 then go 3 x1 x2 x2 z
 else go 4 x1 x2 0 z))
def qm_X13_close_3 (K : Nat) (go : Nat → Int32 → Int32 → Int32 → ow_MS → Option ow_MS) (x1 : Int32) (x2 : Int32) (x3 : Int32) (z : ow_MS) : Option ow_MS :=
 wrZ mX z 120 x3 1 fun z5 => cs1 (qe_X13_run K x1 x3 z5) fun v7 z6 => (if v7 = x2 then cs0 (qe_X12_end K 3000 z6) fun z8 => go 4 x1 x2 0 z8
 else go 3 x1 x2 v7 z6)
def qm_X13_close_4 (K : Nat) (go : Nat → Int32 → Int32 → Int32 → ow_MS → Option ow_MS) (x1 : Int32) (x2 : Int32) (x3 : Int32) (z : ow_MS) : Option ow_MS :=
 go 2 x1 (x2 + 1) 0 z
def qb_X13_close (K : Nat) (go : Nat → Int32 → Int32 → Int32 → ow_MS → Option ow_MS) (L : Nat) (x1 : Int32) (x2 : Int32) (x3 : Int32) (z : ow_MS) : Option ow_MS := match L with
  | 0 => qm_X13_close_0 K go x1 x2 x3 z
  | 1 => qm_X13_close_1 K go x1 x2 x3 z
  | 2 => qm_X13_close_2 K go x1 x2 x3 z
  | 3 => qm_X13_close_3 K go x1 x2 x3 z
  | 4 => qm_X13_close_4 K go x1 x2 x3 z
  | _ => none
def q_X13_close (K : Nat) : Nat → Nat → Int32 → Int32 → Int32 → ow_MS → Option ow_MS
  | 0 => fun _ _ _ _ _ => none
  | k + 1 => qb_X13_close K (q_X13_close K k)
def qe_X13_close (K : Nat) (x1 : Int32) (z : ow_MS) : Option ow_MS := q_X13_close K K 0 x1 0 0 z
abbrev wm_X13_close : List Cond := .code yX13_close cX13_close 4 none :: wM
theorem cd_X13_close : yX13_close.cls = RX13 ∧ yX13_close.cls ≠ "java/lang/invoke/MethodHandle" ∧ yX13_close.cls ≠ "java/lang/invoke/VarHandle" ∧ (parseMethodDescriptor yX13_close.desc).map (fun d => d.parameters.length) = some 1 := by decide +kernel
set_option maxHeartbeats 4000000 in
set_option maxRecDepth 100000 in
theorem km_X13_close (l : Launch) (D : va_G) (q : ow_Q5) (u : Nat → Nat) (hU : tw_inj mX u) (K : Nat) (x1 : Int32)  (z z1 : ow_MS) (hq : qe_X13_close K x1 z = some z1) : Met l yX13_close wm_X13_close ({ frames := 2, cells := 0, slots := 0, locals := 55 } : Room) (va_Pc [.ref (u 0), .int x1] (mw_pre D q u z)) (va_Qv (fun (_ : Unit) => True) (fun _ t => va_P D vwCl (tw mX q u z1) t.heap) (tw_A mX u)) 0 0 (tw_A mX u) := by
  refine Met.ofW (cc := cX13_close) (maxL := 4) (ret := none) (by decide) rfl ?_
  intro p e s m args below meth c s₁ B hml hv
  obtain ⟨rfl, hP, hK, hN⟩ := hv
  have hx := B.exec
  have hb := B.bytes
  have hr := B.returns
  have hts := atoms_spec (ws := wm_X13_close) B.pre
  have hT : ∀ w ∈ wM, w.before ([.ref (u 0), .int x1] : List Value).toArray s = true := fun w h => hts w (List.mem_cons_of_mem _ h)
  have hown : s.vm.findClass RX13 = some m.cls := findClass_of_methodNamed B.named
  have hlocks := B.notSynchronized
  have hM : tw_M D vwCl mX q s.heap u z s.heap [] := ⟨hP, va_S.rf⟩
  have hl := lv_entry ([.ref (u 0), .int x1]) (n := 4) (Nat.le_of_ble_eq_true rfl)
  rw [lg_entry_eq]
  generalize (lg_sl ([.ref (u 0), .int x1]) ++ List.replicate (4 - (lg_sl ([.ref (u 0), .int x1])).length) Slot.unset).toArray = ls at hl ⊢
  have hl : lv_has ls 4 [(0, .ref (u 0)), (1, .int x1)] := hl
  refine ow_named (fun QQ hQQ => ?_)
  generalize ([.ref (u 0), .int x1] : List Value).toArray = args at hts hT hQQ ⊢
  have key : ∀ k : Nat, (∀ (x1 : Int32) (x2 : Int32) (x3 : Int32) (z : ow_MS) (H : Heap) (locs : List Loc) (ls : Array Slot), tw_M D vwCl mX q s.heap u z H locs → lv_has ls 4 [(0, .ref (u 0)), (1, .int x1)] → q_X13_close K k 0 x1 x2 x3 z = some z1 → W p l e ({ frames := 2, cells := 0, slots := 0, locals := 55 } : Room) s m args below meth c H locs 0 0 QQ (F0 m 0 ls [])) ∧ (∀ (x1 : Int32) (x2 : Int32) (x3 : Int32) (z : ow_MS) (H : Heap) (locs : List Loc) (ls : Array Slot), tw_M D vwCl mX q s.heap u z H locs → lv_has ls 4 [(0, .ref (u 0)), (1, .int x1), (2, .int x2)] → q_X13_close K k 1 x1 x2 x3 z = some z1 → W p l e ({ frames := 2, cells := 0, slots := 0, locals := 55 } : Room) s m args below meth c H locs 0 0 QQ (F0 m 9 ls [])) ∧ (∀ (x1 : Int32) (x2 : Int32) (x3 : Int32) (z : ow_MS) (H : Heap) (locs : List Loc) (ls : Array Slot), tw_M D vwCl mX q s.heap u z H locs → lv_has ls 4 [(0, .ref (u 0)), (1, .int x1), (2, .int x2)] → q_X13_close K k 2 x1 x2 x3 z = some z1 → W p l e ({ frames := 2, cells := 0, slots := 0, locals := 55 } : Room) s m args below meth c H locs 0 0 QQ (F0 m 29 ls [])) ∧ (∀ (x1 : Int32) (x2 : Int32) (x3 : Int32) (z : ow_MS) (H : Heap) (locs : List Loc) (ls : Array Slot), tw_M D vwCl mX q s.heap u z H locs → lv_has ls 4 [(0, .ref (u 0)), (1, .int x1), (2, .int x2), (3, .int x3)] → q_X13_close K k 3 x1 x2 x3 z = some z1 → W p l e ({ frames := 2, cells := 0, slots := 0, locals := 55 } : Room) s m args below meth c H locs 0 0 QQ (F0 m 50 ls [])) ∧ (∀ (x1 : Int32) (x2 : Int32) (x3 : Int32) (z : ow_MS) (H : Heap) (locs : List Loc) (ls : Array Slot), tw_M D vwCl mX q s.heap u z H locs → lv_has ls 4 [(0, .ref (u 0)), (1, .int x1), (2, .int x2)] → q_X13_close K k 4 x1 x2 x3 z = some z1 → W p l e ({ frames := 2, cells := 0, slots := 0, locals := 55 } : Room) s m args below meth c H locs 0 0 QQ (F0 m 76 ls [])) := by
    intro k
    induction k with
    | zero => exact ⟨fun _ _ _ _ _ _ _  _ _ hq => tw_no hq, fun _ _ _ _ _ _ _  _ _ hq => tw_no hq, fun _ _ _ _ _ _ _  _ _ hq => tw_no hq, fun _ _ _ _ _ _ _  _ _ hq => tw_no hq, fun _ _ _ _ _ _ _  _ _ hq => tw_no hq⟩
    | succ k ih =>
      obtain ⟨ih_0, ih_1, ih_2, ih_3, ih_4⟩ := ih
      refine ⟨?_, ?_, ?_, ?_, ?_⟩
      · intro x1 x2 x3 z H locs ls  hM hl hq
        have hq : qm_X13_close_0 K (q_X13_close K k) x1 x2 x3 z = some z1 := hq
        unfold qm_X13_close_0 at hq
        refine lv_aload_n hx hb dmX13_close_0 rfl (lv_at hl 0 rfl) ?_
        refine mg13_121 hx hb hT hown hK hM dmX13_close_1 ?_
        obtain ⟨z1, hcq, hq⟩ := tw_cl0 hq
        refine tw_calv hM (va_runV (As := []) (rest := []) ⟨hx, hb, hml, hown, hts⟩ (km_X12_clear l D q u hU K 3000 mw_n3 z z1 hcq) (cwV 0 hts (tw_gV wM_good wq_85 wq_11 wq_12 wq_13 wq_3) rfl rfl rfl cd_X12_clear ⟨(Nat.le_of_ble_eq_true rfl), (Nat.le_of_ble_eq_true rfl)⟩) (mw_preV hK hN hM (mo_n mw_n3) rfl) rfl rfl hl.1 rfl (lv_room (Nat.le_of_ble_eq_true rfl)) dmX13_close_4 ⟨(Nat.le_of_ble_eq_true rfl), (Nat.le_of_ble_eq_true rfl)⟩) (fun H locs hM => ?_)
        refine lv_iconst (v := 0) hx hb dmX13_close_7 (by decide) ?_
        refine lv_istore_n (lv' := [(2, .int 0), (0, .ref (u 0)), (1, .int x1)]) hx hb dmX13_close_8 rfl hl (by decide) rfl (fun ls hl => ?_)
        exact ih_1 x1 0 0 z1 H locs ls hM (lv_sub hl [1, 2, 0] rfl) hq
      · intro x1 x2 x3 z H locs ls  hM hl hq
        have hq : qm_X13_close_1 K (q_X13_close K k) x1 x2 x3 z = some z1 := hq
        unfold qm_X13_close_1 at hq
        refine lv_iload_n hx hb dmX13_close_9 rfl (lv_at hl 2 rfl) ?_
        refine lv_iconst (v := 5) hx hb dmX13_close_10 (by decide) ?_
        refine lv_icmp_ge (tgt := 27) hx hb dmX13_close_11 (by decide) (fun hc => ?_) (fun hc => ?_)
        · have hq := tw_it hq hc
          refine lv_iconst (v := 0) hx hb dmX13_close_27 (by decide) ?_
          refine lv_istore_n (lv' := [(2, .int 0), (0, .ref (u 0)), (1, .int x1)]) hx hb dmX13_close_28 rfl hl (by decide) rfl (fun ls hl => ?_)
          exact ih_2 x1 0 0 z H locs ls hM (lv_sub hl [1, 2, 0] rfl) hq
        · have hq := tw_if hq hc
          refine lv_aload_n hx hb dmX13_close_14 rfl (lv_at hl 0 rfl) ?_
          refine mg13_383 hx hb hT hown hK hM dmX13_close_15 ?_
          refine lv_iload_n hx hb dmX13_close_18 rfl (lv_at hl 2 rfl) ?_
          refine lv_iconst (v := 0) hx hb dmX13_close_19 (by decide) ?_
          refine tw_zast mX_ok hU hx hb hK hM mr_120 hq dmX13_close_20 (fun z2 H locs hM hq => ?_)
          refine lv_iinc (v := (x2 + 1)) (lv' := [(2, .int (x2 + 1)), (0, .ref (u 0)), (1, .int x1)]) hx hb dmX13_close_21 hl (k := 2) rfl rfl (by decide) rfl (fun ls hl => ?_)
          refine lv_goto (tgt := 9) hx hb dmX13_close_24 (by decide) ?_
          exact ih_1 x1 (x2 + 1) 0 z2 H locs ls hM (lv_sub hl [1, 2, 0] rfl) hq
      · intro x1 x2 x3 z H locs ls  hM hl hq
        have hq : qm_X13_close_2 K (q_X13_close K k) x1 x2 x3 z = some z1 := hq
        unfold qm_X13_close_2 at hq
        refine lv_iload_n hx hb dmX13_close_29 rfl (lv_at hl 2 rfl) ?_
        refine lv_aload_n hx hb dmX13_close_30 rfl (lv_at hl 0 rfl) ?_
        refine mg13_326 hx hb hT hown hK hM dmX13_close_31 ?_
        refine lv_iload_n hx hb dmX13_close_34 rfl (lv_at hl 1 rfl) ?_
        refine tw_iald mX_ok hx hb hK hM mr_96 hq dmX13_close_35 (fun v3 hq => ?_)
        refine lv_icmp_ge (tgt := 82) hx hb dmX13_close_36 (by decide) (fun hc => ?_) (fun hc => ?_)
        · have hq := tw_it hq hc
          exact mw_vret hx hb hr hlocks hM hq hQQ dmX13_close_82
        · have hq := tw_if hq hc
          refine lv_aload_n hx hb dmX13_close_39 rfl (lv_at hl 0 rfl) ?_
          refine mg13_383 hx hb hT hown hK hM dmX13_close_40 ?_
          refine lv_iload_n hx hb dmX13_close_43 rfl (lv_at hl 2 rfl) ?_
          refine tw_zald mX_ok hx hb hK hM mr_120 hq dmX13_close_44 (fun v4 hq => ?_)
          refine lv_if_ne (tgt := 76) hx hb dmX13_close_45 (by decide) (fun hc => ?_) (fun hc => ?_)
          · have hq := tw_if hq hc
            exact ih_4 x1 x2 0 z H locs ls hM (lv_sub hl [0, 1, 2] rfl) hq
          · have hq := tw_it hq hc
            refine lv_iload_n hx hb dmX13_close_48 rfl (lv_at hl 2 rfl) ?_
            refine lv_istore_n (lv' := [(3, .int x2), (0, .ref (u 0)), (1, .int x1), (2, .int x2)]) hx hb dmX13_close_49 rfl hl (by decide) rfl (fun ls hl => ?_)
            exact ih_3 x1 x2 x2 z H locs ls hM (lv_sub hl [1, 2, 3, 0] rfl) hq
      · intro x1 x2 x3 z H locs ls  hM hl hq
        have hq : qm_X13_close_3 K (q_X13_close K k) x1 x2 x3 z = some z1 := hq
        unfold qm_X13_close_3 at hq
        refine lv_aload_n hx hb dmX13_close_50 rfl (lv_at hl 0 rfl) ?_
        refine mg13_383 hx hb hT hown hK hM dmX13_close_51 ?_
        refine lv_iload_n hx hb dmX13_close_54 rfl (lv_at hl 3 rfl) ?_
        refine lv_iconst (v := 1) hx hb dmX13_close_55 (by decide) ?_
        refine tw_zast mX_ok hU hx hb hK hM mr_120 hq dmX13_close_56 (fun z5 H locs hM hq => ?_)
        refine lv_aload_n hx hb dmX13_close_57 rfl (lv_at hl 0 rfl) ?_
        refine lv_iload_n hx hb dmX13_close_58 rfl (lv_at hl 1 rfl) ?_
        refine lv_iload_n hx hb dmX13_close_59 rfl (lv_at hl 3 rfl) ?_
        obtain ⟨v7, z6, hcq, hq⟩ := tw_cl1 hq
        refine tw_cali hM (va_runV (As := [.int x1, .int x3]) (rest := []) ⟨hx, hb, hml, hown, hts⟩ (km_X13_run l D q u hU K x1 x3 z5 z6 v7 hcq) (cwV 2 hts (tw_gV wM_good wq_567 wq_568 wq_569 wq_61 wq_565) rfl rfl rfl cd_X13_run ⟨(Nat.le_of_ble_eq_true rfl), (Nat.le_of_ble_eq_true rfl)⟩) (mw_preV hK hN hM mo_0 rfl) rfl rfl hl.1 rfl (lv_room (Nat.le_of_ble_eq_true rfl)) dmX13_close_60 ⟨(Nat.le_of_ble_eq_true rfl), (Nat.le_of_ble_eq_true rfl)⟩) (fun H locs hM => ?_)
        refine lv_istore_n (lv' := [(3, .int v7), (0, .ref (u 0)), (1, .int x1), (2, .int x2)]) hx hb dmX13_close_63 rfl hl (by decide) rfl (fun ls hl => ?_)
        refine lv_iload_n hx hb dmX13_close_64 rfl (lv_at hl 0 rfl) ?_
        refine lv_iload_n hx hb dmX13_close_65 rfl (lv_at hl 3 rfl) ?_
        refine lv_icmp_ne (tgt := 50) hx hb dmX13_close_66 (by decide) (fun hc => ?_) (fun hc => ?_)
        · have hq := tw_if hq hc
          exact ih_3 x1 x2 v7 z6 H locs ls hM (lv_sub hl [1, 2, 3, 0] rfl) hq
        · have hq := tw_it hq hc
          refine lv_aload_n hx hb dmX13_close_69 rfl (lv_at hl 1 rfl) ?_
          refine mg13_121 hx hb hT hown hK hM dmX13_close_70 ?_
          obtain ⟨z8, hcq, hq⟩ := tw_cl0 hq
          refine tw_calv hM (va_runV (As := []) (rest := []) ⟨hx, hb, hml, hown, hts⟩ (km_X12_end l D q u hU K 3000 mw_n3 z6 z8 hcq) (cwV 0 hts (tw_gV wM_good wq_86 wq_18 wq_19 wq_13 wq_7) rfl rfl rfl cd_X12_end ⟨(Nat.le_of_ble_eq_true rfl), (Nat.le_of_ble_eq_true rfl)⟩) (mw_preV hK hN hM (mo_n mw_n3) rfl) rfl rfl hl.1 rfl (lv_room (Nat.le_of_ble_eq_true rfl)) dmX13_close_73 ⟨(Nat.le_of_ble_eq_true rfl), (Nat.le_of_ble_eq_true rfl)⟩) (fun H locs hM => ?_)
          exact ih_4 x1 x2 0 z8 H locs ls hM (lv_sub hl [1, 2, 3] rfl) hq
      · intro x1 x2 x3 z H locs ls  hM hl hq
        have hq : qm_X13_close_4 K (q_X13_close K k) x1 x2 x3 z = some z1 := hq
        unfold qm_X13_close_4 at hq
        refine lv_iinc (v := (x2 + 1)) (lv' := [(2, .int (x2 + 1)), (0, .ref (u 0)), (1, .int x1)]) hx hb dmX13_close_76 hl (k := 2) rfl rfl (by decide) rfl (fun ls hl => ?_)
        refine lv_goto (tgt := 29) hx hb dmX13_close_79 (by decide) ?_
        exact ih_2 x1 (x2 + 1) 0 z H locs ls hM (lv_sub hl [1, 2, 0] rfl) hq
  exact (key K).1 x1 0 0 z s.heap [] ls  hM (lv_sub hl [0, 1] rfl) hq
theorem dmX13_closure_0 : decode cX13_closure 0 = .ok (.aload_n 0, 1) := dw_at cX13_closure_k0 (p := 0) rfl (by decide +kernel)
theorem dmX13_closure_1 : decode cX13_closure 1 = .ok (.iconst 0, 1) := dw_at cX13_closure_k0 (p := 1) rfl (by decide +kernel)
theorem dmX13_closure_2 : decode cX13_closure 2 = .ok (.putfield 1, 3) := dw_at cX13_closure_k0 (p := 2) rfl (by decide +kernel)
theorem dmX13_closure_5 : decode cX13_closure 5 = .ok (.aload_n 0, 1) := dw_at cX13_closure_k0 (p := 5) rfl (by decide +kernel)
theorem dmX13_closure_6 : decode cX13_closure 6 = .ok (.iload_n 1, 1) := dw_at cX13_closure_k0 (p := 6) rfl (by decide +kernel)
theorem dmX13_closure_7 : decode cX13_closure 7 = .ok (.invokevirtual 739, 3) := dw_at cX13_closure_k0 (p := 7) rfl (by decide +kernel)
theorem dmX13_closure_10 : decode cX13_closure 10 = .ok (.ifCond .ne 9, 3) := dw_at cX13_closure_k0 (p := 10) rfl (by decide +kernel)
theorem dmX13_closure_13 : decode cX13_closure 13 = .ok (.aload_n 0, 1) := dw_at cX13_closure_k0 (p := 13) rfl (by decide +kernel)
theorem dmX13_closure_14 : decode cX13_closure 14 = .ok (.iconst 1, 1) := dw_at cX13_closure_k0 (p := 14) rfl (by decide +kernel)
theorem dmX13_closure_15 : decode cX13_closure 15 = .ok (.invokevirtual 403, 3) := dw_at cX13_closure_k0 (p := 15) rfl (by decide +kernel)
theorem dmX13_closure_18 : decode cX13_closure 18 = .ok (.ireturn, 1) := dw_at cX13_closure_k0 (p := 18) rfl (by decide +kernel)
theorem dmX13_closure_19 : decode cX13_closure 19 = .ok (.aload_n 0, 1) := dw_at cX13_closure_k0 (p := 19) rfl (by decide +kernel)
theorem dmX13_closure_20 : decode cX13_closure 20 = .ok (.getfield 323, 3) := dw_at cX13_closure_k0 (p := 20) rfl (by decide +kernel)
theorem dmX13_closure_23 : decode cX13_closure 23 = .ok (.iload_n 1, 1) := dw_at cX13_closure_k0 (p := 23) rfl (by decide +kernel)
theorem dmX13_closure_24 : decode cX13_closure 24 = .ok (.iaload, 1) := dw_at cX13_closure_k1 (p := 0) rfl (by decide +kernel)
theorem dmX13_closure_25 : decode cX13_closure 25 = .ok (.bipush 12, 2) := dw_at cX13_closure_k1 (p := 1) rfl (by decide +kernel)
theorem dmX13_closure_27 : decode cX13_closure 27 = .ok (.if_icmp .le 9, 3) := dw_at cX13_closure_k1 (p := 3) rfl (by decide +kernel)
theorem dmX13_closure_30 : decode cX13_closure 30 = .ok (.aload_n 0, 1) := dw_at cX13_closure_k1 (p := 6) rfl (by decide +kernel)
theorem dmX13_closure_31 : decode cX13_closure 31 = .ok (.iconst 2, 1) := dw_at cX13_closure_k1 (p := 7) rfl (by decide +kernel)
theorem dmX13_closure_32 : decode cX13_closure 32 = .ok (.invokevirtual 403, 3) := dw_at cX13_closure_k1 (p := 8) rfl (by decide +kernel)
theorem dmX13_closure_35 : decode cX13_closure 35 = .ok (.ireturn, 1) := dw_at cX13_closure_k1 (p := 11) rfl (by decide +kernel)
theorem dmX13_closure_36 : decode cX13_closure 36 = .ok (.aload_n 0, 1) := dw_at cX13_closure_k1 (p := 12) rfl (by decide +kernel)
theorem dmX13_closure_37 : decode cX13_closure 37 = .ok (.invokevirtual 392, 3) := dw_at cX13_closure_k1 (p := 13) rfl (by decide +kernel)
theorem dmX13_closure_40 : decode cX13_closure 40 = .ok (.iconst (-1), 1) := dw_at cX13_closure_k1 (p := 16) rfl (by decide +kernel)
theorem dmX13_closure_41 : decode cX13_closure 41 = .ok (.if_icmp .ne 9, 3) := dw_at cX13_closure_k1 (p := 17) rfl (by decide +kernel)
theorem dmX13_closure_44 : decode cX13_closure 44 = .ok (.aload_n 0, 1) := dw_at cX13_closure_k1 (p := 20) rfl (by decide +kernel)
theorem dmX13_closure_45 : decode cX13_closure 45 = .ok (.iconst 3, 1) := dw_at cX13_closure_k1 (p := 21) rfl (by decide +kernel)
theorem dmX13_closure_46 : decode cX13_closure 46 = .ok (.invokevirtual 403, 3) := dw_at cX13_closure_k1 (p := 22) rfl (by decide +kernel)
theorem dmX13_closure_49 : decode cX13_closure 49 = .ok (.ireturn, 1) := dw_at cX13_closure_k2 (p := 0) rfl (by decide +kernel)
theorem dmX13_closure_50 : decode cX13_closure 50 = .ok (.aload_n 0, 1) := dw_at cX13_closure_k2 (p := 1) rfl (by decide +kernel)
theorem dmX13_closure_51 : decode cX13_closure 51 = .ok (.iload_n 1, 1) := dw_at cX13_closure_k2 (p := 2) rfl (by decide +kernel)
theorem dmX13_closure_52 : decode cX13_closure 52 = .ok (.invokevirtual 796, 3) := dw_at cX13_closure_k2 (p := 3) rfl (by decide +kernel)
theorem dmX13_closure_55 : decode cX13_closure 55 = .ok (.aload_n 0, 1) := dw_at cX13_closure_k2 (p := 6) rfl (by decide +kernel)
theorem dmX13_closure_56 : decode cX13_closure 56 = .ok (.invokevirtual 420, 3) := dw_at cX13_closure_k2 (p := 7) rfl (by decide +kernel)
theorem dmX13_closure_59 : decode cX13_closure 59 = .ok (.ireturn, 1) := dw_at cX13_closure_k2 (p := 10) rfl (by decide +kernel)
def qm_X13_closure_0 (K : Nat) (x1 : Int32) (z : ow_MS) : Option (Int32 × ow_MS) :=
 wrF z 1 0 fun z1 => cs1 (qe_X13_hasBraid K x1 z1) fun v3 z2 => (if v3 = 0 then cs1 (qe_X13_fails K 1 z2) fun v15 z14 => some (v15, z14)
 else rdI mX z2 95 x1 fun v4 => (if v4 ≤ 12 then cs1 (qe_X13_free K z2) fun v6 z5 => (if v6 = (-1) then cs1 (qe_X13_fails K 3 z5) fun v11 z10 => some (v11, z10)
 else cs0 (qe_X13_close K x1 z5) fun z7 => cs1 (qe_X13_keep K z7) fun v9 z8 => some (v9, z8))
 else cs1 (qe_X13_fails K 2 z2) fun v13 z12 => some (v13, z12)))
def qe_X13_closure (K : Nat) (x1 : Int32) (z : ow_MS) : Option (Int32 × ow_MS) := qm_X13_closure_0 K x1 z
abbrev wm_X13_closure : List Cond := .code yX13_closure cX13_closure 2 (some .int) :: wM
theorem cd_X13_closure : yX13_closure.cls = RX13 ∧ yX13_closure.cls ≠ "java/lang/invoke/MethodHandle" ∧ yX13_closure.cls ≠ "java/lang/invoke/VarHandle" ∧ (parseMethodDescriptor yX13_closure.desc).map (fun d => d.parameters.length) = some 1 := by decide +kernel
set_option maxHeartbeats 4000000 in
set_option maxRecDepth 100000 in
theorem km_X13_closure (l : Launch) (D : va_G) (q : ow_Q5) (u : Nat → Nat) (hU : tw_inj mX u) (K : Nat) (x1 : Int32)  (z z1 : ow_MS) (r : Int32) (hq : qe_X13_closure K x1 z = some (r, z1)) : Met l yX13_closure wm_X13_closure ({ frames := 5, cells := 0, slots := 0, locals := 132 } : Room) (va_Pc [.ref (u 0), .int x1] (mw_pre D q u z)) (va_Qi (fun x (_ : Unit) => x = r) (fun _ t => va_P D vwCl (tw mX q u z1) t.heap) (tw_A mX u)) 0 0 (tw_A mX u) := by
  refine Met.ofW (cc := cX13_closure) (maxL := 2) (ret := (some .int)) (by decide) rfl ?_
  intro p e s m args below meth c s₁ B hml hv
  obtain ⟨rfl, hP, hK, hN⟩ := hv
  have hx := B.exec
  have hb := B.bytes
  have hr := B.returns
  have hts := atoms_spec (ws := wm_X13_closure) B.pre
  have hT : ∀ w ∈ wM, w.before ([.ref (u 0), .int x1] : List Value).toArray s = true := fun w h => hts w (List.mem_cons_of_mem _ h)
  have hown : s.vm.findClass RX13 = some m.cls := findClass_of_methodNamed B.named
  have hlocks := B.notSynchronized
  have hM : tw_M D vwCl mX q s.heap u z s.heap [] := ⟨hP, va_S.rf⟩
  have hl := lv_entry ([.ref (u 0), .int x1]) (n := 2) (Nat.le_of_ble_eq_true rfl)
  rw [lg_entry_eq]
  generalize (lg_sl ([.ref (u 0), .int x1]) ++ List.replicate (2 - (lg_sl ([.ref (u 0), .int x1])).length) Slot.unset).toArray = ls at hl ⊢
  have hl : lv_has ls 2 [(0, .ref (u 0)), (1, .int x1)] := hl
  refine ow_named (fun QQ hQQ => ?_)
  generalize ([.ref (u 0), .int x1] : List Value).toArray = args at hts hT hQQ ⊢
  have hq : qm_X13_closure_0 K x1 z = some (r, z1) := hq
  unfold qm_X13_closure_0 at hq
  suffices key : ∀ (H : Heap) (locs : List Loc), tw_M D vwCl mX q s.heap u z H locs → W p l e ({ frames := 5, cells := 0, slots := 0, locals := 132 } : Room) s m args below meth c H locs 0 0 QQ (F0 m 0 ls []) from key s.heap [] hM
  intro H locs hM
  refine lv_aload_n hx hb dmX13_closure_0 rfl (lv_at hl 0 rfl) ?_
  refine lv_iconst (v := 0) hx hb dmX13_closure_1 (by decide) ?_
  refine mp13_1 hx hb hT hown hK hM hU hq dmX13_closure_2 (fun z1 H locs hM hq => ?_)
  refine lv_aload_n hx hb dmX13_closure_5 rfl (lv_at hl 0 rfl) ?_
  refine lv_iload_n hx hb dmX13_closure_6 rfl (lv_at hl 1 rfl) ?_
  obtain ⟨v3, z2, hcq, hq⟩ := tw_cl1 hq
  refine tw_cali hM (va_runV (As := [.int x1]) (rest := []) ⟨hx, hb, hml, hown, hts⟩ (km_X13_hasBraid l D q u hU K x1 z1 z2 v3 hcq) (cwV 1 hts (tw_gV wM_good wq_490 wq_491 wq_492 wq_61 wq_482) rfl rfl rfl cd_X13_hasBraid ⟨(Nat.le_of_ble_eq_true rfl), (Nat.le_of_ble_eq_true rfl)⟩) (mw_preV hK hN hM mo_0 rfl) rfl rfl hl.1 rfl (lv_room (Nat.le_of_ble_eq_true rfl)) dmX13_closure_7 ⟨(Nat.le_of_ble_eq_true rfl), (Nat.le_of_ble_eq_true rfl)⟩) (fun H locs hM => ?_)
  refine lv_if_ne (tgt := 19) hx hb dmX13_closure_10 (by decide) (fun hc => ?_) (fun hc => ?_)
  · have hq := tw_if hq hc
    refine lv_aload_n hx hb dmX13_closure_19 rfl (lv_at hl 0 rfl) ?_
    refine mg13_323 hx hb hT hown hK hM dmX13_closure_20 ?_
    refine lv_iload_n hx hb dmX13_closure_23 rfl (lv_at hl 1 rfl) ?_
    refine tw_iald mX_ok hx hb hK hM mr_95 hq dmX13_closure_24 (fun v4 hq => ?_)
    refine lv_bipush (v := 12) hx hb dmX13_closure_25 (by decide) ?_
    refine lv_icmp_le (tgt := 36) hx hb dmX13_closure_27 (by decide) (fun hc => ?_) (fun hc => ?_)
    · have hq := tw_it hq hc
      refine lv_aload_n hx hb dmX13_closure_36 rfl (lv_at hl 0 rfl) ?_
      obtain ⟨v6, z5, hcq, hq⟩ := tw_cl1 hq
      refine tw_cali hM (va_runV (As := []) (rest := []) ⟨hx, hb, hml, hown, hts⟩ (km_X13_free l D q u hU K z2 z5 v6 hcq) (cwV 0 hts (tw_gV wM_good wq_93 wq_94 wq_95 wq_61 wq_91) rfl rfl rfl cd_X13_free ⟨(Nat.le_of_ble_eq_true rfl), (Nat.le_of_ble_eq_true rfl)⟩) (mw_preV hK hN hM mo_0 rfl) rfl rfl hl.1 rfl (lv_room (Nat.le_of_ble_eq_true rfl)) dmX13_closure_37 ⟨(Nat.le_of_ble_eq_true rfl), (Nat.le_of_ble_eq_true rfl)⟩) (fun H locs hM => ?_)
      refine lv_iconst (v := (-1)) hx hb dmX13_closure_40 (by decide) ?_
      refine lv_icmp_ne (tgt := 50) hx hb dmX13_closure_41 (by decide) (fun hc => ?_) (fun hc => ?_)
      · have hq := tw_if hq hc
        refine lv_aload_n hx hb dmX13_closure_50 rfl (lv_at hl 0 rfl) ?_
        refine lv_iload_n hx hb dmX13_closure_51 rfl (lv_at hl 1 rfl) ?_
        obtain ⟨z7, hcq, hq⟩ := tw_cl0 hq
        refine tw_calv hM (va_runV (As := [.int x1]) (rest := []) ⟨hx, hb, hml, hown, hts⟩ (km_X13_close l D q u hU K x1 z5 z7 hcq) (cwV 1 hts (tw_gV wM_good wq_571 wq_572 wq_573 wq_61 wq_570) rfl rfl rfl cd_X13_close ⟨(Nat.le_of_ble_eq_true rfl), (Nat.le_of_ble_eq_true rfl)⟩) (mw_preV hK hN hM mo_0 rfl) rfl rfl hl.1 rfl (lv_room (Nat.le_of_ble_eq_true rfl)) dmX13_closure_52 ⟨(Nat.le_of_ble_eq_true rfl), (Nat.le_of_ble_eq_true rfl)⟩) (fun H locs hM => ?_)
        refine lv_aload_n hx hb dmX13_closure_55 rfl (lv_at hl 0 rfl) ?_
        obtain ⟨v9, z8, hcq, hq⟩ := tw_cl1 hq
        refine tw_cali hM (va_runV (As := []) (rest := []) ⟨hx, hb, hml, hown, hts⟩ (km_X13_keep l D q u hU K z7 z8 v9 hcq) (cwV 0 hts (tw_gV wM_good wq_123 wq_124 wq_125 wq_61 wq_99) rfl rfl rfl cd_X13_keep ⟨(Nat.le_of_ble_eq_true rfl), (Nat.le_of_ble_eq_true rfl)⟩) (mw_preV hK hN hM mo_0 rfl) rfl rfl hl.1 rfl (lv_room (Nat.le_of_ble_eq_true rfl)) dmX13_closure_56 ⟨(Nat.le_of_ble_eq_true rfl), (Nat.le_of_ble_eq_true rfl)⟩) (fun H locs hM => ?_)
        exact mw_iret hx hb hr hlocks hM hq hQQ dmX13_closure_59
      · have hq := tw_it hq hc
        refine lv_aload_n hx hb dmX13_closure_44 rfl (lv_at hl 0 rfl) ?_
        refine lv_iconst (v := 3) hx hb dmX13_closure_45 (by decide) ?_
        obtain ⟨v11, z10, hcq, hq⟩ := tw_cl1 hq
        refine tw_cali hM (va_runV (As := [.int 3]) (rest := []) ⟨hx, hb, hml, hown, hts⟩ (km_X13_fails l D q u hU K 3 z5 z10 v11 hcq) (cwV 1 hts (tw_gV wM_good wq_103 wq_104 wq_105 wq_61 wq_50) rfl rfl rfl cd_X13_fails ⟨(Nat.le_of_ble_eq_true rfl), (Nat.le_of_ble_eq_true rfl)⟩) (mw_preV hK hN hM mo_0 rfl) rfl rfl hl.1 rfl (lv_room (Nat.le_of_ble_eq_true rfl)) dmX13_closure_46 ⟨(Nat.le_of_ble_eq_true rfl), (Nat.le_of_ble_eq_true rfl)⟩) (fun H locs hM => ?_)
        exact mw_iret hx hb hr hlocks hM hq hQQ dmX13_closure_49
    · have hq := tw_if hq hc
      refine lv_aload_n hx hb dmX13_closure_30 rfl (lv_at hl 0 rfl) ?_
      refine lv_iconst (v := 2) hx hb dmX13_closure_31 (by decide) ?_
      obtain ⟨v13, z12, hcq, hq⟩ := tw_cl1 hq
      refine tw_cali hM (va_runV (As := [.int 2]) (rest := []) ⟨hx, hb, hml, hown, hts⟩ (km_X13_fails l D q u hU K 2 z2 z12 v13 hcq) (cwV 1 hts (tw_gV wM_good wq_103 wq_104 wq_105 wq_61 wq_50) rfl rfl rfl cd_X13_fails ⟨(Nat.le_of_ble_eq_true rfl), (Nat.le_of_ble_eq_true rfl)⟩) (mw_preV hK hN hM mo_0 rfl) rfl rfl hl.1 rfl (lv_room (Nat.le_of_ble_eq_true rfl)) dmX13_closure_32 ⟨(Nat.le_of_ble_eq_true rfl), (Nat.le_of_ble_eq_true rfl)⟩) (fun H locs hM => ?_)
      exact mw_iret hx hb hr hlocks hM hq hQQ dmX13_closure_35
  · have hq := tw_it hq hc
    refine lv_aload_n hx hb dmX13_closure_13 rfl (lv_at hl 0 rfl) ?_
    refine lv_iconst (v := 1) hx hb dmX13_closure_14 (by decide) ?_
    obtain ⟨v15, z14, hcq, hq⟩ := tw_cl1 hq
    refine tw_cali hM (va_runV (As := [.int 1]) (rest := []) ⟨hx, hb, hml, hown, hts⟩ (km_X13_fails l D q u hU K 1 z2 z14 v15 hcq) (cwV 1 hts (tw_gV wM_good wq_103 wq_104 wq_105 wq_61 wq_50) rfl rfl rfl cd_X13_fails ⟨(Nat.le_of_ble_eq_true rfl), (Nat.le_of_ble_eq_true rfl)⟩) (mw_preV hK hN hM mo_0 rfl) rfl rfl hl.1 rfl (lv_room (Nat.le_of_ble_eq_true rfl)) dmX13_closure_15 ⟨(Nat.le_of_ble_eq_true rfl), (Nat.le_of_ble_eq_true rfl)⟩) (fun H locs hM => ?_)
    exact mw_iret hx hb hr hlocks hM hq hQQ dmX13_closure_18
theorem dmX13_two_0 : decode cX13_two 0 = .ok (.aload_n 0, 1) := dw_at cX13_two_k0 (p := 0) rfl (by decide +kernel)
theorem dmX13_two_1 : decode cX13_two 1 = .ok (.iconst 0, 1) := dw_at cX13_two_k0 (p := 1) rfl (by decide +kernel)
theorem dmX13_two_2 : decode cX13_two 2 = .ok (.putfield 1, 3) := dw_at cX13_two_k0 (p := 2) rfl (by decide +kernel)
theorem dmX13_two_5 : decode cX13_two 5 = .ok (.aload_n 0, 1) := dw_at cX13_two_k0 (p := 5) rfl (by decide +kernel)
theorem dmX13_two_6 : decode cX13_two 6 = .ok (.iload_n 1, 1) := dw_at cX13_two_k0 (p := 6) rfl (by decide +kernel)
theorem dmX13_two_7 : decode cX13_two 7 = .ok (.invokevirtual 739, 3) := dw_at cX13_two_k0 (p := 7) rfl (by decide +kernel)
theorem dmX13_two_10 : decode cX13_two 10 = .ok (.ifCond .ne 9, 3) := dw_at cX13_two_k0 (p := 10) rfl (by decide +kernel)
theorem dmX13_two_13 : decode cX13_two 13 = .ok (.aload_n 0, 1) := dw_at cX13_two_k0 (p := 13) rfl (by decide +kernel)
theorem dmX13_two_14 : decode cX13_two 14 = .ok (.iconst 1, 1) := dw_at cX13_two_k0 (p := 14) rfl (by decide +kernel)
theorem dmX13_two_15 : decode cX13_two 15 = .ok (.invokevirtual 403, 3) := dw_at cX13_two_k0 (p := 15) rfl (by decide +kernel)
theorem dmX13_two_18 : decode cX13_two 18 = .ok (.ireturn, 1) := dw_at cX13_two_k0 (p := 18) rfl (by decide +kernel)
theorem dmX13_two_19 : decode cX13_two 19 = .ok (.aload_n 0, 1) := dw_at cX13_two_k0 (p := 19) rfl (by decide +kernel)
theorem dmX13_two_20 : decode cX13_two 20 = .ok (.getfield 323, 3) := dw_at cX13_two_k0 (p := 20) rfl (by decide +kernel)
theorem dmX13_two_23 : decode cX13_two 23 = .ok (.iload_n 1, 1) := dw_at cX13_two_k0 (p := 23) rfl (by decide +kernel)
theorem dmX13_two_24 : decode cX13_two 24 = .ok (.iaload, 1) := dw_at cX13_two_k1 (p := 0) rfl (by decide +kernel)
theorem dmX13_two_25 : decode cX13_two 25 = .ok (.bipush 10, 2) := dw_at cX13_two_k1 (p := 1) rfl (by decide +kernel)
theorem dmX13_two_27 : decode cX13_two 27 = .ok (.if_icmp .le 9, 3) := dw_at cX13_two_k1 (p := 3) rfl (by decide +kernel)
theorem dmX13_two_30 : decode cX13_two 30 = .ok (.aload_n 0, 1) := dw_at cX13_two_k1 (p := 6) rfl (by decide +kernel)
theorem dmX13_two_31 : decode cX13_two 31 = .ok (.iconst 2, 1) := dw_at cX13_two_k1 (p := 7) rfl (by decide +kernel)
theorem dmX13_two_32 : decode cX13_two 32 = .ok (.invokevirtual 403, 3) := dw_at cX13_two_k1 (p := 8) rfl (by decide +kernel)
theorem dmX13_two_35 : decode cX13_two 35 = .ok (.ireturn, 1) := dw_at cX13_two_k1 (p := 11) rfl (by decide +kernel)
theorem dmX13_two_36 : decode cX13_two 36 = .ok (.aload_n 0, 1) := dw_at cX13_two_k1 (p := 12) rfl (by decide +kernel)
theorem dmX13_two_37 : decode cX13_two 37 = .ok (.iload_n 1, 1) := dw_at cX13_two_k1 (p := 13) rfl (by decide +kernel)
theorem dmX13_two_38 : decode cX13_two 38 = .ok (.invokevirtual 796, 3) := dw_at cX13_two_k1 (p := 14) rfl (by decide +kernel)
theorem dmX13_two_41 : decode cX13_two 41 = .ok (.aload_n 0, 1) := dw_at cX13_two_k1 (p := 17) rfl (by decide +kernel)
theorem dmX13_two_42 : decode cX13_two 42 = .ok (.aload_n 0, 1) := dw_at cX13_two_k1 (p := 18) rfl (by decide +kernel)
theorem dmX13_two_43 : decode cX13_two 43 = .ok (.getfield 121, 3) := dw_at cX13_two_k1 (p := 19) rfl (by decide +kernel)
theorem dmX13_two_46 : decode cX13_two 46 = .ok (.aload_n 0, 1) := dw_at cX13_two_k1 (p := 22) rfl (by decide +kernel)
theorem dmX13_two_47 : decode cX13_two 47 = .ok (.getfield 149, 3) := dw_at cX13_two_k1 (p := 23) rfl (by decide +kernel)
theorem dmX13_two_50 : decode cX13_two 50 = .ok (.iconst 0, 1) := dw_at cX13_two_k2 (p := 0) rfl (by decide +kernel)
theorem dmX13_two_51 : decode cX13_two 51 = .ok (.invokevirtual 396, 3) := dw_at cX13_two_k2 (p := 1) rfl (by decide +kernel)
theorem dmX13_two_54 : decode cX13_two 54 = .ok (.aload_n 0, 1) := dw_at cX13_two_k2 (p := 4) rfl (by decide +kernel)
theorem dmX13_two_55 : decode cX13_two 55 = .ok (.getfield 149, 3) := dw_at cX13_two_k2 (p := 5) rfl (by decide +kernel)
theorem dmX13_two_58 : decode cX13_two 58 = .ok (.iconst 0, 1) := dw_at cX13_two_k2 (p := 8) rfl (by decide +kernel)
theorem dmX13_two_59 : decode cX13_two 59 = .ok (.aload_n 0, 1) := dw_at cX13_two_k2 (p := 9) rfl (by decide +kernel)
theorem dmX13_two_60 : decode cX13_two 60 = .ok (.getfield 196, 3) := dw_at cX13_two_k2 (p := 10) rfl (by decide +kernel)
theorem dmX13_two_63 : decode cX13_two 63 = .ok (.iconst 0, 1) := dw_at cX13_two_k2 (p := 13) rfl (by decide +kernel)
theorem dmX13_two_64 : decode cX13_two 64 = .ok (.invokestatic 445, 3) := dw_at cX13_two_k2 (p := 14) rfl (by decide +kernel)
theorem dmX13_two_67 : decode cX13_two 67 = .ok (.ifCond .ne 87, 3) := dw_at cX13_two_k2 (p := 17) rfl (by decide +kernel)
theorem dmX13_two_70 : decode cX13_two 70 = .ok (.iconst 0, 1) := dw_at cX13_two_k2 (p := 20) rfl (by decide +kernel)
theorem dmX13_two_71 : decode cX13_two 71 = .ok (.istore 4, 2) := dw_at cX13_two_k2 (p := 21) rfl (by decide +kernel)
theorem dmX13_two_73 : decode cX13_two 73 = .ok (.iload 4, 2) := dw_at cX13_two_k2 (p := 23) rfl (by decide +kernel)
theorem dmX13_two_75 : decode cX13_two 75 = .ok (.aload_n 0, 1) := dw_at cX13_two_k3 (p := 0) rfl (by decide +kernel)
theorem dmX13_two_76 : decode cX13_two 76 = .ok (.getfield 193, 3) := dw_at cX13_two_k3 (p := 1) rfl (by decide +kernel)
theorem dmX13_two_79 : decode cX13_two 79 = .ok (.arraylength, 1) := dw_at cX13_two_k3 (p := 4) rfl (by decide +kernel)
theorem dmX13_two_80 : decode cX13_two 80 = .ok (.if_icmp .ge 17, 3) := dw_at cX13_two_k3 (p := 5) rfl (by decide +kernel)
theorem dmX13_two_83 : decode cX13_two 83 = .ok (.aload_n 0, 1) := dw_at cX13_two_k3 (p := 8) rfl (by decide +kernel)
theorem dmX13_two_84 : decode cX13_two 84 = .ok (.getfield 193, 3) := dw_at cX13_two_k3 (p := 9) rfl (by decide +kernel)
theorem dmX13_two_87 : decode cX13_two 87 = .ok (.iload 4, 2) := dw_at cX13_two_k3 (p := 12) rfl (by decide +kernel)
theorem dmX13_two_89 : decode cX13_two 89 = .ok (.lconst 0, 1) := dw_at cX13_two_k3 (p := 14) rfl (by decide +kernel)
theorem dmX13_two_90 : decode cX13_two 90 = .ok (.lastore, 1) := dw_at cX13_two_k3 (p := 15) rfl (by decide +kernel)
theorem dmX13_two_91 : decode cX13_two 91 = .ok (.iinc 4 1, 3) := dw_at cX13_two_k3 (p := 16) rfl (by decide +kernel)
theorem dmX13_two_94 : decode cX13_two 94 = .ok (.goto (-21), 3) := dw_at cX13_two_k3 (p := 19) rfl (by decide +kernel)
theorem dmX13_two_97 : decode cX13_two 97 = .ok (.aload_n 0, 1) := dw_at cX13_two_k3 (p := 22) rfl (by decide +kernel)
theorem dmX13_two_98 : decode cX13_two 98 = .ok (.getfield 149, 3) := dw_at cX13_two_k3 (p := 23) rfl (by decide +kernel)
theorem dmX13_two_101 : decode cX13_two 101 = .ok (.iconst 0, 1) := dw_at cX13_two_k4 (p := 0) rfl (by decide +kernel)
theorem dmX13_two_102 : decode cX13_two 102 = .ok (.aload_n 0, 1) := dw_at cX13_two_k4 (p := 1) rfl (by decide +kernel)
theorem dmX13_two_103 : decode cX13_two 103 = .ok (.getfield 179, 3) := dw_at cX13_two_k4 (p := 2) rfl (by decide +kernel)
theorem dmX13_two_106 : decode cX13_two 106 = .ok (.iconst 0, 1) := dw_at cX13_two_k4 (p := 5) rfl (by decide +kernel)
theorem dmX13_two_107 : decode cX13_two 107 = .ok (.aaload, 1) := dw_at cX13_two_k4 (p := 6) rfl (by decide +kernel)
theorem dmX13_two_108 : decode cX13_two 108 = .ok (.invokestatic 430, 3) := dw_at cX13_two_k4 (p := 7) rfl (by decide +kernel)
theorem dmX13_two_111 : decode cX13_two 111 = .ok (.aload_n 0, 1) := dw_at cX13_two_k4 (p := 10) rfl (by decide +kernel)
theorem dmX13_two_112 : decode cX13_two 112 = .ok (.iconst 1, 1) := dw_at cX13_two_k4 (p := 11) rfl (by decide +kernel)
theorem dmX13_two_113 : decode cX13_two 113 = .ok (.putfield 572, 3) := dw_at cX13_two_k4 (p := 12) rfl (by decide +kernel)
theorem dmX13_two_116 : decode cX13_two 116 = .ok (.aload_n 0, 1) := dw_at cX13_two_k4 (p := 15) rfl (by decide +kernel)
theorem dmX13_two_117 : decode cX13_two 117 = .ok (.iconst 0, 1) := dw_at cX13_two_k4 (p := 16) rfl (by decide +kernel)
theorem dmX13_two_118 : decode cX13_two 118 = .ok (.lconst 1, 1) := dw_at cX13_two_k4 (p := 17) rfl (by decide +kernel)
theorem dmX13_two_119 : decode cX13_two 119 = .ok (.iconst 0, 1) := dw_at cX13_two_k4 (p := 18) rfl (by decide +kernel)
theorem dmX13_two_120 : decode cX13_two 120 = .ok (.iconst 0, 1) := dw_at cX13_two_k4 (p := 19) rfl (by decide +kernel)
theorem dmX13_two_121 : decode cX13_two 121 = .ok (.invokevirtual 575, 3) := dw_at cX13_two_k4 (p := 20) rfl (by decide +kernel)
theorem dmX13_two_124 : decode cX13_two 124 = .ok (.iconst 0, 1) := dw_at cX13_two_k4 (p := 23) rfl (by decide +kernel)
theorem dmX13_two_125 : decode cX13_two 125 = .ok (.istore 4, 2) := dw_at cX13_two_k5 (p := 0) rfl (by decide +kernel)
theorem dmX13_two_127 : decode cX13_two 127 = .ok (.iload 4, 2) := dw_at cX13_two_k5 (p := 2) rfl (by decide +kernel)
theorem dmX13_two_129 : decode cX13_two 129 = .ok (.bipush 32, 2) := dw_at cX13_two_k5 (p := 4) rfl (by decide +kernel)
theorem dmX13_two_131 : decode cX13_two 131 = .ok (.if_icmp .ge 23, 3) := dw_at cX13_two_k5 (p := 6) rfl (by decide +kernel)
theorem dmX13_two_134 : decode cX13_two 134 = .ok (.aload_n 0, 1) := dw_at cX13_two_k5 (p := 9) rfl (by decide +kernel)
theorem dmX13_two_135 : decode cX13_two 135 = .ok (.getfield 196, 3) := dw_at cX13_two_k5 (p := 10) rfl (by decide +kernel)
theorem dmX13_two_138 : decode cX13_two 138 = .ok (.iload 4, 2) := dw_at cX13_two_k5 (p := 13) rfl (by decide +kernel)
theorem dmX13_two_140 : decode cX13_two 140 = .ok (.aload_n 0, 1) := dw_at cX13_two_k5 (p := 15) rfl (by decide +kernel)
theorem dmX13_two_141 : decode cX13_two 141 = .ok (.getfield 149, 3) := dw_at cX13_two_k5 (p := 16) rfl (by decide +kernel)
theorem dmX13_two_144 : decode cX13_two 144 = .ok (.iload 4, 2) := dw_at cX13_two_k5 (p := 19) rfl (by decide +kernel)
theorem dmX13_two_146 : decode cX13_two 146 = .ok (.iaload, 1) := dw_at cX13_two_k5 (p := 21) rfl (by decide +kernel)
theorem dmX13_two_147 : decode cX13_two 147 = .ok (.iastore, 1) := dw_at cX13_two_k5 (p := 22) rfl (by decide +kernel)
theorem dmX13_two_148 : decode cX13_two 148 = .ok (.iinc 4 1, 3) := dw_at cX13_two_k5 (p := 23) rfl (by decide +kernel)
theorem dmX13_two_151 : decode cX13_two 151 = .ok (.goto (-24), 3) := dw_at cX13_two_k6 (p := 0) rfl (by decide +kernel)
theorem dmX13_two_154 : decode cX13_two 154 = .ok (.iload_n 2, 1) := dw_at cX13_two_k6 (p := 3) rfl (by decide +kernel)
theorem dmX13_two_155 : decode cX13_two 155 = .ok (.bipush (-64), 2) := dw_at cX13_two_k6 (p := 4) rfl (by decide +kernel)
theorem dmX13_two_157 : decode cX13_two 157 = .ok (.if_icmp .lt 21, 3) := dw_at cX13_two_k6 (p := 6) rfl (by decide +kernel)
theorem dmX13_two_160 : decode cX13_two 160 = .ok (.iload_n 2, 1) := dw_at cX13_two_k6 (p := 9) rfl (by decide +kernel)
theorem dmX13_two_161 : decode cX13_two 161 = .ok (.bipush 64, 2) := dw_at cX13_two_k6 (p := 10) rfl (by decide +kernel)
theorem dmX13_two_163 : decode cX13_two 163 = .ok (.if_icmp .gt 15, 3) := dw_at cX13_two_k6 (p := 12) rfl (by decide +kernel)
theorem dmX13_two_166 : decode cX13_two 166 = .ok (.iload_n 3, 1) := dw_at cX13_two_k6 (p := 15) rfl (by decide +kernel)
theorem dmX13_two_167 : decode cX13_two 167 = .ok (.bipush (-20), 2) := dw_at cX13_two_k6 (p := 16) rfl (by decide +kernel)
theorem dmX13_two_169 : decode cX13_two 169 = .ok (.if_icmp .lt 9, 3) := dw_at cX13_two_k6 (p := 18) rfl (by decide +kernel)
theorem dmX13_two_172 : decode cX13_two 172 = .ok (.iload_n 3, 1) := dw_at cX13_two_k6 (p := 21) rfl (by decide +kernel)
theorem dmX13_two_173 : decode cX13_two 173 = .ok (.bipush 20, 2) := dw_at cX13_two_k6 (p := 22) rfl (by decide +kernel)
theorem dmX13_two_175 : decode cX13_two 175 = .ok (.if_icmp .le 7, 3) := dw_at cX13_two_k7 (p := 0) rfl (by decide +kernel)
theorem dmX13_two_178 : decode cX13_two 178 = .ok (.iconst 0, 1) := dw_at cX13_two_k7 (p := 3) rfl (by decide +kernel)
theorem dmX13_two_179 : decode cX13_two 179 = .ok (.goto 22, 3) := dw_at cX13_two_k7 (p := 4) rfl (by decide +kernel)
theorem dmX13_two_182 : decode cX13_two 182 = .ok (.aload_n 0, 1) := dw_at cX13_two_k7 (p := 7) rfl (by decide +kernel)
theorem dmX13_two_183 : decode cX13_two 183 = .ok (.getfield 193, 3) := dw_at cX13_two_k7 (p := 8) rfl (by decide +kernel)
theorem dmX13_two_186 : decode cX13_two 186 = .ok (.sipush 129, 3) := dw_at cX13_two_k7 (p := 11) rfl (by decide +kernel)
theorem dmX13_two_189 : decode cX13_two 189 = .ok (.iload_n 3, 1) := dw_at cX13_two_k7 (p := 14) rfl (by decide +kernel)
theorem dmX13_two_190 : decode cX13_two 190 = .ok (.bipush 20, 2) := dw_at cX13_two_k7 (p := 15) rfl (by decide +kernel)
theorem dmX13_two_192 : decode cX13_two 192 = .ok (.iadd, 1) := dw_at cX13_two_k7 (p := 17) rfl (by decide +kernel)
theorem dmX13_two_193 : decode cX13_two 193 = .ok (.imul, 1) := dw_at cX13_two_k7 (p := 18) rfl (by decide +kernel)
theorem dmX13_two_194 : decode cX13_two 194 = .ok (.iload_n 2, 1) := dw_at cX13_two_k7 (p := 19) rfl (by decide +kernel)
theorem dmX13_two_195 : decode cX13_two 195 = .ok (.iadd, 1) := dw_at cX13_two_k7 (p := 20) rfl (by decide +kernel)
theorem dmX13_two_196 : decode cX13_two 196 = .ok (.bipush 64, 2) := dw_at cX13_two_k7 (p := 21) rfl (by decide +kernel)
theorem dmX13_two_198 : decode cX13_two 198 = .ok (.iadd, 1) := dw_at cX13_two_k7 (p := 23) rfl (by decide +kernel)
theorem dmX13_two_199 : decode cX13_two 199 = .ok (.laload, 1) := dw_at cX13_two_k7 (p := 24) rfl (by decide +kernel)
theorem dmX13_two_200 : decode cX13_two 200 = .ok (.l2i, 1) := dw_at cX13_two_k7 (p := 25) rfl (by decide +kernel)
theorem dmX13_two_201 : decode cX13_two 201 = .ok (.ireturn, 1) := dw_at cX13_two_k7 (p := 26) rfl (by decide +kernel)
def qm_X13_two_0 (K : Nat) (go : Nat → Int32 → Int32 → Int32 → Int32 → ow_MS → Option (Int32 × ow_MS)) (x1 : Int32) (x2 : Int32) (x3 : Int32) (x4 : Int32) (z : ow_MS) : Option (Int32 × ow_MS) :=
 wrF z 1 0 fun z1 => cs1 (qe_X13_hasBraid K x1 z1) fun v3 z2 => (if v3 = 0 then cs1 (qe_X13_fails K 1 z2) fun v12 z11 => some (v12, z11)
 else rdI mX z2 95 x1 fun v4 => (if v4 ≤ 10 then cs0 (qe_X13_close K x1 z2) fun z5 => cs0 (qe_X13_pack K 3000 27 0 z5) fun z6 => cs1 (qe_X13_isSame K 27 0 45 0 z6) fun v8 z7 => (if v8 = 0 then go 1 x1 x2 x3 0 z7
 else go 3 x1 x2 x3 0 z7)
 else cs1 (qe_X13_fails K 2 z2) fun v10 z9 => some (v10, z9)))
def qm_X13_two_1 (K : Nat) (go : Nat → Int32 → Int32 → Int32 → Int32 → ow_MS → Option (Int32 × ow_MS)) (x1 : Int32) (x2 : Int32) (x3 : Int32) (x4 : Int32) (z : ow_MS) : Option (Int32 × ow_MS) :=
 (if (Int32.ofNat (mX.2 44).2.1) ≤ x4 then rdN 0 fun n13 => cs0 (qe_X13_unpack K 27 0 n13 z) fun z14 => okZ 1 (wrF z14 46 1 fun z15 => cs0 (qe_X13_skein K 0 1 0 0 z15) fun z16 => go 2 x1 x2 x3 0 z16)
 else wrJ mX z 44 x4 0 fun z17 => go 1 x1 x2 x3 (x4 + 1) z17)
def qm_X13_two_2 (K : Nat) (go : Nat → Int32 → Int32 → Int32 → Int32 → ow_MS → Option (Int32 × ow_MS)) (x1 : Int32) (x2 : Int32) (x3 : Int32) (x4 : Int32) (z : ow_MS) : Option (Int32 × ow_MS) :=
 (if 32 ≤ x4 then go 3 x1 x2 x3 0 z
 else rdI mX z 27 x4 fun v18 => wrI mX z 45 x4 v18 fun z19 => go 2 x1 x2 x3 (x4 + 1) z19)
def qm_X13_two_3 (K : Nat) (go : Nat → Int32 → Int32 → Int32 → Int32 → ow_MS → Option (Int32 × ow_MS)) (x1 : Int32) (x2 : Int32) (x3 : Int32) (x4 : Int32) (z : ow_MS) : Option (Int32 × ow_MS) :=
 (if x2 < (-64) then go 4 x1 x2 x3 0 z
 else (if 64 < x2 then go 4 x1 x2 x3 0 z
 else (if x3 < (-20) then go 4 x1 x2 x3 0 z
 else (if x3 ≤ 20 then rdJ mX z 44 (((129 * (x3 + 20)) + x2) + 64) fun v20 => some (v20.toInt32, z)
 else go 4 x1 x2 x3 0 z))))
def qm_X13_two_4 (K : Nat) (go : Nat → Int32 → Int32 → Int32 → Int32 → ow_MS → Option (Int32 × ow_MS)) (x1 : Int32) (x2 : Int32) (x3 : Int32) (x4 : Int32) (z : ow_MS) : Option (Int32 × ow_MS) :=
 some (0, z)
def qb_X13_two (K : Nat) (go : Nat → Int32 → Int32 → Int32 → Int32 → ow_MS → Option (Int32 × ow_MS)) (L : Nat) (x1 : Int32) (x2 : Int32) (x3 : Int32) (x4 : Int32) (z : ow_MS) : Option (Int32 × ow_MS) := match L with
  | 0 => qm_X13_two_0 K go x1 x2 x3 x4 z
  | 1 => qm_X13_two_1 K go x1 x2 x3 x4 z
  | 2 => qm_X13_two_2 K go x1 x2 x3 x4 z
  | 3 => qm_X13_two_3 K go x1 x2 x3 x4 z
  | 4 => qm_X13_two_4 K go x1 x2 x3 x4 z
  | _ => none
def q_X13_two (K : Nat) : Nat → Nat → Int32 → Int32 → Int32 → Int32 → ow_MS → Option (Int32 × ow_MS)
  | 0 => fun _ _ _ _ _ _ => none
  | k + 1 => qb_X13_two K (q_X13_two K k)
def qe_X13_two (K : Nat) (x1 : Int32) (x2 : Int32) (x3 : Int32) (z : ow_MS) : Option (Int32 × ow_MS) := q_X13_two K K 0 x1 x2 x3 0 z
abbrev wm_X13_two : List Cond := .code yX13_two cX13_two 5 (some .int) :: wM
theorem cd_X13_two : yX13_two.cls = RX13 ∧ yX13_two.cls ≠ "java/lang/invoke/MethodHandle" ∧ yX13_two.cls ≠ "java/lang/invoke/VarHandle" ∧ (parseMethodDescriptor yX13_two.desc).map (fun d => d.parameters.length) = some 3 := by decide +kernel
set_option maxHeartbeats 4000000 in
set_option maxRecDepth 100000 in
theorem km_X13_two (l : Launch) (D : va_G) (q : ow_Q5) (u : Nat → Nat) (hU : tw_inj mX u) (K : Nat) (x1 : Int32) (x2 : Int32) (x3 : Int32)  (z z1 : ow_MS) (r : Int32) (hq : qe_X13_two K x1 x2 x3 z = some (r, z1)) : Met l yX13_two wm_X13_two ({ frames := 19, cells := 0, slots := 0, locals := 594 } : Room) (va_Pc [.ref (u 0), .int x1, .int x2, .int x3] (mw_pre D q u z)) (va_Qi (fun x (_ : Unit) => x = r) (fun _ t => va_P D vwCl (tw mX q u z1) t.heap) (tw_A mX u)) 0 0 (tw_A mX u) := by
  refine Met.ofW (cc := cX13_two) (maxL := 5) (ret := (some .int)) (by decide) rfl ?_
  intro p e s m args below meth c s₁ B hml hv
  obtain ⟨rfl, hP, hK, hN⟩ := hv
  have hx := B.exec
  have hb := B.bytes
  have hr := B.returns
  have hts := atoms_spec (ws := wm_X13_two) B.pre
  have hT : ∀ w ∈ wM, w.before ([.ref (u 0), .int x1, .int x2, .int x3] : List Value).toArray s = true := fun w h => hts w (List.mem_cons_of_mem _ h)
  have hown : s.vm.findClass RX13 = some m.cls := findClass_of_methodNamed B.named
  have hlocks := B.notSynchronized
  have hM : tw_M D vwCl mX q s.heap u z s.heap [] := ⟨hP, va_S.rf⟩
  have hl := lv_entry ([.ref (u 0), .int x1, .int x2, .int x3]) (n := 5) (Nat.le_of_ble_eq_true rfl)
  rw [lg_entry_eq]
  generalize (lg_sl ([.ref (u 0), .int x1, .int x2, .int x3]) ++ List.replicate (5 - (lg_sl ([.ref (u 0), .int x1, .int x2, .int x3])).length) Slot.unset).toArray = ls at hl ⊢
  have hl : lv_has ls 5 [(0, .ref (u 0)), (1, .int x1), (2, .int x2), (3, .int x3)] := hl
  refine ow_named (fun QQ hQQ => ?_)
  generalize ([.ref (u 0), .int x1, .int x2, .int x3] : List Value).toArray = args at hts hT hQQ ⊢
  have key : ∀ k : Nat, (∀ (x1 : Int32) (x2 : Int32) (x3 : Int32) (x4 : Int32) (z : ow_MS) (H : Heap) (locs : List Loc) (ls : Array Slot), tw_M D vwCl mX q s.heap u z H locs → lv_has ls 5 [(0, .ref (u 0)), (1, .int x1), (2, .int x2), (3, .int x3)] → q_X13_two K k 0 x1 x2 x3 x4 z = some (r, z1) → W p l e ({ frames := 19, cells := 0, slots := 0, locals := 594 } : Room) s m args below meth c H locs 0 0 QQ (F0 m 0 ls [])) ∧ (∀ (x1 : Int32) (x2 : Int32) (x3 : Int32) (x4 : Int32) (z : ow_MS) (H : Heap) (locs : List Loc) (ls : Array Slot), tw_M D vwCl mX q s.heap u z H locs → lv_has ls 5 [(0, .ref (u 0)), (1, .int x1), (2, .int x2), (3, .int x3), (4, .int x4)] → q_X13_two K k 1 x1 x2 x3 x4 z = some (r, z1) → W p l e ({ frames := 19, cells := 0, slots := 0, locals := 594 } : Room) s m args below meth c H locs 0 0 QQ (F0 m 73 ls [])) ∧ (∀ (x1 : Int32) (x2 : Int32) (x3 : Int32) (x4 : Int32) (z : ow_MS) (H : Heap) (locs : List Loc) (ls : Array Slot), tw_M D vwCl mX q s.heap u z H locs → lv_has ls 5 [(0, .ref (u 0)), (1, .int x1), (2, .int x2), (3, .int x3), (4, .int x4)] → q_X13_two K k 2 x1 x2 x3 x4 z = some (r, z1) → W p l e ({ frames := 19, cells := 0, slots := 0, locals := 594 } : Room) s m args below meth c H locs 0 0 QQ (F0 m 127 ls [])) ∧ (∀ (x1 : Int32) (x2 : Int32) (x3 : Int32) (x4 : Int32) (z : ow_MS) (H : Heap) (locs : List Loc) (ls : Array Slot), tw_M D vwCl mX q s.heap u z H locs → lv_has ls 5 [(0, .ref (u 0)), (1, .int x1), (2, .int x2), (3, .int x3)] → q_X13_two K k 3 x1 x2 x3 x4 z = some (r, z1) → W p l e ({ frames := 19, cells := 0, slots := 0, locals := 594 } : Room) s m args below meth c H locs 0 0 QQ (F0 m 154 ls [])) ∧ (∀ (x1 : Int32) (x2 : Int32) (x3 : Int32) (x4 : Int32) (z : ow_MS) (H : Heap) (locs : List Loc) (ls : Array Slot), tw_M D vwCl mX q s.heap u z H locs → lv_has ls 5 [(0, .ref (u 0)), (1, .int x1), (2, .int x2), (3, .int x3)] → q_X13_two K k 4 x1 x2 x3 x4 z = some (r, z1) → W p l e ({ frames := 19, cells := 0, slots := 0, locals := 594 } : Room) s m args below meth c H locs 0 0 QQ (F0 m 178 ls [])) := by
    intro k
    induction k with
    | zero => exact ⟨fun _ _ _ _ _ _ _ _  _ _ hq => tw_no hq, fun _ _ _ _ _ _ _ _  _ _ hq => tw_no hq, fun _ _ _ _ _ _ _ _  _ _ hq => tw_no hq, fun _ _ _ _ _ _ _ _  _ _ hq => tw_no hq, fun _ _ _ _ _ _ _ _  _ _ hq => tw_no hq⟩
    | succ k ih =>
      obtain ⟨ih_0, ih_1, ih_2, ih_3, ih_4⟩ := ih
      refine ⟨?_, ?_, ?_, ?_, ?_⟩
      · intro x1 x2 x3 x4 z H locs ls  hM hl hq
        have hq : qm_X13_two_0 K (q_X13_two K k) x1 x2 x3 x4 z = some (r, z1) := hq
        unfold qm_X13_two_0 at hq
        refine lv_aload_n hx hb dmX13_two_0 rfl (lv_at hl 0 rfl) ?_
        refine lv_iconst (v := 0) hx hb dmX13_two_1 (by decide) ?_
        refine mp13_1 hx hb hT hown hK hM hU hq dmX13_two_2 (fun z1 H locs hM hq => ?_)
        refine lv_aload_n hx hb dmX13_two_5 rfl (lv_at hl 0 rfl) ?_
        refine lv_iload_n hx hb dmX13_two_6 rfl (lv_at hl 1 rfl) ?_
        obtain ⟨v3, z2, hcq, hq⟩ := tw_cl1 hq
        refine tw_cali hM (va_runV (As := [.int x1]) (rest := []) ⟨hx, hb, hml, hown, hts⟩ (km_X13_hasBraid l D q u hU K x1 z1 z2 v3 hcq) (cwV 1 hts (tw_gV wM_good wq_490 wq_491 wq_492 wq_61 wq_482) rfl rfl rfl cd_X13_hasBraid ⟨(Nat.le_of_ble_eq_true rfl), (Nat.le_of_ble_eq_true rfl)⟩) (mw_preV hK hN hM mo_0 rfl) rfl rfl hl.1 rfl (lv_room (Nat.le_of_ble_eq_true rfl)) dmX13_two_7 ⟨(Nat.le_of_ble_eq_true rfl), (Nat.le_of_ble_eq_true rfl)⟩) (fun H locs hM => ?_)
        refine lv_if_ne (tgt := 19) hx hb dmX13_two_10 (by decide) (fun hc => ?_) (fun hc => ?_)
        · have hq := tw_if hq hc
          refine lv_aload_n hx hb dmX13_two_19 rfl (lv_at hl 0 rfl) ?_
          refine mg13_323 hx hb hT hown hK hM dmX13_two_20 ?_
          refine lv_iload_n hx hb dmX13_two_23 rfl (lv_at hl 1 rfl) ?_
          refine tw_iald mX_ok hx hb hK hM mr_95 hq dmX13_two_24 (fun v4 hq => ?_)
          refine lv_bipush (v := 10) hx hb dmX13_two_25 (by decide) ?_
          refine lv_icmp_le (tgt := 36) hx hb dmX13_two_27 (by decide) (fun hc => ?_) (fun hc => ?_)
          · have hq := tw_it hq hc
            refine lv_aload_n hx hb dmX13_two_36 rfl (lv_at hl 0 rfl) ?_
            refine lv_iload_n hx hb dmX13_two_37 rfl (lv_at hl 1 rfl) ?_
            obtain ⟨z5, hcq, hq⟩ := tw_cl0 hq
            refine tw_calv hM (va_runV (As := [.int x1]) (rest := []) ⟨hx, hb, hml, hown, hts⟩ (km_X13_close l D q u hU K x1 z2 z5 hcq) (cwV 1 hts (tw_gV wM_good wq_571 wq_572 wq_573 wq_61 wq_570) rfl rfl rfl cd_X13_close ⟨(Nat.le_of_ble_eq_true rfl), (Nat.le_of_ble_eq_true rfl)⟩) (mw_preV hK hN hM mo_0 rfl) rfl rfl hl.1 rfl (lv_room (Nat.le_of_ble_eq_true rfl)) dmX13_two_38 ⟨(Nat.le_of_ble_eq_true rfl), (Nat.le_of_ble_eq_true rfl)⟩) (fun H locs hM => ?_)
            refine lv_aload_n hx hb dmX13_two_41 rfl (lv_at hl 0 rfl) ?_
            refine lv_aload_n hx hb dmX13_two_42 rfl (lv_at hl 0 rfl) ?_
            refine mg13_121 hx hb hT hown hK hM dmX13_two_43 ?_
            refine lv_aload_n hx hb dmX13_two_46 rfl (lv_at hl 0 rfl) ?_
            refine mg13_149 hx hb hT hown hK hM dmX13_two_47 ?_
            refine lv_iconst (v := 0) hx hb dmX13_two_50 (by decide) ?_
            obtain ⟨z6, hcq, hq⟩ := tw_cl0 hq
            refine tw_calv hM (va_runV (As := [.ref (u 3000), .ref (u 27), .int 0]) (rest := []) ⟨hx, hb, hml, hown, hts⟩ (km_X13_pack l D q u hU K 3000 27 0 mw_n3 mr_27 z5 z6 hcq) (cwV 3 hts (tw_gV wM_good wq_96 wq_97 wq_98 wq_61 wq_84) rfl rfl rfl cd_X13_pack ⟨(Nat.le_of_ble_eq_true rfl), (Nat.le_of_ble_eq_true rfl)⟩) (mw_preV hK hN hM mo_0 rfl) rfl rfl hl.1 rfl (lv_room (Nat.le_of_ble_eq_true rfl)) dmX13_two_51 ⟨(Nat.le_of_ble_eq_true rfl), (Nat.le_of_ble_eq_true rfl)⟩) (fun H locs hM => ?_)
            refine lv_aload_n hx hb dmX13_two_54 rfl (lv_at hl 0 rfl) ?_
            refine mg13_149 hx hb hT hown hK hM dmX13_two_55 ?_
            refine lv_iconst (v := 0) hx hb dmX13_two_58 (by decide) ?_
            refine lv_aload_n hx hb dmX13_two_59 rfl (lv_at hl 0 rfl) ?_
            refine mg13_196 hx hb hT hown hK hM dmX13_two_60 ?_
            refine lv_iconst (v := 0) hx hb dmX13_two_63 (by decide) ?_
            obtain ⟨v8, z7, hcq, hq⟩ := tw_cl1 hq
            refine tw_cali hM (va_runS (As := [.ref (u 27), .int 0, .ref (u 45), .int 0]) (rest := []) ⟨hx, hb, hml, hown, hts⟩ (km_X13_isSame l D q u hU K 27 0 45 0 mr_27 mr_45 z6 z7 v8 hcq) (va_cwS 4 hts (tw_gS wM_good wq_149 wq_150 wq_61 wq_74) rfl rfl rfl cd_X13_isSame ⟨(Nat.le_of_ble_eq_true rfl), (Nat.le_of_ble_eq_true rfl)⟩) (mw_preS hK hN hM) rfl rfl hl.1 rfl (lv_room (Nat.le_of_ble_eq_true rfl)) dmX13_two_64 ⟨(Nat.le_of_ble_eq_true rfl), (Nat.le_of_ble_eq_true rfl)⟩) (fun H locs hM => ?_)
            refine lv_if_ne (tgt := 154) hx hb dmX13_two_67 (by decide) (fun hc => ?_) (fun hc => ?_)
            · have hq := tw_if hq hc
              exact ih_3 x1 x2 x3 0 z7 H locs ls hM (lv_sub hl [0, 1, 2, 3] rfl) hq
            · have hq := tw_it hq hc
              refine lv_iconst (v := 0) hx hb dmX13_two_70 (by decide) ?_
              refine lv_istore (lv' := [(4, .int 0), (0, .ref (u 0)), (1, .int x1), (2, .int x2), (3, .int x3)]) hx hb dmX13_two_71 hl (by decide) rfl (fun ls hl => ?_)
              exact ih_1 x1 x2 x3 0 z7 H locs ls hM (lv_sub hl [1, 2, 3, 4, 0] rfl) hq
          · have hq := tw_if hq hc
            refine lv_aload_n hx hb dmX13_two_30 rfl (lv_at hl 0 rfl) ?_
            refine lv_iconst (v := 2) hx hb dmX13_two_31 (by decide) ?_
            obtain ⟨v10, z9, hcq, hq⟩ := tw_cl1 hq
            refine tw_cali hM (va_runV (As := [.int 2]) (rest := []) ⟨hx, hb, hml, hown, hts⟩ (km_X13_fails l D q u hU K 2 z2 z9 v10 hcq) (cwV 1 hts (tw_gV wM_good wq_103 wq_104 wq_105 wq_61 wq_50) rfl rfl rfl cd_X13_fails ⟨(Nat.le_of_ble_eq_true rfl), (Nat.le_of_ble_eq_true rfl)⟩) (mw_preV hK hN hM mo_0 rfl) rfl rfl hl.1 rfl (lv_room (Nat.le_of_ble_eq_true rfl)) dmX13_two_32 ⟨(Nat.le_of_ble_eq_true rfl), (Nat.le_of_ble_eq_true rfl)⟩) (fun H locs hM => ?_)
            exact mw_iret hx hb hr hlocks hM hq hQQ dmX13_two_35
        · have hq := tw_it hq hc
          refine lv_aload_n hx hb dmX13_two_13 rfl (lv_at hl 0 rfl) ?_
          refine lv_iconst (v := 1) hx hb dmX13_two_14 (by decide) ?_
          obtain ⟨v12, z11, hcq, hq⟩ := tw_cl1 hq
          refine tw_cali hM (va_runV (As := [.int 1]) (rest := []) ⟨hx, hb, hml, hown, hts⟩ (km_X13_fails l D q u hU K 1 z2 z11 v12 hcq) (cwV 1 hts (tw_gV wM_good wq_103 wq_104 wq_105 wq_61 wq_50) rfl rfl rfl cd_X13_fails ⟨(Nat.le_of_ble_eq_true rfl), (Nat.le_of_ble_eq_true rfl)⟩) (mw_preV hK hN hM mo_0 rfl) rfl rfl hl.1 rfl (lv_room (Nat.le_of_ble_eq_true rfl)) dmX13_two_15 ⟨(Nat.le_of_ble_eq_true rfl), (Nat.le_of_ble_eq_true rfl)⟩) (fun H locs hM => ?_)
          exact mw_iret hx hb hr hlocks hM hq hQQ dmX13_two_18
      · intro x1 x2 x3 x4 z H locs ls  hM hl hq
        have hq : qm_X13_two_1 K (q_X13_two K k) x1 x2 x3 x4 z = some (r, z1) := hq
        unfold qm_X13_two_1 at hq
        refine lv_iload hx hb dmX13_two_73 (lv_at hl 4 rfl) ?_
        refine lv_aload_n hx hb dmX13_two_75 rfl (lv_at hl 0 rfl) ?_
        refine mg13_193 hx hb hT hown hK hM dmX13_two_76 ?_
        refine tw_alen2 mX_ok hx hb hK hM mr_44 dmX13_two_79 ?_
        refine lv_icmp_ge (tgt := 97) hx hb dmX13_two_80 (by decide) (fun hc => ?_) (fun hc => ?_)
        · have hq := tw_it hq hc
          refine lv_aload_n hx hb dmX13_two_97 rfl (lv_at hl 0 rfl) ?_
          refine mg13_149 hx hb hT hown hK hM dmX13_two_98 ?_
          refine lv_iconst (v := 0) hx hb dmX13_two_101 (by decide) ?_
          refine lv_aload_n hx hb dmX13_two_102 rfl (lv_at hl 0 rfl) ?_
          refine mg13_179 hx hb hT hown hK hM dmX13_two_103 ?_
          refine lv_iconst (v := 0) hx hb dmX13_two_106 (by decide) ?_
          refine mw_aald hx hb hK hM hq dmX13_two_107 (fun n13 hn13 hq => ?_)
          obtain ⟨z14, hcq, hq⟩ := tw_cl0 hq
          refine tw_calv hM (va_runS (As := [.ref (u 27), .int 0, .ref (u n13)]) (rest := []) ⟨hx, hb, hml, hown, hts⟩ (km_X13_unpack l D q u hU K 27 0 n13 mr_27 hn13 z z14 hcq) (va_cwS 3 hts (tw_gS wM_good wq_134 wq_135 wq_61 wq_88) rfl rfl rfl cd_X13_unpack ⟨(Nat.le_of_ble_eq_true rfl), (Nat.le_of_ble_eq_true rfl)⟩) (mw_preS hK hN hM) rfl rfl hl.1 rfl (lv_room (Nat.le_of_ble_eq_true rfl)) dmX13_two_108 ⟨(Nat.le_of_ble_eq_true rfl), (Nat.le_of_ble_eq_true rfl)⟩) (fun H locs hM => ?_)
          refine lv_aload_n hx hb dmX13_two_111 rfl (lv_at hl 0 rfl) ?_
          refine lv_iconst (v := 1) hx hb dmX13_two_112 (by decide) ?_
          obtain ⟨hz, hq⟩ := tw_gZ hq
          refine mp13_572 hx hb hT hown hK hM hU hz hq dmX13_two_113 (fun z15 H locs hM hq => ?_)
          refine lv_aload_n hx hb dmX13_two_116 rfl (lv_at hl 0 rfl) ?_
          refine lv_iconst (v := 0) hx hb dmX13_two_117 (by decide) ?_
          refine lv_lconst (v := 1) hx hb dmX13_two_118 rfl ?_
          refine lv_iconst (v := 0) hx hb dmX13_two_119 (by decide) ?_
          refine lv_iconst (v := 0) hx hb dmX13_two_120 (by decide) ?_
          obtain ⟨z16, hcq, hq⟩ := tw_cl0 hq
          refine tw_calv hM (va_runV (As := [.int 0, .long 1, .int 0, .int 0]) (rest := []) ⟨hx, hb, hml, hown, hts⟩ (km_X13_skein l D q u hU K 0 1 0 0 z15 z16 hcq) (cwV 4 hts (tw_gV wM_good wq_284 wq_285 wq_286 wq_61 wq_287) rfl rfl rfl cd_X13_skein ⟨(Nat.le_of_ble_eq_true rfl), (Nat.le_of_ble_eq_true rfl)⟩) (mw_preV hK hN hM mo_0 rfl) rfl rfl hl.1 rfl (lv_room (Nat.le_of_ble_eq_true rfl)) dmX13_two_121 ⟨(Nat.le_of_ble_eq_true rfl), (Nat.le_of_ble_eq_true rfl)⟩) (fun H locs hM => ?_)
          refine lv_iconst (v := 0) hx hb dmX13_two_124 (by decide) ?_
          refine lv_istore (lv' := [(4, .int 0), (0, .ref (u 0)), (1, .int x1), (2, .int x2), (3, .int x3)]) hx hb dmX13_two_125 hl (by decide) rfl (fun ls hl => ?_)
          exact ih_2 x1 x2 x3 0 z16 H locs ls hM (lv_sub hl [1, 2, 3, 4, 0] rfl) hq
        · have hq := tw_if hq hc
          refine lv_aload_n hx hb dmX13_two_83 rfl (lv_at hl 0 rfl) ?_
          refine mg13_193 hx hb hT hown hK hM dmX13_two_84 ?_
          refine lv_iload hx hb dmX13_two_87 (lv_at hl 4 rfl) ?_
          refine lv_lconst (v := 0) hx hb dmX13_two_89 rfl ?_
          refine tw_last mX_ok hU hx hb hK hM mr_44 hq dmX13_two_90 (fun z17 H locs hM hq => ?_)
          refine lv_iinc (v := (x4 + 1)) (lv' := [(4, .int (x4 + 1)), (0, .ref (u 0)), (1, .int x1), (2, .int x2), (3, .int x3)]) hx hb dmX13_two_91 hl (k := 4) rfl rfl (by decide) rfl (fun ls hl => ?_)
          refine lv_goto (tgt := 73) hx hb dmX13_two_94 (by decide) ?_
          exact ih_1 x1 x2 x3 (x4 + 1) z17 H locs ls hM (lv_sub hl [1, 2, 3, 4, 0] rfl) hq
      · intro x1 x2 x3 x4 z H locs ls  hM hl hq
        have hq : qm_X13_two_2 K (q_X13_two K k) x1 x2 x3 x4 z = some (r, z1) := hq
        unfold qm_X13_two_2 at hq
        refine lv_iload hx hb dmX13_two_127 (lv_at hl 4 rfl) ?_
        refine lv_bipush (v := 32) hx hb dmX13_two_129 (by decide) ?_
        refine lv_icmp_ge (tgt := 154) hx hb dmX13_two_131 (by decide) (fun hc => ?_) (fun hc => ?_)
        · have hq := tw_it hq hc
          exact ih_3 x1 x2 x3 0 z H locs ls hM (lv_sub hl [0, 1, 2, 3] rfl) hq
        · have hq := tw_if hq hc
          refine lv_aload_n hx hb dmX13_two_134 rfl (lv_at hl 0 rfl) ?_
          refine mg13_196 hx hb hT hown hK hM dmX13_two_135 ?_
          refine lv_iload hx hb dmX13_two_138 (lv_at hl 4 rfl) ?_
          refine lv_aload_n hx hb dmX13_two_140 rfl (lv_at hl 0 rfl) ?_
          refine mg13_149 hx hb hT hown hK hM dmX13_two_141 ?_
          refine lv_iload hx hb dmX13_two_144 (lv_at hl 4 rfl) ?_
          refine tw_iald mX_ok hx hb hK hM mr_27 hq dmX13_two_146 (fun v18 hq => ?_)
          refine tw_iast mX_ok hU hx hb hK hM mr_45 hq dmX13_two_147 (fun z19 H locs hM hq => ?_)
          refine lv_iinc (v := (x4 + 1)) (lv' := [(4, .int (x4 + 1)), (0, .ref (u 0)), (1, .int x1), (2, .int x2), (3, .int x3)]) hx hb dmX13_two_148 hl (k := 4) rfl rfl (by decide) rfl (fun ls hl => ?_)
          refine lv_goto (tgt := 127) hx hb dmX13_two_151 (by decide) ?_
          exact ih_2 x1 x2 x3 (x4 + 1) z19 H locs ls hM (lv_sub hl [1, 2, 3, 4, 0] rfl) hq
      · intro x1 x2 x3 x4 z H locs ls  hM hl hq
        have hq : qm_X13_two_3 K (q_X13_two K k) x1 x2 x3 x4 z = some (r, z1) := hq
        unfold qm_X13_two_3 at hq
        refine lv_iload_n hx hb dmX13_two_154 rfl (lv_at hl 2 rfl) ?_
        refine lv_bipush (v := (-64)) hx hb dmX13_two_155 (by decide) ?_
        refine lv_icmp_lt (tgt := 178) hx hb dmX13_two_157 (by decide) (fun hc => ?_) (fun hc => ?_)
        · have hq := tw_it hq hc
          exact ih_4 x1 x2 x3 0 z H locs ls hM (lv_sub hl [0, 1, 2, 3] rfl) hq
        · have hq := tw_if hq hc
          refine lv_iload_n hx hb dmX13_two_160 rfl (lv_at hl 2 rfl) ?_
          refine lv_bipush (v := 64) hx hb dmX13_two_161 (by decide) ?_
          refine lv_icmp_gt (tgt := 178) hx hb dmX13_two_163 (by decide) (fun hc => ?_) (fun hc => ?_)
          · have hq := tw_it hq hc
            exact ih_4 x1 x2 x3 0 z H locs ls hM (lv_sub hl [0, 1, 2, 3] rfl) hq
          · have hq := tw_if hq hc
            refine lv_iload_n hx hb dmX13_two_166 rfl (lv_at hl 3 rfl) ?_
            refine lv_bipush (v := (-20)) hx hb dmX13_two_167 (by decide) ?_
            refine lv_icmp_lt (tgt := 178) hx hb dmX13_two_169 (by decide) (fun hc => ?_) (fun hc => ?_)
            · have hq := tw_it hq hc
              exact ih_4 x1 x2 x3 0 z H locs ls hM (lv_sub hl [0, 1, 2, 3] rfl) hq
            · have hq := tw_if hq hc
              refine lv_iload_n hx hb dmX13_two_172 rfl (lv_at hl 3 rfl) ?_
              refine lv_bipush (v := 20) hx hb dmX13_two_173 (by decide) ?_
              refine lv_icmp_le (tgt := 182) hx hb dmX13_two_175 (by decide) (fun hc => ?_) (fun hc => ?_)
              · have hq := tw_it hq hc
                refine lv_aload_n hx hb dmX13_two_182 rfl (lv_at hl 0 rfl) ?_
                refine mg13_193 hx hb hT hown hK hM dmX13_two_183 ?_
                refine lv_sipush (v := 129) hx hb dmX13_two_186 (by decide) ?_
                refine lv_iload_n hx hb dmX13_two_189 rfl (lv_at hl 3 rfl) ?_
                refine lv_bipush (v := 20) hx hb dmX13_two_190 (by decide) ?_
                refine lv_iadd hx hb dmX13_two_192 ?_
                refine lv_imul hx hb dmX13_two_193 ?_
                refine lv_iload_n hx hb dmX13_two_194 rfl (lv_at hl 2 rfl) ?_
                refine lv_iadd hx hb dmX13_two_195 ?_
                refine lv_bipush (v := 64) hx hb dmX13_two_196 (by decide) ?_
                refine lv_iadd hx hb dmX13_two_198 ?_
                refine tw_lald mX_ok hx hb hK hM mr_44 hq dmX13_two_199 (fun v20 hq => ?_)
                refine lv_l2i hx hb dmX13_two_200 rfl ?_
                exact mw_iret hx hb hr hlocks hM hq hQQ dmX13_two_201
              · have hq := tw_if hq hc
                exact ih_4 x1 x2 x3 0 z H locs ls hM (lv_sub hl [0, 1, 2, 3] rfl) hq
      · intro x1 x2 x3 x4 z H locs ls  hM hl hq
        have hq : qm_X13_two_4 K (q_X13_two K k) x1 x2 x3 x4 z = some (r, z1) := hq
        unfold qm_X13_two_4 at hq
        refine lv_iconst (v := 0) hx hb dmX13_two_178 (by decide) ?_
        refine lv_goto (tgt := 201) hx hb dmX13_two_179 (by decide) ?_
        exact mw_iret hx hb hr hlocks hM hq hQQ dmX13_two_201
  exact (key K).1 x1 x2 x3 0 z s.heap [] ls  hM (lv_sub hl [0, 1, 2, 3] rfl) hq
