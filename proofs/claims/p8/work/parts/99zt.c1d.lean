set_option maxHeartbeats 4000000 in
set_option maxRecDepth 100000 in
theorem hc1_0 {p : Program} {l : Launch} {e : Env} {s : State} {m : MethodId} {args : Array Value} {below : List Frame} {meth : Method} {c : Code} {Q : State → Prop} {A : Nat → Prop} {dC : Nat → ClassId} {dI : Nat → Nat → Nat} {q : Nat → ClassId} (hx : p.tables.exec = Jvm.exec) (hb : c.code = cX1_init) (hml : c.maxLocals = 3) (hown : s.vm.findClass RX1 = some m.cls) (hts : ∀ w ∈ wsX1_init, w.before args s = true) (hin : meth.name = "<init>") (hA : ∀ q : Nat, s.heap.size ≤ q → A q) (hK : va_K (dC, dI) vwCl (uw_T q RX7) s) (hN_X1_11 : va_Nw (.methodLinkNest RX1 11 yX7_init "KnotHouse") s) (hOI : ow_AO .int s) (u : Nat → Nat) (H : Heap) (locs : List Loc) (ls : Array Slot) {a0 : Nat} (hu0 : u 43000 = a0) (hM : al_M (dC, dI) vwCl xt1_0 q A s.heap u zeroS H locs) (hl : lv_has ls 3 [(0, .ref (u 43000))]) (kk : ∀ (u : Nat → Nat) (H : Heap) (locs : List Loc) (ls : Array Slot), u 43000 = a0 → al_M (dC, dI) vwCl xt1_12 q A s.heap u zeroS H locs → lv_has ls 3 [(0, .ref (u 43000))] → W p l e RI1 s m args below meth c H locs 30 10677 Q (F0 m 116 ls [])) : W p l e RI1 s m args below meth c H locs 0 0 Q (F0 m 4 ls []) := by
  refine lv_aload_n hx hb dX1_init_4 rfl (lv_at hl 0 rfl) ?_
  refine va_new (ci := 10) (fs := [.null, .null, .null, .null, .null, .null, .null, .int 0, .int 0, .int 0, .int 0]) (C := RX7) (T := TX7) (N := 11) hx hb hts (by decide +kernel) tyX7 tyX7_ok hown (hts (.classLink RX1 9 RX7) (by decide +kernel)) (hts (.instantiable RX7 11) (by decide +kernel)) (hts (.initialized RX7) (by decide +kernel)) hK hM.1 hM.2.1 hM.2.2.1 hA rfl (by decide +kernel) (Nat.le_of_ble_eq_true rfl) (Nat.le_of_ble_eq_true rfl) dX1_init_5 (fun o1 H hP hD hS => ?_)
  refine W.widen (k := 1) (n := 11) (Nat.le_of_ble_eq_true rfl) (Nat.le_of_ble_eq_true rfl) ?_
  refine lv_dup hx hb dX1_init_8 rfl ?_
  have hPc := al_subP hP
  have hDc := al_subD hD
  have hFc := al_freeC hD hS hA
  refine va_callv (va_runIN (As := []) (rest := [.ref o1, .ref (u 43000)]) ⟨hx, hb, hml, hown, hts⟩ (k_X7_init l dC dI (q 0) (q 1) (q 2) (q 3) o1 H.size) ⟨va_cnB (host := "KnotHouse") 0 hts gX1_init_X7_init_n11 rfl rfl rfl hN_X1_11 (hts (.initialized RX7) (by decide +kernel)) (by decide +kernel) ⟨(Nat.le_of_ble_eq_true rfl), (Nat.le_of_ble_eq_true rfl)⟩, rfl, hts (.instanceMethod yX7_init) (by decide +kernel)⟩ ⟨fun a U g mk q => by obtain ⟨q0, q1, qP, qK, qD⟩ := q; exact ⟨q0, q1, qP, va_K.moved (u := U) (U := U.calling g mk a) (Vm.Alike.refl U.vm) qK, qD⟩, fun U hU hW => ⟨rfl, by rw [hU], by rw [hU]; exact hPc, va_K.moved hW.alike (hK.sub [0, 1, 2, 3] rfl), hDc.weaken (fun _ _ _ _ => trivial)⟩⟩ rfl rfl hl.1 rfl (lv_room (Nat.le_of_ble_eq_true rfl)) dX1_init_9 ⟨(Nat.le_of_ble_eq_true rfl), (Nat.le_of_ble_eq_true rfl)⟩) hS (fun q _ h => hFc q h) hFc (fun t2 t H1 locs ht hvm hw hB hz1 hk1 hS => ?_)
  obtain ⟨z3, z4, z5, z6, z7, z8, z9⟩ := t2
  obtain ⟨hP1, hD1⟩ := hB
  rw [ht] at hP1
  obtain ⟨hP, hD⟩ := al_join hP hD hk1 hFc hP1 hD1
  clear hPc hDc hFc hvm hw hz1 hk1 hP1 hD1 ht
  refine W.widen (k := 8) (n := 167) (Nat.le_of_ble_eq_true rfl) (Nat.le_of_ble_eq_true rfl) ?_
  refine va_putF (D := (dC, dI)) (ci := 4) (v := .ref o1) (ty := .object "KnotHouse$Net") (C := RX1) (T := TX1) (N := 20) hx hb hts (by decide +kernel) tyX1 tyX1_ok nmX1 hown hK hP hD hS 0 (al_heA (X := xt1_0) (o := 43000) rfl rfl rfl) rfl 0 (by decide) (hts (.fieldLink RX1 12 "KnotHouse$Chains" "net" "LKnotHouse$Net;") (by decide +kernel)) (fun _ h9 => h9) rfl hin rfl (by decide +kernel) rfl rfl (by rw [List.length_map]; decide +kernel) dX1_init_12 (fun H locs hP hD hS => ?_)
  obtain ⟨u, hu, hM⟩ := al_ext (X := xt1_0) (X1 := xt1_1) (o := 43000) (k := 0) (h := 44000) (Y := [44000, 44001, 44002, 44003, 44004, 44005, 44006, 44007]) (ad := [o1, z3, z4, z5, z6, z7, z8, z9]) (k0 := 0) (ci := 4) ck1_0 rfl rfl hM.2.2.2 rfl hP hD hS
  rw [← hu] at hl
  have hu0 := hu.trans hu0
  clear hu hP hD hS
  refine W.widen (k := 8) (n := 167) (Nat.le_of_ble_eq_true rfl) (Nat.le_of_ble_eq_true rfl) ?_
  refine lv_aload_n hx hb dX1_init_15 rfl (lv_at hl 0 rfl) ?_
  refine lv_sipush (v := 4096) hx hb dX1_init_16 (by decide) ?_
  refine ow_newa (D := (dC, dI)) (N' := 4096) (a0 := (4096, .inl (fun _ => 0))) (ty := .byte) hx hb (hts (.arrayClass .byte) (by decide +kernel)) rfl hK hM.1 hM.2.1 hM.2.2.1 hA 1 rfl (fun _ h => h) (fun _ => rfl) (by decide) (by decide) (by decide) (Nat.le_of_ble_eq_true rfl) (Nat.le_of_ble_eq_true rfl) dX1_init_19 (fun q10 H hP hD hS => ?_)
  refine W.widen (k := 9) (n := 4263) (Nat.le_of_ble_eq_true rfl) (Nat.le_of_ble_eq_true rfl) ?_
  refine va_putF (D := (dC, dI)) (ci := 4) (v := .ref q10) (ty := .array .byte) (C := RX1) (T := TX1) (N := 20) hx hb hts (by decide +kernel) tyX1 tyX1_ok nmX1 hown hK hP hD hS 0 (al_heA (X := xt1_1) (o := 43000) rfl rfl rfl) rfl 1 (by decide) (hts (.fieldLink RX1 18 "KnotHouse$Chains" "loopOf" "[B") (by decide +kernel)) (fun _ h9 => h9) rfl hin rfl (by decide +kernel) rfl rfl (by rw [List.length_map]; decide +kernel) dX1_init_21 (fun H locs hP hD hS => ?_)
  obtain ⟨u, hu, hM⟩ := al_ext (X := xt1_1) (X1 := xt1_2) (o := 43000) (k := 1) (h := 43002) (Y := [43002]) (ad := [q10]) (k0 := 0) (ci := 4) ck1_1 rfl rfl hM.2.2.2 rfl hP hD hS
  rw [← hu] at hl
  have hu0 := hu.trans hu0
  clear hu hP hD hS
  refine W.widen (k := 9) (n := 4263) (Nat.le_of_ble_eq_true rfl) (Nat.le_of_ble_eq_true rfl) ?_
  refine lv_aload_n hx hb dX1_init_24 rfl (lv_at hl 0 rfl) ?_
  refine lv_sipush (v := 256) hx hb dX1_init_25 (by decide) ?_
  refine ow_newa (D := (dC, dI)) (N' := 256) (a0 := (256, .inl (fun _ => 0))) (ty := .int) hx hb (hts (.arrayClass .int) (by decide +kernel)) rfl hK hM.1 hM.2.1 hM.2.2.1 hA 0 rfl (fun _ h => h) (fun _ => rfl) (by decide) (by decide) (by decide) (Nat.le_of_ble_eq_true rfl) (Nat.le_of_ble_eq_true rfl) dX1_init_28 (fun q11 H hP hD hS => ?_)
  refine W.widen (k := 10) (n := 4519) (Nat.le_of_ble_eq_true rfl) (Nat.le_of_ble_eq_true rfl) ?_
  refine va_putF (D := (dC, dI)) (ci := 4) (v := .ref q11) (ty := .array .int) (C := RX1) (T := TX1) (N := 20) hx hb hts (by decide +kernel) tyX1 tyX1_ok nmX1 hown hK hP hD hS 0 (al_heA (X := xt1_2) (o := 43000) rfl rfl rfl) rfl 2 (by decide) (hts (.fieldLink RX1 22 "KnotHouse$Chains" "loops" "[I") (by decide +kernel)) (fun _ h9 => h9) rfl hin rfl (by decide +kernel) rfl rfl (by rw [List.length_map]; decide +kernel) dX1_init_30 (fun H locs hP hD hS => ?_)
  obtain ⟨u, hu, hM⟩ := al_ext (X := xt1_2) (X1 := xt1_3) (o := 43000) (k := 2) (h := 43003) (Y := [43003]) (ad := [q11]) (k0 := 0) (ci := 4) ck1_2 rfl rfl hM.2.2.2 rfl hP hD hS
  rw [← hu] at hl
  have hu0 := hu.trans hu0
  clear hu hP hD hS
  refine W.widen (k := 10) (n := 4519) (Nat.le_of_ble_eq_true rfl) (Nat.le_of_ble_eq_true rfl) ?_
  refine lv_aload_n hx hb dX1_init_33 rfl (lv_at hl 0 rfl) ?_
  refine lv_sipush (v := 2560) hx hb dX1_init_34 (by decide) ?_
  refine ow_newa (D := (dC, dI)) (N' := 2560) (a0 := (2560, .inl (fun _ => 0))) (ty := .byte) hx hb (hts (.arrayClass .byte) (by decide +kernel)) rfl hK hM.1 hM.2.1 hM.2.2.1 hA 1 rfl (fun _ h => h) (fun _ => rfl) (by decide) (by decide) (by decide) (Nat.le_of_ble_eq_true rfl) (Nat.le_of_ble_eq_true rfl) dX1_init_37 (fun q12 H hP hD hS => ?_)
  refine W.widen (k := 11) (n := 7079) (Nat.le_of_ble_eq_true rfl) (Nat.le_of_ble_eq_true rfl) ?_
  refine va_putF (D := (dC, dI)) (ci := 4) (v := .ref q12) (ty := .array .byte) (C := RX1) (T := TX1) (N := 20) hx hb hts (by decide +kernel) tyX1 tyX1_ok nmX1 hown hK hP hD hS 0 (al_heA (X := xt1_3) (o := 43000) rfl rfl rfl) rfl 3 (by decide) (hts (.fieldLink RX1 26 "KnotHouse$Chains" "gapOf" "[B") (by decide +kernel)) (fun _ h9 => h9) rfl hin rfl (by decide +kernel) rfl rfl (by rw [List.length_map]; decide +kernel) dX1_init_39 (fun H locs hP hD hS => ?_)
  obtain ⟨u, hu, hM⟩ := al_ext (X := xt1_3) (X1 := xt1_4) (o := 43000) (k := 3) (h := 43004) (Y := [43004]) (ad := [q12]) (k0 := 0) (ci := 4) ck1_3 rfl rfl hM.2.2.2 rfl hP hD hS
  rw [← hu] at hl
  have hu0 := hu.trans hu0
  clear hu hP hD hS
  refine W.widen (k := 11) (n := 7079) (Nat.le_of_ble_eq_true rfl) (Nat.le_of_ble_eq_true rfl) ?_
  refine lv_aload_n hx hb dX1_init_42 rfl (lv_at hl 0 rfl) ?_
  refine lv_sipush (v := 1024) hx hb dX1_init_43 (by decide) ?_
  refine ow_newa (D := (dC, dI)) (N' := 1024) (a0 := (1024, .inl (fun _ => 0))) (ty := .int) hx hb (hts (.arrayClass .int) (by decide +kernel)) rfl hK hM.1 hM.2.1 hM.2.2.1 hA 0 rfl (fun _ h => h) (fun _ => rfl) (by decide) (by decide) (by decide) (Nat.le_of_ble_eq_true rfl) (Nat.le_of_ble_eq_true rfl) dX1_init_46 (fun q13 H hP hD hS => ?_)
  refine W.widen (k := 12) (n := 8103) (Nat.le_of_ble_eq_true rfl) (Nat.le_of_ble_eq_true rfl) ?_
  refine va_putF (D := (dC, dI)) (ci := 4) (v := .ref q13) (ty := .array .int) (C := RX1) (T := TX1) (N := 20) hx hb hts (by decide +kernel) tyX1 tyX1_ok nmX1 hown hK hP hD hS 0 (al_heA (X := xt1_4) (o := 43000) rfl rfl rfl) rfl 4 (by decide) (hts (.fieldLink RX1 29 "KnotHouse$Chains" "placeOf" "[I") (by decide +kernel)) (fun _ h9 => h9) rfl hin rfl (by decide +kernel) rfl rfl (by rw [List.length_map]; decide +kernel) dX1_init_48 (fun H locs hP hD hS => ?_)
  obtain ⟨u, hu, hM⟩ := al_ext (X := xt1_4) (X1 := xt1_5) (o := 43000) (k := 4) (h := 43005) (Y := [43005]) (ad := [q13]) (k0 := 0) (ci := 4) ck1_4 rfl rfl hM.2.2.2 rfl hP hD hS
  rw [← hu] at hl
  have hu0 := hu.trans hu0
  clear hu hP hD hS
  refine W.widen (k := 12) (n := 8103) (Nat.le_of_ble_eq_true rfl) (Nat.le_of_ble_eq_true rfl) ?_
  refine lv_aload_n hx hb dX1_init_51 rfl (lv_at hl 0 rfl) ?_
  refine lv_bipush (v := 11) hx hb dX1_init_52 (by decide) ?_
  refine lv_bipush (v := 11) hx hb dX1_init_54 (by decide) ?_
  refine al_mna (D := (dC, dI)) (ty := .int) (N' := 11) (K' := 11) (z := (11, .inl (fun _ => 0))) hx hb hown (hts (.classLink RX1 32 "[[I") (by decide +kernel)) hOI (hts (.arrayClass .int) (by decide +kernel)) hK hM.1 hM.2.1 hM.2.2.1 hA ((hK.2 0 _ rfl).2) 5 rfl (by decide) (by decide) (by decide) (by decide) (by decide) (by decide) (by decide) (by decide) (Nat.le_of_ble_eq_true rfl) (Nat.le_of_ble_eq_true rfl) (fun _ => rfl) dX1_init_56 (fun q14 r15 H hP hD hS => ?_)
  refine W.widen (k := 24) (n := 8235) (Nat.le_of_ble_eq_true rfl) (Nat.le_of_ble_eq_true rfl) ?_
  rw [List.append_assoc] at hP hD
  refine va_putF (D := (dC, dI)) (ci := 4) (v := .ref q14) (ty := .array (.array .int)) (C := RX1) (T := TX1) (N := 20) hx hb hts (by decide +kernel) tyX1 tyX1_ok nmX1 hown hK hP hD hS 0 (al_heA (X := xt1_5) (o := 43000) rfl rfl rfl) rfl 5 (by decide) (hts (.fieldLink RX1 34 "KnotHouse$Chains" "choose" "[[I") (by decide +kernel)) (fun _ h9 => h9) rfl hin rfl (by decide +kernel) rfl rfl (by rw [List.length_map]; decide +kernel) dX1_init_60 (fun H locs hP hD hS => ?_)
  obtain ⟨u, hu, hM⟩ := al_ext (X := xt1_5) (X1 := xt1_6) (o := 43000) (k := 5) (h := 43006) (Y := [43006, 45001, 45002, 45003, 45004, 45005, 45006, 45007, 45008, 45009, 45010, 45011]) (ad := [q14, r15 0, r15 1, r15 2, r15 3, r15 4, r15 5, r15 6, r15 7, r15 8, r15 9, r15 10]) (k0 := 0) (ci := 4) ck1_5 rfl rfl hM.2.2.2 (by rw [al_grid (N := 11) (r := r15) (es := [(1, 45001), (1, 45002), (1, 45003), (1, 45004), (1, 45005), (1, 45006), (1, 45007), (1, 45008), (1, 45009), (1, 45010), (1, 45011)]) (u1 := uml u [43006, 45001, 45002, 45003, 45004, 45005, 45006, 45007, 45008, 45009, 45010, 45011] [q14, r15 0, r15 1, r15 2, r15 3, r15 4, r15 5, r15 6, r15 7, r15 8, r15 9, r15 10]) rfl (fun i hi => match i, hi with | 0, _ => rfl | 1, _ => rfl | 2, _ => rfl | 3, _ => rfl | 4, _ => rfl | 5, _ => rfl | 6, _ => rfl | 7, _ => rfl | 8, _ => rfl | 9, _ => rfl | 10, _ => rfl | n + 11, h => absurd h (by omega))]; rfl) hP hD hS
  rw [← hu] at hl
  have hu0 := hu.trans hu0
  clear hu hP hD hS
  refine W.widen (k := 24) (n := 8235) (Nat.le_of_ble_eq_true rfl) (Nat.le_of_ble_eq_true rfl) ?_
  refine lv_aload_n hx hb dX1_init_63 rfl (lv_at hl 0 rfl) ?_
  refine lv_sipush (v := 256) hx hb dX1_init_64 (by decide) ?_
  refine ow_newa (D := (dC, dI)) (N' := 256) (a0 := (256, .inl (fun _ => 0))) (ty := .int) hx hb (hts (.arrayClass .int) (by decide +kernel)) rfl hK hM.1 hM.2.1 hM.2.2.1 hA 0 rfl (fun _ h => h) (fun _ => rfl) (by decide) (by decide) (by decide) (Nat.le_of_ble_eq_true rfl) (Nat.le_of_ble_eq_true rfl) dX1_init_67 (fun q16 H hP hD hS => ?_)
  refine W.widen (k := 25) (n := 8491) (Nat.le_of_ble_eq_true rfl) (Nat.le_of_ble_eq_true rfl) ?_
  refine va_putF (D := (dC, dI)) (ci := 4) (v := .ref q16) (ty := .array .int) (C := RX1) (T := TX1) (N := 20) hx hb hts (by decide +kernel) tyX1 tyX1_ok nmX1 hown hK hP hD hS 0 (al_heA (X := xt1_6) (o := 43000) rfl rfl rfl) rfl 6 (by decide) (hts (.fieldLink RX1 37 "KnotHouse$Chains" "plus" "[I") (by decide +kernel)) (fun _ h9 => h9) rfl hin rfl (by decide +kernel) rfl rfl (by rw [List.length_map]; decide +kernel) dX1_init_69 (fun H locs hP hD hS => ?_)
  obtain ⟨u, hu, hM⟩ := al_ext (X := xt1_6) (X1 := xt1_7) (o := 43000) (k := 6) (h := 43007) (Y := [43007]) (ad := [q16]) (k0 := 0) (ci := 4) ck1_6 rfl rfl hM.2.2.2 rfl hP hD hS
  rw [← hu] at hl
  have hu0 := hu.trans hu0
  clear hu hP hD hS
  refine W.widen (k := 25) (n := 8491) (Nat.le_of_ble_eq_true rfl) (Nat.le_of_ble_eq_true rfl) ?_
  refine lv_aload_n hx hb dX1_init_72 rfl (lv_at hl 0 rfl) ?_
  refine lv_sipush (v := 256) hx hb dX1_init_73 (by decide) ?_
  refine ow_newa (D := (dC, dI)) (N' := 256) (a0 := (256, .inl (fun _ => 0))) (ty := .int) hx hb (hts (.arrayClass .int) (by decide +kernel)) rfl hK hM.1 hM.2.1 hM.2.2.1 hA 0 rfl (fun _ h => h) (fun _ => rfl) (by decide) (by decide) (by decide) (Nat.le_of_ble_eq_true rfl) (Nat.le_of_ble_eq_true rfl) dX1_init_76 (fun q17 H hP hD hS => ?_)
  refine W.widen (k := 26) (n := 8747) (Nat.le_of_ble_eq_true rfl) (Nat.le_of_ble_eq_true rfl) ?_
  refine va_putF (D := (dC, dI)) (ci := 4) (v := .ref q17) (ty := .array .int) (C := RX1) (T := TX1) (N := 20) hx hb hts (by decide +kernel) tyX1 tyX1_ok nmX1 hown hK hP hD hS 0 (al_heA (X := xt1_7) (o := 43000) rfl rfl rfl) rfl 7 (by decide) (hts (.fieldLink RX1 40 "KnotHouse$Chains" "begins" "[I") (by decide +kernel)) (fun _ h9 => h9) rfl hin rfl (by decide +kernel) rfl rfl (by rw [List.length_map]; decide +kernel) dX1_init_78 (fun H locs hP hD hS => ?_)
  obtain ⟨u, hu, hM⟩ := al_ext (X := xt1_7) (X1 := xt1_8) (o := 43000) (k := 7) (h := 43008) (Y := [43008]) (ad := [q17]) (k0 := 0) (ci := 4) ck1_7 rfl rfl hM.2.2.2 rfl hP hD hS
  rw [← hu] at hl
  have hu0 := hu.trans hu0
  clear hu hP hD hS
  refine W.widen (k := 26) (n := 8747) (Nat.le_of_ble_eq_true rfl) (Nat.le_of_ble_eq_true rfl) ?_
  refine lv_aload_n hx hb dX1_init_81 rfl (lv_at hl 0 rfl) ?_
  refine lv_bipush (v := 10) hx hb dX1_init_82 (by decide) ?_
  refine ow_newa (D := (dC, dI)) (N' := 10) (a0 := (10, .inl (fun _ => 0))) (ty := .int) hx hb (hts (.arrayClass .int) (by decide +kernel)) rfl hK hM.1 hM.2.1 hM.2.2.1 hA 0 rfl (fun _ h => h) (fun _ => rfl) (by decide) (by decide) (by decide) (Nat.le_of_ble_eq_true rfl) (Nat.le_of_ble_eq_true rfl) dX1_init_84 (fun q18 H hP hD hS => ?_)
  refine W.widen (k := 27) (n := 8757) (Nat.le_of_ble_eq_true rfl) (Nat.le_of_ble_eq_true rfl) ?_
  refine va_putF (D := (dC, dI)) (ci := 4) (v := .ref q18) (ty := .array .int) (C := RX1) (T := TX1) (N := 20) hx hb hts (by decide +kernel) tyX1 tyX1_ok nmX1 hown hK hP hD hS 0 (al_heA (X := xt1_8) (o := 43000) rfl rfl rfl) rfl 8 (by decide) (hts (.fieldLink RX1 43 "KnotHouse$Chains" "sizes" "[I") (by decide +kernel)) (fun _ h9 => h9) rfl hin rfl (by decide +kernel) rfl rfl (by rw [List.length_map]; decide +kernel) dX1_init_86 (fun H locs hP hD hS => ?_)
  obtain ⟨u, hu, hM⟩ := al_ext (X := xt1_8) (X1 := xt1_9) (o := 43000) (k := 8) (h := 43009) (Y := [43009]) (ad := [q18]) (k0 := 0) (ci := 4) ck1_8 rfl rfl hM.2.2.2 rfl hP hD hS
  rw [← hu] at hl
  have hu0 := hu.trans hu0
  clear hu hP hD hS
  refine W.widen (k := 27) (n := 8757) (Nat.le_of_ble_eq_true rfl) (Nat.le_of_ble_eq_true rfl) ?_
  refine lv_aload_n hx hb dX1_init_89 rfl (lv_at hl 0 rfl) ?_
  refine lv_sipush (v := 640) hx hb dX1_init_90 (by decide) ?_
  refine ow_newa (D := (dC, dI)) (N' := 640) (a0 := (640, .inl (fun _ => 0))) (ty := .int) hx hb (hts (.arrayClass .int) (by decide +kernel)) rfl hK hM.1 hM.2.1 hM.2.2.1 hA 0 rfl (fun _ h => h) (fun _ => rfl) (by decide) (by decide) (by decide) (Nat.le_of_ble_eq_true rfl) (Nat.le_of_ble_eq_true rfl) dX1_init_93 (fun q19 H hP hD hS => ?_)
  refine W.widen (k := 28) (n := 9397) (Nat.le_of_ble_eq_true rfl) (Nat.le_of_ble_eq_true rfl) ?_
  refine va_put (D := (dC, dI)) (ci := 4) (v := .ref q19) (ty := .array .int) (C := RX1) (T := TX1) (N := 20) hx hb hts (by decide +kernel) tyX1 tyX1_ok nmX1 hown hK hP hD hS 0 (al_heA (X := xt1_9) (o := 43000) rfl rfl rfl) rfl 10 (by decide) (hts (.fieldLink RX1 46 "KnotHouse$Chains" "work" "[I") (by decide +kernel)) (fun _ h9 => h9) rfl (by decide +kernel) rfl rfl (by rw [List.length_map]; decide +kernel) dX1_init_95 (fun H locs hP hD hS => ?_)
  obtain ⟨u, hu, hM⟩ := al_ext (X := xt1_9) (X1 := xt1_10) (o := 43000) (k := 10) (h := 43011) (Y := [43011]) (ad := [q19]) (k0 := 0) (ci := 4) ck1_9 rfl rfl hM.2.2.2 rfl hP hD hS
  rw [← hu] at hl
  have hu0 := hu.trans hu0
  clear hu hP hD hS
  refine W.widen (k := 28) (n := 9397) (Nat.le_of_ble_eq_true rfl) (Nat.le_of_ble_eq_true rfl) ?_
  refine lv_aload_n hx hb dX1_init_98 rfl (lv_at hl 0 rfl) ?_
  refine lv_sipush (v := 640) hx hb dX1_init_99 (by decide) ?_
  refine ow_newa (D := (dC, dI)) (N' := 640) (a0 := (640, .inl (fun _ => 0))) (ty := .int) hx hb (hts (.arrayClass .int) (by decide +kernel)) rfl hK hM.1 hM.2.1 hM.2.2.1 hA 0 rfl (fun _ h => h) (fun _ => rfl) (by decide) (by decide) (by decide) (Nat.le_of_ble_eq_true rfl) (Nat.le_of_ble_eq_true rfl) dX1_init_102 (fun q20 H hP hD hS => ?_)
  refine W.widen (k := 29) (n := 10037) (Nat.le_of_ble_eq_true rfl) (Nat.le_of_ble_eq_true rfl) ?_
  refine va_put (D := (dC, dI)) (ci := 4) (v := .ref q20) (ty := .array .int) (C := RX1) (T := TX1) (N := 20) hx hb hts (by decide +kernel) tyX1 tyX1_ok nmX1 hown hK hP hD hS 0 (al_heA (X := xt1_10) (o := 43000) rfl rfl rfl) rfl 11 (by decide) (hts (.fieldLink RX1 49 "KnotHouse$Chains" "rowFrom" "[I") (by decide +kernel)) (fun _ h9 => h9) rfl (by decide +kernel) rfl rfl (by rw [List.length_map]; decide +kernel) dX1_init_104 (fun H locs hP hD hS => ?_)
  obtain ⟨u, hu, hM⟩ := al_ext (X := xt1_10) (X1 := xt1_11) (o := 43000) (k := 11) (h := 43012) (Y := [43012]) (ad := [q20]) (k0 := 0) (ci := 4) ck1_10 rfl rfl hM.2.2.2 rfl hP hD hS
  rw [← hu] at hl
  have hu0 := hu.trans hu0
  clear hu hP hD hS
  refine W.widen (k := 29) (n := 10037) (Nat.le_of_ble_eq_true rfl) (Nat.le_of_ble_eq_true rfl) ?_
  refine lv_aload_n hx hb dX1_init_107 rfl (lv_at hl 0 rfl) ?_
  refine lv_sipush (v := 640) hx hb dX1_init_108 (by decide) ?_
  refine ow_newa (D := (dC, dI)) (N' := 640) (a0 := (640, .inl (fun _ => 0))) (ty := .int) hx hb (hts (.arrayClass .int) (by decide +kernel)) rfl hK hM.1 hM.2.1 hM.2.2.1 hA 0 rfl (fun _ h => h) (fun _ => rfl) (by decide) (by decide) (by decide) (Nat.le_of_ble_eq_true rfl) (Nat.le_of_ble_eq_true rfl) dX1_init_111 (fun q21 H hP hD hS => ?_)
  refine W.widen (k := 30) (n := 10677) (Nat.le_of_ble_eq_true rfl) (Nat.le_of_ble_eq_true rfl) ?_
  refine va_put (D := (dC, dI)) (ci := 4) (v := .ref q21) (ty := .array .int) (C := RX1) (T := TX1) (N := 20) hx hb hts (by decide +kernel) tyX1 tyX1_ok nmX1 hown hK hP hD hS 0 (al_heA (X := xt1_11) (o := 43000) rfl rfl rfl) rfl 12 (by decide) (hts (.fieldLink RX1 52 "KnotHouse$Chains" "rowTo" "[I") (by decide +kernel)) (fun _ h9 => h9) rfl (by decide +kernel) rfl rfl (by rw [List.length_map]; decide +kernel) dX1_init_113 (fun H locs hP hD hS => ?_)
  obtain ⟨u, hu, hM⟩ := al_ext (X := xt1_11) (X1 := xt1_12) (o := 43000) (k := 12) (h := 43013) (Y := [43013]) (ad := [q21]) (k0 := 0) (ci := 4) ck1_11 rfl rfl hM.2.2.2 rfl hP hD hS
  rw [← hu] at hl
  have hu0 := hu.trans hu0
  clear hu hP hD hS
  refine W.widen (k := 30) (n := 10677) (Nat.le_of_ble_eq_true rfl) (Nat.le_of_ble_eq_true rfl) ?_
  exact kk u _ _ ls hu0 hM hl
set_option maxHeartbeats 4000000 in
set_option maxRecDepth 100000 in
theorem hc1_1 {p : Program} {l : Launch} {e : Env} {s : State} {m : MethodId} {args : Array Value} {below : List Frame} {meth : Method} {c : Code} {Q : State → Prop} {A : Nat → Prop} {dC : Nat → ClassId} {dI : Nat → Nat → Nat} {q : Nat → ClassId} (hx : p.tables.exec = Jvm.exec) (hb : c.code = cX1_init) (hml : c.maxLocals = 3) (hown : s.vm.findClass RX1 = some m.cls) (hts : ∀ w ∈ wsX1_init, w.before args s = true) (hin : meth.name = "<init>") (hA : ∀ q : Nat, s.heap.size ≤ q → A q) (hK : va_K (dC, dI) vwCl (uw_T q RX7) s) (hN_X1_11 : va_Nw (.methodLinkNest RX1 11 yX7_init "KnotHouse") s) (hOI : ow_AO .int s) (u : Nat → Nat) (H : Heap) (locs : List Loc) (ls : Array Slot) {a0 : Nat} (hu0 : u 43000 = a0) (hM : al_M (dC, dI) vwCl xt1_12 q A s.heap u zeroS H locs) (hl : lv_has ls 3 [(0, .ref (u 43000))]) (kk : ∀ (u : Nat → Nat) (H : Heap) (locs : List Loc) (ls : Array Slot), u 43000 = a0 → al_M (dC, dI) vwCl xt1_16 q A s.heap u zeroS H locs → lv_has ls 3 [(0, .ref (u 43000))] → W p l e RI1 s m args below meth c H locs 34 51821 Q (F0 m 152 ls [])) : W p l e RI1 s m args below meth c H locs 30 10677 Q (F0 m 116 ls []) := by
  refine lv_aload_n hx hb dX1_init_116 rfl (lv_at hl 0 rfl) ?_
  refine lv_sipush (v := 640) hx hb dX1_init_117 (by decide) ?_
  refine ow_newa (D := (dC, dI)) (N' := 640) (a0 := (640, .inl (fun _ => 0))) (ty := .int) hx hb (hts (.arrayClass .int) (by decide +kernel)) rfl hK hM.1 hM.2.1 hM.2.2.1 hA 0 rfl (fun _ h => h) (fun _ => rfl) (by decide) (by decide) (by decide) (Nat.le_of_ble_eq_true rfl) (Nat.le_of_ble_eq_true rfl) dX1_init_120 (fun q22 H hP hD hS => ?_)
  refine W.widen (k := 31) (n := 11317) (Nat.le_of_ble_eq_true rfl) (Nat.le_of_ble_eq_true rfl) ?_
  refine va_put (D := (dC, dI)) (ci := 4) (v := .ref q22) (ty := .array .int) (C := RX1) (T := TX1) (N := 20) hx hb hts (by decide +kernel) tyX1 tyX1_ok nmX1 hown hK hP hD hS 0 (al_heA (X := xt1_12) (o := 43000) rfl rfl rfl) rfl 13 (by decide) (hts (.fieldLink RX1 55 "KnotHouse$Chains" "cleared" "[I") (by decide +kernel)) (fun _ h9 => h9) rfl (by decide +kernel) rfl rfl (by rw [List.length_map]; decide +kernel) dX1_init_122 (fun H locs hP hD hS => ?_)
  obtain ⟨u, hu, hM⟩ := al_ext (X := xt1_12) (X1 := xt1_13) (o := 43000) (k := 13) (h := 43014) (Y := [43014]) (ad := [q22]) (k0 := 0) (ci := 4) ck1_12 rfl rfl hM.2.2.2 rfl hP hD hS
  rw [← hu] at hl
  have hu0 := hu.trans hu0
  clear hu hP hD hS
  refine W.widen (k := 31) (n := 11317) (Nat.le_of_ble_eq_true rfl) (Nat.le_of_ble_eq_true rfl) ?_
  refine lv_aload_n hx hb dX1_init_125 rfl (lv_at hl 0 rfl) ?_
  refine lv_sipush (v := 20000) hx hb dX1_init_126 (by decide) ?_
  refine ow_newa (D := (dC, dI)) (N' := 20000) (a0 := (20000, .inl (fun _ => 0))) (ty := .int) hx hb (hts (.arrayClass .int) (by decide +kernel)) rfl hK hM.1 hM.2.1 hM.2.2.1 hA 0 rfl (fun _ h => h) (fun _ => rfl) (by decide) (by decide) (by decide) (Nat.le_of_ble_eq_true rfl) (Nat.le_of_ble_eq_true rfl) dX1_init_129 (fun q23 H hP hD hS => ?_)
  refine W.widen (k := 32) (n := 31317) (Nat.le_of_ble_eq_true rfl) (Nat.le_of_ble_eq_true rfl) ?_
  refine va_put (D := (dC, dI)) (ci := 4) (v := .ref q23) (ty := .array .int) (C := RX1) (T := TX1) (N := 20) hx hb hts (by decide +kernel) tyX1 tyX1_ok nmX1 hown hK hP hD hS 0 (al_heA (X := xt1_13) (o := 43000) rfl rfl rfl) rfl 14 (by decide) (hts (.fieldLink RX1 58 "KnotHouse$Chains" "columns" "[I") (by decide +kernel)) (fun _ h9 => h9) rfl (by decide +kernel) rfl rfl (by rw [List.length_map]; decide +kernel) dX1_init_131 (fun H locs hP hD hS => ?_)
  obtain ⟨u, hu, hM⟩ := al_ext (X := xt1_13) (X1 := xt1_14) (o := 43000) (k := 14) (h := 43015) (Y := [43015]) (ad := [q23]) (k0 := 0) (ci := 4) ck1_13 rfl rfl hM.2.2.2 rfl hP hD hS
  rw [← hu] at hl
  have hu0 := hu.trans hu0
  clear hu hP hD hS
  refine W.widen (k := 32) (n := 31317) (Nat.le_of_ble_eq_true rfl) (Nat.le_of_ble_eq_true rfl) ?_
  refine lv_aload_n hx hb dX1_init_134 rfl (lv_at hl 0 rfl) ?_
  refine lv_sipush (v := 20000) hx hb dX1_init_135 (by decide) ?_
  refine ow_newa (D := (dC, dI)) (N' := 20000) (a0 := (20000, .inl (fun _ => 0))) (ty := .int) hx hb (hts (.arrayClass .int) (by decide +kernel)) rfl hK hM.1 hM.2.1 hM.2.2.1 hA 0 rfl (fun _ h => h) (fun _ => rfl) (by decide) (by decide) (by decide) (Nat.le_of_ble_eq_true rfl) (Nat.le_of_ble_eq_true rfl) dX1_init_138 (fun q24 H hP hD hS => ?_)
  refine W.widen (k := 33) (n := 51317) (Nat.le_of_ble_eq_true rfl) (Nat.le_of_ble_eq_true rfl) ?_
  refine va_put (D := (dC, dI)) (ci := 4) (v := .ref q24) (ty := .array .int) (C := RX1) (T := TX1) (N := 20) hx hb hts (by decide +kernel) tyX1 tyX1_ok nmX1 hown hK hP hD hS 0 (al_heA (X := xt1_14) (o := 43000) rfl rfl rfl) rfl 15 (by decide) (hts (.fieldLink RX1 61 "KnotHouse$Chains" "values" "[I") (by decide +kernel)) (fun _ h9 => h9) rfl (by decide +kernel) rfl rfl (by rw [List.length_map]; decide +kernel) dX1_init_140 (fun H locs hP hD hS => ?_)
  obtain ⟨u, hu, hM⟩ := al_ext (X := xt1_14) (X1 := xt1_15) (o := 43000) (k := 15) (h := 43016) (Y := [43016]) (ad := [q24]) (k0 := 0) (ci := 4) ck1_14 rfl rfl hM.2.2.2 rfl hP hD hS
  rw [← hu] at hl
  have hu0 := hu.trans hu0
  clear hu hP hD hS
  refine W.widen (k := 33) (n := 51317) (Nat.le_of_ble_eq_true rfl) (Nat.le_of_ble_eq_true rfl) ?_
  refine lv_aload_n hx hb dX1_init_143 rfl (lv_at hl 0 rfl) ?_
  refine lv_sipush (v := 504) hx hb dX1_init_144 (by decide) ?_
  refine ow_newa (D := (dC, dI)) (N' := 504) (a0 := (504, .inl (fun _ => 0))) (ty := .int) hx hb (hts (.arrayClass .int) (by decide +kernel)) rfl hK hM.1 hM.2.1 hM.2.2.1 hA 0 rfl (fun _ h => h) (fun _ => rfl) (by decide) (by decide) (by decide) (Nat.le_of_ble_eq_true rfl) (Nat.le_of_ble_eq_true rfl) dX1_init_147 (fun q25 H hP hD hS => ?_)
  refine W.widen (k := 34) (n := 51821) (Nat.le_of_ble_eq_true rfl) (Nat.le_of_ble_eq_true rfl) ?_
  refine va_putF (D := (dC, dI)) (ci := 4) (v := .ref q25) (ty := .array .int) (C := RX1) (T := TX1) (N := 20) hx hb hts (by decide +kernel) tyX1 tyX1_ok nmX1 hown hK hP hD hS 0 (al_heA (X := xt1_15) (o := 43000) rfl rfl rfl) rfl 17 (by decide) (hts (.fieldLink RX1 64 "KnotHouse$Chains" "ranks" "[I") (by decide +kernel)) (fun _ h9 => h9) rfl hin rfl (by decide +kernel) rfl rfl (by rw [List.length_map]; decide +kernel) dX1_init_149 (fun H locs hP hD hS => ?_)
  obtain ⟨u, hu, hM⟩ := al_ext (X := xt1_15) (X1 := xt1_16) (o := 43000) (k := 17) (h := 43018) (Y := [43018]) (ad := [q25]) (k0 := 0) (ci := 4) ck1_15 rfl rfl hM.2.2.2 rfl hP hD hS
  rw [← hu] at hl
  have hu0 := hu.trans hu0
  clear hu hP hD hS
  refine W.widen (k := 34) (n := 51821) (Nat.le_of_ble_eq_true rfl) (Nat.le_of_ble_eq_true rfl) ?_
  exact kk u _ _ ls hu0 hM hl
