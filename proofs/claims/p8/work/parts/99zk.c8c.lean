set_option maxHeartbeats 4000000 in
set_option maxRecDepth 100000 in
theorem hc8_0 {p : Program} {l : Launch} {e : Env} {s : State} {m : MethodId} {args : Array Value} {below : List Frame} {meth : Method} {c : Code} {Q : State → Prop} {A : Nat → Prop} {dC : Nat → ClassId} {dI : Nat → Nat → Nat} {q : Nat → ClassId} (hx : p.tables.exec = Jvm.exec) (hb : c.code = cX8_init) (hml : c.maxLocals = 3) (hown : s.vm.findClass RX8 = some m.cls) (hts : ∀ w ∈ wsX8_init, w.before args s = true) (hin : meth.name = "<init>") (hA : ∀ q : Nat, s.heap.size ≤ q → A q) (hK : va_K (dC, dI) vwCl (uw_T q RX7) s) (hN_X8_44 : va_Nw (.methodLinkNest RX8 44 yX7_init "KnotHouse") s) (hAO : va_AO RX7 s) (hOI : ow_AO .int s) (u : Nat → Nat) (H : Heap) (locs : List Loc) (ls : Array Slot) {a0 : Nat} (hu0 : u 24000 = a0) (hM : al_M (dC, dI) vwCl xt8_0 q A s.heap u zeroS H locs) (hl : lv_has ls 3 [(0, .ref (u 24000))]) (kk : ∀ (u : Nat → Nat) (H : Heap) (locs : List Loc) (ls : Array Slot), u 24000 = a0 → al_M (dC, dI) vwCl xt8_8 q A s.heap u zeroS H locs → lv_has ls 3 [(0, .ref (u 24000))] → W p l e RI8 s m args below meth c H locs 43 6513 Q (F0 m 82 ls [])) : W p l e RI8 s m args below meth c H locs 0 0 Q (F0 m 4 ls []) := by
  refine lv_aload_n hx hb dX8_init_4 rfl (lv_at hl 0 rfl) ?_
  refine va_new (ci := 6) (fs := [.null, .null, .null, .null, .int 0]) (C := RX3) (T := TX3) (N := 5) hx hb hts (by decide +kernel) tyX3 tyX3_ok hown (hts (.classLink RX8 9 RX3) (by decide +kernel)) (hts (.instantiable RX3 5) (by decide +kernel)) (hts (.initialized RX3) (by decide +kernel)) hK hM.1 hM.2.1 hM.2.2.1 hA rfl (by decide +kernel) (Nat.le_of_ble_eq_true rfl) (Nat.le_of_ble_eq_true rfl) dX8_init_5 (fun o1 H hP hD hS => ?_)
  refine W.widen (k := 1) (n := 5) (Nat.le_of_ble_eq_true rfl) (Nat.le_of_ble_eq_true rfl) ?_
  refine lv_dup hx hb dX8_init_8 rfl ?_
  refine lv_iconst (v := 2) hx hb dX8_init_9 (by decide) ?_
  have hPc := al_subP hP
  have hDc := al_subD hD
  have hFc := al_freeC hD hS hA
  refine va_callv (va_runI (As := [.int 2]) (rest := [.ref o1, .ref (u 24000)]) ⟨hx, hb, hml, hown, hts⟩ (k_X3_init_2 l dC dI (q 0) (q 1) (q 2) (q 3) o1 H.size) (cwI 1 hts gX8_init_X3_init rfl rfl rfl (hts (.initialized RX3) (by decide +kernel)) (hts (.methodLink RX8 11 yX3_init) (by decide +kernel)) (hts (.instanceMethod yX3_init) (by decide +kernel)) rfl (by decide +kernel) ⟨(Nat.le_of_ble_eq_true rfl), (Nat.le_of_ble_eq_true rfl)⟩) ⟨fun a U g mk q => by obtain ⟨q0, q1, qP, qK, qD⟩ := q; exact ⟨q0, q1, qP, va_K.moved (u := U) (U := U.calling g mk a) (Vm.Alike.refl U.vm) qK, qD⟩, fun U hU hW => ⟨rfl, by rw [hU], by rw [hU]; exact hPc, va_K.moved hW.alike (hK.sub [0, 1, 2, 3] rfl), hDc.weaken (fun _ _ _ _ => trivial)⟩⟩ rfl rfl hl.1 rfl (lv_room (Nat.le_of_ble_eq_true rfl)) dX8_init_10 ⟨(Nat.le_of_ble_eq_true rfl), (Nat.le_of_ble_eq_true rfl)⟩) hS (fun q _ h => hFc q h) hFc (fun t2 t H1 locs ht hvm hw hB hz1 hk1 hS => ?_)
  obtain ⟨z3, z4, z5, z6⟩ := t2
  obtain ⟨hP1, hD1⟩ := hB
  rw [ht] at hP1
  obtain ⟨hP, hD⟩ := al_join hP hD hk1 hFc hP1 hD1
  clear hPc hDc hFc hvm hw hz1 hk1 hP1 hD1 ht
  refine W.widen (k := 5) (n := 71) (Nat.le_of_ble_eq_true rfl) (Nat.le_of_ble_eq_true rfl) ?_
  refine va_putF (D := (dC, dI)) (ci := 11) (v := .ref o1) (ty := .object "KnotHouse$Codes") (C := RX8) (T := TX8) (N := 9) hx hb hts (by decide +kernel) tyX8 tyX8_ok nmX8 hown hK hP hD hS 0 (al_heA (X := xt8_0) (o := 24000) rfl rfl rfl) rfl 0 (by decide) (hts (.fieldLink RX8 14 "KnotHouse$Polynomials" "known" "LKnotHouse$Codes;") (by decide +kernel)) (fun _ h9 => h9) rfl hin rfl (by decide +kernel) rfl rfl (by rw [List.length_map]; decide +kernel) dX8_init_13 (fun H locs hP hD hS => ?_)
  obtain ⟨u, hu, hM⟩ := al_ext (X := xt8_0) (X1 := xt8_1) (o := 24000) (k := 0) (h := 25000) (Y := [25000, 25001, 25002, 25003, 25004]) (ad := [o1, z3, z4, z5, z6]) (k0 := 0) (ci := 11) ck8_0 rfl rfl hM.2.2.2 rfl hP hD hS
  rw [← hu] at hl
  have hu0 := hu.trans hu0
  clear hu hP hD hS
  refine W.widen (k := 5) (n := 71) (Nat.le_of_ble_eq_true rfl) (Nat.le_of_ble_eq_true rfl) ?_
  refine lv_aload_n hx hb dX8_init_16 rfl (lv_at hl 0 rfl) ?_
  refine lv_bipush (v := 13) hx hb dX8_init_17 (by decide) ?_
  refine al_newq (D := (dC, dI)) (C := RX7) (N' := 13) hx hb hown (hts (.classLink RX8 20 RX7) (by decide +kernel)) hAO hK hM.1 hM.2.1 hM.2.2.1 hA 4 rfl (by decide) (by decide) (by decide) (Nat.le_of_ble_eq_true rfl) (Nat.le_of_ble_eq_true rfl) dX8_init_19 (fun q7 H hP hD hS => ?_)
  refine W.widen (k := 6) (n := 84) (Nat.le_of_ble_eq_true rfl) (Nat.le_of_ble_eq_true rfl) ?_
  refine va_putF (D := (dC, dI)) (ci := 11) (v := .ref q7) (ty := .array (.object "KnotHouse$Net")) (C := RX8) (T := TX8) (N := 9) hx hb hts (by decide +kernel) tyX8 tyX8_ok nmX8 hown hK hP hD hS 0 (al_heA (X := xt8_1) (o := 24000) rfl rfl rfl) rfl 1 (by decide) (hts (.fieldLink RX8 22 "KnotHouse$Polynomials" "levels" "[LKnotHouse$Net;") (by decide +kernel)) (fun _ h9 => h9) rfl hin rfl (by decide +kernel) rfl rfl (by rw [List.length_map]; decide +kernel) dX8_init_22 (fun H locs hP hD hS => ?_)
  obtain ⟨u, hu, hM⟩ := al_ext (X := xt8_1) (X1 := xt8_2) (o := 24000) (k := 1) (h := 24002) (Y := [24002]) (ad := [q7]) (k0 := 0) (ci := 11) ck8_1 rfl rfl hM.2.2.2 rfl hP hD hS
  rw [← hu] at hl
  have hu0 := hu.trans hu0
  clear hu hP hD hS
  refine W.widen (k := 6) (n := 84) (Nat.le_of_ble_eq_true rfl) (Nat.le_of_ble_eq_true rfl) ?_
  refine lv_aload_n hx hb dX8_init_25 rfl (lv_at hl 0 rfl) ?_
  refine lv_bipush (v := 13) hx hb dX8_init_26 (by decide) ?_
  refine ow_newa (D := (dC, dI)) (N' := 13) (a0 := (13, .inl (fun _ => 0))) (ty := .int) hx hb (hts (.arrayClass .int) (by decide +kernel)) rfl hK hM.1 hM.2.1 hM.2.2.1 hA 0 rfl (fun _ h => h) (fun _ => rfl) (by decide) (by decide) (by decide) (Nat.le_of_ble_eq_true rfl) (Nat.le_of_ble_eq_true rfl) dX8_init_28 (fun q8 H hP hD hS => ?_)
  refine W.widen (k := 7) (n := 97) (Nat.le_of_ble_eq_true rfl) (Nat.le_of_ble_eq_true rfl) ?_
  refine va_putF (D := (dC, dI)) (ci := 11) (v := .ref q8) (ty := .array .int) (C := RX8) (T := TX8) (N := 9) hx hb hts (by decide +kernel) tyX8 tyX8_ok nmX8 hown hK hP hD hS 0 (al_heA (X := xt8_2) (o := 24000) rfl rfl rfl) rfl 2 (by decide) (hts (.fieldLink RX8 26 "KnotHouse$Polynomials" "inOne" "[I") (by decide +kernel)) (fun _ h9 => h9) rfl hin rfl (by decide +kernel) rfl rfl (by rw [List.length_map]; decide +kernel) dX8_init_30 (fun H locs hP hD hS => ?_)
  obtain ⟨u, hu, hM⟩ := al_ext (X := xt8_2) (X1 := xt8_3) (o := 24000) (k := 2) (h := 24003) (Y := [24003]) (ad := [q8]) (k0 := 0) (ci := 11) ck8_2 rfl rfl hM.2.2.2 rfl hP hD hS
  rw [← hu] at hl
  have hu0 := hu.trans hu0
  clear hu hP hD hS
  refine W.widen (k := 7) (n := 97) (Nat.le_of_ble_eq_true rfl) (Nat.le_of_ble_eq_true rfl) ?_
  refine lv_aload_n hx hb dX8_init_33 rfl (lv_at hl 0 rfl) ?_
  refine lv_sipush (v := 5289) hx hb dX8_init_34 (by decide) ?_
  refine ow_newa (D := (dC, dI)) (N' := 5289) (a0 := (5289, .inl (fun _ => 0))) (ty := .int) hx hb (hts (.arrayClass .int) (by decide +kernel)) rfl hK hM.1 hM.2.1 hM.2.2.1 hA 0 rfl (fun _ h => h) (fun _ => rfl) (by decide) (by decide) (by decide) (Nat.le_of_ble_eq_true rfl) (Nat.le_of_ble_eq_true rfl) dX8_init_37 (fun q9 H hP hD hS => ?_)
  refine W.widen (k := 8) (n := 5386) (Nat.le_of_ble_eq_true rfl) (Nat.le_of_ble_eq_true rfl) ?_
  refine va_putF (D := (dC, dI)) (ci := 11) (v := .ref q9) (ty := .array .int) (C := RX8) (T := TX8) (N := 9) hx hb hts (by decide +kernel) tyX8 tyX8_ok nmX8 hown hK hP hD hS 0 (al_heA (X := xt8_3) (o := 24000) rfl rfl rfl) rfl 3 (by decide) (hts (.fieldLink RX8 30 "KnotHouse$Polynomials" "inTwo" "[I") (by decide +kernel)) (fun _ h9 => h9) rfl hin rfl (by decide +kernel) rfl rfl (by rw [List.length_map]; decide +kernel) dX8_init_39 (fun H locs hP hD hS => ?_)
  obtain ⟨u, hu, hM⟩ := al_ext (X := xt8_3) (X1 := xt8_4) (o := 24000) (k := 3) (h := 24004) (Y := [24004]) (ad := [q9]) (k0 := 0) (ci := 11) ck8_3 rfl rfl hM.2.2.2 rfl hP hD hS
  rw [← hu] at hl
  have hu0 := hu.trans hu0
  clear hu hP hD hS
  refine W.widen (k := 8) (n := 5386) (Nat.le_of_ble_eq_true rfl) (Nat.le_of_ble_eq_true rfl) ?_
  refine lv_aload_n hx hb dX8_init_42 rfl (lv_at hl 0 rfl) ?_
  refine lv_bipush (v := 24) hx hb dX8_init_43 (by decide) ?_
  refine lv_bipush (v := 24) hx hb dX8_init_45 (by decide) ?_
  refine al_mna (D := (dC, dI)) (ty := .int) (N' := 24) (K' := 24) (z := (24, .inl (fun _ => 0))) hx hb hown (hts (.classLink RX8 33 "[[I") (by decide +kernel)) hOI (hts (.arrayClass .int) (by decide +kernel)) hK hM.1 hM.2.1 hM.2.2.1 hA ((hK.2 0 _ rfl).2) 5 rfl (by decide) (by decide) (by decide) (by decide) (by decide) (by decide) (by decide) (by decide) (Nat.le_of_ble_eq_true rfl) (Nat.le_of_ble_eq_true rfl) (fun _ => rfl) dX8_init_47 (fun q10 r11 H hP hD hS => ?_)
  refine W.widen (k := 33) (n := 5986) (Nat.le_of_ble_eq_true rfl) (Nat.le_of_ble_eq_true rfl) ?_
  rw [List.append_assoc] at hP hD
  refine va_putF (D := (dC, dI)) (ci := 11) (v := .ref q10) (ty := .array (.array .int)) (C := RX8) (T := TX8) (N := 9) hx hb hts (by decide +kernel) tyX8 tyX8_ok nmX8 hown hK hP hD hS 0 (al_heA (X := xt8_4) (o := 24000) rfl rfl rfl) rfl 4 (by decide) (hts (.fieldLink RX8 35 "KnotHouse$Polynomials" "choose" "[[I") (by decide +kernel)) (fun _ h9 => h9) rfl hin rfl (by decide +kernel) rfl rfl (by rw [List.length_map]; decide +kernel) dX8_init_51 (fun H locs hP hD hS => ?_)
  obtain ⟨u, hu, hM⟩ := al_ext (X := xt8_4) (X1 := xt8_5) (o := 24000) (k := 4) (h := 24005) (Y := [24005, 39001, 39002, 39003, 39004, 39005, 39006, 39007, 39008, 39009, 39010, 39011, 39012, 39013, 39014, 39015, 39016, 39017, 39018, 39019, 39020, 39021, 39022, 39023, 39024]) (ad := [q10, r11 0, r11 1, r11 2, r11 3, r11 4, r11 5, r11 6, r11 7, r11 8, r11 9, r11 10, r11 11, r11 12, r11 13, r11 14, r11 15, r11 16, r11 17, r11 18, r11 19, r11 20, r11 21, r11 22, r11 23]) (k0 := 0) (ci := 11) ck8_4 rfl rfl hM.2.2.2 (by rw [al_grid (N := 24) (r := r11) (es := [(1, 39001), (1, 39002), (1, 39003), (1, 39004), (1, 39005), (1, 39006), (1, 39007), (1, 39008), (1, 39009), (1, 39010), (1, 39011), (1, 39012), (1, 39013), (1, 39014), (1, 39015), (1, 39016), (1, 39017), (1, 39018), (1, 39019), (1, 39020), (1, 39021), (1, 39022), (1, 39023), (1, 39024)]) (u1 := uml u [24005, 39001, 39002, 39003, 39004, 39005, 39006, 39007, 39008, 39009, 39010, 39011, 39012, 39013, 39014, 39015, 39016, 39017, 39018, 39019, 39020, 39021, 39022, 39023, 39024] [q10, r11 0, r11 1, r11 2, r11 3, r11 4, r11 5, r11 6, r11 7, r11 8, r11 9, r11 10, r11 11, r11 12, r11 13, r11 14, r11 15, r11 16, r11 17, r11 18, r11 19, r11 20, r11 21, r11 22, r11 23]) rfl (fun i hi => match i, hi with | 0, _ => rfl | 1, _ => rfl | 2, _ => rfl | 3, _ => rfl | 4, _ => rfl | 5, _ => rfl | 6, _ => rfl | 7, _ => rfl | 8, _ => rfl | 9, _ => rfl | 10, _ => rfl | 11, _ => rfl | 12, _ => rfl | 13, _ => rfl | 14, _ => rfl | 15, _ => rfl | 16, _ => rfl | 17, _ => rfl | 18, _ => rfl | 19, _ => rfl | 20, _ => rfl | 21, _ => rfl | 22, _ => rfl | 23, _ => rfl | n + 24, h => absurd h (by omega))]; rfl) hP hD hS
  rw [← hu] at hl
  have hu0 := hu.trans hu0
  clear hu hP hD hS
  refine W.widen (k := 33) (n := 5986) (Nat.le_of_ble_eq_true rfl) (Nat.le_of_ble_eq_true rfl) ?_
  refine lv_aload_n hx hb dX8_init_54 rfl (lv_at hl 0 rfl) ?_
  refine lv_sipush (v := 312) hx hb dX8_init_55 (by decide) ?_
  refine ow_newa (D := (dC, dI)) (N' := 312) (a0 := (312, .inl (fun _ => 0))) (ty := .int) hx hb (hts (.arrayClass .int) (by decide +kernel)) rfl hK hM.1 hM.2.1 hM.2.2.1 hA 0 rfl (fun _ h => h) (fun _ => rfl) (by decide) (by decide) (by decide) (Nat.le_of_ble_eq_true rfl) (Nat.le_of_ble_eq_true rfl) dX8_init_58 (fun q12 H hP hD hS => ?_)
  refine W.widen (k := 34) (n := 6298) (Nat.le_of_ble_eq_true rfl) (Nat.le_of_ble_eq_true rfl) ?_
  refine va_putF (D := (dC, dI)) (ci := 11) (v := .ref q12) (ty := .array .int) (C := RX8) (T := TX8) (N := 9) hx hb hts (by decide +kernel) tyX8 tyX8_ok nmX8 hown hK hP hD hS 0 (al_heA (X := xt8_5) (o := 24000) rfl rfl rfl) rfl 5 (by decide) (hts (.fieldLink RX8 38 "KnotHouse$Polynomials" "states" "[I") (by decide +kernel)) (fun _ h9 => h9) rfl hin rfl (by decide +kernel) rfl rfl (by rw [List.length_map]; decide +kernel) dX8_init_60 (fun H locs hP hD hS => ?_)
  obtain ⟨u, hu, hM⟩ := al_ext (X := xt8_5) (X1 := xt8_6) (o := 24000) (k := 5) (h := 24006) (Y := [24006]) (ad := [q12]) (k0 := 0) (ci := 11) ck8_5 rfl rfl hM.2.2.2 rfl hP hD hS
  rw [← hu] at hl
  have hu0 := hu.trans hu0
  clear hu hP hD hS
  refine W.widen (k := 34) (n := 6298) (Nat.le_of_ble_eq_true rfl) (Nat.le_of_ble_eq_true rfl) ?_
  refine lv_aload_n hx hb dX8_init_63 rfl (lv_at hl 0 rfl) ?_
  refine lv_bipush (v := 48) hx hb dX8_init_64 (by decide) ?_
  refine ow_newa (D := (dC, dI)) (N' := 48) (a0 := (48, .inl (fun _ => 0))) (ty := .int) hx hb (hts (.arrayClass .int) (by decide +kernel)) rfl hK hM.1 hM.2.1 hM.2.2.1 hA 0 rfl (fun _ h => h) (fun _ => rfl) (by decide) (by decide) (by decide) (Nat.le_of_ble_eq_true rfl) (Nat.le_of_ble_eq_true rfl) dX8_init_66 (fun q13 H hP hD hS => ?_)
  refine W.widen (k := 35) (n := 6346) (Nat.le_of_ble_eq_true rfl) (Nat.le_of_ble_eq_true rfl) ?_
  refine va_putF (D := (dC, dI)) (ci := 11) (v := .ref q13) (ty := .array .int) (C := RX8) (T := TX8) (N := 9) hx hb hts (by decide +kernel) tyX8 tyX8_ok nmX8 hown hK hP hD hS 0 (al_heA (X := xt8_6) (o := 24000) rfl rfl rfl) rfl 6 (by decide) (hts (.fieldLink RX8 41 "KnotHouse$Polynomials" "partner" "[I") (by decide +kernel)) (fun _ h9 => h9) rfl hin rfl (by decide +kernel) rfl rfl (by rw [List.length_map]; decide +kernel) dX8_init_68 (fun H locs hP hD hS => ?_)
  obtain ⟨u, hu, hM⟩ := al_ext (X := xt8_6) (X1 := xt8_7) (o := 24000) (k := 6) (h := 24007) (Y := [24007]) (ad := [q13]) (k0 := 0) (ci := 11) ck8_6 rfl rfl hM.2.2.2 rfl hP hD hS
  rw [← hu] at hl
  have hu0 := hu.trans hu0
  clear hu hP hD hS
  refine W.widen (k := 35) (n := 6346) (Nat.le_of_ble_eq_true rfl) (Nat.le_of_ble_eq_true rfl) ?_
  refine lv_aload_n hx hb dX8_init_71 rfl (lv_at hl 0 rfl) ?_
  refine va_new (ci := 10) (fs := [.null, .null, .null, .null, .null, .null, .null, .int 0, .int 0, .int 0, .int 0]) (C := RX7) (T := TX7) (N := 11) hx hb hts (by decide +kernel) tyX7 tyX7_ok hown (hts (.classLink RX8 20 RX7) (by decide +kernel)) (hts (.instantiable RX7 11) (by decide +kernel)) (hts (.initialized RX7) (by decide +kernel)) hK hM.1 hM.2.1 hM.2.2.1 hA rfl (by decide +kernel) (Nat.le_of_ble_eq_true rfl) (Nat.le_of_ble_eq_true rfl) dX8_init_72 (fun o14 H hP hD hS => ?_)
  refine W.widen (k := 36) (n := 6357) (Nat.le_of_ble_eq_true rfl) (Nat.le_of_ble_eq_true rfl) ?_
  refine lv_dup hx hb dX8_init_75 rfl ?_
  have hPc := al_subP hP
  have hDc := al_subD hD
  have hFc := al_freeC hD hS hA
  refine va_callv (va_runIN (As := []) (rest := [.ref o14, .ref (u 24000)]) ⟨hx, hb, hml, hown, hts⟩ (k_X7_init l dC dI (q 0) (q 1) (q 2) (q 3) o14 H.size) ⟨va_cnB (host := "KnotHouse") 0 hts gX8_init_X7_init_n44 rfl rfl rfl hN_X8_44 (hts (.initialized RX7) (by decide +kernel)) (by decide +kernel) ⟨(Nat.le_of_ble_eq_true rfl), (Nat.le_of_ble_eq_true rfl)⟩, rfl, hts (.instanceMethod yX7_init) (by decide +kernel)⟩ ⟨fun a U g mk q => by obtain ⟨q0, q1, qP, qK, qD⟩ := q; exact ⟨q0, q1, qP, va_K.moved (u := U) (U := U.calling g mk a) (Vm.Alike.refl U.vm) qK, qD⟩, fun U hU hW => ⟨rfl, by rw [hU], by rw [hU]; exact hPc, va_K.moved hW.alike (hK.sub [0, 1, 2, 3] rfl), hDc.weaken (fun _ _ _ _ => trivial)⟩⟩ rfl rfl hl.1 rfl (lv_room (Nat.le_of_ble_eq_true rfl)) dX8_init_76 ⟨(Nat.le_of_ble_eq_true rfl), (Nat.le_of_ble_eq_true rfl)⟩) hS (fun q _ h => hFc q h) hFc (fun t15 t H1 locs ht hvm hw hB hz1 hk1 hS => ?_)
  obtain ⟨z16, z17, z18, z19, z20, z21, z22⟩ := t15
  obtain ⟨hP1, hD1⟩ := hB
  rw [ht] at hP1
  obtain ⟨hP, hD⟩ := al_join hP hD hk1 hFc hP1 hD1
  clear hPc hDc hFc hvm hw hz1 hk1 hP1 hD1 ht
  refine W.widen (k := 43) (n := 6513) (Nat.le_of_ble_eq_true rfl) (Nat.le_of_ble_eq_true rfl) ?_
  refine va_putF (D := (dC, dI)) (ci := 11) (v := .ref o14) (ty := .object "KnotHouse$Net") (C := RX8) (T := TX8) (N := 9) hx hb hts (by decide +kernel) tyX8 tyX8_ok nmX8 hown hK hP hD hS 0 (al_heA (X := xt8_7) (o := 24000) rfl rfl rfl) rfl 7 (by decide) (hts (.fieldLink RX8 45 "KnotHouse$Polynomials" "net" "LKnotHouse$Net;") (by decide +kernel)) (fun _ h9 => h9) rfl hin rfl (by decide +kernel) rfl rfl (by rw [List.length_map]; decide +kernel) dX8_init_79 (fun H locs hP hD hS => ?_)
  obtain ⟨u, hu, hM⟩ := al_ext (X := xt8_7) (X1 := xt8_8) (o := 24000) (k := 7) (h := 40000) (Y := [40000, 40001, 40002, 40003, 40004, 40005, 40006, 40007]) (ad := [o14, z16, z17, z18, z19, z20, z21, z22]) (k0 := 0) (ci := 11) ck8_7 rfl rfl hM.2.2.2 rfl hP hD hS
  rw [← hu] at hl
  have hu0 := hu.trans hu0
  clear hu hP hD hS
  refine W.widen (k := 43) (n := 6513) (Nat.le_of_ble_eq_true rfl) (Nat.le_of_ble_eq_true rfl) ?_
  exact kk u _ _ ls hu0 hM hl
set_option maxHeartbeats 4000000 in
set_option maxRecDepth 100000 in
theorem hv8_0 {p : Program} {l : Launch} {e : Env} {s : State} {m : MethodId} {args : Array Value} {below : List Frame} {meth : Method} {c : Code} {Q : State → Prop} {A : Nat → Prop} {dC : Nat → ClassId} {dI : Nat → Nat → Nat} {q : Nat → ClassId} (hx : p.tables.exec = Jvm.exec) (hb : c.code = cX8_init) (hml : c.maxLocals = 3) (hown : s.vm.findClass RX8 = some m.cls) (hts : ∀ w ∈ wsX8_init, w.before args s = true) (hA : ∀ q : Nat, s.heap.size ≤ q → A q) (hK : va_K (dC, dI) vwCl (uw_T q RX7) s) (hN_X8_44 : va_Nw (.methodLinkNest RX8 44 yX7_init "KnotHouse") s) (hAO : va_AO RX7 s) (hOI : ow_AO .int s) (u : Nat → Nat) (H : Heap) (locs : List Loc) (ls : Array Slot) {a0 : Nat} (hu0 : u 24000 = a0) (hM : al_M (dC, dI) vwCl xv8_0 q A s.heap u zeroS H locs) (hl : lv_has ls 3 [(1, .int 0), (0, .ref (u 24000))]) (kk : ∀ (u : Nat → Nat) (H : Heap) (locs : List Loc) (ls : Array Slot), u 24000 = a0 → al_M (dC, dI) vwCl xv8_1 q A s.heap u zeroS H locs → lv_has ls 3 [(1, .int 1), (0, .ref (u 24000))] → W p l e RI8 s m args below meth c H locs 51 6680 Q (F0 m 84 ls [])) : W p l e RI8 s m args below meth c H locs 43 6513 Q (F0 m 84 ls []) := by
  refine lv_iload_n hx hb dX8_init_84 rfl (lv_at hl 0 rfl) ?_
  refine lv_aload_n hx hb dX8_init_85 rfl (lv_at hl 1 rfl) ?_
  refine va_get (D := (dC, dI)) (ci := 11) (v := .ref (u 24002)) (C := RX8) (T := TX8) (N := 9) hx hb hts (by decide +kernel) hown hK hM.1 0 (al_he (X := xv8_0) (o := 24000) rfl rfl rfl) rfl 1 (by decide) (hts (.fieldLink RX8 22 "KnotHouse$Polynomials" "levels" "[LKnotHouse$Net;") (by decide +kernel)) (fun _ h9 => h9) rfl dX8_init_86 ?_
  refine va_alen (v := 13) hx hb hK hM.1 6 4 (al_he4' (X := xv8_0) (r := 24002) rfl rfl) rfl rfl dX8_init_89 ?_
  refine lv_icmp_ge (tgt := 112) hx hb dX8_init_90 (by decide) (fun c9 => absurd c9 (by decide)) (fun _ => ?_)
  refine lv_aload_n hx hb dX8_init_93 rfl (lv_at hl 1 rfl) ?_
  refine va_get (D := (dC, dI)) (ci := 11) (v := .ref (u 24002)) (C := RX8) (T := TX8) (N := 9) hx hb hts (by decide +kernel) hown hK hM.1 0 (al_he (X := xv8_0) (o := 24000) rfl rfl rfl) rfl 1 (by decide) (hts (.fieldLink RX8 22 "KnotHouse$Polynomials" "levels" "[LKnotHouse$Net;") (by decide +kernel)) (fun _ h9 => h9) rfl dX8_init_94 ?_
  refine lv_iload_n hx hb dX8_init_97 rfl (lv_at hl 0 rfl) ?_
  refine va_new (ci := 10) (fs := [.null, .null, .null, .null, .null, .null, .null, .int 0, .int 0, .int 0, .int 0]) (C := RX7) (T := TX7) (N := 11) hx hb hts (by decide +kernel) tyX7 tyX7_ok hown (hts (.classLink RX8 20 RX7) (by decide +kernel)) (hts (.instantiable RX7 11) (by decide +kernel)) (hts (.initialized RX7) (by decide +kernel)) hK hM.1 hM.2.1 hM.2.2.1 hA rfl (by decide +kernel) (Nat.le_of_ble_eq_true rfl) (Nat.le_of_ble_eq_true rfl) dX8_init_98 (fun o23 H hP hD hS => ?_)
  refine W.widen (k := 44) (n := 6524) (Nat.le_of_ble_eq_true rfl) (Nat.le_of_ble_eq_true rfl) ?_
  refine lv_dup hx hb dX8_init_101 rfl ?_
  have hPc := al_subP hP
  have hDc := al_subD hD
  have hFc := al_freeC hD hS hA
  refine va_callv (va_runIN (As := []) (rest := [.ref o23, .int 0, .ref (u 24002)]) ⟨hx, hb, hml, hown, hts⟩ (k_X7_init l dC dI (q 0) (q 1) (q 2) (q 3) o23 H.size) ⟨va_cnB (host := "KnotHouse") 0 hts gX8_init_X7_init_n44 rfl rfl rfl hN_X8_44 (hts (.initialized RX7) (by decide +kernel)) (by decide +kernel) ⟨(Nat.le_of_ble_eq_true rfl), (Nat.le_of_ble_eq_true rfl)⟩, rfl, hts (.instanceMethod yX7_init) (by decide +kernel)⟩ ⟨fun a U g mk q => by obtain ⟨q0, q1, qP, qK, qD⟩ := q; exact ⟨q0, q1, qP, va_K.moved (u := U) (U := U.calling g mk a) (Vm.Alike.refl U.vm) qK, qD⟩, fun U hU hW => ⟨rfl, by rw [hU], by rw [hU]; exact hPc, va_K.moved hW.alike (hK.sub [0, 1, 2, 3] rfl), hDc.weaken (fun _ _ _ _ => trivial)⟩⟩ rfl rfl hl.1 rfl (lv_room (Nat.le_of_ble_eq_true rfl)) dX8_init_102 ⟨(Nat.le_of_ble_eq_true rfl), (Nat.le_of_ble_eq_true rfl)⟩) hS (fun q _ h => hFc q h) hFc (fun t24 t H1 locs ht hvm hw hB hz1 hk1 hS => ?_)
  obtain ⟨z25, z26, z27, z28, z29, z30, z31⟩ := t24
  obtain ⟨hP1, hD1⟩ := hB
  rw [ht] at hP1
  obtain ⟨hP, hD⟩ := al_join hP hD hk1 hFc hP1 hD1
  clear hPc hDc hFc hvm hw hz1 hk1 hP1 hD1 ht
  refine W.widen (k := 51) (n := 6680) (Nat.le_of_ble_eq_true rfl) (Nat.le_of_ble_eq_true rfl) ?_
  refine va_astq (D := (dC, dI)) hx hb hK hP hD hS 6 4 44 10 (al_he4 (X := xv8_0) (r := 24002) rfl rfl) rfl al_lastN rfl (by unfold vp_in; decide) dX8_init_105 (fun H locs hP hD hS => ?_)
  obtain ⟨u, hu, hM⟩ := al_extA (X := xv8_0) (X1 := xv8_1) (r := 24002) (h := 26000) (Y := [26000, 26001, 26002, 26003, 26004, 26005, 26006, 26007]) (ad := [o23, z25, z26, z27, z28, z29, z30, z31]) (k0 := 6) (o := 24000) (n := 0) cv8_0 rfl rfl hM.2.2.2 (by decide +kernel) rfl hP hD hS
  rw [← hu] at hl
  have hu0 := hu.trans hu0
  clear hu hP hD hS
  refine W.widen (k := 51) (n := 6680) (Nat.le_of_ble_eq_true rfl) (Nat.le_of_ble_eq_true rfl) ?_
  refine lv_iinc (v := 1) (lv' := [(1, .int 1), (0, .ref (u 24000))]) hx hb dX8_init_106 hl (k := 0) rfl rfl (by decide) rfl (fun ls hl => ?_)
  refine lv_goto (tgt := 84) hx hb dX8_init_109 (by decide) ?_
  exact kk u _ _ ls hu0 hM hl
set_option maxHeartbeats 4000000 in
set_option maxRecDepth 100000 in
theorem hv8_1 {p : Program} {l : Launch} {e : Env} {s : State} {m : MethodId} {args : Array Value} {below : List Frame} {meth : Method} {c : Code} {Q : State → Prop} {A : Nat → Prop} {dC : Nat → ClassId} {dI : Nat → Nat → Nat} {q : Nat → ClassId} (hx : p.tables.exec = Jvm.exec) (hb : c.code = cX8_init) (hml : c.maxLocals = 3) (hown : s.vm.findClass RX8 = some m.cls) (hts : ∀ w ∈ wsX8_init, w.before args s = true) (hA : ∀ q : Nat, s.heap.size ≤ q → A q) (hK : va_K (dC, dI) vwCl (uw_T q RX7) s) (hN_X8_44 : va_Nw (.methodLinkNest RX8 44 yX7_init "KnotHouse") s) (hAO : va_AO RX7 s) (hOI : ow_AO .int s) (u : Nat → Nat) (H : Heap) (locs : List Loc) (ls : Array Slot) {a0 : Nat} (hu0 : u 24000 = a0) (hM : al_M (dC, dI) vwCl xv8_1 q A s.heap u zeroS H locs) (hl : lv_has ls 3 [(1, .int 1), (0, .ref (u 24000))]) (kk : ∀ (u : Nat → Nat) (H : Heap) (locs : List Loc) (ls : Array Slot), u 24000 = a0 → al_M (dC, dI) vwCl xv8_2 q A s.heap u zeroS H locs → lv_has ls 3 [(1, .int 2), (0, .ref (u 24000))] → W p l e RI8 s m args below meth c H locs 59 6847 Q (F0 m 84 ls [])) : W p l e RI8 s m args below meth c H locs 51 6680 Q (F0 m 84 ls []) := by
  refine lv_iload_n hx hb dX8_init_84 rfl (lv_at hl 0 rfl) ?_
  refine lv_aload_n hx hb dX8_init_85 rfl (lv_at hl 1 rfl) ?_
  refine va_get (D := (dC, dI)) (ci := 11) (v := .ref (u 24002)) (C := RX8) (T := TX8) (N := 9) hx hb hts (by decide +kernel) hown hK hM.1 0 (al_he (X := xv8_1) (o := 24000) rfl rfl rfl) rfl 1 (by decide) (hts (.fieldLink RX8 22 "KnotHouse$Polynomials" "levels" "[LKnotHouse$Net;") (by decide +kernel)) (fun _ h9 => h9) rfl dX8_init_86 ?_
  refine va_alen (v := 13) hx hb hK hM.1 6 4 (al_he4' (X := xv8_1) (r := 24002) rfl rfl) rfl rfl dX8_init_89 ?_
  refine lv_icmp_ge (tgt := 112) hx hb dX8_init_90 (by decide) (fun c9 => absurd c9 (by decide)) (fun _ => ?_)
  refine lv_aload_n hx hb dX8_init_93 rfl (lv_at hl 1 rfl) ?_
  refine va_get (D := (dC, dI)) (ci := 11) (v := .ref (u 24002)) (C := RX8) (T := TX8) (N := 9) hx hb hts (by decide +kernel) hown hK hM.1 0 (al_he (X := xv8_1) (o := 24000) rfl rfl rfl) rfl 1 (by decide) (hts (.fieldLink RX8 22 "KnotHouse$Polynomials" "levels" "[LKnotHouse$Net;") (by decide +kernel)) (fun _ h9 => h9) rfl dX8_init_94 ?_
  refine lv_iload_n hx hb dX8_init_97 rfl (lv_at hl 0 rfl) ?_
  refine va_new (ci := 10) (fs := [.null, .null, .null, .null, .null, .null, .null, .int 0, .int 0, .int 0, .int 0]) (C := RX7) (T := TX7) (N := 11) hx hb hts (by decide +kernel) tyX7 tyX7_ok hown (hts (.classLink RX8 20 RX7) (by decide +kernel)) (hts (.instantiable RX7 11) (by decide +kernel)) (hts (.initialized RX7) (by decide +kernel)) hK hM.1 hM.2.1 hM.2.2.1 hA rfl (by decide +kernel) (Nat.le_of_ble_eq_true rfl) (Nat.le_of_ble_eq_true rfl) dX8_init_98 (fun o32 H hP hD hS => ?_)
  refine W.widen (k := 52) (n := 6691) (Nat.le_of_ble_eq_true rfl) (Nat.le_of_ble_eq_true rfl) ?_
  refine lv_dup hx hb dX8_init_101 rfl ?_
  have hPc := al_subP hP
  have hDc := al_subD hD
  have hFc := al_freeC hD hS hA
  refine va_callv (va_runIN (As := []) (rest := [.ref o32, .int 1, .ref (u 24002)]) ⟨hx, hb, hml, hown, hts⟩ (k_X7_init l dC dI (q 0) (q 1) (q 2) (q 3) o32 H.size) ⟨va_cnB (host := "KnotHouse") 0 hts gX8_init_X7_init_n44 rfl rfl rfl hN_X8_44 (hts (.initialized RX7) (by decide +kernel)) (by decide +kernel) ⟨(Nat.le_of_ble_eq_true rfl), (Nat.le_of_ble_eq_true rfl)⟩, rfl, hts (.instanceMethod yX7_init) (by decide +kernel)⟩ ⟨fun a U g mk q => by obtain ⟨q0, q1, qP, qK, qD⟩ := q; exact ⟨q0, q1, qP, va_K.moved (u := U) (U := U.calling g mk a) (Vm.Alike.refl U.vm) qK, qD⟩, fun U hU hW => ⟨rfl, by rw [hU], by rw [hU]; exact hPc, va_K.moved hW.alike (hK.sub [0, 1, 2, 3] rfl), hDc.weaken (fun _ _ _ _ => trivial)⟩⟩ rfl rfl hl.1 rfl (lv_room (Nat.le_of_ble_eq_true rfl)) dX8_init_102 ⟨(Nat.le_of_ble_eq_true rfl), (Nat.le_of_ble_eq_true rfl)⟩) hS (fun q _ h => hFc q h) hFc (fun t33 t H1 locs ht hvm hw hB hz1 hk1 hS => ?_)
  obtain ⟨z34, z35, z36, z37, z38, z39, z40⟩ := t33
  obtain ⟨hP1, hD1⟩ := hB
  rw [ht] at hP1
  obtain ⟨hP, hD⟩ := al_join hP hD hk1 hFc hP1 hD1
  clear hPc hDc hFc hvm hw hz1 hk1 hP1 hD1 ht
  refine W.widen (k := 59) (n := 6847) (Nat.le_of_ble_eq_true rfl) (Nat.le_of_ble_eq_true rfl) ?_
  refine va_astq (D := (dC, dI)) hx hb hK hP hD hS 6 4 52 10 (al_he4 (X := xv8_1) (r := 24002) rfl rfl) rfl al_lastN rfl (by unfold vp_in; decide) dX8_init_105 (fun H locs hP hD hS => ?_)
  obtain ⟨u, hu, hM⟩ := al_extA (X := xv8_1) (X1 := xv8_2) (r := 24002) (h := 27000) (Y := [27000, 27001, 27002, 27003, 27004, 27005, 27006, 27007]) (ad := [o32, z34, z35, z36, z37, z38, z39, z40]) (k0 := 6) (o := 24000) (n := 1) cv8_1 rfl rfl hM.2.2.2 (by decide +kernel) rfl hP hD hS
  rw [← hu] at hl
  have hu0 := hu.trans hu0
  clear hu hP hD hS
  refine W.widen (k := 59) (n := 6847) (Nat.le_of_ble_eq_true rfl) (Nat.le_of_ble_eq_true rfl) ?_
  refine lv_iinc (v := 2) (lv' := [(1, .int 2), (0, .ref (u 24000))]) hx hb dX8_init_106 hl (k := 0) rfl rfl (by decide) rfl (fun ls hl => ?_)
  refine lv_goto (tgt := 84) hx hb dX8_init_109 (by decide) ?_
  exact kk u _ _ ls hu0 hM hl
set_option maxHeartbeats 4000000 in
set_option maxRecDepth 100000 in
theorem hv8_2 {p : Program} {l : Launch} {e : Env} {s : State} {m : MethodId} {args : Array Value} {below : List Frame} {meth : Method} {c : Code} {Q : State → Prop} {A : Nat → Prop} {dC : Nat → ClassId} {dI : Nat → Nat → Nat} {q : Nat → ClassId} (hx : p.tables.exec = Jvm.exec) (hb : c.code = cX8_init) (hml : c.maxLocals = 3) (hown : s.vm.findClass RX8 = some m.cls) (hts : ∀ w ∈ wsX8_init, w.before args s = true) (hA : ∀ q : Nat, s.heap.size ≤ q → A q) (hK : va_K (dC, dI) vwCl (uw_T q RX7) s) (hN_X8_44 : va_Nw (.methodLinkNest RX8 44 yX7_init "KnotHouse") s) (hAO : va_AO RX7 s) (hOI : ow_AO .int s) (u : Nat → Nat) (H : Heap) (locs : List Loc) (ls : Array Slot) {a0 : Nat} (hu0 : u 24000 = a0) (hM : al_M (dC, dI) vwCl xv8_2 q A s.heap u zeroS H locs) (hl : lv_has ls 3 [(1, .int 2), (0, .ref (u 24000))]) (kk : ∀ (u : Nat → Nat) (H : Heap) (locs : List Loc) (ls : Array Slot), u 24000 = a0 → al_M (dC, dI) vwCl xv8_3 q A s.heap u zeroS H locs → lv_has ls 3 [(1, .int 3), (0, .ref (u 24000))] → W p l e RI8 s m args below meth c H locs 67 7014 Q (F0 m 84 ls [])) : W p l e RI8 s m args below meth c H locs 59 6847 Q (F0 m 84 ls []) := by
  refine lv_iload_n hx hb dX8_init_84 rfl (lv_at hl 0 rfl) ?_
  refine lv_aload_n hx hb dX8_init_85 rfl (lv_at hl 1 rfl) ?_
  refine va_get (D := (dC, dI)) (ci := 11) (v := .ref (u 24002)) (C := RX8) (T := TX8) (N := 9) hx hb hts (by decide +kernel) hown hK hM.1 0 (al_he (X := xv8_2) (o := 24000) rfl rfl rfl) rfl 1 (by decide) (hts (.fieldLink RX8 22 "KnotHouse$Polynomials" "levels" "[LKnotHouse$Net;") (by decide +kernel)) (fun _ h9 => h9) rfl dX8_init_86 ?_
  refine va_alen (v := 13) hx hb hK hM.1 6 4 (al_he4' (X := xv8_2) (r := 24002) rfl rfl) rfl rfl dX8_init_89 ?_
  refine lv_icmp_ge (tgt := 112) hx hb dX8_init_90 (by decide) (fun c9 => absurd c9 (by decide)) (fun _ => ?_)
  refine lv_aload_n hx hb dX8_init_93 rfl (lv_at hl 1 rfl) ?_
  refine va_get (D := (dC, dI)) (ci := 11) (v := .ref (u 24002)) (C := RX8) (T := TX8) (N := 9) hx hb hts (by decide +kernel) hown hK hM.1 0 (al_he (X := xv8_2) (o := 24000) rfl rfl rfl) rfl 1 (by decide) (hts (.fieldLink RX8 22 "KnotHouse$Polynomials" "levels" "[LKnotHouse$Net;") (by decide +kernel)) (fun _ h9 => h9) rfl dX8_init_94 ?_
  refine lv_iload_n hx hb dX8_init_97 rfl (lv_at hl 0 rfl) ?_
  refine va_new (ci := 10) (fs := [.null, .null, .null, .null, .null, .null, .null, .int 0, .int 0, .int 0, .int 0]) (C := RX7) (T := TX7) (N := 11) hx hb hts (by decide +kernel) tyX7 tyX7_ok hown (hts (.classLink RX8 20 RX7) (by decide +kernel)) (hts (.instantiable RX7 11) (by decide +kernel)) (hts (.initialized RX7) (by decide +kernel)) hK hM.1 hM.2.1 hM.2.2.1 hA rfl (by decide +kernel) (Nat.le_of_ble_eq_true rfl) (Nat.le_of_ble_eq_true rfl) dX8_init_98 (fun o41 H hP hD hS => ?_)
  refine W.widen (k := 60) (n := 6858) (Nat.le_of_ble_eq_true rfl) (Nat.le_of_ble_eq_true rfl) ?_
  refine lv_dup hx hb dX8_init_101 rfl ?_
  have hPc := al_subP hP
  have hDc := al_subD hD
  have hFc := al_freeC hD hS hA
  refine va_callv (va_runIN (As := []) (rest := [.ref o41, .int 2, .ref (u 24002)]) ⟨hx, hb, hml, hown, hts⟩ (k_X7_init l dC dI (q 0) (q 1) (q 2) (q 3) o41 H.size) ⟨va_cnB (host := "KnotHouse") 0 hts gX8_init_X7_init_n44 rfl rfl rfl hN_X8_44 (hts (.initialized RX7) (by decide +kernel)) (by decide +kernel) ⟨(Nat.le_of_ble_eq_true rfl), (Nat.le_of_ble_eq_true rfl)⟩, rfl, hts (.instanceMethod yX7_init) (by decide +kernel)⟩ ⟨fun a U g mk q => by obtain ⟨q0, q1, qP, qK, qD⟩ := q; exact ⟨q0, q1, qP, va_K.moved (u := U) (U := U.calling g mk a) (Vm.Alike.refl U.vm) qK, qD⟩, fun U hU hW => ⟨rfl, by rw [hU], by rw [hU]; exact hPc, va_K.moved hW.alike (hK.sub [0, 1, 2, 3] rfl), hDc.weaken (fun _ _ _ _ => trivial)⟩⟩ rfl rfl hl.1 rfl (lv_room (Nat.le_of_ble_eq_true rfl)) dX8_init_102 ⟨(Nat.le_of_ble_eq_true rfl), (Nat.le_of_ble_eq_true rfl)⟩) hS (fun q _ h => hFc q h) hFc (fun t42 t H1 locs ht hvm hw hB hz1 hk1 hS => ?_)
  obtain ⟨z43, z44, z45, z46, z47, z48, z49⟩ := t42
  obtain ⟨hP1, hD1⟩ := hB
  rw [ht] at hP1
  obtain ⟨hP, hD⟩ := al_join hP hD hk1 hFc hP1 hD1
  clear hPc hDc hFc hvm hw hz1 hk1 hP1 hD1 ht
  refine W.widen (k := 67) (n := 7014) (Nat.le_of_ble_eq_true rfl) (Nat.le_of_ble_eq_true rfl) ?_
  refine va_astq (D := (dC, dI)) hx hb hK hP hD hS 6 4 60 10 (al_he4 (X := xv8_2) (r := 24002) rfl rfl) rfl al_lastN rfl (by unfold vp_in; decide) dX8_init_105 (fun H locs hP hD hS => ?_)
  obtain ⟨u, hu, hM⟩ := al_extA (X := xv8_2) (X1 := xv8_3) (r := 24002) (h := 28000) (Y := [28000, 28001, 28002, 28003, 28004, 28005, 28006, 28007]) (ad := [o41, z43, z44, z45, z46, z47, z48, z49]) (k0 := 6) (o := 24000) (n := 2) cv8_2 rfl rfl hM.2.2.2 (by decide +kernel) rfl hP hD hS
  rw [← hu] at hl
  have hu0 := hu.trans hu0
  clear hu hP hD hS
  refine W.widen (k := 67) (n := 7014) (Nat.le_of_ble_eq_true rfl) (Nat.le_of_ble_eq_true rfl) ?_
  refine lv_iinc (v := 3) (lv' := [(1, .int 3), (0, .ref (u 24000))]) hx hb dX8_init_106 hl (k := 0) rfl rfl (by decide) rfl (fun ls hl => ?_)
  refine lv_goto (tgt := 84) hx hb dX8_init_109 (by decide) ?_
  exact kk u _ _ ls hu0 hM hl
set_option maxHeartbeats 4000000 in
set_option maxRecDepth 100000 in
theorem hv8_3 {p : Program} {l : Launch} {e : Env} {s : State} {m : MethodId} {args : Array Value} {below : List Frame} {meth : Method} {c : Code} {Q : State → Prop} {A : Nat → Prop} {dC : Nat → ClassId} {dI : Nat → Nat → Nat} {q : Nat → ClassId} (hx : p.tables.exec = Jvm.exec) (hb : c.code = cX8_init) (hml : c.maxLocals = 3) (hown : s.vm.findClass RX8 = some m.cls) (hts : ∀ w ∈ wsX8_init, w.before args s = true) (hA : ∀ q : Nat, s.heap.size ≤ q → A q) (hK : va_K (dC, dI) vwCl (uw_T q RX7) s) (hN_X8_44 : va_Nw (.methodLinkNest RX8 44 yX7_init "KnotHouse") s) (hAO : va_AO RX7 s) (hOI : ow_AO .int s) (u : Nat → Nat) (H : Heap) (locs : List Loc) (ls : Array Slot) {a0 : Nat} (hu0 : u 24000 = a0) (hM : al_M (dC, dI) vwCl xv8_3 q A s.heap u zeroS H locs) (hl : lv_has ls 3 [(1, .int 3), (0, .ref (u 24000))]) (kk : ∀ (u : Nat → Nat) (H : Heap) (locs : List Loc) (ls : Array Slot), u 24000 = a0 → al_M (dC, dI) vwCl xv8_4 q A s.heap u zeroS H locs → lv_has ls 3 [(1, .int 4), (0, .ref (u 24000))] → W p l e RI8 s m args below meth c H locs 75 7181 Q (F0 m 84 ls [])) : W p l e RI8 s m args below meth c H locs 67 7014 Q (F0 m 84 ls []) := by
  refine lv_iload_n hx hb dX8_init_84 rfl (lv_at hl 0 rfl) ?_
  refine lv_aload_n hx hb dX8_init_85 rfl (lv_at hl 1 rfl) ?_
  refine va_get (D := (dC, dI)) (ci := 11) (v := .ref (u 24002)) (C := RX8) (T := TX8) (N := 9) hx hb hts (by decide +kernel) hown hK hM.1 0 (al_he (X := xv8_3) (o := 24000) rfl rfl rfl) rfl 1 (by decide) (hts (.fieldLink RX8 22 "KnotHouse$Polynomials" "levels" "[LKnotHouse$Net;") (by decide +kernel)) (fun _ h9 => h9) rfl dX8_init_86 ?_
  refine va_alen (v := 13) hx hb hK hM.1 6 4 (al_he4' (X := xv8_3) (r := 24002) rfl rfl) rfl rfl dX8_init_89 ?_
  refine lv_icmp_ge (tgt := 112) hx hb dX8_init_90 (by decide) (fun c9 => absurd c9 (by decide)) (fun _ => ?_)
  refine lv_aload_n hx hb dX8_init_93 rfl (lv_at hl 1 rfl) ?_
  refine va_get (D := (dC, dI)) (ci := 11) (v := .ref (u 24002)) (C := RX8) (T := TX8) (N := 9) hx hb hts (by decide +kernel) hown hK hM.1 0 (al_he (X := xv8_3) (o := 24000) rfl rfl rfl) rfl 1 (by decide) (hts (.fieldLink RX8 22 "KnotHouse$Polynomials" "levels" "[LKnotHouse$Net;") (by decide +kernel)) (fun _ h9 => h9) rfl dX8_init_94 ?_
  refine lv_iload_n hx hb dX8_init_97 rfl (lv_at hl 0 rfl) ?_
  refine va_new (ci := 10) (fs := [.null, .null, .null, .null, .null, .null, .null, .int 0, .int 0, .int 0, .int 0]) (C := RX7) (T := TX7) (N := 11) hx hb hts (by decide +kernel) tyX7 tyX7_ok hown (hts (.classLink RX8 20 RX7) (by decide +kernel)) (hts (.instantiable RX7 11) (by decide +kernel)) (hts (.initialized RX7) (by decide +kernel)) hK hM.1 hM.2.1 hM.2.2.1 hA rfl (by decide +kernel) (Nat.le_of_ble_eq_true rfl) (Nat.le_of_ble_eq_true rfl) dX8_init_98 (fun o50 H hP hD hS => ?_)
  refine W.widen (k := 68) (n := 7025) (Nat.le_of_ble_eq_true rfl) (Nat.le_of_ble_eq_true rfl) ?_
  refine lv_dup hx hb dX8_init_101 rfl ?_
  have hPc := al_subP hP
  have hDc := al_subD hD
  have hFc := al_freeC hD hS hA
  refine va_callv (va_runIN (As := []) (rest := [.ref o50, .int 3, .ref (u 24002)]) ⟨hx, hb, hml, hown, hts⟩ (k_X7_init l dC dI (q 0) (q 1) (q 2) (q 3) o50 H.size) ⟨va_cnB (host := "KnotHouse") 0 hts gX8_init_X7_init_n44 rfl rfl rfl hN_X8_44 (hts (.initialized RX7) (by decide +kernel)) (by decide +kernel) ⟨(Nat.le_of_ble_eq_true rfl), (Nat.le_of_ble_eq_true rfl)⟩, rfl, hts (.instanceMethod yX7_init) (by decide +kernel)⟩ ⟨fun a U g mk q => by obtain ⟨q0, q1, qP, qK, qD⟩ := q; exact ⟨q0, q1, qP, va_K.moved (u := U) (U := U.calling g mk a) (Vm.Alike.refl U.vm) qK, qD⟩, fun U hU hW => ⟨rfl, by rw [hU], by rw [hU]; exact hPc, va_K.moved hW.alike (hK.sub [0, 1, 2, 3] rfl), hDc.weaken (fun _ _ _ _ => trivial)⟩⟩ rfl rfl hl.1 rfl (lv_room (Nat.le_of_ble_eq_true rfl)) dX8_init_102 ⟨(Nat.le_of_ble_eq_true rfl), (Nat.le_of_ble_eq_true rfl)⟩) hS (fun q _ h => hFc q h) hFc (fun t51 t H1 locs ht hvm hw hB hz1 hk1 hS => ?_)
  obtain ⟨z52, z53, z54, z55, z56, z57, z58⟩ := t51
  obtain ⟨hP1, hD1⟩ := hB
  rw [ht] at hP1
  obtain ⟨hP, hD⟩ := al_join hP hD hk1 hFc hP1 hD1
  clear hPc hDc hFc hvm hw hz1 hk1 hP1 hD1 ht
  refine W.widen (k := 75) (n := 7181) (Nat.le_of_ble_eq_true rfl) (Nat.le_of_ble_eq_true rfl) ?_
  refine va_astq (D := (dC, dI)) hx hb hK hP hD hS 6 4 68 10 (al_he4 (X := xv8_3) (r := 24002) rfl rfl) rfl al_lastN rfl (by unfold vp_in; decide) dX8_init_105 (fun H locs hP hD hS => ?_)
  obtain ⟨u, hu, hM⟩ := al_extA (X := xv8_3) (X1 := xv8_4) (r := 24002) (h := 29000) (Y := [29000, 29001, 29002, 29003, 29004, 29005, 29006, 29007]) (ad := [o50, z52, z53, z54, z55, z56, z57, z58]) (k0 := 6) (o := 24000) (n := 3) cv8_3 rfl rfl hM.2.2.2 (by decide +kernel) rfl hP hD hS
  rw [← hu] at hl
  have hu0 := hu.trans hu0
  clear hu hP hD hS
  refine W.widen (k := 75) (n := 7181) (Nat.le_of_ble_eq_true rfl) (Nat.le_of_ble_eq_true rfl) ?_
  refine lv_iinc (v := 4) (lv' := [(1, .int 4), (0, .ref (u 24000))]) hx hb dX8_init_106 hl (k := 0) rfl rfl (by decide) rfl (fun ls hl => ?_)
  refine lv_goto (tgt := 84) hx hb dX8_init_109 (by decide) ?_
  exact kk u _ _ ls hu0 hM hl
set_option maxHeartbeats 4000000 in
set_option maxRecDepth 100000 in
theorem hv8_4 {p : Program} {l : Launch} {e : Env} {s : State} {m : MethodId} {args : Array Value} {below : List Frame} {meth : Method} {c : Code} {Q : State → Prop} {A : Nat → Prop} {dC : Nat → ClassId} {dI : Nat → Nat → Nat} {q : Nat → ClassId} (hx : p.tables.exec = Jvm.exec) (hb : c.code = cX8_init) (hml : c.maxLocals = 3) (hown : s.vm.findClass RX8 = some m.cls) (hts : ∀ w ∈ wsX8_init, w.before args s = true) (hA : ∀ q : Nat, s.heap.size ≤ q → A q) (hK : va_K (dC, dI) vwCl (uw_T q RX7) s) (hN_X8_44 : va_Nw (.methodLinkNest RX8 44 yX7_init "KnotHouse") s) (hAO : va_AO RX7 s) (hOI : ow_AO .int s) (u : Nat → Nat) (H : Heap) (locs : List Loc) (ls : Array Slot) {a0 : Nat} (hu0 : u 24000 = a0) (hM : al_M (dC, dI) vwCl xv8_4 q A s.heap u zeroS H locs) (hl : lv_has ls 3 [(1, .int 4), (0, .ref (u 24000))]) (kk : ∀ (u : Nat → Nat) (H : Heap) (locs : List Loc) (ls : Array Slot), u 24000 = a0 → al_M (dC, dI) vwCl xv8_5 q A s.heap u zeroS H locs → lv_has ls 3 [(1, .int 5), (0, .ref (u 24000))] → W p l e RI8 s m args below meth c H locs 83 7348 Q (F0 m 84 ls [])) : W p l e RI8 s m args below meth c H locs 75 7181 Q (F0 m 84 ls []) := by
  refine lv_iload_n hx hb dX8_init_84 rfl (lv_at hl 0 rfl) ?_
  refine lv_aload_n hx hb dX8_init_85 rfl (lv_at hl 1 rfl) ?_
  refine va_get (D := (dC, dI)) (ci := 11) (v := .ref (u 24002)) (C := RX8) (T := TX8) (N := 9) hx hb hts (by decide +kernel) hown hK hM.1 0 (al_he (X := xv8_4) (o := 24000) rfl rfl rfl) rfl 1 (by decide) (hts (.fieldLink RX8 22 "KnotHouse$Polynomials" "levels" "[LKnotHouse$Net;") (by decide +kernel)) (fun _ h9 => h9) rfl dX8_init_86 ?_
  refine va_alen (v := 13) hx hb hK hM.1 6 4 (al_he4' (X := xv8_4) (r := 24002) rfl rfl) rfl rfl dX8_init_89 ?_
  refine lv_icmp_ge (tgt := 112) hx hb dX8_init_90 (by decide) (fun c9 => absurd c9 (by decide)) (fun _ => ?_)
  refine lv_aload_n hx hb dX8_init_93 rfl (lv_at hl 1 rfl) ?_
  refine va_get (D := (dC, dI)) (ci := 11) (v := .ref (u 24002)) (C := RX8) (T := TX8) (N := 9) hx hb hts (by decide +kernel) hown hK hM.1 0 (al_he (X := xv8_4) (o := 24000) rfl rfl rfl) rfl 1 (by decide) (hts (.fieldLink RX8 22 "KnotHouse$Polynomials" "levels" "[LKnotHouse$Net;") (by decide +kernel)) (fun _ h9 => h9) rfl dX8_init_94 ?_
  refine lv_iload_n hx hb dX8_init_97 rfl (lv_at hl 0 rfl) ?_
  refine va_new (ci := 10) (fs := [.null, .null, .null, .null, .null, .null, .null, .int 0, .int 0, .int 0, .int 0]) (C := RX7) (T := TX7) (N := 11) hx hb hts (by decide +kernel) tyX7 tyX7_ok hown (hts (.classLink RX8 20 RX7) (by decide +kernel)) (hts (.instantiable RX7 11) (by decide +kernel)) (hts (.initialized RX7) (by decide +kernel)) hK hM.1 hM.2.1 hM.2.2.1 hA rfl (by decide +kernel) (Nat.le_of_ble_eq_true rfl) (Nat.le_of_ble_eq_true rfl) dX8_init_98 (fun o59 H hP hD hS => ?_)
  refine W.widen (k := 76) (n := 7192) (Nat.le_of_ble_eq_true rfl) (Nat.le_of_ble_eq_true rfl) ?_
  refine lv_dup hx hb dX8_init_101 rfl ?_
  have hPc := al_subP hP
  have hDc := al_subD hD
  have hFc := al_freeC hD hS hA
  refine va_callv (va_runIN (As := []) (rest := [.ref o59, .int 4, .ref (u 24002)]) ⟨hx, hb, hml, hown, hts⟩ (k_X7_init l dC dI (q 0) (q 1) (q 2) (q 3) o59 H.size) ⟨va_cnB (host := "KnotHouse") 0 hts gX8_init_X7_init_n44 rfl rfl rfl hN_X8_44 (hts (.initialized RX7) (by decide +kernel)) (by decide +kernel) ⟨(Nat.le_of_ble_eq_true rfl), (Nat.le_of_ble_eq_true rfl)⟩, rfl, hts (.instanceMethod yX7_init) (by decide +kernel)⟩ ⟨fun a U g mk q => by obtain ⟨q0, q1, qP, qK, qD⟩ := q; exact ⟨q0, q1, qP, va_K.moved (u := U) (U := U.calling g mk a) (Vm.Alike.refl U.vm) qK, qD⟩, fun U hU hW => ⟨rfl, by rw [hU], by rw [hU]; exact hPc, va_K.moved hW.alike (hK.sub [0, 1, 2, 3] rfl), hDc.weaken (fun _ _ _ _ => trivial)⟩⟩ rfl rfl hl.1 rfl (lv_room (Nat.le_of_ble_eq_true rfl)) dX8_init_102 ⟨(Nat.le_of_ble_eq_true rfl), (Nat.le_of_ble_eq_true rfl)⟩) hS (fun q _ h => hFc q h) hFc (fun t60 t H1 locs ht hvm hw hB hz1 hk1 hS => ?_)
  obtain ⟨z61, z62, z63, z64, z65, z66, z67⟩ := t60
  obtain ⟨hP1, hD1⟩ := hB
  rw [ht] at hP1
  obtain ⟨hP, hD⟩ := al_join hP hD hk1 hFc hP1 hD1
  clear hPc hDc hFc hvm hw hz1 hk1 hP1 hD1 ht
  refine W.widen (k := 83) (n := 7348) (Nat.le_of_ble_eq_true rfl) (Nat.le_of_ble_eq_true rfl) ?_
  refine va_astq (D := (dC, dI)) hx hb hK hP hD hS 6 4 76 10 (al_he4 (X := xv8_4) (r := 24002) rfl rfl) rfl al_lastN rfl (by unfold vp_in; decide) dX8_init_105 (fun H locs hP hD hS => ?_)
  obtain ⟨u, hu, hM⟩ := al_extA (X := xv8_4) (X1 := xv8_5) (r := 24002) (h := 30000) (Y := [30000, 30001, 30002, 30003, 30004, 30005, 30006, 30007]) (ad := [o59, z61, z62, z63, z64, z65, z66, z67]) (k0 := 6) (o := 24000) (n := 4) cv8_4 rfl rfl hM.2.2.2 (by decide +kernel) rfl hP hD hS
  rw [← hu] at hl
  have hu0 := hu.trans hu0
  clear hu hP hD hS
  refine W.widen (k := 83) (n := 7348) (Nat.le_of_ble_eq_true rfl) (Nat.le_of_ble_eq_true rfl) ?_
  refine lv_iinc (v := 5) (lv' := [(1, .int 5), (0, .ref (u 24000))]) hx hb dX8_init_106 hl (k := 0) rfl rfl (by decide) rfl (fun ls hl => ?_)
  refine lv_goto (tgt := 84) hx hb dX8_init_109 (by decide) ?_
  exact kk u _ _ ls hu0 hM hl
set_option maxHeartbeats 4000000 in
set_option maxRecDepth 100000 in
theorem hv8_5 {p : Program} {l : Launch} {e : Env} {s : State} {m : MethodId} {args : Array Value} {below : List Frame} {meth : Method} {c : Code} {Q : State → Prop} {A : Nat → Prop} {dC : Nat → ClassId} {dI : Nat → Nat → Nat} {q : Nat → ClassId} (hx : p.tables.exec = Jvm.exec) (hb : c.code = cX8_init) (hml : c.maxLocals = 3) (hown : s.vm.findClass RX8 = some m.cls) (hts : ∀ w ∈ wsX8_init, w.before args s = true) (hA : ∀ q : Nat, s.heap.size ≤ q → A q) (hK : va_K (dC, dI) vwCl (uw_T q RX7) s) (hN_X8_44 : va_Nw (.methodLinkNest RX8 44 yX7_init "KnotHouse") s) (hAO : va_AO RX7 s) (hOI : ow_AO .int s) (u : Nat → Nat) (H : Heap) (locs : List Loc) (ls : Array Slot) {a0 : Nat} (hu0 : u 24000 = a0) (hM : al_M (dC, dI) vwCl xv8_5 q A s.heap u zeroS H locs) (hl : lv_has ls 3 [(1, .int 5), (0, .ref (u 24000))]) (kk : ∀ (u : Nat → Nat) (H : Heap) (locs : List Loc) (ls : Array Slot), u 24000 = a0 → al_M (dC, dI) vwCl xv8_6 q A s.heap u zeroS H locs → lv_has ls 3 [(1, .int 6), (0, .ref (u 24000))] → W p l e RI8 s m args below meth c H locs 91 7515 Q (F0 m 84 ls [])) : W p l e RI8 s m args below meth c H locs 83 7348 Q (F0 m 84 ls []) := by
  refine lv_iload_n hx hb dX8_init_84 rfl (lv_at hl 0 rfl) ?_
  refine lv_aload_n hx hb dX8_init_85 rfl (lv_at hl 1 rfl) ?_
  refine va_get (D := (dC, dI)) (ci := 11) (v := .ref (u 24002)) (C := RX8) (T := TX8) (N := 9) hx hb hts (by decide +kernel) hown hK hM.1 0 (al_he (X := xv8_5) (o := 24000) rfl rfl rfl) rfl 1 (by decide) (hts (.fieldLink RX8 22 "KnotHouse$Polynomials" "levels" "[LKnotHouse$Net;") (by decide +kernel)) (fun _ h9 => h9) rfl dX8_init_86 ?_
  refine va_alen (v := 13) hx hb hK hM.1 6 4 (al_he4' (X := xv8_5) (r := 24002) rfl rfl) rfl rfl dX8_init_89 ?_
  refine lv_icmp_ge (tgt := 112) hx hb dX8_init_90 (by decide) (fun c9 => absurd c9 (by decide)) (fun _ => ?_)
  refine lv_aload_n hx hb dX8_init_93 rfl (lv_at hl 1 rfl) ?_
  refine va_get (D := (dC, dI)) (ci := 11) (v := .ref (u 24002)) (C := RX8) (T := TX8) (N := 9) hx hb hts (by decide +kernel) hown hK hM.1 0 (al_he (X := xv8_5) (o := 24000) rfl rfl rfl) rfl 1 (by decide) (hts (.fieldLink RX8 22 "KnotHouse$Polynomials" "levels" "[LKnotHouse$Net;") (by decide +kernel)) (fun _ h9 => h9) rfl dX8_init_94 ?_
  refine lv_iload_n hx hb dX8_init_97 rfl (lv_at hl 0 rfl) ?_
  refine va_new (ci := 10) (fs := [.null, .null, .null, .null, .null, .null, .null, .int 0, .int 0, .int 0, .int 0]) (C := RX7) (T := TX7) (N := 11) hx hb hts (by decide +kernel) tyX7 tyX7_ok hown (hts (.classLink RX8 20 RX7) (by decide +kernel)) (hts (.instantiable RX7 11) (by decide +kernel)) (hts (.initialized RX7) (by decide +kernel)) hK hM.1 hM.2.1 hM.2.2.1 hA rfl (by decide +kernel) (Nat.le_of_ble_eq_true rfl) (Nat.le_of_ble_eq_true rfl) dX8_init_98 (fun o68 H hP hD hS => ?_)
  refine W.widen (k := 84) (n := 7359) (Nat.le_of_ble_eq_true rfl) (Nat.le_of_ble_eq_true rfl) ?_
  refine lv_dup hx hb dX8_init_101 rfl ?_
  have hPc := al_subP hP
  have hDc := al_subD hD
  have hFc := al_freeC hD hS hA
  refine va_callv (va_runIN (As := []) (rest := [.ref o68, .int 5, .ref (u 24002)]) ⟨hx, hb, hml, hown, hts⟩ (k_X7_init l dC dI (q 0) (q 1) (q 2) (q 3) o68 H.size) ⟨va_cnB (host := "KnotHouse") 0 hts gX8_init_X7_init_n44 rfl rfl rfl hN_X8_44 (hts (.initialized RX7) (by decide +kernel)) (by decide +kernel) ⟨(Nat.le_of_ble_eq_true rfl), (Nat.le_of_ble_eq_true rfl)⟩, rfl, hts (.instanceMethod yX7_init) (by decide +kernel)⟩ ⟨fun a U g mk q => by obtain ⟨q0, q1, qP, qK, qD⟩ := q; exact ⟨q0, q1, qP, va_K.moved (u := U) (U := U.calling g mk a) (Vm.Alike.refl U.vm) qK, qD⟩, fun U hU hW => ⟨rfl, by rw [hU], by rw [hU]; exact hPc, va_K.moved hW.alike (hK.sub [0, 1, 2, 3] rfl), hDc.weaken (fun _ _ _ _ => trivial)⟩⟩ rfl rfl hl.1 rfl (lv_room (Nat.le_of_ble_eq_true rfl)) dX8_init_102 ⟨(Nat.le_of_ble_eq_true rfl), (Nat.le_of_ble_eq_true rfl)⟩) hS (fun q _ h => hFc q h) hFc (fun t69 t H1 locs ht hvm hw hB hz1 hk1 hS => ?_)
  obtain ⟨z70, z71, z72, z73, z74, z75, z76⟩ := t69
  obtain ⟨hP1, hD1⟩ := hB
  rw [ht] at hP1
  obtain ⟨hP, hD⟩ := al_join hP hD hk1 hFc hP1 hD1
  clear hPc hDc hFc hvm hw hz1 hk1 hP1 hD1 ht
  refine W.widen (k := 91) (n := 7515) (Nat.le_of_ble_eq_true rfl) (Nat.le_of_ble_eq_true rfl) ?_
  refine va_astq (D := (dC, dI)) hx hb hK hP hD hS 6 4 84 10 (al_he4 (X := xv8_5) (r := 24002) rfl rfl) rfl al_lastN rfl (by unfold vp_in; decide) dX8_init_105 (fun H locs hP hD hS => ?_)
  obtain ⟨u, hu, hM⟩ := al_extA (X := xv8_5) (X1 := xv8_6) (r := 24002) (h := 31000) (Y := [31000, 31001, 31002, 31003, 31004, 31005, 31006, 31007]) (ad := [o68, z70, z71, z72, z73, z74, z75, z76]) (k0 := 6) (o := 24000) (n := 5) cv8_5 rfl rfl hM.2.2.2 (by decide +kernel) rfl hP hD hS
  rw [← hu] at hl
  have hu0 := hu.trans hu0
  clear hu hP hD hS
  refine W.widen (k := 91) (n := 7515) (Nat.le_of_ble_eq_true rfl) (Nat.le_of_ble_eq_true rfl) ?_
  refine lv_iinc (v := 6) (lv' := [(1, .int 6), (0, .ref (u 24000))]) hx hb dX8_init_106 hl (k := 0) rfl rfl (by decide) rfl (fun ls hl => ?_)
  refine lv_goto (tgt := 84) hx hb dX8_init_109 (by decide) ?_
  exact kk u _ _ ls hu0 hM hl
set_option maxHeartbeats 4000000 in
set_option maxRecDepth 100000 in
theorem hv8_6 {p : Program} {l : Launch} {e : Env} {s : State} {m : MethodId} {args : Array Value} {below : List Frame} {meth : Method} {c : Code} {Q : State → Prop} {A : Nat → Prop} {dC : Nat → ClassId} {dI : Nat → Nat → Nat} {q : Nat → ClassId} (hx : p.tables.exec = Jvm.exec) (hb : c.code = cX8_init) (hml : c.maxLocals = 3) (hown : s.vm.findClass RX8 = some m.cls) (hts : ∀ w ∈ wsX8_init, w.before args s = true) (hA : ∀ q : Nat, s.heap.size ≤ q → A q) (hK : va_K (dC, dI) vwCl (uw_T q RX7) s) (hN_X8_44 : va_Nw (.methodLinkNest RX8 44 yX7_init "KnotHouse") s) (hAO : va_AO RX7 s) (hOI : ow_AO .int s) (u : Nat → Nat) (H : Heap) (locs : List Loc) (ls : Array Slot) {a0 : Nat} (hu0 : u 24000 = a0) (hM : al_M (dC, dI) vwCl xv8_6 q A s.heap u zeroS H locs) (hl : lv_has ls 3 [(1, .int 6), (0, .ref (u 24000))]) (kk : ∀ (u : Nat → Nat) (H : Heap) (locs : List Loc) (ls : Array Slot), u 24000 = a0 → al_M (dC, dI) vwCl xv8_7 q A s.heap u zeroS H locs → lv_has ls 3 [(1, .int 7), (0, .ref (u 24000))] → W p l e RI8 s m args below meth c H locs 99 7682 Q (F0 m 84 ls [])) : W p l e RI8 s m args below meth c H locs 91 7515 Q (F0 m 84 ls []) := by
  refine lv_iload_n hx hb dX8_init_84 rfl (lv_at hl 0 rfl) ?_
  refine lv_aload_n hx hb dX8_init_85 rfl (lv_at hl 1 rfl) ?_
  refine va_get (D := (dC, dI)) (ci := 11) (v := .ref (u 24002)) (C := RX8) (T := TX8) (N := 9) hx hb hts (by decide +kernel) hown hK hM.1 0 (al_he (X := xv8_6) (o := 24000) rfl rfl rfl) rfl 1 (by decide) (hts (.fieldLink RX8 22 "KnotHouse$Polynomials" "levels" "[LKnotHouse$Net;") (by decide +kernel)) (fun _ h9 => h9) rfl dX8_init_86 ?_
  refine va_alen (v := 13) hx hb hK hM.1 6 4 (al_he4' (X := xv8_6) (r := 24002) rfl rfl) rfl rfl dX8_init_89 ?_
  refine lv_icmp_ge (tgt := 112) hx hb dX8_init_90 (by decide) (fun c9 => absurd c9 (by decide)) (fun _ => ?_)
  refine lv_aload_n hx hb dX8_init_93 rfl (lv_at hl 1 rfl) ?_
  refine va_get (D := (dC, dI)) (ci := 11) (v := .ref (u 24002)) (C := RX8) (T := TX8) (N := 9) hx hb hts (by decide +kernel) hown hK hM.1 0 (al_he (X := xv8_6) (o := 24000) rfl rfl rfl) rfl 1 (by decide) (hts (.fieldLink RX8 22 "KnotHouse$Polynomials" "levels" "[LKnotHouse$Net;") (by decide +kernel)) (fun _ h9 => h9) rfl dX8_init_94 ?_
  refine lv_iload_n hx hb dX8_init_97 rfl (lv_at hl 0 rfl) ?_
  refine va_new (ci := 10) (fs := [.null, .null, .null, .null, .null, .null, .null, .int 0, .int 0, .int 0, .int 0]) (C := RX7) (T := TX7) (N := 11) hx hb hts (by decide +kernel) tyX7 tyX7_ok hown (hts (.classLink RX8 20 RX7) (by decide +kernel)) (hts (.instantiable RX7 11) (by decide +kernel)) (hts (.initialized RX7) (by decide +kernel)) hK hM.1 hM.2.1 hM.2.2.1 hA rfl (by decide +kernel) (Nat.le_of_ble_eq_true rfl) (Nat.le_of_ble_eq_true rfl) dX8_init_98 (fun o77 H hP hD hS => ?_)
  refine W.widen (k := 92) (n := 7526) (Nat.le_of_ble_eq_true rfl) (Nat.le_of_ble_eq_true rfl) ?_
  refine lv_dup hx hb dX8_init_101 rfl ?_
  have hPc := al_subP hP
  have hDc := al_subD hD
  have hFc := al_freeC hD hS hA
  refine va_callv (va_runIN (As := []) (rest := [.ref o77, .int 6, .ref (u 24002)]) ⟨hx, hb, hml, hown, hts⟩ (k_X7_init l dC dI (q 0) (q 1) (q 2) (q 3) o77 H.size) ⟨va_cnB (host := "KnotHouse") 0 hts gX8_init_X7_init_n44 rfl rfl rfl hN_X8_44 (hts (.initialized RX7) (by decide +kernel)) (by decide +kernel) ⟨(Nat.le_of_ble_eq_true rfl), (Nat.le_of_ble_eq_true rfl)⟩, rfl, hts (.instanceMethod yX7_init) (by decide +kernel)⟩ ⟨fun a U g mk q => by obtain ⟨q0, q1, qP, qK, qD⟩ := q; exact ⟨q0, q1, qP, va_K.moved (u := U) (U := U.calling g mk a) (Vm.Alike.refl U.vm) qK, qD⟩, fun U hU hW => ⟨rfl, by rw [hU], by rw [hU]; exact hPc, va_K.moved hW.alike (hK.sub [0, 1, 2, 3] rfl), hDc.weaken (fun _ _ _ _ => trivial)⟩⟩ rfl rfl hl.1 rfl (lv_room (Nat.le_of_ble_eq_true rfl)) dX8_init_102 ⟨(Nat.le_of_ble_eq_true rfl), (Nat.le_of_ble_eq_true rfl)⟩) hS (fun q _ h => hFc q h) hFc (fun t78 t H1 locs ht hvm hw hB hz1 hk1 hS => ?_)
  obtain ⟨z79, z80, z81, z82, z83, z84, z85⟩ := t78
  obtain ⟨hP1, hD1⟩ := hB
  rw [ht] at hP1
  obtain ⟨hP, hD⟩ := al_join hP hD hk1 hFc hP1 hD1
  clear hPc hDc hFc hvm hw hz1 hk1 hP1 hD1 ht
  refine W.widen (k := 99) (n := 7682) (Nat.le_of_ble_eq_true rfl) (Nat.le_of_ble_eq_true rfl) ?_
  refine va_astq (D := (dC, dI)) hx hb hK hP hD hS 6 4 92 10 (al_he4 (X := xv8_6) (r := 24002) rfl rfl) rfl al_lastN rfl (by unfold vp_in; decide) dX8_init_105 (fun H locs hP hD hS => ?_)
  obtain ⟨u, hu, hM⟩ := al_extA (X := xv8_6) (X1 := xv8_7) (r := 24002) (h := 32000) (Y := [32000, 32001, 32002, 32003, 32004, 32005, 32006, 32007]) (ad := [o77, z79, z80, z81, z82, z83, z84, z85]) (k0 := 6) (o := 24000) (n := 6) cv8_6 rfl rfl hM.2.2.2 (by decide +kernel) rfl hP hD hS
  rw [← hu] at hl
  have hu0 := hu.trans hu0
  clear hu hP hD hS
  refine W.widen (k := 99) (n := 7682) (Nat.le_of_ble_eq_true rfl) (Nat.le_of_ble_eq_true rfl) ?_
  refine lv_iinc (v := 7) (lv' := [(1, .int 7), (0, .ref (u 24000))]) hx hb dX8_init_106 hl (k := 0) rfl rfl (by decide) rfl (fun ls hl => ?_)
  refine lv_goto (tgt := 84) hx hb dX8_init_109 (by decide) ?_
  exact kk u _ _ ls hu0 hM hl
set_option maxHeartbeats 4000000 in
set_option maxRecDepth 100000 in
theorem hv8_7 {p : Program} {l : Launch} {e : Env} {s : State} {m : MethodId} {args : Array Value} {below : List Frame} {meth : Method} {c : Code} {Q : State → Prop} {A : Nat → Prop} {dC : Nat → ClassId} {dI : Nat → Nat → Nat} {q : Nat → ClassId} (hx : p.tables.exec = Jvm.exec) (hb : c.code = cX8_init) (hml : c.maxLocals = 3) (hown : s.vm.findClass RX8 = some m.cls) (hts : ∀ w ∈ wsX8_init, w.before args s = true) (hA : ∀ q : Nat, s.heap.size ≤ q → A q) (hK : va_K (dC, dI) vwCl (uw_T q RX7) s) (hN_X8_44 : va_Nw (.methodLinkNest RX8 44 yX7_init "KnotHouse") s) (hAO : va_AO RX7 s) (hOI : ow_AO .int s) (u : Nat → Nat) (H : Heap) (locs : List Loc) (ls : Array Slot) {a0 : Nat} (hu0 : u 24000 = a0) (hM : al_M (dC, dI) vwCl xv8_7 q A s.heap u zeroS H locs) (hl : lv_has ls 3 [(1, .int 7), (0, .ref (u 24000))]) (kk : ∀ (u : Nat → Nat) (H : Heap) (locs : List Loc) (ls : Array Slot), u 24000 = a0 → al_M (dC, dI) vwCl xv8_8 q A s.heap u zeroS H locs → lv_has ls 3 [(1, .int 8), (0, .ref (u 24000))] → W p l e RI8 s m args below meth c H locs 107 7849 Q (F0 m 84 ls [])) : W p l e RI8 s m args below meth c H locs 99 7682 Q (F0 m 84 ls []) := by
  refine lv_iload_n hx hb dX8_init_84 rfl (lv_at hl 0 rfl) ?_
  refine lv_aload_n hx hb dX8_init_85 rfl (lv_at hl 1 rfl) ?_
  refine va_get (D := (dC, dI)) (ci := 11) (v := .ref (u 24002)) (C := RX8) (T := TX8) (N := 9) hx hb hts (by decide +kernel) hown hK hM.1 0 (al_he (X := xv8_7) (o := 24000) rfl rfl rfl) rfl 1 (by decide) (hts (.fieldLink RX8 22 "KnotHouse$Polynomials" "levels" "[LKnotHouse$Net;") (by decide +kernel)) (fun _ h9 => h9) rfl dX8_init_86 ?_
  refine va_alen (v := 13) hx hb hK hM.1 6 4 (al_he4' (X := xv8_7) (r := 24002) rfl rfl) rfl rfl dX8_init_89 ?_
  refine lv_icmp_ge (tgt := 112) hx hb dX8_init_90 (by decide) (fun c9 => absurd c9 (by decide)) (fun _ => ?_)
  refine lv_aload_n hx hb dX8_init_93 rfl (lv_at hl 1 rfl) ?_
  refine va_get (D := (dC, dI)) (ci := 11) (v := .ref (u 24002)) (C := RX8) (T := TX8) (N := 9) hx hb hts (by decide +kernel) hown hK hM.1 0 (al_he (X := xv8_7) (o := 24000) rfl rfl rfl) rfl 1 (by decide) (hts (.fieldLink RX8 22 "KnotHouse$Polynomials" "levels" "[LKnotHouse$Net;") (by decide +kernel)) (fun _ h9 => h9) rfl dX8_init_94 ?_
  refine lv_iload_n hx hb dX8_init_97 rfl (lv_at hl 0 rfl) ?_
  refine va_new (ci := 10) (fs := [.null, .null, .null, .null, .null, .null, .null, .int 0, .int 0, .int 0, .int 0]) (C := RX7) (T := TX7) (N := 11) hx hb hts (by decide +kernel) tyX7 tyX7_ok hown (hts (.classLink RX8 20 RX7) (by decide +kernel)) (hts (.instantiable RX7 11) (by decide +kernel)) (hts (.initialized RX7) (by decide +kernel)) hK hM.1 hM.2.1 hM.2.2.1 hA rfl (by decide +kernel) (Nat.le_of_ble_eq_true rfl) (Nat.le_of_ble_eq_true rfl) dX8_init_98 (fun o86 H hP hD hS => ?_)
  refine W.widen (k := 100) (n := 7693) (Nat.le_of_ble_eq_true rfl) (Nat.le_of_ble_eq_true rfl) ?_
  refine lv_dup hx hb dX8_init_101 rfl ?_
  have hPc := al_subP hP
  have hDc := al_subD hD
  have hFc := al_freeC hD hS hA
  refine va_callv (va_runIN (As := []) (rest := [.ref o86, .int 7, .ref (u 24002)]) ⟨hx, hb, hml, hown, hts⟩ (k_X7_init l dC dI (q 0) (q 1) (q 2) (q 3) o86 H.size) ⟨va_cnB (host := "KnotHouse") 0 hts gX8_init_X7_init_n44 rfl rfl rfl hN_X8_44 (hts (.initialized RX7) (by decide +kernel)) (by decide +kernel) ⟨(Nat.le_of_ble_eq_true rfl), (Nat.le_of_ble_eq_true rfl)⟩, rfl, hts (.instanceMethod yX7_init) (by decide +kernel)⟩ ⟨fun a U g mk q => by obtain ⟨q0, q1, qP, qK, qD⟩ := q; exact ⟨q0, q1, qP, va_K.moved (u := U) (U := U.calling g mk a) (Vm.Alike.refl U.vm) qK, qD⟩, fun U hU hW => ⟨rfl, by rw [hU], by rw [hU]; exact hPc, va_K.moved hW.alike (hK.sub [0, 1, 2, 3] rfl), hDc.weaken (fun _ _ _ _ => trivial)⟩⟩ rfl rfl hl.1 rfl (lv_room (Nat.le_of_ble_eq_true rfl)) dX8_init_102 ⟨(Nat.le_of_ble_eq_true rfl), (Nat.le_of_ble_eq_true rfl)⟩) hS (fun q _ h => hFc q h) hFc (fun t87 t H1 locs ht hvm hw hB hz1 hk1 hS => ?_)
  obtain ⟨z88, z89, z90, z91, z92, z93, z94⟩ := t87
  obtain ⟨hP1, hD1⟩ := hB
  rw [ht] at hP1
  obtain ⟨hP, hD⟩ := al_join hP hD hk1 hFc hP1 hD1
  clear hPc hDc hFc hvm hw hz1 hk1 hP1 hD1 ht
  refine W.widen (k := 107) (n := 7849) (Nat.le_of_ble_eq_true rfl) (Nat.le_of_ble_eq_true rfl) ?_
  refine va_astq (D := (dC, dI)) hx hb hK hP hD hS 6 4 100 10 (al_he4 (X := xv8_7) (r := 24002) rfl rfl) rfl al_lastN rfl (by unfold vp_in; decide) dX8_init_105 (fun H locs hP hD hS => ?_)
  obtain ⟨u, hu, hM⟩ := al_extA (X := xv8_7) (X1 := xv8_8) (r := 24002) (h := 33000) (Y := [33000, 33001, 33002, 33003, 33004, 33005, 33006, 33007]) (ad := [o86, z88, z89, z90, z91, z92, z93, z94]) (k0 := 6) (o := 24000) (n := 7) cv8_7 rfl rfl hM.2.2.2 (by decide +kernel) rfl hP hD hS
  rw [← hu] at hl
  have hu0 := hu.trans hu0
  clear hu hP hD hS
  refine W.widen (k := 107) (n := 7849) (Nat.le_of_ble_eq_true rfl) (Nat.le_of_ble_eq_true rfl) ?_
  refine lv_iinc (v := 8) (lv' := [(1, .int 8), (0, .ref (u 24000))]) hx hb dX8_init_106 hl (k := 0) rfl rfl (by decide) rfl (fun ls hl => ?_)
  refine lv_goto (tgt := 84) hx hb dX8_init_109 (by decide) ?_
  exact kk u _ _ ls hu0 hM hl
set_option maxHeartbeats 4000000 in
set_option maxRecDepth 100000 in
theorem hv8_8 {p : Program} {l : Launch} {e : Env} {s : State} {m : MethodId} {args : Array Value} {below : List Frame} {meth : Method} {c : Code} {Q : State → Prop} {A : Nat → Prop} {dC : Nat → ClassId} {dI : Nat → Nat → Nat} {q : Nat → ClassId} (hx : p.tables.exec = Jvm.exec) (hb : c.code = cX8_init) (hml : c.maxLocals = 3) (hown : s.vm.findClass RX8 = some m.cls) (hts : ∀ w ∈ wsX8_init, w.before args s = true) (hA : ∀ q : Nat, s.heap.size ≤ q → A q) (hK : va_K (dC, dI) vwCl (uw_T q RX7) s) (hN_X8_44 : va_Nw (.methodLinkNest RX8 44 yX7_init "KnotHouse") s) (hAO : va_AO RX7 s) (hOI : ow_AO .int s) (u : Nat → Nat) (H : Heap) (locs : List Loc) (ls : Array Slot) {a0 : Nat} (hu0 : u 24000 = a0) (hM : al_M (dC, dI) vwCl xv8_8 q A s.heap u zeroS H locs) (hl : lv_has ls 3 [(1, .int 8), (0, .ref (u 24000))]) (kk : ∀ (u : Nat → Nat) (H : Heap) (locs : List Loc) (ls : Array Slot), u 24000 = a0 → al_M (dC, dI) vwCl xv8_9 q A s.heap u zeroS H locs → lv_has ls 3 [(1, .int 9), (0, .ref (u 24000))] → W p l e RI8 s m args below meth c H locs 115 8016 Q (F0 m 84 ls [])) : W p l e RI8 s m args below meth c H locs 107 7849 Q (F0 m 84 ls []) := by
  refine lv_iload_n hx hb dX8_init_84 rfl (lv_at hl 0 rfl) ?_
  refine lv_aload_n hx hb dX8_init_85 rfl (lv_at hl 1 rfl) ?_
  refine va_get (D := (dC, dI)) (ci := 11) (v := .ref (u 24002)) (C := RX8) (T := TX8) (N := 9) hx hb hts (by decide +kernel) hown hK hM.1 0 (al_he (X := xv8_8) (o := 24000) rfl rfl rfl) rfl 1 (by decide) (hts (.fieldLink RX8 22 "KnotHouse$Polynomials" "levels" "[LKnotHouse$Net;") (by decide +kernel)) (fun _ h9 => h9) rfl dX8_init_86 ?_
  refine va_alen (v := 13) hx hb hK hM.1 6 4 (al_he4' (X := xv8_8) (r := 24002) rfl rfl) rfl rfl dX8_init_89 ?_
  refine lv_icmp_ge (tgt := 112) hx hb dX8_init_90 (by decide) (fun c9 => absurd c9 (by decide)) (fun _ => ?_)
  refine lv_aload_n hx hb dX8_init_93 rfl (lv_at hl 1 rfl) ?_
  refine va_get (D := (dC, dI)) (ci := 11) (v := .ref (u 24002)) (C := RX8) (T := TX8) (N := 9) hx hb hts (by decide +kernel) hown hK hM.1 0 (al_he (X := xv8_8) (o := 24000) rfl rfl rfl) rfl 1 (by decide) (hts (.fieldLink RX8 22 "KnotHouse$Polynomials" "levels" "[LKnotHouse$Net;") (by decide +kernel)) (fun _ h9 => h9) rfl dX8_init_94 ?_
  refine lv_iload_n hx hb dX8_init_97 rfl (lv_at hl 0 rfl) ?_
  refine va_new (ci := 10) (fs := [.null, .null, .null, .null, .null, .null, .null, .int 0, .int 0, .int 0, .int 0]) (C := RX7) (T := TX7) (N := 11) hx hb hts (by decide +kernel) tyX7 tyX7_ok hown (hts (.classLink RX8 20 RX7) (by decide +kernel)) (hts (.instantiable RX7 11) (by decide +kernel)) (hts (.initialized RX7) (by decide +kernel)) hK hM.1 hM.2.1 hM.2.2.1 hA rfl (by decide +kernel) (Nat.le_of_ble_eq_true rfl) (Nat.le_of_ble_eq_true rfl) dX8_init_98 (fun o95 H hP hD hS => ?_)
  refine W.widen (k := 108) (n := 7860) (Nat.le_of_ble_eq_true rfl) (Nat.le_of_ble_eq_true rfl) ?_
  refine lv_dup hx hb dX8_init_101 rfl ?_
  have hPc := al_subP hP
  have hDc := al_subD hD
  have hFc := al_freeC hD hS hA
  refine va_callv (va_runIN (As := []) (rest := [.ref o95, .int 8, .ref (u 24002)]) ⟨hx, hb, hml, hown, hts⟩ (k_X7_init l dC dI (q 0) (q 1) (q 2) (q 3) o95 H.size) ⟨va_cnB (host := "KnotHouse") 0 hts gX8_init_X7_init_n44 rfl rfl rfl hN_X8_44 (hts (.initialized RX7) (by decide +kernel)) (by decide +kernel) ⟨(Nat.le_of_ble_eq_true rfl), (Nat.le_of_ble_eq_true rfl)⟩, rfl, hts (.instanceMethod yX7_init) (by decide +kernel)⟩ ⟨fun a U g mk q => by obtain ⟨q0, q1, qP, qK, qD⟩ := q; exact ⟨q0, q1, qP, va_K.moved (u := U) (U := U.calling g mk a) (Vm.Alike.refl U.vm) qK, qD⟩, fun U hU hW => ⟨rfl, by rw [hU], by rw [hU]; exact hPc, va_K.moved hW.alike (hK.sub [0, 1, 2, 3] rfl), hDc.weaken (fun _ _ _ _ => trivial)⟩⟩ rfl rfl hl.1 rfl (lv_room (Nat.le_of_ble_eq_true rfl)) dX8_init_102 ⟨(Nat.le_of_ble_eq_true rfl), (Nat.le_of_ble_eq_true rfl)⟩) hS (fun q _ h => hFc q h) hFc (fun t96 t H1 locs ht hvm hw hB hz1 hk1 hS => ?_)
  obtain ⟨z97, z98, z99, z100, z101, z102, z103⟩ := t96
  obtain ⟨hP1, hD1⟩ := hB
  rw [ht] at hP1
  obtain ⟨hP, hD⟩ := al_join hP hD hk1 hFc hP1 hD1
  clear hPc hDc hFc hvm hw hz1 hk1 hP1 hD1 ht
  refine W.widen (k := 115) (n := 8016) (Nat.le_of_ble_eq_true rfl) (Nat.le_of_ble_eq_true rfl) ?_
  refine va_astq (D := (dC, dI)) hx hb hK hP hD hS 6 4 108 10 (al_he4 (X := xv8_8) (r := 24002) rfl rfl) rfl al_lastN rfl (by unfold vp_in; decide) dX8_init_105 (fun H locs hP hD hS => ?_)
  obtain ⟨u, hu, hM⟩ := al_extA (X := xv8_8) (X1 := xv8_9) (r := 24002) (h := 34000) (Y := [34000, 34001, 34002, 34003, 34004, 34005, 34006, 34007]) (ad := [o95, z97, z98, z99, z100, z101, z102, z103]) (k0 := 6) (o := 24000) (n := 8) cv8_8 rfl rfl hM.2.2.2 (by decide +kernel) rfl hP hD hS
  rw [← hu] at hl
  have hu0 := hu.trans hu0
  clear hu hP hD hS
  refine W.widen (k := 115) (n := 8016) (Nat.le_of_ble_eq_true rfl) (Nat.le_of_ble_eq_true rfl) ?_
  refine lv_iinc (v := 9) (lv' := [(1, .int 9), (0, .ref (u 24000))]) hx hb dX8_init_106 hl (k := 0) rfl rfl (by decide) rfl (fun ls hl => ?_)
  refine lv_goto (tgt := 84) hx hb dX8_init_109 (by decide) ?_
  exact kk u _ _ ls hu0 hM hl
set_option maxHeartbeats 4000000 in
set_option maxRecDepth 100000 in
theorem hv8_9 {p : Program} {l : Launch} {e : Env} {s : State} {m : MethodId} {args : Array Value} {below : List Frame} {meth : Method} {c : Code} {Q : State → Prop} {A : Nat → Prop} {dC : Nat → ClassId} {dI : Nat → Nat → Nat} {q : Nat → ClassId} (hx : p.tables.exec = Jvm.exec) (hb : c.code = cX8_init) (hml : c.maxLocals = 3) (hown : s.vm.findClass RX8 = some m.cls) (hts : ∀ w ∈ wsX8_init, w.before args s = true) (hA : ∀ q : Nat, s.heap.size ≤ q → A q) (hK : va_K (dC, dI) vwCl (uw_T q RX7) s) (hN_X8_44 : va_Nw (.methodLinkNest RX8 44 yX7_init "KnotHouse") s) (hAO : va_AO RX7 s) (hOI : ow_AO .int s) (u : Nat → Nat) (H : Heap) (locs : List Loc) (ls : Array Slot) {a0 : Nat} (hu0 : u 24000 = a0) (hM : al_M (dC, dI) vwCl xv8_9 q A s.heap u zeroS H locs) (hl : lv_has ls 3 [(1, .int 9), (0, .ref (u 24000))]) (kk : ∀ (u : Nat → Nat) (H : Heap) (locs : List Loc) (ls : Array Slot), u 24000 = a0 → al_M (dC, dI) vwCl xv8_10 q A s.heap u zeroS H locs → lv_has ls 3 [(1, .int 10), (0, .ref (u 24000))] → W p l e RI8 s m args below meth c H locs 123 8183 Q (F0 m 84 ls [])) : W p l e RI8 s m args below meth c H locs 115 8016 Q (F0 m 84 ls []) := by
  refine lv_iload_n hx hb dX8_init_84 rfl (lv_at hl 0 rfl) ?_
  refine lv_aload_n hx hb dX8_init_85 rfl (lv_at hl 1 rfl) ?_
  refine va_get (D := (dC, dI)) (ci := 11) (v := .ref (u 24002)) (C := RX8) (T := TX8) (N := 9) hx hb hts (by decide +kernel) hown hK hM.1 0 (al_he (X := xv8_9) (o := 24000) rfl rfl rfl) rfl 1 (by decide) (hts (.fieldLink RX8 22 "KnotHouse$Polynomials" "levels" "[LKnotHouse$Net;") (by decide +kernel)) (fun _ h9 => h9) rfl dX8_init_86 ?_
  refine va_alen (v := 13) hx hb hK hM.1 6 4 (al_he4' (X := xv8_9) (r := 24002) rfl rfl) rfl rfl dX8_init_89 ?_
  refine lv_icmp_ge (tgt := 112) hx hb dX8_init_90 (by decide) (fun c9 => absurd c9 (by decide)) (fun _ => ?_)
  refine lv_aload_n hx hb dX8_init_93 rfl (lv_at hl 1 rfl) ?_
  refine va_get (D := (dC, dI)) (ci := 11) (v := .ref (u 24002)) (C := RX8) (T := TX8) (N := 9) hx hb hts (by decide +kernel) hown hK hM.1 0 (al_he (X := xv8_9) (o := 24000) rfl rfl rfl) rfl 1 (by decide) (hts (.fieldLink RX8 22 "KnotHouse$Polynomials" "levels" "[LKnotHouse$Net;") (by decide +kernel)) (fun _ h9 => h9) rfl dX8_init_94 ?_
  refine lv_iload_n hx hb dX8_init_97 rfl (lv_at hl 0 rfl) ?_
  refine va_new (ci := 10) (fs := [.null, .null, .null, .null, .null, .null, .null, .int 0, .int 0, .int 0, .int 0]) (C := RX7) (T := TX7) (N := 11) hx hb hts (by decide +kernel) tyX7 tyX7_ok hown (hts (.classLink RX8 20 RX7) (by decide +kernel)) (hts (.instantiable RX7 11) (by decide +kernel)) (hts (.initialized RX7) (by decide +kernel)) hK hM.1 hM.2.1 hM.2.2.1 hA rfl (by decide +kernel) (Nat.le_of_ble_eq_true rfl) (Nat.le_of_ble_eq_true rfl) dX8_init_98 (fun o104 H hP hD hS => ?_)
  refine W.widen (k := 116) (n := 8027) (Nat.le_of_ble_eq_true rfl) (Nat.le_of_ble_eq_true rfl) ?_
  refine lv_dup hx hb dX8_init_101 rfl ?_
  have hPc := al_subP hP
  have hDc := al_subD hD
  have hFc := al_freeC hD hS hA
  refine va_callv (va_runIN (As := []) (rest := [.ref o104, .int 9, .ref (u 24002)]) ⟨hx, hb, hml, hown, hts⟩ (k_X7_init l dC dI (q 0) (q 1) (q 2) (q 3) o104 H.size) ⟨va_cnB (host := "KnotHouse") 0 hts gX8_init_X7_init_n44 rfl rfl rfl hN_X8_44 (hts (.initialized RX7) (by decide +kernel)) (by decide +kernel) ⟨(Nat.le_of_ble_eq_true rfl), (Nat.le_of_ble_eq_true rfl)⟩, rfl, hts (.instanceMethod yX7_init) (by decide +kernel)⟩ ⟨fun a U g mk q => by obtain ⟨q0, q1, qP, qK, qD⟩ := q; exact ⟨q0, q1, qP, va_K.moved (u := U) (U := U.calling g mk a) (Vm.Alike.refl U.vm) qK, qD⟩, fun U hU hW => ⟨rfl, by rw [hU], by rw [hU]; exact hPc, va_K.moved hW.alike (hK.sub [0, 1, 2, 3] rfl), hDc.weaken (fun _ _ _ _ => trivial)⟩⟩ rfl rfl hl.1 rfl (lv_room (Nat.le_of_ble_eq_true rfl)) dX8_init_102 ⟨(Nat.le_of_ble_eq_true rfl), (Nat.le_of_ble_eq_true rfl)⟩) hS (fun q _ h => hFc q h) hFc (fun t105 t H1 locs ht hvm hw hB hz1 hk1 hS => ?_)
  obtain ⟨z106, z107, z108, z109, z110, z111, z112⟩ := t105
  obtain ⟨hP1, hD1⟩ := hB
  rw [ht] at hP1
  obtain ⟨hP, hD⟩ := al_join hP hD hk1 hFc hP1 hD1
  clear hPc hDc hFc hvm hw hz1 hk1 hP1 hD1 ht
  refine W.widen (k := 123) (n := 8183) (Nat.le_of_ble_eq_true rfl) (Nat.le_of_ble_eq_true rfl) ?_
  refine va_astq (D := (dC, dI)) hx hb hK hP hD hS 6 4 116 10 (al_he4 (X := xv8_9) (r := 24002) rfl rfl) rfl al_lastN rfl (by unfold vp_in; decide) dX8_init_105 (fun H locs hP hD hS => ?_)
  obtain ⟨u, hu, hM⟩ := al_extA (X := xv8_9) (X1 := xv8_10) (r := 24002) (h := 35000) (Y := [35000, 35001, 35002, 35003, 35004, 35005, 35006, 35007]) (ad := [o104, z106, z107, z108, z109, z110, z111, z112]) (k0 := 6) (o := 24000) (n := 9) cv8_9 rfl rfl hM.2.2.2 (by decide +kernel) rfl hP hD hS
  rw [← hu] at hl
  have hu0 := hu.trans hu0
  clear hu hP hD hS
  refine W.widen (k := 123) (n := 8183) (Nat.le_of_ble_eq_true rfl) (Nat.le_of_ble_eq_true rfl) ?_
  refine lv_iinc (v := 10) (lv' := [(1, .int 10), (0, .ref (u 24000))]) hx hb dX8_init_106 hl (k := 0) rfl rfl (by decide) rfl (fun ls hl => ?_)
  refine lv_goto (tgt := 84) hx hb dX8_init_109 (by decide) ?_
  exact kk u _ _ ls hu0 hM hl
set_option maxHeartbeats 4000000 in
set_option maxRecDepth 100000 in
theorem hv8_10 {p : Program} {l : Launch} {e : Env} {s : State} {m : MethodId} {args : Array Value} {below : List Frame} {meth : Method} {c : Code} {Q : State → Prop} {A : Nat → Prop} {dC : Nat → ClassId} {dI : Nat → Nat → Nat} {q : Nat → ClassId} (hx : p.tables.exec = Jvm.exec) (hb : c.code = cX8_init) (hml : c.maxLocals = 3) (hown : s.vm.findClass RX8 = some m.cls) (hts : ∀ w ∈ wsX8_init, w.before args s = true) (hA : ∀ q : Nat, s.heap.size ≤ q → A q) (hK : va_K (dC, dI) vwCl (uw_T q RX7) s) (hN_X8_44 : va_Nw (.methodLinkNest RX8 44 yX7_init "KnotHouse") s) (hAO : va_AO RX7 s) (hOI : ow_AO .int s) (u : Nat → Nat) (H : Heap) (locs : List Loc) (ls : Array Slot) {a0 : Nat} (hu0 : u 24000 = a0) (hM : al_M (dC, dI) vwCl xv8_10 q A s.heap u zeroS H locs) (hl : lv_has ls 3 [(1, .int 10), (0, .ref (u 24000))]) (kk : ∀ (u : Nat → Nat) (H : Heap) (locs : List Loc) (ls : Array Slot), u 24000 = a0 → al_M (dC, dI) vwCl xv8_11 q A s.heap u zeroS H locs → lv_has ls 3 [(1, .int 11), (0, .ref (u 24000))] → W p l e RI8 s m args below meth c H locs 131 8350 Q (F0 m 84 ls [])) : W p l e RI8 s m args below meth c H locs 123 8183 Q (F0 m 84 ls []) := by
  refine lv_iload_n hx hb dX8_init_84 rfl (lv_at hl 0 rfl) ?_
  refine lv_aload_n hx hb dX8_init_85 rfl (lv_at hl 1 rfl) ?_
  refine va_get (D := (dC, dI)) (ci := 11) (v := .ref (u 24002)) (C := RX8) (T := TX8) (N := 9) hx hb hts (by decide +kernel) hown hK hM.1 0 (al_he (X := xv8_10) (o := 24000) rfl rfl rfl) rfl 1 (by decide) (hts (.fieldLink RX8 22 "KnotHouse$Polynomials" "levels" "[LKnotHouse$Net;") (by decide +kernel)) (fun _ h9 => h9) rfl dX8_init_86 ?_
  refine va_alen (v := 13) hx hb hK hM.1 6 4 (al_he4' (X := xv8_10) (r := 24002) rfl rfl) rfl rfl dX8_init_89 ?_
  refine lv_icmp_ge (tgt := 112) hx hb dX8_init_90 (by decide) (fun c9 => absurd c9 (by decide)) (fun _ => ?_)
  refine lv_aload_n hx hb dX8_init_93 rfl (lv_at hl 1 rfl) ?_
  refine va_get (D := (dC, dI)) (ci := 11) (v := .ref (u 24002)) (C := RX8) (T := TX8) (N := 9) hx hb hts (by decide +kernel) hown hK hM.1 0 (al_he (X := xv8_10) (o := 24000) rfl rfl rfl) rfl 1 (by decide) (hts (.fieldLink RX8 22 "KnotHouse$Polynomials" "levels" "[LKnotHouse$Net;") (by decide +kernel)) (fun _ h9 => h9) rfl dX8_init_94 ?_
  refine lv_iload_n hx hb dX8_init_97 rfl (lv_at hl 0 rfl) ?_
  refine va_new (ci := 10) (fs := [.null, .null, .null, .null, .null, .null, .null, .int 0, .int 0, .int 0, .int 0]) (C := RX7) (T := TX7) (N := 11) hx hb hts (by decide +kernel) tyX7 tyX7_ok hown (hts (.classLink RX8 20 RX7) (by decide +kernel)) (hts (.instantiable RX7 11) (by decide +kernel)) (hts (.initialized RX7) (by decide +kernel)) hK hM.1 hM.2.1 hM.2.2.1 hA rfl (by decide +kernel) (Nat.le_of_ble_eq_true rfl) (Nat.le_of_ble_eq_true rfl) dX8_init_98 (fun o113 H hP hD hS => ?_)
  refine W.widen (k := 124) (n := 8194) (Nat.le_of_ble_eq_true rfl) (Nat.le_of_ble_eq_true rfl) ?_
  refine lv_dup hx hb dX8_init_101 rfl ?_
  have hPc := al_subP hP
  have hDc := al_subD hD
  have hFc := al_freeC hD hS hA
  refine va_callv (va_runIN (As := []) (rest := [.ref o113, .int 10, .ref (u 24002)]) ⟨hx, hb, hml, hown, hts⟩ (k_X7_init l dC dI (q 0) (q 1) (q 2) (q 3) o113 H.size) ⟨va_cnB (host := "KnotHouse") 0 hts gX8_init_X7_init_n44 rfl rfl rfl hN_X8_44 (hts (.initialized RX7) (by decide +kernel)) (by decide +kernel) ⟨(Nat.le_of_ble_eq_true rfl), (Nat.le_of_ble_eq_true rfl)⟩, rfl, hts (.instanceMethod yX7_init) (by decide +kernel)⟩ ⟨fun a U g mk q => by obtain ⟨q0, q1, qP, qK, qD⟩ := q; exact ⟨q0, q1, qP, va_K.moved (u := U) (U := U.calling g mk a) (Vm.Alike.refl U.vm) qK, qD⟩, fun U hU hW => ⟨rfl, by rw [hU], by rw [hU]; exact hPc, va_K.moved hW.alike (hK.sub [0, 1, 2, 3] rfl), hDc.weaken (fun _ _ _ _ => trivial)⟩⟩ rfl rfl hl.1 rfl (lv_room (Nat.le_of_ble_eq_true rfl)) dX8_init_102 ⟨(Nat.le_of_ble_eq_true rfl), (Nat.le_of_ble_eq_true rfl)⟩) hS (fun q _ h => hFc q h) hFc (fun t114 t H1 locs ht hvm hw hB hz1 hk1 hS => ?_)
  obtain ⟨z115, z116, z117, z118, z119, z120, z121⟩ := t114
  obtain ⟨hP1, hD1⟩ := hB
  rw [ht] at hP1
  obtain ⟨hP, hD⟩ := al_join hP hD hk1 hFc hP1 hD1
  clear hPc hDc hFc hvm hw hz1 hk1 hP1 hD1 ht
  refine W.widen (k := 131) (n := 8350) (Nat.le_of_ble_eq_true rfl) (Nat.le_of_ble_eq_true rfl) ?_
  refine va_astq (D := (dC, dI)) hx hb hK hP hD hS 6 4 124 10 (al_he4 (X := xv8_10) (r := 24002) rfl rfl) rfl al_lastN rfl (by unfold vp_in; decide) dX8_init_105 (fun H locs hP hD hS => ?_)
  obtain ⟨u, hu, hM⟩ := al_extA (X := xv8_10) (X1 := xv8_11) (r := 24002) (h := 36000) (Y := [36000, 36001, 36002, 36003, 36004, 36005, 36006, 36007]) (ad := [o113, z115, z116, z117, z118, z119, z120, z121]) (k0 := 6) (o := 24000) (n := 10) cv8_10 rfl rfl hM.2.2.2 (by decide +kernel) rfl hP hD hS
  rw [← hu] at hl
  have hu0 := hu.trans hu0
  clear hu hP hD hS
  refine W.widen (k := 131) (n := 8350) (Nat.le_of_ble_eq_true rfl) (Nat.le_of_ble_eq_true rfl) ?_
  refine lv_iinc (v := 11) (lv' := [(1, .int 11), (0, .ref (u 24000))]) hx hb dX8_init_106 hl (k := 0) rfl rfl (by decide) rfl (fun ls hl => ?_)
  refine lv_goto (tgt := 84) hx hb dX8_init_109 (by decide) ?_
  exact kk u _ _ ls hu0 hM hl
set_option maxHeartbeats 4000000 in
set_option maxRecDepth 100000 in
theorem hv8_11 {p : Program} {l : Launch} {e : Env} {s : State} {m : MethodId} {args : Array Value} {below : List Frame} {meth : Method} {c : Code} {Q : State → Prop} {A : Nat → Prop} {dC : Nat → ClassId} {dI : Nat → Nat → Nat} {q : Nat → ClassId} (hx : p.tables.exec = Jvm.exec) (hb : c.code = cX8_init) (hml : c.maxLocals = 3) (hown : s.vm.findClass RX8 = some m.cls) (hts : ∀ w ∈ wsX8_init, w.before args s = true) (hA : ∀ q : Nat, s.heap.size ≤ q → A q) (hK : va_K (dC, dI) vwCl (uw_T q RX7) s) (hN_X8_44 : va_Nw (.methodLinkNest RX8 44 yX7_init "KnotHouse") s) (hAO : va_AO RX7 s) (hOI : ow_AO .int s) (u : Nat → Nat) (H : Heap) (locs : List Loc) (ls : Array Slot) {a0 : Nat} (hu0 : u 24000 = a0) (hM : al_M (dC, dI) vwCl xv8_11 q A s.heap u zeroS H locs) (hl : lv_has ls 3 [(1, .int 11), (0, .ref (u 24000))]) (kk : ∀ (u : Nat → Nat) (H : Heap) (locs : List Loc) (ls : Array Slot), u 24000 = a0 → al_M (dC, dI) vwCl xv8_12 q A s.heap u zeroS H locs → lv_has ls 3 [(1, .int 12), (0, .ref (u 24000))] → W p l e RI8 s m args below meth c H locs 139 8517 Q (F0 m 84 ls [])) : W p l e RI8 s m args below meth c H locs 131 8350 Q (F0 m 84 ls []) := by
  refine lv_iload_n hx hb dX8_init_84 rfl (lv_at hl 0 rfl) ?_
  refine lv_aload_n hx hb dX8_init_85 rfl (lv_at hl 1 rfl) ?_
  refine va_get (D := (dC, dI)) (ci := 11) (v := .ref (u 24002)) (C := RX8) (T := TX8) (N := 9) hx hb hts (by decide +kernel) hown hK hM.1 0 (al_he (X := xv8_11) (o := 24000) rfl rfl rfl) rfl 1 (by decide) (hts (.fieldLink RX8 22 "KnotHouse$Polynomials" "levels" "[LKnotHouse$Net;") (by decide +kernel)) (fun _ h9 => h9) rfl dX8_init_86 ?_
  refine va_alen (v := 13) hx hb hK hM.1 6 4 (al_he4' (X := xv8_11) (r := 24002) rfl rfl) rfl rfl dX8_init_89 ?_
  refine lv_icmp_ge (tgt := 112) hx hb dX8_init_90 (by decide) (fun c9 => absurd c9 (by decide)) (fun _ => ?_)
  refine lv_aload_n hx hb dX8_init_93 rfl (lv_at hl 1 rfl) ?_
  refine va_get (D := (dC, dI)) (ci := 11) (v := .ref (u 24002)) (C := RX8) (T := TX8) (N := 9) hx hb hts (by decide +kernel) hown hK hM.1 0 (al_he (X := xv8_11) (o := 24000) rfl rfl rfl) rfl 1 (by decide) (hts (.fieldLink RX8 22 "KnotHouse$Polynomials" "levels" "[LKnotHouse$Net;") (by decide +kernel)) (fun _ h9 => h9) rfl dX8_init_94 ?_
  refine lv_iload_n hx hb dX8_init_97 rfl (lv_at hl 0 rfl) ?_
  refine va_new (ci := 10) (fs := [.null, .null, .null, .null, .null, .null, .null, .int 0, .int 0, .int 0, .int 0]) (C := RX7) (T := TX7) (N := 11) hx hb hts (by decide +kernel) tyX7 tyX7_ok hown (hts (.classLink RX8 20 RX7) (by decide +kernel)) (hts (.instantiable RX7 11) (by decide +kernel)) (hts (.initialized RX7) (by decide +kernel)) hK hM.1 hM.2.1 hM.2.2.1 hA rfl (by decide +kernel) (Nat.le_of_ble_eq_true rfl) (Nat.le_of_ble_eq_true rfl) dX8_init_98 (fun o122 H hP hD hS => ?_)
  refine W.widen (k := 132) (n := 8361) (Nat.le_of_ble_eq_true rfl) (Nat.le_of_ble_eq_true rfl) ?_
  refine lv_dup hx hb dX8_init_101 rfl ?_
  have hPc := al_subP hP
  have hDc := al_subD hD
  have hFc := al_freeC hD hS hA
  refine va_callv (va_runIN (As := []) (rest := [.ref o122, .int 11, .ref (u 24002)]) ⟨hx, hb, hml, hown, hts⟩ (k_X7_init l dC dI (q 0) (q 1) (q 2) (q 3) o122 H.size) ⟨va_cnB (host := "KnotHouse") 0 hts gX8_init_X7_init_n44 rfl rfl rfl hN_X8_44 (hts (.initialized RX7) (by decide +kernel)) (by decide +kernel) ⟨(Nat.le_of_ble_eq_true rfl), (Nat.le_of_ble_eq_true rfl)⟩, rfl, hts (.instanceMethod yX7_init) (by decide +kernel)⟩ ⟨fun a U g mk q => by obtain ⟨q0, q1, qP, qK, qD⟩ := q; exact ⟨q0, q1, qP, va_K.moved (u := U) (U := U.calling g mk a) (Vm.Alike.refl U.vm) qK, qD⟩, fun U hU hW => ⟨rfl, by rw [hU], by rw [hU]; exact hPc, va_K.moved hW.alike (hK.sub [0, 1, 2, 3] rfl), hDc.weaken (fun _ _ _ _ => trivial)⟩⟩ rfl rfl hl.1 rfl (lv_room (Nat.le_of_ble_eq_true rfl)) dX8_init_102 ⟨(Nat.le_of_ble_eq_true rfl), (Nat.le_of_ble_eq_true rfl)⟩) hS (fun q _ h => hFc q h) hFc (fun t123 t H1 locs ht hvm hw hB hz1 hk1 hS => ?_)
  obtain ⟨z124, z125, z126, z127, z128, z129, z130⟩ := t123
  obtain ⟨hP1, hD1⟩ := hB
  rw [ht] at hP1
  obtain ⟨hP, hD⟩ := al_join hP hD hk1 hFc hP1 hD1
  clear hPc hDc hFc hvm hw hz1 hk1 hP1 hD1 ht
  refine W.widen (k := 139) (n := 8517) (Nat.le_of_ble_eq_true rfl) (Nat.le_of_ble_eq_true rfl) ?_
  refine va_astq (D := (dC, dI)) hx hb hK hP hD hS 6 4 132 10 (al_he4 (X := xv8_11) (r := 24002) rfl rfl) rfl al_lastN rfl (by unfold vp_in; decide) dX8_init_105 (fun H locs hP hD hS => ?_)
  obtain ⟨u, hu, hM⟩ := al_extA (X := xv8_11) (X1 := xv8_12) (r := 24002) (h := 37000) (Y := [37000, 37001, 37002, 37003, 37004, 37005, 37006, 37007]) (ad := [o122, z124, z125, z126, z127, z128, z129, z130]) (k0 := 6) (o := 24000) (n := 11) cv8_11 rfl rfl hM.2.2.2 (by decide +kernel) rfl hP hD hS
  rw [← hu] at hl
  have hu0 := hu.trans hu0
  clear hu hP hD hS
  refine W.widen (k := 139) (n := 8517) (Nat.le_of_ble_eq_true rfl) (Nat.le_of_ble_eq_true rfl) ?_
  refine lv_iinc (v := 12) (lv' := [(1, .int 12), (0, .ref (u 24000))]) hx hb dX8_init_106 hl (k := 0) rfl rfl (by decide) rfl (fun ls hl => ?_)
  refine lv_goto (tgt := 84) hx hb dX8_init_109 (by decide) ?_
  exact kk u _ _ ls hu0 hM hl
set_option maxHeartbeats 4000000 in
set_option maxRecDepth 100000 in
theorem hv8_12 {p : Program} {l : Launch} {e : Env} {s : State} {m : MethodId} {args : Array Value} {below : List Frame} {meth : Method} {c : Code} {Q : State → Prop} {A : Nat → Prop} {dC : Nat → ClassId} {dI : Nat → Nat → Nat} {q : Nat → ClassId} (hx : p.tables.exec = Jvm.exec) (hb : c.code = cX8_init) (hml : c.maxLocals = 3) (hown : s.vm.findClass RX8 = some m.cls) (hts : ∀ w ∈ wsX8_init, w.before args s = true) (hA : ∀ q : Nat, s.heap.size ≤ q → A q) (hK : va_K (dC, dI) vwCl (uw_T q RX7) s) (hN_X8_44 : va_Nw (.methodLinkNest RX8 44 yX7_init "KnotHouse") s) (hAO : va_AO RX7 s) (hOI : ow_AO .int s) (u : Nat → Nat) (H : Heap) (locs : List Loc) (ls : Array Slot) {a0 : Nat} (hu0 : u 24000 = a0) (hM : al_M (dC, dI) vwCl xv8_12 q A s.heap u zeroS H locs) (hl : lv_has ls 3 [(1, .int 12), (0, .ref (u 24000))]) (kk : ∀ (u : Nat → Nat) (H : Heap) (locs : List Loc) (ls : Array Slot), u 24000 = a0 → al_M (dC, dI) vwCl xv8_13 q A s.heap u zeroS H locs → lv_has ls 3 [(1, .int 13), (0, .ref (u 24000))] → W p l e RI8 s m args below meth c H locs 147 8684 Q (F0 m 84 ls [])) : W p l e RI8 s m args below meth c H locs 139 8517 Q (F0 m 84 ls []) := by
  refine lv_iload_n hx hb dX8_init_84 rfl (lv_at hl 0 rfl) ?_
  refine lv_aload_n hx hb dX8_init_85 rfl (lv_at hl 1 rfl) ?_
  refine va_get (D := (dC, dI)) (ci := 11) (v := .ref (u 24002)) (C := RX8) (T := TX8) (N := 9) hx hb hts (by decide +kernel) hown hK hM.1 0 (al_he (X := xv8_12) (o := 24000) rfl rfl rfl) rfl 1 (by decide) (hts (.fieldLink RX8 22 "KnotHouse$Polynomials" "levels" "[LKnotHouse$Net;") (by decide +kernel)) (fun _ h9 => h9) rfl dX8_init_86 ?_
  refine va_alen (v := 13) hx hb hK hM.1 6 4 (al_he4' (X := xv8_12) (r := 24002) rfl rfl) rfl rfl dX8_init_89 ?_
  refine lv_icmp_ge (tgt := 112) hx hb dX8_init_90 (by decide) (fun c9 => absurd c9 (by decide)) (fun _ => ?_)
  refine lv_aload_n hx hb dX8_init_93 rfl (lv_at hl 1 rfl) ?_
  refine va_get (D := (dC, dI)) (ci := 11) (v := .ref (u 24002)) (C := RX8) (T := TX8) (N := 9) hx hb hts (by decide +kernel) hown hK hM.1 0 (al_he (X := xv8_12) (o := 24000) rfl rfl rfl) rfl 1 (by decide) (hts (.fieldLink RX8 22 "KnotHouse$Polynomials" "levels" "[LKnotHouse$Net;") (by decide +kernel)) (fun _ h9 => h9) rfl dX8_init_94 ?_
  refine lv_iload_n hx hb dX8_init_97 rfl (lv_at hl 0 rfl) ?_
  refine va_new (ci := 10) (fs := [.null, .null, .null, .null, .null, .null, .null, .int 0, .int 0, .int 0, .int 0]) (C := RX7) (T := TX7) (N := 11) hx hb hts (by decide +kernel) tyX7 tyX7_ok hown (hts (.classLink RX8 20 RX7) (by decide +kernel)) (hts (.instantiable RX7 11) (by decide +kernel)) (hts (.initialized RX7) (by decide +kernel)) hK hM.1 hM.2.1 hM.2.2.1 hA rfl (by decide +kernel) (Nat.le_of_ble_eq_true rfl) (Nat.le_of_ble_eq_true rfl) dX8_init_98 (fun o131 H hP hD hS => ?_)
  refine W.widen (k := 140) (n := 8528) (Nat.le_of_ble_eq_true rfl) (Nat.le_of_ble_eq_true rfl) ?_
  refine lv_dup hx hb dX8_init_101 rfl ?_
  have hPc := al_subP hP
  have hDc := al_subD hD
  have hFc := al_freeC hD hS hA
  refine va_callv (va_runIN (As := []) (rest := [.ref o131, .int 12, .ref (u 24002)]) ⟨hx, hb, hml, hown, hts⟩ (k_X7_init l dC dI (q 0) (q 1) (q 2) (q 3) o131 H.size) ⟨va_cnB (host := "KnotHouse") 0 hts gX8_init_X7_init_n44 rfl rfl rfl hN_X8_44 (hts (.initialized RX7) (by decide +kernel)) (by decide +kernel) ⟨(Nat.le_of_ble_eq_true rfl), (Nat.le_of_ble_eq_true rfl)⟩, rfl, hts (.instanceMethod yX7_init) (by decide +kernel)⟩ ⟨fun a U g mk q => by obtain ⟨q0, q1, qP, qK, qD⟩ := q; exact ⟨q0, q1, qP, va_K.moved (u := U) (U := U.calling g mk a) (Vm.Alike.refl U.vm) qK, qD⟩, fun U hU hW => ⟨rfl, by rw [hU], by rw [hU]; exact hPc, va_K.moved hW.alike (hK.sub [0, 1, 2, 3] rfl), hDc.weaken (fun _ _ _ _ => trivial)⟩⟩ rfl rfl hl.1 rfl (lv_room (Nat.le_of_ble_eq_true rfl)) dX8_init_102 ⟨(Nat.le_of_ble_eq_true rfl), (Nat.le_of_ble_eq_true rfl)⟩) hS (fun q _ h => hFc q h) hFc (fun t132 t H1 locs ht hvm hw hB hz1 hk1 hS => ?_)
  obtain ⟨z133, z134, z135, z136, z137, z138, z139⟩ := t132
  obtain ⟨hP1, hD1⟩ := hB
  rw [ht] at hP1
  obtain ⟨hP, hD⟩ := al_join hP hD hk1 hFc hP1 hD1
  clear hPc hDc hFc hvm hw hz1 hk1 hP1 hD1 ht
  refine W.widen (k := 147) (n := 8684) (Nat.le_of_ble_eq_true rfl) (Nat.le_of_ble_eq_true rfl) ?_
  refine va_astq (D := (dC, dI)) hx hb hK hP hD hS 6 4 140 10 (al_he4 (X := xv8_12) (r := 24002) rfl rfl) rfl al_lastN rfl (by unfold vp_in; decide) dX8_init_105 (fun H locs hP hD hS => ?_)
  obtain ⟨u, hu, hM⟩ := al_extA (X := xv8_12) (X1 := xv8_13) (r := 24002) (h := 38000) (Y := [38000, 38001, 38002, 38003, 38004, 38005, 38006, 38007]) (ad := [o131, z133, z134, z135, z136, z137, z138, z139]) (k0 := 6) (o := 24000) (n := 12) cv8_12 rfl rfl hM.2.2.2 (by decide +kernel) rfl hP hD hS
  rw [← hu] at hl
  have hu0 := hu.trans hu0
  clear hu hP hD hS
  refine W.widen (k := 147) (n := 8684) (Nat.le_of_ble_eq_true rfl) (Nat.le_of_ble_eq_true rfl) ?_
  refine lv_iinc (v := 13) (lv' := [(1, .int 13), (0, .ref (u 24000))]) hx hb dX8_init_106 hl (k := 0) rfl rfl (by decide) rfl (fun ls hl => ?_)
  refine lv_goto (tgt := 84) hx hb dX8_init_109 (by decide) ?_
  exact kk u _ _ ls hu0 hM hl
