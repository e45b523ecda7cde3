set_option maxHeartbeats 4000000 in
set_option maxRecDepth 100000 in
theorem hc13_0 {p : Program} {l : Launch} {e : Env} {s : State} {m : MethodId} {args : Array Value} {below : List Frame} {meth : Method} {c : Code} {Q : State → Prop} {A : Nat → Prop} {dC : Nat → ClassId} {dI : Nat → Nat → Nat} {q : ow_Q5} (hx : p.tables.exec = Jvm.exec) (hb : c.code = cX13_init) (hml : c.maxLocals = 2) (hown : s.vm.findClass RX13 = some m.cls) (hts : ∀ w ∈ wi13, w.before args s = true) (hin : meth.name = "<init>") (hA : ∀ q : Nat, s.heap.size ≤ q → A q) (hK : va_K (dC, dI) vwCl (tw_T q RX12) s) (hN_X13_113 : va_Nw (.methodLinkNest RX13 113 yX12_init "KnotHouseModel") s) (hAO : va_AO RX12 s) (u : Nat → Nat) (H : Heap) (locs : List Loc) (ls : Array Slot) {a0 : Nat} (hu0 : u 0 = a0) (hM : al_M (dC, dI) vwCl xt13_0 (q5f q) A s.heap u Z13 H locs) (hl : lv_has ls 2 [(0, .ref (u 0))]) (kk : ∀ (u : Nat → Nat) (H : Heap) (locs : List Loc) (ls : Array Slot), u 0 = a0 → al_M (dC, dI) vwCl xt13_14 (q5f q) A s.heap u Z13 H locs → lv_has ls 2 [(0, .ref (u 0))] → W p l e RI13 s m args below meth c H locs 50 4272 Q (F0 m 128 ls [])) : W p l e RI13 s m args below meth c H locs 0 0 Q (F0 m 4 ls []) := by
  refine lv_aload_n hx hb diX13_4 rfl (lv_at hl 0 rfl) ?_
  refine lv_bipush (v := 32) hx hb diX13_5 (by decide) ?_
  refine ow_newa (D := (dC, dI)) (N' := 32) (a0 := (32, .inl (fun _ => 0))) (ty := .int) hx hb (hts (.arrayClass .int) mi13_3) rfl hK hM.1 hM.2.1 hM.2.2.1 hA 0 rfl (fun _ h => h) (fun _ => rfl) (by decide) (by decide) (by decide) (Nat.le_of_ble_eq_true rfl) (Nat.le_of_ble_eq_true rfl) diX13_7 (fun q1 H hP hD hS => ?_)
  refine W.widen (k := 1) (n := 32) (Nat.le_of_ble_eq_true rfl) (Nat.le_of_ble_eq_true rfl) ?_
  refine va_putF (D := (dC, dI)) (ci := 16) (v := .ref q1) (ty := .array .int) (C := RX13) (T := TX13) (N := 120) hx hb hts wi13_13 tyX13 tyX13_ok nmX13 hown hK hP hD hS 0 (al_heA (X := xt13_0) (o := 0) rfl rfl rfl) rfl 1 (by decide) (hts (.fieldLink RX13 29 "KnotHouseModel" "trial" "[I") mi13_13) (fun _ h9 => h9) rfl hin rfl (by decide +kernel) rfl rfl (by rw [List.length_map]; decide +kernel) diX13_9 (fun H locs hP hD hS => ?_)
  obtain ⟨u, hu, hM⟩ := al_ext (X := xt13_0) (X1 := xt13_1) (o := 0) (k := 1) (h := 2) (Y := [2]) (ad := [q1]) (k0 := 0) (ci := 16) ck13_0 rfl rfl hM.2.2.2 rfl hP hD hS
  rw [← hu] at hl
  have hu0 := hu.trans hu0
  clear hu hP hD hS
  refine W.widen (k := 1) (n := 32) (Nat.le_of_ble_eq_true rfl) (Nat.le_of_ble_eq_true rfl) ?_
  refine lv_aload_n hx hb diX13_12 rfl (lv_at hl 0 rfl) ?_
  refine lv_bipush (v := 40) hx hb diX13_13 (by decide) ?_
  refine ow_newa (D := (dC, dI)) (N' := 40) (a0 := (40, .inl (fun _ => 0))) (ty := .int) hx hb (hts (.arrayClass .int) mi13_3) rfl hK hM.1 hM.2.1 hM.2.2.1 hA 0 rfl (fun _ h => h) (fun _ => rfl) (by decide) (by decide) (by decide) (Nat.le_of_ble_eq_true rfl) (Nat.le_of_ble_eq_true rfl) diX13_15 (fun q2 H hP hD hS => ?_)
  refine W.widen (k := 2) (n := 72) (Nat.le_of_ble_eq_true rfl) (Nat.le_of_ble_eq_true rfl) ?_
  refine va_putF (D := (dC, dI)) (ci := 16) (v := .ref q2) (ty := .array .int) (C := RX13) (T := TX13) (N := 120) hx hb hts wi13_13 tyX13 tyX13_ok nmX13 hown hK hP hD hS 0 (al_heA (X := xt13_1) (o := 0) rfl rfl rfl) rfl 3 (by decide) (hts (.fieldLink RX13 7 "KnotHouseModel" "number" "[I") mi13_14) (fun _ h9 => h9) rfl hin rfl (by decide +kernel) rfl rfl (by rw [List.length_map]; decide +kernel) diX13_17 (fun H locs hP hD hS => ?_)
  obtain ⟨u, hu, hM⟩ := al_ext (X := xt13_1) (X1 := xt13_2) (o := 0) (k := 3) (h := 4) (Y := [4]) (ad := [q2]) (k0 := 0) (ci := 16) ck13_1 rfl rfl hM.2.2.2 rfl hP hD hS
  rw [← hu] at hl
  have hu0 := hu.trans hu0
  clear hu hP hD hS
  refine W.widen (k := 2) (n := 72) (Nat.le_of_ble_eq_true rfl) (Nat.le_of_ble_eq_true rfl) ?_
  refine lv_aload_n hx hb diX13_20 rfl (lv_at hl 0 rfl) ?_
  refine lv_bipush (v := 40) hx hb diX13_21 (by decide) ?_
  refine ow_newa (D := (dC, dI)) (N' := 40) (a0 := (40, .inl (fun _ => 0))) (ty := .int) hx hb (hts (.arrayClass .int) mi13_3) rfl hK hM.1 hM.2.1 hM.2.2.1 hA 0 rfl (fun _ h => h) (fun _ => rfl) (by decide) (by decide) (by decide) (Nat.le_of_ble_eq_true rfl) (Nat.le_of_ble_eq_true rfl) diX13_23 (fun q3 H hP hD hS => ?_)
  refine W.widen (k := 3) (n := 112) (Nat.le_of_ble_eq_true rfl) (Nat.le_of_ble_eq_true rfl) ?_
  refine va_putF (D := (dC, dI)) (ci := 16) (v := .ref q3) (ty := .array .int) (C := RX13) (T := TX13) (N := 120) hx hb hts wi13_13 tyX13 tyX13_ok nmX13 hown hK hP hD hS 0 (al_heA (X := xt13_2) (o := 0) rfl rfl rfl) rfl 4 (by decide) (hts (.fieldLink RX13 26 "KnotHouseModel" "met" "[I") mi13_15) (fun _ h9 => h9) rfl hin rfl (by decide +kernel) rfl rfl (by rw [List.length_map]; decide +kernel) diX13_25 (fun H locs hP hD hS => ?_)
  obtain ⟨u, hu, hM⟩ := al_ext (X := xt13_2) (X1 := xt13_3) (o := 0) (k := 4) (h := 5) (Y := [5]) (ad := [q3]) (k0 := 0) (ci := 16) ck13_2 rfl rfl hM.2.2.2 rfl hP hD hS
  rw [← hu] at hl
  have hu0 := hu.trans hu0
  clear hu hP hD hS
  refine W.widen (k := 3) (n := 112) (Nat.le_of_ble_eq_true rfl) (Nat.le_of_ble_eq_true rfl) ?_
  refine lv_aload_n hx hb diX13_28 rfl (lv_at hl 0 rfl) ?_
  refine lv_bipush (v := 40) hx hb diX13_29 (by decide) ?_
  refine ow_newa (D := (dC, dI)) (N' := 40) (a0 := (40, .inl (fun _ => 0))) (ty := .boolean) hx hb (hts (.arrayClass .boolean) mi13_6) rfl hK hM.1 hM.2.1 hM.2.2.1 hA 3 rfl (fun _ h => h) (fun _ => rfl) (by decide) (by decide) (by decide) (Nat.le_of_ble_eq_true rfl) (Nat.le_of_ble_eq_true rfl) diX13_31 (fun q4 H hP hD hS => ?_)
  refine W.widen (k := 4) (n := 152) (Nat.le_of_ble_eq_true rfl) (Nat.le_of_ble_eq_true rfl) ?_
  refine va_putF (D := (dC, dI)) (ci := 16) (v := .ref q4) (ty := .array .boolean) (C := RX13) (T := TX13) (N := 120) hx hb hts wi13_13 tyX13 tyX13_ok nmX13 hown hK hP hD hS 0 (al_heA (X := xt13_3) (o := 0) rfl rfl rfl) rfl 5 (by decide) (hts (.fieldLink RX13 11 "KnotHouseModel" "gone" "[Z") mi13_16) (fun _ h9 => h9) rfl hin rfl (by decide +kernel) rfl rfl (by rw [List.length_map]; decide +kernel) diX13_33 (fun H locs hP hD hS => ?_)
  obtain ⟨u, hu, hM⟩ := al_ext (X := xt13_3) (X1 := xt13_4) (o := 0) (k := 5) (h := 6) (Y := [6]) (ad := [q4]) (k0 := 0) (ci := 16) ck13_3 rfl rfl hM.2.2.2 rfl hP hD hS
  rw [← hu] at hl
  have hu0 := hu.trans hu0
  clear hu hP hD hS
  refine W.widen (k := 4) (n := 152) (Nat.le_of_ble_eq_true rfl) (Nat.le_of_ble_eq_true rfl) ?_
  refine lv_aload_n hx hb diX13_36 rfl (lv_at hl 0 rfl) ?_
  refine lv_sipush (v := 640) hx hb diX13_37 (by decide) ?_
  refine ow_newa (D := (dC, dI)) (N' := 640) (a0 := (640, .inl (fun _ => 0))) (ty := .int) hx hb (hts (.arrayClass .int) mi13_3) rfl hK hM.1 hM.2.1 hM.2.2.1 hA 0 rfl (fun _ h => h) (fun _ => rfl) (by decide) (by decide) (by decide) (Nat.le_of_ble_eq_true rfl) (Nat.le_of_ble_eq_true rfl) diX13_40 (fun q5 H hP hD hS => ?_)
  refine W.widen (k := 5) (n := 792) (Nat.le_of_ble_eq_true rfl) (Nat.le_of_ble_eq_true rfl) ?_
  refine va_putF (D := (dC, dI)) (ci := 16) (v := .ref q5) (ty := .array .int) (C := RX13) (T := TX13) (N := 120) hx hb hts wi13_13 tyX13 tyX13_ok nmX13 hown hK hP hD hS 0 (al_heA (X := xt13_4) (o := 0) rfl rfl rfl) rfl 6 (by decide) (hts (.fieldLink RX13 54 "KnotHouseModel" "partRow" "[I") mi13_17) (fun _ h9 => h9) rfl hin rfl (by decide +kernel) rfl rfl (by rw [List.length_map]; decide +kernel) diX13_42 (fun H locs hP hD hS => ?_)
  obtain ⟨u, hu, hM⟩ := al_ext (X := xt13_4) (X1 := xt13_5) (o := 0) (k := 6) (h := 7) (Y := [7]) (ad := [q5]) (k0 := 0) (ci := 16) ck13_4 rfl rfl hM.2.2.2 rfl hP hD hS
  rw [← hu] at hl
  have hu0 := hu.trans hu0
  clear hu hP hD hS
  refine W.widen (k := 5) (n := 792) (Nat.le_of_ble_eq_true rfl) (Nat.le_of_ble_eq_true rfl) ?_
  refine lv_aload_n hx hb diX13_45 rfl (lv_at hl 0 rfl) ?_
  refine lv_bipush (v := 20) hx hb diX13_46 (by decide) ?_
  refine ow_newa (D := (dC, dI)) (N' := 20) (a0 := (20, .inl (fun _ => 0))) (ty := .int) hx hb (hts (.arrayClass .int) mi13_3) rfl hK hM.1 hM.2.1 hM.2.2.1 hA 0 rfl (fun _ h => h) (fun _ => rfl) (by decide) (by decide) (by decide) (Nat.le_of_ble_eq_true rfl) (Nat.le_of_ble_eq_true rfl) diX13_48 (fun q6 H hP hD hS => ?_)
  refine W.widen (k := 6) (n := 812) (Nat.le_of_ble_eq_true rfl) (Nat.le_of_ble_eq_true rfl) ?_
  refine va_putF (D := (dC, dI)) (ci := 16) (v := .ref q6) (ty := .array .int) (C := RX13) (T := TX13) (N := 120) hx hb hts wi13_13 tyX13 tyX13_ok nmX13 hown hK hP hD hS 0 (al_heA (X := xt13_5) (o := 0) rfl rfl rfl) rfl 7 (by decide) (hts (.fieldLink RX13 85 "KnotHouseModel" "partVisits" "[I") mi13_18) (fun _ h9 => h9) rfl hin rfl (by decide +kernel) rfl rfl (by rw [List.length_map]; decide +kernel) diX13_50 (fun H locs hP hD hS => ?_)
  obtain ⟨u, hu, hM⟩ := al_ext (X := xt13_5) (X1 := xt13_6) (o := 0) (k := 7) (h := 8) (Y := [8]) (ad := [q6]) (k0 := 0) (ci := 16) ck13_5 rfl rfl hM.2.2.2 rfl hP hD hS
  rw [← hu] at hl
  have hu0 := hu.trans hu0
  clear hu hP hD hS
  refine W.widen (k := 6) (n := 812) (Nat.le_of_ble_eq_true rfl) (Nat.le_of_ble_eq_true rfl) ?_
  refine lv_aload_n hx hb diX13_53 rfl (lv_at hl 0 rfl) ?_
  refine lv_bipush (v := 20) hx hb diX13_54 (by decide) ?_
  refine ow_newa (D := (dC, dI)) (N' := 20) (a0 := (20, .inl (fun _ => 0))) (ty := .boolean) hx hb (hts (.arrayClass .boolean) mi13_6) rfl hK hM.1 hM.2.1 hM.2.2.1 hA 3 rfl (fun _ h => h) (fun _ => rfl) (by decide) (by decide) (by decide) (Nat.le_of_ble_eq_true rfl) (Nat.le_of_ble_eq_true rfl) diX13_56 (fun q7 H hP hD hS => ?_)
  refine W.widen (k := 7) (n := 832) (Nat.le_of_ble_eq_true rfl) (Nat.le_of_ble_eq_true rfl) ?_
  refine va_putF (D := (dC, dI)) (ci := 16) (v := .ref q7) (ty := .array .boolean) (C := RX13) (T := TX13) (N := 120) hx hb hts wi13_13 tyX13 tyX13_ok nmX13 hown hK hP hD hS 0 (al_heA (X := xt13_6) (o := 0) rfl rfl rfl) rfl 8 (by decide) (hts (.fieldLink RX13 88 "KnotHouseModel" "written" "[Z") mi13_19) (fun _ h9 => h9) rfl hin rfl (by decide +kernel) rfl rfl (by rw [List.length_map]; decide +kernel) diX13_58 (fun H locs hP hD hS => ?_)
  obtain ⟨u, hu, hM⟩ := al_ext (X := xt13_6) (X1 := xt13_7) (o := 0) (k := 8) (h := 9) (Y := [9]) (ad := [q7]) (k0 := 0) (ci := 16) ck13_6 rfl rfl hM.2.2.2 rfl hP hD hS
  rw [← hu] at hl
  have hu0 := hu.trans hu0
  clear hu hP hD hS
  refine W.widen (k := 7) (n := 832) (Nat.le_of_ble_eq_true rfl) (Nat.le_of_ble_eq_true rfl) ?_
  refine lv_aload_n hx hb diX13_61 rfl (lv_at hl 0 rfl) ?_
  refine lv_sipush (v := 400) hx hb diX13_62 (by decide) ?_
  refine ow_newa (D := (dC, dI)) (N' := 400) (a0 := (400, .inl (fun _ => 0))) (ty := .byte) hx hb (hts (.arrayClass .byte) mi13_4) rfl hK hM.1 hM.2.1 hM.2.2.1 hA 1 rfl (fun _ h => h) (fun _ => rfl) (by decide) (by decide) (by decide) (Nat.le_of_ble_eq_true rfl) (Nat.le_of_ble_eq_true rfl) diX13_65 (fun q8 H hP hD hS => ?_)
  refine W.widen (k := 8) (n := 1232) (Nat.le_of_ble_eq_true rfl) (Nat.le_of_ble_eq_true rfl) ?_
  refine va_putF (D := (dC, dI)) (ci := 16) (v := .ref q8) (ty := .array .byte) (C := RX13) (T := TX13) (N := 120) hx hb hts wi13_13 tyX13 tyX13_ok nmX13 hown hK hP hD hS 0 (al_heA (X := xt13_7) (o := 0) rfl rfl rfl) rfl 9 (by decide) (hts (.fieldLink RX13 106 "KnotHouseModel" "tape" "[B") mi13_20) (fun _ h9 => h9) rfl hin rfl (by decide +kernel) rfl rfl (by rw [List.length_map]; decide +kernel) diX13_67 (fun H locs hP hD hS => ?_)
  obtain ⟨u, hu, hM⟩ := al_ext (X := xt13_7) (X1 := xt13_8) (o := 0) (k := 9) (h := 10) (Y := [10]) (ad := [q8]) (k0 := 0) (ci := 16) ck13_7 rfl rfl hM.2.2.2 rfl hP hD hS
  rw [← hu] at hl
  have hu0 := hu.trans hu0
  clear hu hP hD hS
  refine W.widen (k := 8) (n := 1232) (Nat.le_of_ble_eq_true rfl) (Nat.le_of_ble_eq_true rfl) ?_
  refine lv_aload_n hx hb diX13_70 rfl (lv_at hl 0 rfl) ?_
  refine lv_sipush (v := 1280) hx hb diX13_71 (by decide) ?_
  refine ow_newa (D := (dC, dI)) (N' := 1280) (a0 := (1280, .inl (fun _ => 0))) (ty := .int) hx hb (hts (.arrayClass .int) mi13_3) rfl hK hM.1 hM.2.1 hM.2.2.1 hA 0 rfl (fun _ h => h) (fun _ => rfl) (by decide) (by decide) (by decide) (Nat.le_of_ble_eq_true rfl) (Nat.le_of_ble_eq_true rfl) diX13_74 (fun q9 H hP hD hS => ?_)
  refine W.widen (k := 9) (n := 2512) (Nat.le_of_ble_eq_true rfl) (Nat.le_of_ble_eq_true rfl) ?_
  refine va_putF (D := (dC, dI)) (ci := 16) (v := .ref q9) (ty := .array .int) (C := RX13) (T := TX13) (N := 120) hx hb hts wi13_13 tyX13 tyX13_ok nmX13 hown hK hP hD hS 0 (al_heA (X := xt13_8) (o := 0) rfl rfl rfl) rfl 11 (by decide) (hts (.fieldLink RX13 110 "KnotHouseModel" "rows" "[I") mi13_21) (fun _ h9 => h9) rfl hin rfl (by decide +kernel) rfl rfl (by rw [List.length_map]; decide +kernel) diX13_76 (fun H locs hP hD hS => ?_)
  obtain ⟨u, hu, hM⟩ := al_ext (X := xt13_8) (X1 := xt13_9) (o := 0) (k := 11) (h := 12) (Y := [12]) (ad := [q9]) (k0 := 0) (ci := 16) ck13_8 rfl rfl hM.2.2.2 rfl hP hD hS
  rw [← hu] at hl
  have hu0 := hu.trans hu0
  clear hu hP hD hS
  refine W.widen (k := 9) (n := 2512) (Nat.le_of_ble_eq_true rfl) (Nat.le_of_ble_eq_true rfl) ?_
  refine lv_aload_n hx hb diX13_79 rfl (lv_at hl 0 rfl) ?_
  refine va_new (ci := 15) (fs := [.int 0, .int 0, .null, .null, .null, .null, .null, .null, .null, .null, .null, .null, .int 0, .null, .null, .int 0]) (C := RX12) (T := TX12) (N := 16) hx hb hts wi13_12 tyX12 tyX12_ok hown (hts (.classLink RX13 19 RX12) mi13_9) (hts (.instantiable RX12 16) mi13_10) (hts (.initialized RX12) mi13_11) hK hM.1 hM.2.1 hM.2.2.1 hA rfl (by decide +kernel) (Nat.le_of_ble_eq_true rfl) (Nat.le_of_ble_eq_true rfl) diX13_80 (fun o10 H hP hD hS => ?_)
  refine W.widen (k := 10) (n := 2528) (Nat.le_of_ble_eq_true rfl) (Nat.le_of_ble_eq_true rfl) ?_
  refine lv_dup hx hb diX13_83 rfl ?_
  have hPc := al_subP hP
  have hDc := al_subD hD
  have hFc := al_freeC hD hS hA
  refine va_callv (va_runIN (As := []) (rest := [.ref o10, .ref (u 0)]) ⟨hx, hb, hml, hown, hts⟩ (k_X12_init l dC dI q.1 q.2.1 q.2.2.1 q.2.2.2.1 o10 H.size) ⟨va_cnB (host := "KnotHouseModel") 0 hts gi13_X12 rfl rfl rfl hN_X13_113 (hts (.initialized RX12) mi13_11) (by decide +kernel) ⟨(Nat.le_of_ble_eq_true rfl), (Nat.le_of_ble_eq_true rfl)⟩, rfl, hts (.instanceMethod yX12_init) mi13_12⟩ ⟨fun a U g mk q => by obtain ⟨q0, q1, qP, qK, qD⟩ := q; exact ⟨q0, q1, qP, va_K.moved (u := U) (U := U.calling g mk a) (Vm.Alike.refl U.vm) qK, qD⟩, fun U hU hW => ⟨rfl, by rw [hU], by rw [hU]; exact hPc, va_K.moved hW.alike (hK.sub [0, 1, 2, 3] rfl), hDc.weaken (fun _ _ _ _ => trivial)⟩⟩ rfl rfl hl.1 rfl (lv_room (Nat.le_of_ble_eq_true rfl)) diX13_84 ⟨(Nat.le_of_ble_eq_true rfl), (Nat.le_of_ble_eq_true rfl)⟩) hS (fun q _ h => hFc q h) hFc (fun t11 t H1 locs ht hvm hw hB hz1 hk1 hS => ?_)
  obtain ⟨z12, z13, z14, z15, z16, z17, z18, z19, z20, z21, z22, z23⟩ := t11
  obtain ⟨hP1, hD1⟩ := hB
  rw [ht] at hP1
  obtain ⟨hP, hD⟩ := al_join hP hD hk1 hFc hP1 hD1
  clear hPc hDc hFc hvm hw hz1 hk1 hP1 hD1 ht
  refine W.widen (k := 22) (n := 3088) (Nat.le_of_ble_eq_true rfl) (Nat.le_of_ble_eq_true rfl) ?_
  refine va_putF (D := (dC, dI)) (ci := 16) (v := .ref o10) (ty := .object "KnotHouseModel$Net") (C := RX13) (T := TX13) (N := 120) hx hb hts wi13_13 tyX13 tyX13_ok nmX13 hown hK hP hD hS 0 (al_heA (X := xt13_9) (o := 0) rfl rfl rfl) rfl 12 (by decide) (hts (.fieldLink RX13 114 "KnotHouseModel" "cur" "LKnotHouseModel$Net;") mi13_22) (fun _ h9 => h9) rfl hin rfl (by decide +kernel) rfl rfl (by rw [List.length_map]; decide +kernel) diX13_87 (fun H locs hP hD hS => ?_)
  obtain ⟨u, hu, hM⟩ := al_ext (X := xt13_9) (X1 := xt13_10) (o := 0) (k := 12) (h := 1000) (Y := [1000, 1003, 1004, 1005, 1006, 1007, 1008, 1009, 1010, 1011, 1012, 1014, 1015]) (ad := [o10, z12, z13, z14, z15, z16, z17, z18, z19, z20, z21, z22, z23]) (k0 := 0) (ci := 16) ck13_9 rfl rfl hM.2.2.2 rfl hP hD hS
  rw [← hu] at hl
  have hu0 := hu.trans hu0
  clear hu hP hD hS
  refine W.widen (k := 22) (n := 3088) (Nat.le_of_ble_eq_true rfl) (Nat.le_of_ble_eq_true rfl) ?_
  refine lv_aload_n hx hb diX13_90 rfl (lv_at hl 0 rfl) ?_
  refine va_new (ci := 15) (fs := [.int 0, .int 0, .null, .null, .null, .null, .null, .null, .null, .null, .null, .null, .int 0, .null, .null, .int 0]) (C := RX12) (T := TX12) (N := 16) hx hb hts wi13_12 tyX12 tyX12_ok hown (hts (.classLink RX13 19 RX12) mi13_9) (hts (.instantiable RX12 16) mi13_10) (hts (.initialized RX12) mi13_11) hK hM.1 hM.2.1 hM.2.2.1 hA rfl (by decide +kernel) (Nat.le_of_ble_eq_true rfl) (Nat.le_of_ble_eq_true rfl) diX13_91 (fun o24 H hP hD hS => ?_)
  refine W.widen (k := 23) (n := 3104) (Nat.le_of_ble_eq_true rfl) (Nat.le_of_ble_eq_true rfl) ?_
  refine lv_dup hx hb diX13_94 rfl ?_
  have hPc := al_subP hP
  have hDc := al_subD hD
  have hFc := al_freeC hD hS hA
  refine va_callv (va_runIN (As := []) (rest := [.ref o24, .ref (u 0)]) ⟨hx, hb, hml, hown, hts⟩ (k_X12_init l dC dI q.1 q.2.1 q.2.2.1 q.2.2.2.1 o24 H.size) ⟨va_cnB (host := "KnotHouseModel") 0 hts gi13_X12 rfl rfl rfl hN_X13_113 (hts (.initialized RX12) mi13_11) (by decide +kernel) ⟨(Nat.le_of_ble_eq_true rfl), (Nat.le_of_ble_eq_true rfl)⟩, rfl, hts (.instanceMethod yX12_init) mi13_12⟩ ⟨fun a U g mk q => by obtain ⟨q0, q1, qP, qK, qD⟩ := q; exact ⟨q0, q1, qP, va_K.moved (u := U) (U := U.calling g mk a) (Vm.Alike.refl U.vm) qK, qD⟩, fun U hU hW => ⟨rfl, by rw [hU], by rw [hU]; exact hPc, va_K.moved hW.alike (hK.sub [0, 1, 2, 3] rfl), hDc.weaken (fun _ _ _ _ => trivial)⟩⟩ rfl rfl hl.1 rfl (lv_room (Nat.le_of_ble_eq_true rfl)) diX13_95 ⟨(Nat.le_of_ble_eq_true rfl), (Nat.le_of_ble_eq_true rfl)⟩) hS (fun q _ h => hFc q h) hFc (fun t25 t H1 locs ht hvm hw hB hz1 hk1 hS => ?_)
  obtain ⟨z26, z27, z28, z29, z30, z31, z32, z33, z34, z35, z36, z37⟩ := t25
  obtain ⟨hP1, hD1⟩ := hB
  rw [ht] at hP1
  obtain ⟨hP, hD⟩ := al_join hP hD hk1 hFc hP1 hD1
  clear hPc hDc hFc hvm hw hz1 hk1 hP1 hD1 ht
  refine W.widen (k := 35) (n := 3664) (Nat.le_of_ble_eq_true rfl) (Nat.le_of_ble_eq_true rfl) ?_
  refine va_putF (D := (dC, dI)) (ci := 16) (v := .ref o24) (ty := .object "KnotHouseModel$Net") (C := RX13) (T := TX13) (N := 120) hx hb hts wi13_13 tyX13 tyX13_ok nmX13 hown hK hP hD hS 0 (al_heA (X := xt13_10) (o := 0) rfl rfl rfl) rfl 13 (by decide) (hts (.fieldLink RX13 118 "KnotHouseModel" "other" "LKnotHouseModel$Net;") mi13_23) (fun _ h9 => h9) rfl hin rfl (by decide +kernel) rfl rfl (by rw [List.length_map]; decide +kernel) diX13_98 (fun H locs hP hD hS => ?_)
  obtain ⟨u, hu, hM⟩ := al_ext (X := xt13_10) (X1 := xt13_11) (o := 0) (k := 13) (h := 2000) (Y := [2000, 2003, 2004, 2005, 2006, 2007, 2008, 2009, 2010, 2011, 2012, 2014, 2015]) (ad := [o24, z26, z27, z28, z29, z30, z31, z32, z33, z34, z35, z36, z37]) (k0 := 0) (ci := 16) ck13_10 rfl rfl hM.2.2.2 rfl hP hD hS
  rw [← hu] at hl
  have hu0 := hu.trans hu0
  clear hu hP hD hS
  refine W.widen (k := 35) (n := 3664) (Nat.le_of_ble_eq_true rfl) (Nat.le_of_ble_eq_true rfl) ?_
  refine lv_aload_n hx hb diX13_101 rfl (lv_at hl 0 rfl) ?_
  refine va_new (ci := 15) (fs := [.int 0, .int 0, .null, .null, .null, .null, .null, .null, .null, .null, .null, .null, .int 0, .null, .null, .int 0]) (C := RX12) (T := TX12) (N := 16) hx hb hts wi13_12 tyX12 tyX12_ok hown (hts (.classLink RX13 19 RX12) mi13_9) (hts (.instantiable RX12 16) mi13_10) (hts (.initialized RX12) mi13_11) hK hM.1 hM.2.1 hM.2.2.1 hA rfl (by decide +kernel) (Nat.le_of_ble_eq_true rfl) (Nat.le_of_ble_eq_true rfl) diX13_102 (fun o38 H hP hD hS => ?_)
  refine W.widen (k := 36) (n := 3680) (Nat.le_of_ble_eq_true rfl) (Nat.le_of_ble_eq_true rfl) ?_
  refine lv_dup hx hb diX13_105 rfl ?_
  have hPc := al_subP hP
  have hDc := al_subD hD
  have hFc := al_freeC hD hS hA
  refine va_callv (va_runIN (As := []) (rest := [.ref o38, .ref (u 0)]) ⟨hx, hb, hml, hown, hts⟩ (k_X12_init l dC dI q.1 q.2.1 q.2.2.1 q.2.2.2.1 o38 H.size) ⟨va_cnB (host := "KnotHouseModel") 0 hts gi13_X12 rfl rfl rfl hN_X13_113 (hts (.initialized RX12) mi13_11) (by decide +kernel) ⟨(Nat.le_of_ble_eq_true rfl), (Nat.le_of_ble_eq_true rfl)⟩, rfl, hts (.instanceMethod yX12_init) mi13_12⟩ ⟨fun a U g mk q => by obtain ⟨q0, q1, qP, qK, qD⟩ := q; exact ⟨q0, q1, qP, va_K.moved (u := U) (U := U.calling g mk a) (Vm.Alike.refl U.vm) qK, qD⟩, fun U hU hW => ⟨rfl, by rw [hU], by rw [hU]; exact hPc, va_K.moved hW.alike (hK.sub [0, 1, 2, 3] rfl), hDc.weaken (fun _ _ _ _ => trivial)⟩⟩ rfl rfl hl.1 rfl (lv_room (Nat.le_of_ble_eq_true rfl)) diX13_106 ⟨(Nat.le_of_ble_eq_true rfl), (Nat.le_of_ble_eq_true rfl)⟩) hS (fun q _ h => hFc q h) hFc (fun t39 t H1 locs ht hvm hw hB hz1 hk1 hS => ?_)
  obtain ⟨z40, z41, z42, z43, z44, z45, z46, z47, z48, z49, z50, z51⟩ := t39
  obtain ⟨hP1, hD1⟩ := hB
  rw [ht] at hP1
  obtain ⟨hP, hD⟩ := al_join hP hD hk1 hFc hP1 hD1
  clear hPc hDc hFc hvm hw hz1 hk1 hP1 hD1 ht
  refine W.widen (k := 48) (n := 4240) (Nat.le_of_ble_eq_true rfl) (Nat.le_of_ble_eq_true rfl) ?_
  refine va_putF (D := (dC, dI)) (ci := 16) (v := .ref o38) (ty := .object "KnotHouseModel$Net") (C := RX13) (T := TX13) (N := 120) hx hb hts wi13_13 tyX13 tyX13_ok nmX13 hown hK hP hD hS 0 (al_heA (X := xt13_11) (o := 0) rfl rfl rfl) rfl 14 (by decide) (hts (.fieldLink RX13 121 "KnotHouseModel" "made" "LKnotHouseModel$Net;") mi13_24) (fun _ h9 => h9) rfl hin rfl (by decide +kernel) rfl rfl (by rw [List.length_map]; decide +kernel) diX13_109 (fun H locs hP hD hS => ?_)
  obtain ⟨u, hu, hM⟩ := al_ext (X := xt13_11) (X1 := xt13_12) (o := 0) (k := 14) (h := 3000) (Y := [3000, 3003, 3004, 3005, 3006, 3007, 3008, 3009, 3010, 3011, 3012, 3014, 3015]) (ad := [o38, z40, z41, z42, z43, z44, z45, z46, z47, z48, z49, z50, z51]) (k0 := 0) (ci := 16) ck13_11 rfl rfl hM.2.2.2 rfl hP hD hS
  rw [← hu] at hl
  have hu0 := hu.trans hu0
  clear hu hP hD hS
  refine W.widen (k := 48) (n := 4240) (Nat.le_of_ble_eq_true rfl) (Nat.le_of_ble_eq_true rfl) ?_
  refine lv_aload_n hx hb diX13_112 rfl (lv_at hl 0 rfl) ?_
  refine lv_bipush (v := 16) hx hb diX13_113 (by decide) ?_
  refine ow_newa (D := (dC, dI)) (N' := 16) (a0 := (16, .inl (fun _ => 0))) (ty := .int) hx hb (hts (.arrayClass .int) mi13_3) rfl hK hM.1 hM.2.1 hM.2.2.1 hA 0 rfl (fun _ h => h) (fun _ => rfl) (by decide) (by decide) (by decide) (Nat.le_of_ble_eq_true rfl) (Nat.le_of_ble_eq_true rfl) diX13_115 (fun q52 H hP hD hS => ?_)
  refine W.widen (k := 49) (n := 4256) (Nat.le_of_ble_eq_true rfl) (Nat.le_of_ble_eq_true rfl) ?_
  refine va_putF (D := (dC, dI)) (ci := 16) (v := .ref q52) (ty := .array .int) (C := RX13) (T := TX13) (N := 120) hx hb hts wi13_13 tyX13 tyX13_ok nmX13 hown hK hP hD hS 0 (al_heA (X := xt13_12) (o := 0) rfl rfl rfl) rfl 15 (by decide) (hts (.fieldLink RX13 124 "KnotHouseModel" "name" "[I") mi13_25) (fun _ h9 => h9) rfl hin rfl (by decide +kernel) rfl rfl (by rw [List.length_map]; decide +kernel) diX13_117 (fun H locs hP hD hS => ?_)
  obtain ⟨u, hu, hM⟩ := al_ext (X := xt13_12) (X1 := xt13_13) (o := 0) (k := 15) (h := 16) (Y := [16]) (ad := [q52]) (k0 := 0) (ci := 16) ck13_12 rfl rfl hM.2.2.2 rfl hP hD hS
  rw [← hu] at hl
  have hu0 := hu.trans hu0
  clear hu hP hD hS
  refine W.widen (k := 49) (n := 4256) (Nat.le_of_ble_eq_true rfl) (Nat.le_of_ble_eq_true rfl) ?_
  refine lv_aload_n hx hb diX13_120 rfl (lv_at hl 0 rfl) ?_
  refine lv_bipush (v := 16) hx hb diX13_121 (by decide) ?_
  refine ow_newa (D := (dC, dI)) (N' := 16) (a0 := (16, .inl (fun _ => 0))) (ty := .int) hx hb (hts (.arrayClass .int) mi13_3) rfl hK hM.1 hM.2.1 hM.2.2.1 hA 0 rfl (fun _ h => h) (fun _ => rfl) (by decide) (by decide) (by decide) (Nat.le_of_ble_eq_true rfl) (Nat.le_of_ble_eq_true rfl) diX13_123 (fun q53 H hP hD hS => ?_)
  refine W.widen (k := 50) (n := 4272) (Nat.le_of_ble_eq_true rfl) (Nat.le_of_ble_eq_true rfl) ?_
  refine va_putF (D := (dC, dI)) (ci := 16) (v := .ref q53) (ty := .array .int) (C := RX13) (T := TX13) (N := 120) hx hb hts wi13_13 tyX13 tyX13_ok nmX13 hown hK hP hD hS 0 (al_heA (X := xt13_13) (o := 0) rfl rfl rfl) rfl 16 (by decide) (hts (.fieldLink RX13 127 "KnotHouseModel" "nameSign" "[I") mi13_26) (fun _ h9 => h9) rfl hin rfl (by decide +kernel) rfl rfl (by rw [List.length_map]; decide +kernel) diX13_125 (fun H locs hP hD hS => ?_)
  obtain ⟨u, hu, hM⟩ := al_ext (X := xt13_13) (X1 := xt13_14) (o := 0) (k := 16) (h := 17) (Y := [17]) (ad := [q53]) (k0 := 0) (ci := 16) ck13_13 rfl rfl hM.2.2.2 rfl hP hD hS
  rw [← hu] at hl
  have hu0 := hu.trans hu0
  clear hu hP hD hS
  refine W.widen (k := 50) (n := 4272) (Nat.le_of_ble_eq_true rfl) (Nat.le_of_ble_eq_true rfl) ?_
  exact kk u _ _ ls hu0 hM hl
set_option maxHeartbeats 4000000 in
set_option maxRecDepth 100000 in
theorem hc13_1 {p : Program} {l : Launch} {e : Env} {s : State} {m : MethodId} {args : Array Value} {below : List Frame} {meth : Method} {c : Code} {Q : State → Prop} {A : Nat → Prop} {dC : Nat → ClassId} {dI : Nat → Nat → Nat} {q : ow_Q5} (hx : p.tables.exec = Jvm.exec) (hb : c.code = cX13_init) (hml : c.maxLocals = 2) (hown : s.vm.findClass RX13 = some m.cls) (hts : ∀ w ∈ wi13, w.before args s = true) (hin : meth.name = "<init>") (hA : ∀ q : Nat, s.heap.size ≤ q → A q) (hK : va_K (dC, dI) vwCl (tw_T q RX12) s) (hN_X13_113 : va_Nw (.methodLinkNest RX13 113 yX12_init "KnotHouseModel") s) (hAO : va_AO RX12 s) (u : Nat → Nat) (H : Heap) (locs : List Loc) (ls : Array Slot) {a0 : Nat} (hu0 : u 0 = a0) (hM : al_M (dC, dI) vwCl xt13_14 (q5f q) A s.heap u Z13 H locs) (hl : lv_has ls 2 [(0, .ref (u 0))]) (kk : ∀ (u : Nat → Nat) (H : Heap) (locs : List Loc) (ls : Array Slot), u 0 = a0 → al_M (dC, dI) vwCl xt13_28 (q5f q) A s.heap u Z13 H locs → lv_has ls 2 [(0, .ref (u 0))] → W p l e RI13 s m args below meth c H locs 64 136426 Q (F0 m 241 ls [])) : W p l e RI13 s m args below meth c H locs 50 4272 Q (F0 m 128 ls []) := by
  refine lv_aload_n hx hb diX13_128 rfl (lv_at hl 0 rfl) ?_
  refine lv_bipush (v := 16) hx hb diX13_129 (by decide) ?_
  refine ow_newa (D := (dC, dI)) (N' := 16) (a0 := (16, .inl (fun _ => 0))) (ty := .int) hx hb (hts (.arrayClass .int) mi13_3) rfl hK hM.1 hM.2.1 hM.2.2.1 hA 0 rfl (fun _ h => h) (fun _ => rfl) (by decide) (by decide) (by decide) (Nat.le_of_ble_eq_true rfl) (Nat.le_of_ble_eq_true rfl) diX13_131 (fun q54 H hP hD hS => ?_)
  refine W.widen (k := 51) (n := 4288) (Nat.le_of_ble_eq_true rfl) (Nat.le_of_ble_eq_true rfl) ?_
  refine va_putF (D := (dC, dI)) (ci := 16) (v := .ref q54) (ty := .array .int) (C := RX13) (T := TX13) (N := 120) hx hb hts wi13_13 tyX13 tyX13_ok nmX13 hown hK hP hD hS 0 (al_heA (X := xt13_14) (o := 0) rfl rfl rfl) rfl 17 (by decide) (hts (.fieldLink RX13 130 "KnotHouseModel" "nameAt" "[I") mi13_27) (fun _ h9 => h9) rfl hin rfl (by decide +kernel) rfl rfl (by rw [List.length_map]; decide +kernel) diX13_133 (fun H locs hP hD hS => ?_)
  obtain ⟨u, hu, hM⟩ := al_ext (X := xt13_14) (X1 := xt13_15) (o := 0) (k := 17) (h := 18) (Y := [18]) (ad := [q54]) (k0 := 0) (ci := 16) ck13_14 rfl rfl hM.2.2.2 rfl hP hD hS
  rw [← hu] at hl
  have hu0 := hu.trans hu0
  clear hu hP hD hS
  refine W.widen (k := 51) (n := 4288) (Nat.le_of_ble_eq_true rfl) (Nat.le_of_ble_eq_true rfl) ?_
  refine lv_aload_n hx hb diX13_136 rfl (lv_at hl 0 rfl) ?_
  refine lv_bipush (v := 16) hx hb diX13_137 (by decide) ?_
  refine ow_newa (D := (dC, dI)) (N' := 16) (a0 := (16, .inl (fun _ => 0))) (ty := .int) hx hb (hts (.arrayClass .int) mi13_3) rfl hK hM.1 hM.2.1 hM.2.2.1 hA 0 rfl (fun _ h => h) (fun _ => rfl) (by decide) (by decide) (by decide) (Nat.le_of_ble_eq_true rfl) (Nat.le_of_ble_eq_true rfl) diX13_139 (fun q55 H hP hD hS => ?_)
  refine W.widen (k := 52) (n := 4304) (Nat.le_of_ble_eq_true rfl) (Nat.le_of_ble_eq_true rfl) ?_
  refine va_putF (D := (dC, dI)) (ci := 16) (v := .ref q55) (ty := .array .int) (C := RX13) (T := TX13) (N := 120) hx hb hts wi13_13 tyX13 tyX13_ok nmX13 hown hK hP hD hS 0 (al_heA (X := xt13_15) (o := 0) rfl rfl rfl) rfl 18 (by decide) (hts (.fieldLink RX13 133 "KnotHouseModel" "nameHas" "[I") mi13_28) (fun _ h9 => h9) rfl hin rfl (by decide +kernel) rfl rfl (by rw [List.length_map]; decide +kernel) diX13_141 (fun H locs hP hD hS => ?_)
  obtain ⟨u, hu, hM⟩ := al_ext (X := xt13_15) (X1 := xt13_16) (o := 0) (k := 18) (h := 19) (Y := [19]) (ad := [q55]) (k0 := 0) (ci := 16) ck13_15 rfl rfl hM.2.2.2 rfl hP hD hS
  rw [← hu] at hl
  have hu0 := hu.trans hu0
  clear hu hP hD hS
  refine W.widen (k := 52) (n := 4304) (Nat.le_of_ble_eq_true rfl) (Nat.le_of_ble_eq_true rfl) ?_
  refine lv_aload_n hx hb diX13_144 rfl (lv_at hl 0 rfl) ?_
  refine lv_ldc (v := 86400) hx hb hown (hts (.constant RX13 136 (86400)) mi13_7) diX13_145 ?_
  refine ow_newa (D := (dC, dI)) (N' := 86400) (a0 := (86400, .inl (fun _ => 0))) (ty := .int) hx hb (hts (.arrayClass .int) mi13_3) rfl hK hM.1 hM.2.1 hM.2.2.1 hA 0 rfl (fun _ h => h) (fun _ => rfl) (by decide) (by decide) (by decide) (Nat.le_of_ble_eq_true rfl) (Nat.le_of_ble_eq_true rfl) diX13_147 (fun q56 H hP hD hS => ?_)
  refine W.widen (k := 53) (n := 90704) (Nat.le_of_ble_eq_true rfl) (Nat.le_of_ble_eq_true rfl) ?_
  refine va_putF (D := (dC, dI)) (ci := 16) (v := .ref q56) (ty := .array .int) (C := RX13) (T := TX13) (N := 120) hx hb hts wi13_13 tyX13 tyX13_ok nmX13 hown hK hP hD hS 0 (al_heA (X := xt13_16) (o := 0) rfl rfl rfl) rfl 19 (by decide) (hts (.fieldLink RX13 137 "KnotHouseModel" "list" "[I") mi13_29) (fun _ h9 => h9) rfl hin rfl (by decide +kernel) rfl rfl (by rw [List.length_map]; decide +kernel) diX13_149 (fun H locs hP hD hS => ?_)
  obtain ⟨u, hu, hM⟩ := al_ext (X := xt13_16) (X1 := xt13_17) (o := 0) (k := 19) (h := 20) (Y := [20]) (ad := [q56]) (k0 := 0) (ci := 16) ck13_16 rfl rfl hM.2.2.2 rfl hP hD hS
  rw [← hu] at hl
  have hu0 := hu.trans hu0
  clear hu hP hD hS
  refine W.widen (k := 53) (n := 90704) (Nat.le_of_ble_eq_true rfl) (Nat.le_of_ble_eq_true rfl) ?_
  refine lv_aload_n hx hb diX13_152 rfl (lv_at hl 0 rfl) ?_
  refine lv_sipush (v := 2700) hx hb diX13_153 (by decide) ?_
  refine ow_newa (D := (dC, dI)) (N' := 2700) (a0 := (2700, .inl (fun _ => 0))) (ty := .int) hx hb (hts (.arrayClass .int) mi13_3) rfl hK hM.1 hM.2.1 hM.2.2.1 hA 0 rfl (fun _ h => h) (fun _ => rfl) (by decide) (by decide) (by decide) (Nat.le_of_ble_eq_true rfl) (Nat.le_of_ble_eq_true rfl) diX13_156 (fun q57 H hP hD hS => ?_)
  refine W.widen (k := 54) (n := 93404) (Nat.le_of_ble_eq_true rfl) (Nat.le_of_ble_eq_true rfl) ?_
  refine va_putF (D := (dC, dI)) (ci := 16) (v := .ref q57) (ty := .array .int) (C := RX13) (T := TX13) (N := 120) hx hb hts wi13_13 tyX13 tyX13_ok nmX13 hown hK hP hD hS 0 (al_heA (X := xt13_17) (o := 0) rfl rfl rfl) rfl 20 (by decide) (hts (.fieldLink RX13 140 "KnotHouseModel" "order" "[I") mi13_30) (fun _ h9 => h9) rfl hin rfl (by decide +kernel) rfl rfl (by rw [List.length_map]; decide +kernel) diX13_158 (fun H locs hP hD hS => ?_)
  obtain ⟨u, hu, hM⟩ := al_ext (X := xt13_17) (X1 := xt13_18) (o := 0) (k := 20) (h := 21) (Y := [21]) (ad := [q57]) (k0 := 0) (ci := 16) ck13_17 rfl rfl hM.2.2.2 rfl hP hD hS
  rw [← hu] at hl
  have hu0 := hu.trans hu0
  clear hu hP hD hS
  refine W.widen (k := 54) (n := 93404) (Nat.le_of_ble_eq_true rfl) (Nat.le_of_ble_eq_true rfl) ?_
  refine lv_aload_n hx hb diX13_161 rfl (lv_at hl 0 rfl) ?_
  refine lv_sipush (v := 32000) hx hb diX13_162 (by decide) ?_
  refine ow_newa (D := (dC, dI)) (N' := 32000) (a0 := (32000, .inl (fun _ => 0))) (ty := .int) hx hb (hts (.arrayClass .int) mi13_3) rfl hK hM.1 hM.2.1 hM.2.2.1 hA 0 rfl (fun _ h => h) (fun _ => rfl) (by decide) (by decide) (by decide) (Nat.le_of_ble_eq_true rfl) (Nat.le_of_ble_eq_true rfl) diX13_165 (fun q58 H hP hD hS => ?_)
  refine W.widen (k := 55) (n := 125404) (Nat.le_of_ble_eq_true rfl) (Nat.le_of_ble_eq_true rfl) ?_
  refine va_putF (D := (dC, dI)) (ci := 16) (v := .ref q58) (ty := .array .int) (C := RX13) (T := TX13) (N := 120) hx hb hts wi13_13 tyX13 tyX13_ok nmX13 hown hK hP hD hS 0 (al_heA (X := xt13_18) (o := 0) rfl rfl rfl) rfl 22 (by decide) (hts (.fieldLink RX13 143 "KnotHouseModel" "near" "[I") mi13_31) (fun _ h9 => h9) rfl hin rfl (by decide +kernel) rfl rfl (by rw [List.length_map]; decide +kernel) diX13_167 (fun H locs hP hD hS => ?_)
  obtain ⟨u, hu, hM⟩ := al_ext (X := xt13_18) (X1 := xt13_19) (o := 0) (k := 22) (h := 23) (Y := [23]) (ad := [q58]) (k0 := 0) (ci := 16) ck13_18 rfl rfl hM.2.2.2 rfl hP hD hS
  rw [← hu] at hl
  have hu0 := hu.trans hu0
  clear hu hP hD hS
  refine W.widen (k := 55) (n := 125404) (Nat.le_of_ble_eq_true rfl) (Nat.le_of_ble_eq_true rfl) ?_
  refine lv_aload_n hx hb diX13_170 rfl (lv_at hl 0 rfl) ?_
  refine lv_sipush (v := 9920) hx hb diX13_171 (by decide) ?_
  refine ow_newa (D := (dC, dI)) (N' := 9920) (a0 := (9920, .inl (fun _ => 0))) (ty := .int) hx hb (hts (.arrayClass .int) mi13_3) rfl hK hM.1 hM.2.1 hM.2.2.1 hA 0 rfl (fun _ h => h) (fun _ => rfl) (by decide) (by decide) (by decide) (Nat.le_of_ble_eq_true rfl) (Nat.le_of_ble_eq_true rfl) diX13_174 (fun q59 H hP hD hS => ?_)
  refine W.widen (k := 56) (n := 135324) (Nat.le_of_ble_eq_true rfl) (Nat.le_of_ble_eq_true rfl) ?_
  refine va_putF (D := (dC, dI)) (ci := 16) (v := .ref q59) (ty := .array .int) (C := RX13) (T := TX13) (N := 120) hx hb hts wi13_13 tyX13 tyX13_ok nmX13 hown hK hP hD hS 0 (al_heA (X := xt13_19) (o := 0) rfl rfl rfl) rfl 24 (by decide) (hts (.fieldLink RX13 146 "KnotHouseModel" "seen" "[I") mi13_32) (fun _ h9 => h9) rfl hin rfl (by decide +kernel) rfl rfl (by rw [List.length_map]; decide +kernel) diX13_176 (fun H locs hP hD hS => ?_)
  obtain ⟨u, hu, hM⟩ := al_ext (X := xt13_19) (X1 := xt13_20) (o := 0) (k := 24) (h := 25) (Y := [25]) (ad := [q59]) (k0 := 0) (ci := 16) ck13_19 rfl rfl hM.2.2.2 rfl hP hD hS
  rw [← hu] at hl
  have hu0 := hu.trans hu0
  clear hu hP hD hS
  refine W.widen (k := 56) (n := 135324) (Nat.le_of_ble_eq_true rfl) (Nat.le_of_ble_eq_true rfl) ?_
  refine lv_aload_n hx hb diX13_179 rfl (lv_at hl 0 rfl) ?_
  refine lv_bipush (v := 32) hx hb diX13_180 (by decide) ?_
  refine ow_newa (D := (dC, dI)) (N' := 32) (a0 := (32, .inl (fun _ => 0))) (ty := .int) hx hb (hts (.arrayClass .int) mi13_3) rfl hK hM.1 hM.2.1 hM.2.2.1 hA 0 rfl (fun _ h => h) (fun _ => rfl) (by decide) (by decide) (by decide) (Nat.le_of_ble_eq_true rfl) (Nat.le_of_ble_eq_true rfl) diX13_182 (fun q60 H hP hD hS => ?_)
  refine W.widen (k := 57) (n := 135356) (Nat.le_of_ble_eq_true rfl) (Nat.le_of_ble_eq_true rfl) ?_
  refine va_putF (D := (dC, dI)) (ci := 16) (v := .ref q60) (ty := .array .int) (C := RX13) (T := TX13) (N := 120) hx hb hts wi13_13 tyX13 tyX13_ok nmX13 hown hK hP hD hS 0 (al_heA (X := xt13_20) (o := 0) rfl rfl rfl) rfl 26 (by decide) (hts (.fieldLink RX13 149 "KnotHouseModel" "fresh" "[I") mi13_33) (fun _ h9 => h9) rfl hin rfl (by decide +kernel) rfl rfl (by rw [List.length_map]; decide +kernel) diX13_184 (fun H locs hP hD hS => ?_)
  obtain ⟨u, hu, hM⟩ := al_ext (X := xt13_20) (X1 := xt13_21) (o := 0) (k := 26) (h := 27) (Y := [27]) (ad := [q60]) (k0 := 0) (ci := 16) ck13_20 rfl rfl hM.2.2.2 rfl hP hD hS
  rw [← hu] at hl
  have hu0 := hu.trans hu0
  clear hu hP hD hS
  refine W.widen (k := 57) (n := 135356) (Nat.le_of_ble_eq_true rfl) (Nat.le_of_ble_eq_true rfl) ?_
  refine lv_aload_n hx hb diX13_187 rfl (lv_at hl 0 rfl) ?_
  refine lv_bipush (v := 32) hx hb diX13_188 (by decide) ?_
  refine ow_newa (D := (dC, dI)) (N' := 32) (a0 := (32, .inl (fun _ => 0))) (ty := .int) hx hb (hts (.arrayClass .int) mi13_3) rfl hK hM.1 hM.2.1 hM.2.2.1 hA 0 rfl (fun _ h => h) (fun _ => rfl) (by decide) (by decide) (by decide) (Nat.le_of_ble_eq_true rfl) (Nat.le_of_ble_eq_true rfl) diX13_190 (fun q61 H hP hD hS => ?_)
  refine W.widen (k := 58) (n := 135388) (Nat.le_of_ble_eq_true rfl) (Nat.le_of_ble_eq_true rfl) ?_
  refine va_putF (D := (dC, dI)) (ci := 16) (v := .ref q61) (ty := .array .int) (C := RX13) (T := TX13) (N := 120) hx hb hts wi13_13 tyX13 tyX13_ok nmX13 hown hK hP hD hS 0 (al_heA (X := xt13_21) (o := 0) rfl rfl rfl) rfl 27 (by decide) (hts (.fieldLink RX13 152 "KnotHouseModel" "target" "[I") mi13_34) (fun _ h9 => h9) rfl hin rfl (by decide +kernel) rfl rfl (by rw [List.length_map]; decide +kernel) diX13_192 (fun H locs hP hD hS => ?_)
  obtain ⟨u, hu, hM⟩ := al_ext (X := xt13_21) (X1 := xt13_22) (o := 0) (k := 27) (h := 28) (Y := [28]) (ad := [q61]) (k0 := 0) (ci := 16) ck13_21 rfl rfl hM.2.2.2 rfl hP hD hS
  rw [← hu] at hl
  have hu0 := hu.trans hu0
  clear hu hP hD hS
  refine W.widen (k := 58) (n := 135388) (Nat.le_of_ble_eq_true rfl) (Nat.le_of_ble_eq_true rfl) ?_
  refine lv_aload_n hx hb diX13_195 rfl (lv_at hl 0 rfl) ?_
  refine lv_iconst (v := 4) hx hb diX13_196 (by decide) ?_
  refine ow_newa (D := (dC, dI)) (N' := 4) (a0 := (4, .inl (fun _ => 0))) (ty := .int) hx hb (hts (.arrayClass .int) mi13_3) rfl hK hM.1 hM.2.1 hM.2.2.1 hA 0 rfl (fun _ h => h) (fun _ => rfl) (by decide) (by decide) (by decide) (Nat.le_of_ble_eq_true rfl) (Nat.le_of_ble_eq_true rfl) diX13_197 (fun q62 H hP hD hS => ?_)
  refine W.widen (k := 59) (n := 135392) (Nat.le_of_ble_eq_true rfl) (Nat.le_of_ble_eq_true rfl) ?_
  refine va_putF (D := (dC, dI)) (ci := 16) (v := .ref q62) (ty := .array .int) (C := RX13) (T := TX13) (N := 120) hx hb hts wi13_13 tyX13 tyX13_ok nmX13 hown hK hP hD hS 0 (al_heA (X := xt13_22) (o := 0) rfl rfl rfl) rfl 30 (by decide) (hts (.fieldLink RX13 155 "KnotHouseModel" "putCross" "[I") mi13_35) (fun _ h9 => h9) rfl hin rfl (by decide +kernel) rfl rfl (by rw [List.length_map]; decide +kernel) diX13_199 (fun H locs hP hD hS => ?_)
  obtain ⟨u, hu, hM⟩ := al_ext (X := xt13_22) (X1 := xt13_23) (o := 0) (k := 30) (h := 31) (Y := [31]) (ad := [q62]) (k0 := 0) (ci := 16) ck13_22 rfl rfl hM.2.2.2 rfl hP hD hS
  rw [← hu] at hl
  have hu0 := hu.trans hu0
  clear hu hP hD hS
  refine W.widen (k := 59) (n := 135392) (Nat.le_of_ble_eq_true rfl) (Nat.le_of_ble_eq_true rfl) ?_
  refine lv_aload_n hx hb diX13_202 rfl (lv_at hl 0 rfl) ?_
  refine lv_iconst (v := 4) hx hb diX13_203 (by decide) ?_
  refine ow_newa (D := (dC, dI)) (N' := 4) (a0 := (4, .inl (fun _ => 0))) (ty := .int) hx hb (hts (.arrayClass .int) mi13_3) rfl hK hM.1 hM.2.1 hM.2.2.1 hA 0 rfl (fun _ h => h) (fun _ => rfl) (by decide) (by decide) (by decide) (Nat.le_of_ble_eq_true rfl) (Nat.le_of_ble_eq_true rfl) diX13_204 (fun q63 H hP hD hS => ?_)
  refine W.widen (k := 60) (n := 135396) (Nat.le_of_ble_eq_true rfl) (Nat.le_of_ble_eq_true rfl) ?_
  refine va_putF (D := (dC, dI)) (ci := 16) (v := .ref q63) (ty := .array .int) (C := RX13) (T := TX13) (N := 120) hx hb hts wi13_13 tyX13 tyX13_ok nmX13 hown hK hP hD hS 0 (al_heA (X := xt13_23) (o := 0) rfl rfl rfl) rfl 31 (by decide) (hts (.fieldLink RX13 158 "KnotHouseModel" "putUnder" "[I") mi13_36) (fun _ h9 => h9) rfl hin rfl (by decide +kernel) rfl rfl (by rw [List.length_map]; decide +kernel) diX13_206 (fun H locs hP hD hS => ?_)
  obtain ⟨u, hu, hM⟩ := al_ext (X := xt13_23) (X1 := xt13_24) (o := 0) (k := 31) (h := 32) (Y := [32]) (ad := [q63]) (k0 := 0) (ci := 16) ck13_23 rfl rfl hM.2.2.2 rfl hP hD hS
  rw [← hu] at hl
  have hu0 := hu.trans hu0
  clear hu hP hD hS
  refine W.widen (k := 60) (n := 135396) (Nat.le_of_ble_eq_true rfl) (Nat.le_of_ble_eq_true rfl) ?_
  refine lv_aload_n hx hb diX13_209 rfl (lv_at hl 0 rfl) ?_
  refine lv_iconst (v := 3) hx hb diX13_210 (by decide) ?_
  refine ow_newa (D := (dC, dI)) (N' := 3) (a0 := (3, .inl (fun _ => 0))) (ty := .int) hx hb (hts (.arrayClass .int) mi13_3) rfl hK hM.1 hM.2.1 hM.2.2.1 hA 0 rfl (fun _ h => h) (fun _ => rfl) (by decide) (by decide) (by decide) (Nat.le_of_ble_eq_true rfl) (Nat.le_of_ble_eq_true rfl) diX13_211 (fun q64 H hP hD hS => ?_)
  refine W.widen (k := 61) (n := 135399) (Nat.le_of_ble_eq_true rfl) (Nat.le_of_ble_eq_true rfl) ?_
  refine va_putF (D := (dC, dI)) (ci := 16) (v := .ref q64) (ty := .array .int) (C := RX13) (T := TX13) (N := 120) hx hb hts wi13_13 tyX13 tyX13_ok nmX13 hown hK hP hD hS 0 (al_heA (X := xt13_24) (o := 0) rfl rfl rfl) rfl 32 (by decide) (hts (.fieldLink RX13 161 "KnotHouseModel" "side" "[I") mi13_37) (fun _ h9 => h9) rfl hin rfl (by decide +kernel) rfl rfl (by rw [List.length_map]; decide +kernel) diX13_213 (fun H locs hP hD hS => ?_)
  obtain ⟨u, hu, hM⟩ := al_ext (X := xt13_24) (X1 := xt13_25) (o := 0) (k := 32) (h := 33) (Y := [33]) (ad := [q64]) (k0 := 0) (ci := 16) ck13_24 rfl rfl hM.2.2.2 rfl hP hD hS
  rw [← hu] at hl
  have hu0 := hu.trans hu0
  clear hu hP hD hS
  refine W.widen (k := 61) (n := 135399) (Nat.le_of_ble_eq_true rfl) (Nat.le_of_ble_eq_true rfl) ?_
  refine lv_aload_n hx hb diX13_216 rfl (lv_at hl 0 rfl) ?_
  refine lv_iconst (v := 3) hx hb diX13_217 (by decide) ?_
  refine ow_newa (D := (dC, dI)) (N' := 3) (a0 := (3, .inl (fun _ => 0))) (ty := .int) hx hb (hts (.arrayClass .int) mi13_3) rfl hK hM.1 hM.2.1 hM.2.2.1 hA 0 rfl (fun _ h => h) (fun _ => rfl) (by decide) (by decide) (by decide) (Nat.le_of_ble_eq_true rfl) (Nat.le_of_ble_eq_true rfl) diX13_218 (fun q65 H hP hD hS => ?_)
  refine W.widen (k := 62) (n := 135402) (Nat.le_of_ble_eq_true rfl) (Nat.le_of_ble_eq_true rfl) ?_
  refine va_putF (D := (dC, dI)) (ci := 16) (v := .ref q65) (ty := .array .int) (C := RX13) (T := TX13) (N := 120) hx hb hts wi13_13 tyX13 tyX13_ok nmX13 hown hK hP hD hS 0 (al_heA (X := xt13_25) (o := 0) rfl rfl rfl) rfl 33 (by decide) (hts (.fieldLink RX13 164 "KnotHouseModel" "corner" "[I") mi13_38) (fun _ h9 => h9) rfl hin rfl (by decide +kernel) rfl rfl (by rw [List.length_map]; decide +kernel) diX13_220 (fun H locs hP hD hS => ?_)
  obtain ⟨u, hu, hM⟩ := al_ext (X := xt13_25) (X1 := xt13_26) (o := 0) (k := 33) (h := 34) (Y := [34]) (ad := [q65]) (k0 := 0) (ci := 16) ck13_25 rfl rfl hM.2.2.2 rfl hP hD hS
  rw [← hu] at hl
  have hu0 := hu.trans hu0
  clear hu hP hD hS
  refine W.widen (k := 62) (n := 135402) (Nat.le_of_ble_eq_true rfl) (Nat.le_of_ble_eq_true rfl) ?_
  refine lv_aload_n hx hb diX13_223 rfl (lv_at hl 0 rfl) ?_
  refine lv_sipush (v := 512) hx hb diX13_224 (by decide) ?_
  refine ow_newa (D := (dC, dI)) (N' := 512) (a0 := (512, .inl (fun _ => 0))) (ty := .int) hx hb (hts (.arrayClass .int) mi13_3) rfl hK hM.1 hM.2.1 hM.2.2.1 hA 0 rfl (fun _ h => h) (fun _ => rfl) (by decide) (by decide) (by decide) (Nat.le_of_ble_eq_true rfl) (Nat.le_of_ble_eq_true rfl) diX13_227 (fun q66 H hP hD hS => ?_)
  refine W.widen (k := 63) (n := 135914) (Nat.le_of_ble_eq_true rfl) (Nat.le_of_ble_eq_true rfl) ?_
  refine va_putF (D := (dC, dI)) (ci := 16) (v := .ref q66) (ty := .array .int) (C := RX13) (T := TX13) (N := 120) hx hb hts wi13_13 tyX13 tyX13_ok nmX13 hown hK hP hD hS 0 (al_heA (X := xt13_26) (o := 0) rfl rfl rfl) rfl 34 (by decide) (hts (.fieldLink RX13 167 "KnotHouseModel" "summands" "[I") mi13_39) (fun _ h9 => h9) rfl hin rfl (by decide +kernel) rfl rfl (by rw [List.length_map]; decide +kernel) diX13_229 (fun H locs hP hD hS => ?_)
  obtain ⟨u, hu, hM⟩ := al_ext (X := xt13_26) (X1 := xt13_27) (o := 0) (k := 34) (h := 35) (Y := [35]) (ad := [q66]) (k0 := 0) (ci := 16) ck13_26 rfl rfl hM.2.2.2 rfl hP hD hS
  rw [← hu] at hl
  have hu0 := hu.trans hu0
  clear hu hP hD hS
  refine W.widen (k := 63) (n := 135914) (Nat.le_of_ble_eq_true rfl) (Nat.le_of_ble_eq_true rfl) ?_
  refine lv_aload_n hx hb diX13_232 rfl (lv_at hl 0 rfl) ?_
  refine lv_sipush (v := 512) hx hb diX13_233 (by decide) ?_
  refine ow_newa (D := (dC, dI)) (N' := 512) (a0 := (512, .inl (fun _ => 0))) (ty := .int) hx hb (hts (.arrayClass .int) mi13_3) rfl hK hM.1 hM.2.1 hM.2.2.1 hA 0 rfl (fun _ h => h) (fun _ => rfl) (by decide) (by decide) (by decide) (Nat.le_of_ble_eq_true rfl) (Nat.le_of_ble_eq_true rfl) diX13_236 (fun q67 H hP hD hS => ?_)
  refine W.widen (k := 64) (n := 136426) (Nat.le_of_ble_eq_true rfl) (Nat.le_of_ble_eq_true rfl) ?_
  refine va_putF (D := (dC, dI)) (ci := 16) (v := .ref q67) (ty := .array .int) (C := RX13) (T := TX13) (N := 120) hx hb hts wi13_13 tyX13 tyX13_ok nmX13 hown hK hP hD hS 0 (al_heA (X := xt13_27) (o := 0) rfl rfl rfl) rfl 36 (by decide) (hts (.fieldLink RX13 170 "KnotHouseModel" "waits" "[I") mi13_40) (fun _ h9 => h9) rfl hin rfl (by decide +kernel) rfl rfl (by rw [List.length_map]; decide +kernel) diX13_238 (fun H locs hP hD hS => ?_)
  obtain ⟨u, hu, hM⟩ := al_ext (X := xt13_27) (X1 := xt13_28) (o := 0) (k := 36) (h := 37) (Y := [37]) (ad := [q67]) (k0 := 0) (ci := 16) ck13_27 rfl rfl hM.2.2.2 rfl hP hD hS
  rw [← hu] at hl
  have hu0 := hu.trans hu0
  clear hu hP hD hS
  refine W.widen (k := 64) (n := 136426) (Nat.le_of_ble_eq_true rfl) (Nat.le_of_ble_eq_true rfl) ?_
  exact kk u _ _ ls hu0 hM hl
set_option maxHeartbeats 4000000 in
set_option maxRecDepth 100000 in
theorem hc13_2 {p : Program} {l : Launch} {e : Env} {s : State} {m : MethodId} {args : Array Value} {below : List Frame} {meth : Method} {c : Code} {Q : State → Prop} {A : Nat → Prop} {dC : Nat → ClassId} {dI : Nat → Nat → Nat} {q : ow_Q5} (hx : p.tables.exec = Jvm.exec) (hb : c.code = cX13_init) (hml : c.maxLocals = 2) (hown : s.vm.findClass RX13 = some m.cls) (hts : ∀ w ∈ wi13, w.before args s = true) (hin : meth.name = "<init>") (hA : ∀ q : Nat, s.heap.size ≤ q → A q) (hK : va_K (dC, dI) vwCl (tw_T q RX12) s) (hN_X13_113 : va_Nw (.methodLinkNest RX13 113 yX12_init "KnotHouseModel") s) (hAO : va_AO RX12 s) (u : Nat → Nat) (H : Heap) (locs : List Loc) (ls : Array Slot) {a0 : Nat} (hu0 : u 0 = a0) (hM : al_M (dC, dI) vwCl xt13_28 (q5f q) A s.heap u Z13 H locs) (hl : lv_has ls 2 [(0, .ref (u 0))]) (kk : ∀ (u : Nat → Nat) (H : Heap) (locs : List Loc) (ls : Array Slot), u 0 = a0 → al_M (dC, dI) vwCl xt13_42 (q5f q) A s.heap u Z13 H locs → lv_has ls 2 [(0, .ref (u 0))] → W p l e RI13 s m args below meth c H locs 78 142812 Q (F0 m 358 ls [])) : W p l e RI13 s m args below meth c H locs 64 136426 Q (F0 m 241 ls []) := by
  refine lv_aload_n hx hb diX13_241 rfl (lv_at hl 0 rfl) ?_
  refine lv_bipush (v := 48) hx hb diX13_242 (by decide) ?_
  refine ow_newa (D := (dC, dI)) (N' := 48) (a0 := (48, .inl (fun _ => 0))) (ty := .boolean) hx hb (hts (.arrayClass .boolean) mi13_6) rfl hK hM.1 hM.2.1 hM.2.2.1 hA 3 rfl (fun _ h => h) (fun _ => rfl) (by decide) (by decide) (by decide) (Nat.le_of_ble_eq_true rfl) (Nat.le_of_ble_eq_true rfl) diX13_244 (fun q68 H hP hD hS => ?_)
  refine W.widen (k := 65) (n := 136474) (Nat.le_of_ble_eq_true rfl) (Nat.le_of_ble_eq_true rfl) ?_
  refine va_putF (D := (dC, dI)) (ci := 16) (v := .ref q68) (ty := .array .boolean) (C := RX13) (T := TX13) (N := 120) hx hb hts wi13_13 tyX13 tyX13_ok nmX13 hown hK hP hD hS 0 (al_heA (X := xt13_28) (o := 0) rfl rfl rfl) rfl 37 (by decide) (hts (.fieldLink RX13 173 "KnotHouseModel" "reached" "[Z") mi13_41) (fun _ h9 => h9) rfl hin rfl (by decide +kernel) rfl rfl (by rw [List.length_map]; decide +kernel) diX13_246 (fun H locs hP hD hS => ?_)
  obtain ⟨u, hu, hM⟩ := al_ext (X := xt13_28) (X1 := xt13_29) (o := 0) (k := 37) (h := 38) (Y := [38]) (ad := [q68]) (k0 := 0) (ci := 16) ck13_28 rfl rfl hM.2.2.2 rfl hP hD hS
  rw [← hu] at hl
  have hu0 := hu.trans hu0
  clear hu hP hD hS
  refine W.widen (k := 65) (n := 136474) (Nat.le_of_ble_eq_true rfl) (Nat.le_of_ble_eq_true rfl) ?_
  refine lv_aload_n hx hb diX13_249 rfl (lv_at hl 0 rfl) ?_
  refine lv_bipush (v := 16) hx hb diX13_250 (by decide) ?_
  refine ow_newa (D := (dC, dI)) (N' := 16) (a0 := (16, .inl (fun _ => 0))) (ty := .int) hx hb (hts (.arrayClass .int) mi13_3) rfl hK hM.1 hM.2.1 hM.2.2.1 hA 0 rfl (fun _ h => h) (fun _ => rfl) (by decide) (by decide) (by decide) (Nat.le_of_ble_eq_true rfl) (Nat.le_of_ble_eq_true rfl) diX13_252 (fun q69 H hP hD hS => ?_)
  refine W.widen (k := 66) (n := 136490) (Nat.le_of_ble_eq_true rfl) (Nat.le_of_ble_eq_true rfl) ?_
  refine va_putF (D := (dC, dI)) (ci := 16) (v := .ref q69) (ty := .array .int) (C := RX13) (T := TX13) (N := 120) hx hb hts wi13_13 tyX13 tyX13_ok nmX13 hown hK hP hD hS 0 (al_heA (X := xt13_29) (o := 0) rfl rfl rfl) rfl 38 (by decide) (hts (.fieldLink RX13 176 "KnotHouseModel" "ordered" "[I") mi13_42) (fun _ h9 => h9) rfl hin rfl (by decide +kernel) rfl rfl (by rw [List.length_map]; decide +kernel) diX13_254 (fun H locs hP hD hS => ?_)
  obtain ⟨u, hu, hM⟩ := al_ext (X := xt13_29) (X1 := xt13_30) (o := 0) (k := 38) (h := 39) (Y := [39]) (ad := [q69]) (k0 := 0) (ci := 16) ck13_29 rfl rfl hM.2.2.2 rfl hP hD hS
  rw [← hu] at hl
  have hu0 := hu.trans hu0
  clear hu hP hD hS
  refine W.widen (k := 66) (n := 136490) (Nat.le_of_ble_eq_true rfl) (Nat.le_of_ble_eq_true rfl) ?_
  refine lv_aload_n hx hb diX13_257 rfl (lv_at hl 0 rfl) ?_
  refine lv_bipush (v := 15) hx hb diX13_258 (by decide) ?_
  refine al_newq (D := (dC, dI)) (C := RX12) (N' := 15) hx hb hown (hts (.classLink RX13 19 RX12) mi13_9) hAO hK hM.1 hM.2.1 hM.2.2.1 hA 4 rfl (by decide) (by decide) (by decide) (Nat.le_of_ble_eq_true rfl) (Nat.le_of_ble_eq_true rfl) diX13_260 (fun q70 H hP hD hS => ?_)
  refine W.widen (k := 67) (n := 136505) (Nat.le_of_ble_eq_true rfl) (Nat.le_of_ble_eq_true rfl) ?_
  refine va_putF (D := (dC, dI)) (ci := 16) (v := .ref q70) (ty := .array (.object "KnotHouseModel$Net")) (C := RX13) (T := TX13) (N := 120) hx hb hts wi13_13 tyX13 tyX13_ok nmX13 hown hK hP hD hS 0 (al_heA (X := xt13_30) (o := 0) rfl rfl rfl) rfl 39 (by decide) (hts (.fieldLink RX13 179 "KnotHouseModel" "level" "[LKnotHouseModel$Net;") mi13_43) (fun _ h9 => h9) rfl hin rfl (by decide +kernel) rfl rfl (by rw [List.length_map]; decide +kernel) diX13_263 (fun H locs hP hD hS => ?_)
  obtain ⟨u, hu, hM⟩ := al_ext (X := xt13_30) (X1 := xt13_31) (o := 0) (k := 39) (h := 40) (Y := [40]) (ad := [q70]) (k0 := 0) (ci := 16) ck13_30 rfl rfl hM.2.2.2 rfl hP hD hS
  rw [← hu] at hl
  have hu0 := hu.trans hu0
  clear hu hP hD hS
  refine W.widen (k := 67) (n := 136505) (Nat.le_of_ble_eq_true rfl) (Nat.le_of_ble_eq_true rfl) ?_
  refine lv_aload_n hx hb diX13_266 rfl (lv_at hl 0 rfl) ?_
  refine lv_bipush (v := 40) hx hb diX13_267 (by decide) ?_
  refine ow_newa (D := (dC, dI)) (N' := 40) (a0 := (40, .inl (fun _ => 0))) (ty := .boolean) hx hb (hts (.arrayClass .boolean) mi13_6) rfl hK hM.1 hM.2.1 hM.2.2.1 hA 3 rfl (fun _ h => h) (fun _ => rfl) (by decide) (by decide) (by decide) (Nat.le_of_ble_eq_true rfl) (Nat.le_of_ble_eq_true rfl) diX13_269 (fun q71 H hP hD hS => ?_)
  refine W.widen (k := 68) (n := 136545) (Nat.le_of_ble_eq_true rfl) (Nat.le_of_ble_eq_true rfl) ?_
  refine va_putF (D := (dC, dI)) (ci := 16) (v := .ref q71) (ty := .array .boolean) (C := RX13) (T := TX13) (N := 120) hx hb hts wi13_13 tyX13 tyX13_ok nmX13 hown hK hP hD hS 0 (al_heA (X := xt13_31) (o := 0) rfl rfl rfl) rfl 40 (by decide) (hts (.fieldLink RX13 183 "KnotHouseModel" "wasMet" "[Z") mi13_44) (fun _ h9 => h9) rfl hin rfl (by decide +kernel) rfl rfl (by rw [List.length_map]; decide +kernel) diX13_271 (fun H locs hP hD hS => ?_)
  obtain ⟨u, hu, hM⟩ := al_ext (X := xt13_31) (X1 := xt13_32) (o := 0) (k := 40) (h := 41) (Y := [41]) (ad := [q71]) (k0 := 0) (ci := 16) ck13_31 rfl rfl hM.2.2.2 rfl hP hD hS
  rw [← hu] at hl
  have hu0 := hu.trans hu0
  clear hu hP hD hS
  refine W.widen (k := 68) (n := 136545) (Nat.le_of_ble_eq_true rfl) (Nat.le_of_ble_eq_true rfl) ?_
  refine lv_aload_n hx hb diX13_274 rfl (lv_at hl 0 rfl) ?_
  refine lv_bipush (v := 40) hx hb diX13_275 (by decide) ?_
  refine ow_newa (D := (dC, dI)) (N' := 40) (a0 := (40, .inr (.inl (fun _ => 0)))) (ty := .long) hx hb (hts (.arrayClass .long) mi13_5) rfl hK hM.1 hM.2.1 hM.2.2.1 hA 2 rfl (fun _ h => h) (fun _ => rfl) (by decide) (by decide) (by decide) (Nat.le_of_ble_eq_true rfl) (Nat.le_of_ble_eq_true rfl) diX13_277 (fun q72 H hP hD hS => ?_)
  refine W.widen (k := 69) (n := 136585) (Nat.le_of_ble_eq_true rfl) (Nat.le_of_ble_eq_true rfl) ?_
  refine va_putF (D := (dC, dI)) (ci := 16) (v := .ref q72) (ty := .array .long) (C := RX13) (T := TX13) (N := 120) hx hb hts wi13_13 tyX13 tyX13_ok nmX13 hown hK hP hD hS 0 (al_heA (X := xt13_32) (o := 0) rfl rfl rfl) rfl 41 (by decide) (hts (.fieldLink RX13 186 "KnotHouseModel" "conway" "[J") mi13_45) (fun _ h9 => h9) rfl hin rfl (by decide +kernel) rfl rfl (by rw [List.length_map]; decide +kernel) diX13_279 (fun H locs hP hD hS => ?_)
  obtain ⟨u, hu, hM⟩ := al_ext (X := xt13_32) (X1 := xt13_33) (o := 0) (k := 41) (h := 42) (Y := [42]) (ad := [q72]) (k0 := 0) (ci := 16) ck13_32 rfl rfl hM.2.2.2 rfl hP hD hS
  rw [← hu] at hl
  have hu0 := hu.trans hu0
  clear hu hP hD hS
  refine W.widen (k := 69) (n := 136585) (Nat.le_of_ble_eq_true rfl) (Nat.le_of_ble_eq_true rfl) ?_
  refine lv_aload_n hx hb diX13_282 rfl (lv_at hl 0 rfl) ?_
  refine lv_bipush (v := 32) hx hb diX13_283 (by decide) ?_
  refine ow_newa (D := (dC, dI)) (N' := 32) (a0 := (32, .inl (fun _ => 0))) (ty := .int) hx hb (hts (.arrayClass .int) mi13_3) rfl hK hM.1 hM.2.1 hM.2.2.1 hA 0 rfl (fun _ h => h) (fun _ => rfl) (by decide) (by decide) (by decide) (Nat.le_of_ble_eq_true rfl) (Nat.le_of_ble_eq_true rfl) diX13_285 (fun q73 H hP hD hS => ?_)
  refine W.widen (k := 70) (n := 136617) (Nat.le_of_ble_eq_true rfl) (Nat.le_of_ble_eq_true rfl) ?_
  refine va_putF (D := (dC, dI)) (ci := 16) (v := .ref q73) (ty := .array .int) (C := RX13) (T := TX13) (N := 120) hx hb hts wi13_13 tyX13 tyX13_ok nmX13 hown hK hP hD hS 0 (al_heA (X := xt13_33) (o := 0) rfl rfl rfl) rfl 42 (by decide) (hts (.fieldLink RX13 190 "KnotHouseModel" "conwayRow" "[I") mi13_46) (fun _ h9 => h9) rfl hin rfl (by decide +kernel) rfl rfl (by rw [List.length_map]; decide +kernel) diX13_287 (fun H locs hP hD hS => ?_)
  obtain ⟨u, hu, hM⟩ := al_ext (X := xt13_33) (X1 := xt13_34) (o := 0) (k := 42) (h := 43) (Y := [43]) (ad := [q73]) (k0 := 0) (ci := 16) ck13_33 rfl rfl hM.2.2.2 rfl hP hD hS
  rw [← hu] at hl
  have hu0 := hu.trans hu0
  clear hu hP hD hS
  refine W.widen (k := 70) (n := 136617) (Nat.le_of_ble_eq_true rfl) (Nat.le_of_ble_eq_true rfl) ?_
  refine lv_aload_n hx hb diX13_290 rfl (lv_at hl 0 rfl) ?_
  refine lv_sipush (v := 5289) hx hb diX13_291 (by decide) ?_
  refine ow_newa (D := (dC, dI)) (N' := 5289) (a0 := (5289, .inr (.inl (fun _ => 0)))) (ty := .long) hx hb (hts (.arrayClass .long) mi13_5) rfl hK hM.1 hM.2.1 hM.2.2.1 hA 2 rfl (fun _ h => h) (fun _ => rfl) (by decide) (by decide) (by decide) (Nat.le_of_ble_eq_true rfl) (Nat.le_of_ble_eq_true rfl) diX13_294 (fun q74 H hP hD hS => ?_)
  refine W.widen (k := 71) (n := 141906) (Nat.le_of_ble_eq_true rfl) (Nat.le_of_ble_eq_true rfl) ?_
  refine va_putF (D := (dC, dI)) (ci := 16) (v := .ref q74) (ty := .array .long) (C := RX13) (T := TX13) (N := 120) hx hb hts wi13_13 tyX13 tyX13_ok nmX13 hown hK hP hD hS 0 (al_heA (X := xt13_34) (o := 0) rfl rfl rfl) rfl 43 (by decide) (hts (.fieldLink RX13 193 "KnotHouseModel" "twice" "[J") mi13_47) (fun _ h9 => h9) rfl hin rfl (by decide +kernel) rfl rfl (by rw [List.length_map]; decide +kernel) diX13_296 (fun H locs hP hD hS => ?_)
  obtain ⟨u, hu, hM⟩ := al_ext (X := xt13_34) (X1 := xt13_35) (o := 0) (k := 43) (h := 44) (Y := [44]) (ad := [q74]) (k0 := 0) (ci := 16) ck13_34 rfl rfl hM.2.2.2 rfl hP hD hS
  rw [← hu] at hl
  have hu0 := hu.trans hu0
  clear hu hP hD hS
  refine W.widen (k := 71) (n := 141906) (Nat.le_of_ble_eq_true rfl) (Nat.le_of_ble_eq_true rfl) ?_
  refine lv_aload_n hx hb diX13_299 rfl (lv_at hl 0 rfl) ?_
  refine lv_bipush (v := 32) hx hb diX13_300 (by decide) ?_
  refine ow_newa (D := (dC, dI)) (N' := 32) (a0 := (32, .inl (fun _ => 0))) (ty := .int) hx hb (hts (.arrayClass .int) mi13_3) rfl hK hM.1 hM.2.1 hM.2.2.1 hA 0 rfl (fun _ h => h) (fun _ => rfl) (by decide) (by decide) (by decide) (Nat.le_of_ble_eq_true rfl) (Nat.le_of_ble_eq_true rfl) diX13_302 (fun q75 H hP hD hS => ?_)
  refine W.widen (k := 72) (n := 141938) (Nat.le_of_ble_eq_true rfl) (Nat.le_of_ble_eq_true rfl) ?_
  refine va_putF (D := (dC, dI)) (ci := 16) (v := .ref q75) (ty := .array .int) (C := RX13) (T := TX13) (N := 120) hx hb hts wi13_13 tyX13 tyX13_ok nmX13 hown hK hP hD hS 0 (al_heA (X := xt13_35) (o := 0) rfl rfl rfl) rfl 44 (by decide) (hts (.fieldLink RX13 196 "KnotHouseModel" "twiceRow" "[I") mi13_48) (fun _ h9 => h9) rfl hin rfl (by decide +kernel) rfl rfl (by rw [List.length_map]; decide +kernel) diX13_304 (fun H locs hP hD hS => ?_)
  obtain ⟨u, hu, hM⟩ := al_ext (X := xt13_35) (X1 := xt13_36) (o := 0) (k := 44) (h := 45) (Y := [45]) (ad := [q75]) (k0 := 0) (ci := 16) ck13_35 rfl rfl hM.2.2.2 rfl hP hD hS
  rw [← hu] at hl
  have hu0 := hu.trans hu0
  clear hu hP hD hS
  refine W.widen (k := 72) (n := 141938) (Nat.le_of_ble_eq_true rfl) (Nat.le_of_ble_eq_true rfl) ?_
  refine lv_aload_n hx hb diX13_307 rfl (lv_at hl 0 rfl) ?_
  refine lv_bipush (v := 48) hx hb diX13_308 (by decide) ?_
  refine ow_newa (D := (dC, dI)) (N' := 48) (a0 := (48, .inl (fun _ => 0))) (ty := .int) hx hb (hts (.arrayClass .int) mi13_3) rfl hK hM.1 hM.2.1 hM.2.2.1 hA 0 rfl (fun _ h => h) (fun _ => rfl) (by decide) (by decide) (by decide) (Nat.le_of_ble_eq_true rfl) (Nat.le_of_ble_eq_true rfl) diX13_310 (fun q76 H hP hD hS => ?_)
  refine W.widen (k := 73) (n := 141986) (Nat.le_of_ble_eq_true rfl) (Nat.le_of_ble_eq_true rfl) ?_
  refine va_putF (D := (dC, dI)) (ci := 16) (v := .ref q76) (ty := .array .int) (C := RX13) (T := TX13) (N := 120) hx hb hts wi13_13 tyX13 tyX13_ok nmX13 hown hK hP hD hS 0 (al_heA (X := xt13_36) (o := 0) rfl rfl rfl) rfl 46 (by decide) (hts (.fieldLink RX13 199 "KnotHouseModel" "group" "[I") mi13_49) (fun _ h9 => h9) rfl hin rfl (by decide +kernel) rfl rfl (by rw [List.length_map]; decide +kernel) diX13_312 (fun H locs hP hD hS => ?_)
  obtain ⟨u, hu, hM⟩ := al_ext (X := xt13_36) (X1 := xt13_37) (o := 0) (k := 46) (h := 47) (Y := [47]) (ad := [q76]) (k0 := 0) (ci := 16) ck13_36 rfl rfl hM.2.2.2 rfl hP hD hS
  rw [← hu] at hl
  have hu0 := hu.trans hu0
  clear hu hP hD hS
  refine W.widen (k := 73) (n := 141986) (Nat.le_of_ble_eq_true rfl) (Nat.le_of_ble_eq_true rfl) ?_
  refine lv_aload_n hx hb diX13_315 rfl (lv_at hl 0 rfl) ?_
  refine lv_sipush (v := 201) hx hb diX13_316 (by decide) ?_
  refine ow_newa (D := (dC, dI)) (N' := 201) (a0 := (201, .inr (.inl (fun _ => 0)))) (ty := .long) hx hb (hts (.arrayClass .long) mi13_5) rfl hK hM.1 hM.2.1 hM.2.2.1 hA 2 rfl (fun _ h => h) (fun _ => rfl) (by decide) (by decide) (by decide) (Nat.le_of_ble_eq_true rfl) (Nat.le_of_ble_eq_true rfl) diX13_319 (fun q77 H hP hD hS => ?_)
  refine W.widen (k := 74) (n := 142187) (Nat.le_of_ble_eq_true rfl) (Nat.le_of_ble_eq_true rfl) ?_
  refine va_putF (D := (dC, dI)) (ci := 16) (v := .ref q77) (ty := .array .long) (C := RX13) (T := TX13) (N := 120) hx hb hts wi13_13 tyX13 tyX13_ok nmX13 hown hK hP hD hS 0 (al_heA (X := xt13_37) (o := 0) rfl rfl rfl) rfl 47 (by decide) (hts (.fieldLink RX13 202 "KnotHouseModel" "jones" "[J") mi13_50) (fun _ h9 => h9) rfl hin rfl (by decide +kernel) rfl rfl (by rw [List.length_map]; decide +kernel) diX13_321 (fun H locs hP hD hS => ?_)
  obtain ⟨u, hu, hM⟩ := al_ext (X := xt13_37) (X1 := xt13_38) (o := 0) (k := 47) (h := 48) (Y := [48]) (ad := [q77]) (k0 := 0) (ci := 16) ck13_37 rfl rfl hM.2.2.2 rfl hP hD hS
  rw [← hu] at hl
  have hu0 := hu.trans hu0
  clear hu hP hD hS
  refine W.widen (k := 74) (n := 142187) (Nat.le_of_ble_eq_true rfl) (Nat.le_of_ble_eq_true rfl) ?_
  refine lv_aload_n hx hb diX13_324 rfl (lv_at hl 0 rfl) ?_
  refine lv_sipush (v := 201) hx hb diX13_325 (by decide) ?_
  refine ow_newa (D := (dC, dI)) (N' := 201) (a0 := (201, .inr (.inl (fun _ => 0)))) (ty := .long) hx hb (hts (.arrayClass .long) mi13_5) rfl hK hM.1 hM.2.1 hM.2.2.1 hA 2 rfl (fun _ h => h) (fun _ => rfl) (by decide) (by decide) (by decide) (Nat.le_of_ble_eq_true rfl) (Nat.le_of_ble_eq_true rfl) diX13_328 (fun q78 H hP hD hS => ?_)
  refine W.widen (k := 75) (n := 142388) (Nat.le_of_ble_eq_true rfl) (Nat.le_of_ble_eq_true rfl) ?_
  refine va_putF (D := (dC, dI)) (ci := 16) (v := .ref q78) (ty := .array .long) (C := RX13) (T := TX13) (N := 120) hx hb hts wi13_13 tyX13 tyX13_ok nmX13 hown hK hP hD hS 0 (al_heA (X := xt13_38) (o := 0) rfl rfl rfl) rfl 48 (by decide) (hts (.fieldLink RX13 205 "KnotHouseModel" "power" "[J") mi13_51) (fun _ h9 => h9) rfl hin rfl (by decide +kernel) rfl rfl (by rw [List.length_map]; decide +kernel) diX13_330 (fun H locs hP hD hS => ?_)
  obtain ⟨u, hu, hM⟩ := al_ext (X := xt13_38) (X1 := xt13_39) (o := 0) (k := 48) (h := 49) (Y := [49]) (ad := [q78]) (k0 := 0) (ci := 16) ck13_38 rfl rfl hM.2.2.2 rfl hP hD hS
  rw [← hu] at hl
  have hu0 := hu.trans hu0
  clear hu hP hD hS
  refine W.widen (k := 75) (n := 142388) (Nat.le_of_ble_eq_true rfl) (Nat.le_of_ble_eq_true rfl) ?_
  refine lv_aload_n hx hb diX13_333 rfl (lv_at hl 0 rfl) ?_
  refine lv_bipush (v := 32) hx hb diX13_334 (by decide) ?_
  refine ow_newa (D := (dC, dI)) (N' := 32) (a0 := (32, .inl (fun _ => 0))) (ty := .int) hx hb (hts (.arrayClass .int) mi13_3) rfl hK hM.1 hM.2.1 hM.2.2.1 hA 0 rfl (fun _ h => h) (fun _ => rfl) (by decide) (by decide) (by decide) (Nat.le_of_ble_eq_true rfl) (Nat.le_of_ble_eq_true rfl) diX13_336 (fun q79 H hP hD hS => ?_)
  refine W.widen (k := 76) (n := 142420) (Nat.le_of_ble_eq_true rfl) (Nat.le_of_ble_eq_true rfl) ?_
  refine va_putF (D := (dC, dI)) (ci := 16) (v := .ref q79) (ty := .array .int) (C := RX13) (T := TX13) (N := 120) hx hb hts wi13_13 tyX13 tyX13_ok nmX13 hown hK hP hD hS 0 (al_heA (X := xt13_39) (o := 0) rfl rfl rfl) rfl 49 (by decide) (hts (.fieldLink RX13 208 "KnotHouseModel" "jonesRow" "[I") mi13_52) (fun _ h9 => h9) rfl hin rfl (by decide +kernel) rfl rfl (by rw [List.length_map]; decide +kernel) diX13_338 (fun H locs hP hD hS => ?_)
  obtain ⟨u, hu, hM⟩ := al_ext (X := xt13_39) (X1 := xt13_40) (o := 0) (k := 49) (h := 50) (Y := [50]) (ad := [q79]) (k0 := 0) (ci := 16) ck13_39 rfl rfl hM.2.2.2 rfl hP hD hS
  rw [← hu] at hl
  have hu0 := hu.trans hu0
  clear hu hP hD hS
  refine W.widen (k := 76) (n := 142420) (Nat.le_of_ble_eq_true rfl) (Nat.le_of_ble_eq_true rfl) ?_
  refine lv_aload_n hx hb diX13_341 rfl (lv_at hl 0 rfl) ?_
  refine lv_sipush (v := 312) hx hb diX13_342 (by decide) ?_
  refine ow_newa (D := (dC, dI)) (N' := 312) (a0 := (312, .inr (.inl (fun _ => 0)))) (ty := .long) hx hb (hts (.arrayClass .long) mi13_5) rfl hK hM.1 hM.2.1 hM.2.2.1 hA 2 rfl (fun _ h => h) (fun _ => rfl) (by decide) (by decide) (by decide) (Nat.le_of_ble_eq_true rfl) (Nat.le_of_ble_eq_true rfl) diX13_345 (fun q80 H hP hD hS => ?_)
  refine W.widen (k := 77) (n := 142732) (Nat.le_of_ble_eq_true rfl) (Nat.le_of_ble_eq_true rfl) ?_
  refine va_putF (D := (dC, dI)) (ci := 16) (v := .ref q80) (ty := .array .long) (C := RX13) (T := TX13) (N := 120) hx hb hts wi13_13 tyX13 tyX13_ok nmX13 hown hK hP hD hS 0 (al_heA (X := xt13_40) (o := 0) rfl rfl rfl) rfl 50 (by decide) (hts (.fieldLink RX13 211 "KnotHouseModel" "states" "[J") mi13_53) (fun _ h9 => h9) rfl hin rfl (by decide +kernel) rfl rfl (by rw [List.length_map]; decide +kernel) diX13_347 (fun H locs hP hD hS => ?_)
  obtain ⟨u, hu, hM⟩ := al_ext (X := xt13_40) (X1 := xt13_41) (o := 0) (k := 50) (h := 51) (Y := [51]) (ad := [q80]) (k0 := 0) (ci := 16) ck13_40 rfl rfl hM.2.2.2 rfl hP hD hS
  rw [← hu] at hl
  have hu0 := hu.trans hu0
  clear hu hP hD hS
  refine W.widen (k := 77) (n := 142732) (Nat.le_of_ble_eq_true rfl) (Nat.le_of_ble_eq_true rfl) ?_
  refine lv_aload_n hx hb diX13_350 rfl (lv_at hl 0 rfl) ?_
  refine lv_bipush (v := 80) hx hb diX13_351 (by decide) ?_
  refine ow_newa (D := (dC, dI)) (N' := 80) (a0 := (80, .inl (fun _ => 0))) (ty := .int) hx hb (hts (.arrayClass .int) mi13_3) rfl hK hM.1 hM.2.1 hM.2.2.1 hA 0 rfl (fun _ h => h) (fun _ => rfl) (by decide) (by decide) (by decide) (Nat.le_of_ble_eq_true rfl) (Nat.le_of_ble_eq_true rfl) diX13_353 (fun q81 H hP hD hS => ?_)
  refine W.widen (k := 78) (n := 142812) (Nat.le_of_ble_eq_true rfl) (Nat.le_of_ble_eq_true rfl) ?_
  refine va_putF (D := (dC, dI)) (ci := 16) (v := .ref q81) (ty := .array .int) (C := RX13) (T := TX13) (N := 120) hx hb hts wi13_13 tyX13 tyX13_ok nmX13 hown hK hP hD hS 0 (al_heA (X := xt13_41) (o := 0) rfl rfl rfl) rfl 51 (by decide) (hts (.fieldLink RX13 214 "KnotHouseModel" "colour" "[I") mi13_54) (fun _ h9 => h9) rfl hin rfl (by decide +kernel) rfl rfl (by rw [List.length_map]; decide +kernel) diX13_355 (fun H locs hP hD hS => ?_)
  obtain ⟨u, hu, hM⟩ := al_ext (X := xt13_41) (X1 := xt13_42) (o := 0) (k := 51) (h := 52) (Y := [52]) (ad := [q81]) (k0 := 0) (ci := 16) ck13_41 rfl rfl hM.2.2.2 rfl hP hD hS
  rw [← hu] at hl
  have hu0 := hu.trans hu0
  clear hu hP hD hS
  refine W.widen (k := 78) (n := 142812) (Nat.le_of_ble_eq_true rfl) (Nat.le_of_ble_eq_true rfl) ?_
  exact kk u _ _ ls hu0 hM hl
set_option maxHeartbeats 4000000 in
set_option maxRecDepth 100000 in
theorem hc13_3 {p : Program} {l : Launch} {e : Env} {s : State} {m : MethodId} {args : Array Value} {below : List Frame} {meth : Method} {c : Code} {Q : State → Prop} {A : Nat → Prop} {dC : Nat → ClassId} {dI : Nat → Nat → Nat} {q : ow_Q5} (hx : p.tables.exec = Jvm.exec) (hb : c.code = cX13_init) (hml : c.maxLocals = 2) (hown : s.vm.findClass RX13 = some m.cls) (hts : ∀ w ∈ wi13, w.before args s = true) (hin : meth.name = "<init>") (hA : ∀ q : Nat, s.heap.size ≤ q → A q) (hK : va_K (dC, dI) vwCl (tw_T q RX12) s) (hN_X13_113 : va_Nw (.methodLinkNest RX13 113 yX12_init "KnotHouseModel") s) (hAO : va_AO RX12 s) (u : Nat → Nat) (H : Heap) (locs : List Loc) (ls : Array Slot) {a0 : Nat} (hu0 : u 0 = a0) (hM : al_M (dC, dI) vwCl xt13_42 (q5f q) A s.heap u Z13 H locs) (hl : lv_has ls 2 [(0, .ref (u 0))]) (kk : ∀ (u : Nat → Nat) (H : Heap) (locs : List Loc) (ls : Array Slot), u 0 = a0 → al_M (dC, dI) vwCl xt13_56 (q5f q) A s.heap u Z13 H locs → lv_has ls 2 [(0, .ref (u 0))] → W p l e RI13 s m args below meth c H locs 92 144205 Q (F0 m 474 ls [])) : W p l e RI13 s m args below meth c H locs 78 142812 Q (F0 m 358 ls []) := by
  refine lv_aload_n hx hb diX13_358 rfl (lv_at hl 0 rfl) ?_
  refine lv_bipush (v := 80) hx hb diX13_359 (by decide) ?_
  refine ow_newa (D := (dC, dI)) (N' := 80) (a0 := (80, .inl (fun _ => 0))) (ty := .int) hx hb (hts (.arrayClass .int) mi13_3) rfl hK hM.1 hM.2.1 hM.2.2.1 hA 0 rfl (fun _ h => h) (fun _ => rfl) (by decide) (by decide) (by decide) (Nat.le_of_ble_eq_true rfl) (Nat.le_of_ble_eq_true rfl) diX13_361 (fun q82 H hP hD hS => ?_)
  refine W.widen (k := 79) (n := 142892) (Nat.le_of_ble_eq_true rfl) (Nat.le_of_ble_eq_true rfl) ?_
  refine va_putF (D := (dC, dI)) (ci := 16) (v := .ref q82) (ty := .array .int) (C := RX13) (T := TX13) (N := 120) hx hb hts wi13_13 tyX13 tyX13_ok nmX13 hown hK hP hD hS 0 (al_heA (X := xt13_42) (o := 0) rfl rfl rfl) rfl 52 (by decide) (hts (.fieldLink RX13 217 "KnotHouseModel" "white" "[I") mi13_55) (fun _ h9 => h9) rfl hin rfl (by decide +kernel) rfl rfl (by rw [List.length_map]; decide +kernel) diX13_363 (fun H locs hP hD hS => ?_)
  obtain ⟨u, hu, hM⟩ := al_ext (X := xt13_42) (X1 := xt13_43) (o := 0) (k := 52) (h := 53) (Y := [53]) (ad := [q82]) (k0 := 0) (ci := 16) ck13_42 rfl rfl hM.2.2.2 rfl hP hD hS
  rw [← hu] at hl
  have hu0 := hu.trans hu0
  clear hu hP hD hS
  refine W.widen (k := 79) (n := 142892) (Nat.le_of_ble_eq_true rfl) (Nat.le_of_ble_eq_true rfl) ?_
  refine lv_aload_n hx hb diX13_366 rfl (lv_at hl 0 rfl) ?_
  refine lv_sipush (v := 256) hx hb diX13_367 (by decide) ?_
  refine ow_newa (D := (dC, dI)) (N' := 256) (a0 := (256, .inr (.inl (fun _ => 0)))) (ty := .long) hx hb (hts (.arrayClass .long) mi13_5) rfl hK hM.1 hM.2.1 hM.2.2.1 hA 2 rfl (fun _ h => h) (fun _ => rfl) (by decide) (by decide) (by decide) (Nat.le_of_ble_eq_true rfl) (Nat.le_of_ble_eq_true rfl) diX13_370 (fun q83 H hP hD hS => ?_)
  refine W.widen (k := 80) (n := 143148) (Nat.le_of_ble_eq_true rfl) (Nat.le_of_ble_eq_true rfl) ?_
  refine va_putF (D := (dC, dI)) (ci := 16) (v := .ref q83) (ty := .array .long) (C := RX13) (T := TX13) (N := 120) hx hb hts wi13_13 tyX13 tyX13_ok nmX13 hown hK hP hD hS 0 (al_heA (X := xt13_43) (o := 0) rfl rfl rfl) rfl 53 (by decide) (hts (.fieldLink RX13 220 "KnotHouseModel" "form" "[J") mi13_56) (fun _ h9 => h9) rfl hin rfl (by decide +kernel) rfl rfl (by rw [List.length_map]; decide +kernel) diX13_372 (fun H locs hP hD hS => ?_)
  obtain ⟨u, hu, hM⟩ := al_ext (X := xt13_43) (X1 := xt13_44) (o := 0) (k := 53) (h := 54) (Y := [54]) (ad := [q83]) (k0 := 0) (ci := 16) ck13_43 rfl rfl hM.2.2.2 rfl hP hD hS
  rw [← hu] at hl
  have hu0 := hu.trans hu0
  clear hu hP hD hS
  refine W.widen (k := 80) (n := 143148) (Nat.le_of_ble_eq_true rfl) (Nat.le_of_ble_eq_true rfl) ?_
  refine lv_aload_n hx hb diX13_375 rfl (lv_at hl 0 rfl) ?_
  refine lv_sipush (v := 256) hx hb diX13_376 (by decide) ?_
  refine ow_newa (D := (dC, dI)) (N' := 256) (a0 := (256, .inr (.inl (fun _ => 0)))) (ty := .long) hx hb (hts (.arrayClass .long) mi13_5) rfl hK hM.1 hM.2.1 hM.2.2.1 hA 2 rfl (fun _ h => h) (fun _ => rfl) (by decide) (by decide) (by decide) (Nat.le_of_ble_eq_true rfl) (Nat.le_of_ble_eq_true rfl) diX13_379 (fun q84 H hP hD hS => ?_)
  refine W.widen (k := 81) (n := 143404) (Nat.le_of_ble_eq_true rfl) (Nat.le_of_ble_eq_true rfl) ?_
  refine va_putF (D := (dC, dI)) (ci := 16) (v := .ref q84) (ty := .array .long) (C := RX13) (T := TX13) (N := 120) hx hb hts wi13_13 tyX13 tyX13_ok nmX13 hown hK hP hD hS 0 (al_heA (X := xt13_44) (o := 0) rfl rfl rfl) rfl 54 (by decide) (hts (.fieldLink RX13 223 "KnotHouseModel" "product" "[J") mi13_57) (fun _ h9 => h9) rfl hin rfl (by decide +kernel) rfl rfl (by rw [List.length_map]; decide +kernel) diX13_381 (fun H locs hP hD hS => ?_)
  obtain ⟨u, hu, hM⟩ := al_ext (X := xt13_44) (X1 := xt13_45) (o := 0) (k := 54) (h := 55) (Y := [55]) (ad := [q84]) (k0 := 0) (ci := 16) ck13_44 rfl rfl hM.2.2.2 rfl hP hD hS
  rw [← hu] at hl
  have hu0 := hu.trans hu0
  clear hu hP hD hS
  refine W.widen (k := 81) (n := 143404) (Nat.le_of_ble_eq_true rfl) (Nat.le_of_ble_eq_true rfl) ?_
  refine lv_aload_n hx hb diX13_384 rfl (lv_at hl 0 rfl) ?_
  refine lv_sipush (v := 256) hx hb diX13_385 (by decide) ?_
  refine ow_newa (D := (dC, dI)) (N' := 256) (a0 := (256, .inr (.inl (fun _ => 0)))) (ty := .long) hx hb (hts (.arrayClass .long) mi13_5) rfl hK hM.1 hM.2.1 hM.2.2.1 hA 2 rfl (fun _ h => h) (fun _ => rfl) (by decide) (by decide) (by decide) (Nat.le_of_ble_eq_true rfl) (Nat.le_of_ble_eq_true rfl) diX13_388 (fun q85 H hP hD hS => ?_)
  refine W.widen (k := 82) (n := 143660) (Nat.le_of_ble_eq_true rfl) (Nat.le_of_ble_eq_true rfl) ?_
  refine va_putF (D := (dC, dI)) (ci := 16) (v := .ref q85) (ty := .array .long) (C := RX13) (T := TX13) (N := 120) hx hb hts wi13_13 tyX13 tyX13_ok nmX13 hown hK hP hD hS 0 (al_heA (X := xt13_45) (o := 0) rfl rfl rfl) rfl 55 (by decide) (hts (.fieldLink RX13 226 "KnotHouseModel" "before" "[J") mi13_58) (fun _ h9 => h9) rfl hin rfl (by decide +kernel) rfl rfl (by rw [List.length_map]; decide +kernel) diX13_390 (fun H locs hP hD hS => ?_)
  obtain ⟨u, hu, hM⟩ := al_ext (X := xt13_45) (X1 := xt13_46) (o := 0) (k := 55) (h := 56) (Y := [56]) (ad := [q85]) (k0 := 0) (ci := 16) ck13_45 rfl rfl hM.2.2.2 rfl hP hD hS
  rw [← hu] at hl
  have hu0 := hu.trans hu0
  clear hu hP hD hS
  refine W.widen (k := 82) (n := 143660) (Nat.le_of_ble_eq_true rfl) (Nat.le_of_ble_eq_true rfl) ?_
  refine lv_aload_n hx hb diX13_393 rfl (lv_at hl 0 rfl) ?_
  refine lv_bipush (v := 20) hx hb diX13_394 (by decide) ?_
  refine ow_newa (D := (dC, dI)) (N' := 20) (a0 := (20, .inr (.inl (fun _ => 0)))) (ty := .long) hx hb (hts (.arrayClass .long) mi13_5) rfl hK hM.1 hM.2.1 hM.2.2.1 hA 2 rfl (fun _ h => h) (fun _ => rfl) (by decide) (by decide) (by decide) (Nat.le_of_ble_eq_true rfl) (Nat.le_of_ble_eq_true rfl) diX13_396 (fun q86 H hP hD hS => ?_)
  refine W.widen (k := 83) (n := 143680) (Nat.le_of_ble_eq_true rfl) (Nat.le_of_ble_eq_true rfl) ?_
  refine va_putF (D := (dC, dI)) (ci := 16) (v := .ref q86) (ty := .array .long) (C := RX13) (T := TX13) (N := 120) hx hb hts wi13_13 tyX13 tyX13_ok nmX13 hown hK hP hD hS 0 (al_heA (X := xt13_46) (o := 0) rfl rfl rfl) rfl 56 (by decide) (hts (.fieldLink RX13 229 "KnotHouseModel" "terms" "[J") mi13_59) (fun _ h9 => h9) rfl hin rfl (by decide +kernel) rfl rfl (by rw [List.length_map]; decide +kernel) diX13_398 (fun H locs hP hD hS => ?_)
  obtain ⟨u, hu, hM⟩ := al_ext (X := xt13_46) (X1 := xt13_47) (o := 0) (k := 56) (h := 57) (Y := [57]) (ad := [q86]) (k0 := 0) (ci := 16) ck13_46 rfl rfl hM.2.2.2 rfl hP hD hS
  rw [← hu] at hl
  have hu0 := hu.trans hu0
  clear hu hP hD hS
  refine W.widen (k := 83) (n := 143680) (Nat.le_of_ble_eq_true rfl) (Nat.le_of_ble_eq_true rfl) ?_
  refine lv_aload_n hx hb diX13_401 rfl (lv_at hl 0 rfl) ?_
  refine lv_bipush (v := 40) hx hb diX13_402 (by decide) ?_
  refine ow_newa (D := (dC, dI)) (N' := 40) (a0 := (40, .inl (fun _ => 0))) (ty := .int) hx hb (hts (.arrayClass .int) mi13_3) rfl hK hM.1 hM.2.1 hM.2.2.1 hA 0 rfl (fun _ h => h) (fun _ => rfl) (by decide) (by decide) (by decide) (Nat.le_of_ble_eq_true rfl) (Nat.le_of_ble_eq_true rfl) diX13_404 (fun q87 H hP hD hS => ?_)
  refine W.widen (k := 84) (n := 143720) (Nat.le_of_ble_eq_true rfl) (Nat.le_of_ble_eq_true rfl) ?_
  refine va_putF (D := (dC, dI)) (ci := 16) (v := .ref q87) (ty := .array .int) (C := RX13) (T := TX13) (N := 120) hx hb hts wi13_13 tyX13 tyX13_ok nmX13 hown hK hP hD hS 0 (al_heA (X := xt13_47) (o := 0) rfl rfl rfl) rfl 58 (by decide) (hts (.fieldLink RX13 232 "KnotHouseModel" "arc" "[I") mi13_60) (fun _ h9 => h9) rfl hin rfl (by decide +kernel) rfl rfl (by rw [List.length_map]; decide +kernel) diX13_406 (fun H locs hP hD hS => ?_)
  obtain ⟨u, hu, hM⟩ := al_ext (X := xt13_47) (X1 := xt13_48) (o := 0) (k := 58) (h := 59) (Y := [59]) (ad := [q87]) (k0 := 0) (ci := 16) ck13_47 rfl rfl hM.2.2.2 rfl hP hD hS
  rw [← hu] at hl
  have hu0 := hu.trans hu0
  clear hu hP hD hS
  refine W.widen (k := 84) (n := 143720) (Nat.le_of_ble_eq_true rfl) (Nat.le_of_ble_eq_true rfl) ?_
  refine lv_aload_n hx hb diX13_409 rfl (lv_at hl 0 rfl) ?_
  refine lv_bipush (v := 40) hx hb diX13_410 (by decide) ?_
  refine ow_newa (D := (dC, dI)) (N' := 40) (a0 := (40, .inl (fun _ => 0))) (ty := .int) hx hb (hts (.arrayClass .int) mi13_3) rfl hK hM.1 hM.2.1 hM.2.2.1 hA 0 rfl (fun _ h => h) (fun _ => rfl) (by decide) (by decide) (by decide) (Nat.le_of_ble_eq_true rfl) (Nat.le_of_ble_eq_true rfl) diX13_412 (fun q88 H hP hD hS => ?_)
  refine W.widen (k := 85) (n := 143760) (Nat.le_of_ble_eq_true rfl) (Nat.le_of_ble_eq_true rfl) ?_
  refine va_putF (D := (dC, dI)) (ci := 16) (v := .ref q88) (ty := .array .int) (C := RX13) (T := TX13) (N := 120) hx hb hts wi13_13 tyX13 tyX13_ok nmX13 hown hK hP hD hS 0 (al_heA (X := xt13_48) (o := 0) rfl rfl rfl) rfl 59 (by decide) (hts (.fieldLink RX13 235 "KnotHouseModel" "begun" "[I") mi13_61) (fun _ h9 => h9) rfl hin rfl (by decide +kernel) rfl rfl (by rw [List.length_map]; decide +kernel) diX13_414 (fun H locs hP hD hS => ?_)
  obtain ⟨u, hu, hM⟩ := al_ext (X := xt13_48) (X1 := xt13_49) (o := 0) (k := 59) (h := 60) (Y := [60]) (ad := [q88]) (k0 := 0) (ci := 16) ck13_48 rfl rfl hM.2.2.2 rfl hP hD hS
  rw [← hu] at hl
  have hu0 := hu.trans hu0
  clear hu hP hD hS
  refine W.widen (k := 85) (n := 143760) (Nat.le_of_ble_eq_true rfl) (Nat.le_of_ble_eq_true rfl) ?_
  refine lv_aload_n hx hb diX13_417 rfl (lv_at hl 0 rfl) ?_
  refine lv_bipush (v := 16) hx hb diX13_418 (by decide) ?_
  refine ow_newa (D := (dC, dI)) (N' := 16) (a0 := (16, .inl (fun _ => 0))) (ty := .int) hx hb (hts (.arrayClass .int) mi13_3) rfl hK hM.1 hM.2.1 hM.2.2.1 hA 0 rfl (fun _ h => h) (fun _ => rfl) (by decide) (by decide) (by decide) (Nat.le_of_ble_eq_true rfl) (Nat.le_of_ble_eq_true rfl) diX13_420 (fun q89 H hP hD hS => ?_)
  refine W.widen (k := 86) (n := 143776) (Nat.le_of_ble_eq_true rfl) (Nat.le_of_ble_eq_true rfl) ?_
  refine va_putF (D := (dC, dI)) (ci := 16) (v := .ref q89) (ty := .array .int) (C := RX13) (T := TX13) (N := 120) hx hb hts wi13_13 tyX13 tyX13_ok nmX13 hown hK hP hD hS 0 (al_heA (X := xt13_49) (o := 0) rfl rfl rfl) rfl 60 (by decide) (hts (.fieldLink RX13 238 "KnotHouseModel" "over" "[I") mi13_62) (fun _ h9 => h9) rfl hin rfl (by decide +kernel) rfl rfl (by rw [List.length_map]; decide +kernel) diX13_422 (fun H locs hP hD hS => ?_)
  obtain ⟨u, hu, hM⟩ := al_ext (X := xt13_49) (X1 := xt13_50) (o := 0) (k := 60) (h := 61) (Y := [61]) (ad := [q89]) (k0 := 0) (ci := 16) ck13_49 rfl rfl hM.2.2.2 rfl hP hD hS
  rw [← hu] at hl
  have hu0 := hu.trans hu0
  clear hu hP hD hS
  refine W.widen (k := 86) (n := 143776) (Nat.le_of_ble_eq_true rfl) (Nat.le_of_ble_eq_true rfl) ?_
  refine lv_aload_n hx hb diX13_425 rfl (lv_at hl 0 rfl) ?_
  refine lv_bipush (v := 16) hx hb diX13_426 (by decide) ?_
  refine ow_newa (D := (dC, dI)) (N' := 16) (a0 := (16, .inl (fun _ => 0))) (ty := .int) hx hb (hts (.arrayClass .int) mi13_3) rfl hK hM.1 hM.2.1 hM.2.2.1 hA 0 rfl (fun _ h => h) (fun _ => rfl) (by decide) (by decide) (by decide) (Nat.le_of_ble_eq_true rfl) (Nat.le_of_ble_eq_true rfl) diX13_428 (fun q90 H hP hD hS => ?_)
  refine W.widen (k := 87) (n := 143792) (Nat.le_of_ble_eq_true rfl) (Nat.le_of_ble_eq_true rfl) ?_
  refine va_putF (D := (dC, dI)) (ci := 16) (v := .ref q90) (ty := .array .int) (C := RX13) (T := TX13) (N := 120) hx hb hts wi13_13 tyX13 tyX13_ok nmX13 hown hK hP hD hS 0 (al_heA (X := xt13_50) (o := 0) rfl rfl rfl) rfl 61 (by decide) (hts (.fieldLink RX13 241 "KnotHouseModel" "into" "[I") mi13_63) (fun _ h9 => h9) rfl hin rfl (by decide +kernel) rfl rfl (by rw [List.length_map]; decide +kernel) diX13_430 (fun H locs hP hD hS => ?_)
  obtain ⟨u, hu, hM⟩ := al_ext (X := xt13_50) (X1 := xt13_51) (o := 0) (k := 61) (h := 62) (Y := [62]) (ad := [q90]) (k0 := 0) (ci := 16) ck13_50 rfl rfl hM.2.2.2 rfl hP hD hS
  rw [← hu] at hl
  have hu0 := hu.trans hu0
  clear hu hP hD hS
  refine W.widen (k := 87) (n := 143792) (Nat.le_of_ble_eq_true rfl) (Nat.le_of_ble_eq_true rfl) ?_
  refine lv_aload_n hx hb diX13_433 rfl (lv_at hl 0 rfl) ?_
  refine lv_bipush (v := 16) hx hb diX13_434 (by decide) ?_
  refine ow_newa (D := (dC, dI)) (N' := 16) (a0 := (16, .inl (fun _ => 0))) (ty := .int) hx hb (hts (.arrayClass .int) mi13_3) rfl hK hM.1 hM.2.1 hM.2.2.1 hA 0 rfl (fun _ h => h) (fun _ => rfl) (by decide) (by decide) (by decide) (Nat.le_of_ble_eq_true rfl) (Nat.le_of_ble_eq_true rfl) diX13_436 (fun q91 H hP hD hS => ?_)
  refine W.widen (k := 88) (n := 143808) (Nat.le_of_ble_eq_true rfl) (Nat.le_of_ble_eq_true rfl) ?_
  refine va_putF (D := (dC, dI)) (ci := 16) (v := .ref q91) (ty := .array .int) (C := RX13) (T := TX13) (N := 120) hx hb hts wi13_13 tyX13 tyX13_ok nmX13 hown hK hP hD hS 0 (al_heA (X := xt13_51) (o := 0) rfl rfl rfl) rfl 62 (by decide) (hts (.fieldLink RX13 244 "KnotHouseModel" "from" "[I") mi13_64) (fun _ h9 => h9) rfl hin rfl (by decide +kernel) rfl rfl (by rw [List.length_map]; decide +kernel) diX13_438 (fun H locs hP hD hS => ?_)
  obtain ⟨u, hu, hM⟩ := al_ext (X := xt13_51) (X1 := xt13_52) (o := 0) (k := 62) (h := 63) (Y := [63]) (ad := [q91]) (k0 := 0) (ci := 16) ck13_51 rfl rfl hM.2.2.2 rfl hP hD hS
  rw [← hu] at hl
  have hu0 := hu.trans hu0
  clear hu hP hD hS
  refine W.widen (k := 88) (n := 143808) (Nat.le_of_ble_eq_true rfl) (Nat.le_of_ble_eq_true rfl) ?_
  refine lv_aload_n hx hb diX13_441 rfl (lv_at hl 0 rfl) ?_
  refine lv_sipush (v := 312) hx hb diX13_442 (by decide) ?_
  refine ow_newa (D := (dC, dI)) (N' := 312) (a0 := (312, .inr (.inl (fun _ => 0)))) (ty := .long) hx hb (hts (.arrayClass .long) mi13_5) rfl hK hM.1 hM.2.1 hM.2.2.1 hA 2 rfl (fun _ h => h) (fun _ => rfl) (by decide) (by decide) (by decide) (Nat.le_of_ble_eq_true rfl) (Nat.le_of_ble_eq_true rfl) diX13_445 (fun q92 H hP hD hS => ?_)
  refine W.widen (k := 89) (n := 144120) (Nat.le_of_ble_eq_true rfl) (Nat.le_of_ble_eq_true rfl) ?_
  refine va_putF (D := (dC, dI)) (ci := 16) (v := .ref q92) (ty := .array .long) (C := RX13) (T := TX13) (N := 120) hx hb hts wi13_13 tyX13 tyX13_ok nmX13 hown hK hP hD hS 0 (al_heA (X := xt13_52) (o := 0) rfl rfl rfl) rfl 63 (by decide) (hts (.fieldLink RX13 247 "KnotHouseModel" "grid" "[J") mi13_65) (fun _ h9 => h9) rfl hin rfl (by decide +kernel) rfl rfl (by rw [List.length_map]; decide +kernel) diX13_447 (fun H locs hP hD hS => ?_)
  obtain ⟨u, hu, hM⟩ := al_ext (X := xt13_52) (X1 := xt13_53) (o := 0) (k := 63) (h := 64) (Y := [64]) (ad := [q92]) (k0 := 0) (ci := 16) ck13_52 rfl rfl hM.2.2.2 rfl hP hD hS
  rw [← hu] at hl
  have hu0 := hu.trans hu0
  clear hu hP hD hS
  refine W.widen (k := 89) (n := 144120) (Nat.le_of_ble_eq_true rfl) (Nat.le_of_ble_eq_true rfl) ?_
  refine lv_aload_n hx hb diX13_450 rfl (lv_at hl 0 rfl) ?_
  refine lv_bipush (v := 32) hx hb diX13_451 (by decide) ?_
  refine ow_newa (D := (dC, dI)) (N' := 32) (a0 := (32, .inl (fun _ => 0))) (ty := .int) hx hb (hts (.arrayClass .int) mi13_3) rfl hK hM.1 hM.2.1 hM.2.2.1 hA 0 rfl (fun _ h => h) (fun _ => rfl) (by decide) (by decide) (by decide) (Nat.le_of_ble_eq_true rfl) (Nat.le_of_ble_eq_true rfl) diX13_453 (fun q93 H hP hD hS => ?_)
  refine W.widen (k := 90) (n := 144152) (Nat.le_of_ble_eq_true rfl) (Nat.le_of_ble_eq_true rfl) ?_
  refine va_putF (D := (dC, dI)) (ci := 16) (v := .ref q93) (ty := .array .int) (C := RX13) (T := TX13) (N := 120) hx hb hts wi13_13 tyX13 tyX13_ok nmX13 hown hK hP hD hS 0 (al_heA (X := xt13_53) (o := 0) rfl rfl rfl) rfl 64 (by decide) (hts (.fieldLink RX13 250 "KnotHouseModel" "coverRow" "[I") mi13_66) (fun _ h9 => h9) rfl hin rfl (by decide +kernel) rfl rfl (by rw [List.length_map]; decide +kernel) diX13_455 (fun H locs hP hD hS => ?_)
  obtain ⟨u, hu, hM⟩ := al_ext (X := xt13_53) (X1 := xt13_54) (o := 0) (k := 64) (h := 65) (Y := [65]) (ad := [q93]) (k0 := 0) (ci := 16) ck13_53 rfl rfl hM.2.2.2 rfl hP hD hS
  rw [← hu] at hl
  have hu0 := hu.trans hu0
  clear hu hP hD hS
  refine W.widen (k := 90) (n := 144152) (Nat.le_of_ble_eq_true rfl) (Nat.le_of_ble_eq_true rfl) ?_
  refine lv_aload_n hx hb diX13_458 rfl (lv_at hl 0 rfl) ?_
  refine lv_bipush (v := 40) hx hb diX13_459 (by decide) ?_
  refine ow_newa (D := (dC, dI)) (N' := 40) (a0 := (40, .inr (.inl (fun _ => 0)))) (ty := .long) hx hb (hts (.arrayClass .long) mi13_5) rfl hK hM.1 hM.2.1 hM.2.2.1 hA 2 rfl (fun _ h => h) (fun _ => rfl) (by decide) (by decide) (by decide) (Nat.le_of_ble_eq_true rfl) (Nat.le_of_ble_eq_true rfl) diX13_461 (fun q94 H hP hD hS => ?_)
  refine W.widen (k := 91) (n := 144192) (Nat.le_of_ble_eq_true rfl) (Nat.le_of_ble_eq_true rfl) ?_
  refine va_putF (D := (dC, dI)) (ci := 16) (v := .ref q94) (ty := .array .long) (C := RX13) (T := TX13) (N := 120) hx hb hts wi13_13 tyX13 tyX13_ok nmX13 hown hK hP hD hS 0 (al_heA (X := xt13_54) (o := 0) rfl rfl rfl) rfl 65 (by decide) (hts (.fieldLink RX13 253 "KnotHouseModel" "cover" "[J") mi13_67) (fun _ h9 => h9) rfl hin rfl (by decide +kernel) rfl rfl (by rw [List.length_map]; decide +kernel) diX13_463 (fun H locs hP hD hS => ?_)
  obtain ⟨u, hu, hM⟩ := al_ext (X := xt13_54) (X1 := xt13_55) (o := 0) (k := 65) (h := 66) (Y := [66]) (ad := [q94]) (k0 := 0) (ci := 16) ck13_54 rfl rfl hM.2.2.2 rfl hP hD hS
  rw [← hu] at hl
  have hu0 := hu.trans hu0
  clear hu hP hD hS
  refine W.widen (k := 91) (n := 144192) (Nat.le_of_ble_eq_true rfl) (Nat.le_of_ble_eq_true rfl) ?_
  refine lv_aload_n hx hb diX13_466 rfl (lv_at hl 0 rfl) ?_
  refine lv_bipush (v := 13) hx hb diX13_467 (by decide) ?_
  refine ow_newa (D := (dC, dI)) (N' := 13) (a0 := (13, .inl (fun _ => 0))) (ty := .int) hx hb (hts (.arrayClass .int) mi13_3) rfl hK hM.1 hM.2.1 hM.2.2.1 hA 0 rfl (fun _ h => h) (fun _ => rfl) (by decide) (by decide) (by decide) (Nat.le_of_ble_eq_true rfl) (Nat.le_of_ble_eq_true rfl) diX13_469 (fun q95 H hP hD hS => ?_)
  refine W.widen (k := 92) (n := 144205) (Nat.le_of_ble_eq_true rfl) (Nat.le_of_ble_eq_true rfl) ?_
  refine va_putF (D := (dC, dI)) (ci := 16) (v := .ref q95) (ty := .array .int) (C := RX13) (T := TX13) (N := 120) hx hb hts wi13_13 tyX13 tyX13_ok nmX13 hown hK hP hD hS 0 (al_heA (X := xt13_55) (o := 0) rfl rfl rfl) rfl 67 (by decide) (hts (.fieldLink RX13 256 "KnotHouseModel" "leftRow" "[I") mi13_68) (fun _ h9 => h9) rfl hin rfl (by decide +kernel) rfl rfl (by rw [List.length_map]; decide +kernel) diX13_471 (fun H locs hP hD hS => ?_)
  obtain ⟨u, hu, hM⟩ := al_ext (X := xt13_55) (X1 := xt13_56) (o := 0) (k := 67) (h := 68) (Y := [68]) (ad := [q95]) (k0 := 0) (ci := 16) ck13_55 rfl rfl hM.2.2.2 rfl hP hD hS
  rw [← hu] at hl
  have hu0 := hu.trans hu0
  clear hu hP hD hS
  refine W.widen (k := 92) (n := 144205) (Nat.le_of_ble_eq_true rfl) (Nat.le_of_ble_eq_true rfl) ?_
  exact kk u _ _ ls hu0 hM hl
set_option maxHeartbeats 4000000 in
set_option maxRecDepth 100000 in
theorem hc13_4 {p : Program} {l : Launch} {e : Env} {s : State} {m : MethodId} {args : Array Value} {below : List Frame} {meth : Method} {c : Code} {Q : State → Prop} {A : Nat → Prop} {dC : Nat → ClassId} {dI : Nat → Nat → Nat} {q : ow_Q5} (hx : p.tables.exec = Jvm.exec) (hb : c.code = cX13_init) (hml : c.maxLocals = 2) (hown : s.vm.findClass RX13 = some m.cls) (hts : ∀ w ∈ wi13, w.before args s = true) (hin : meth.name = "<init>") (hA : ∀ q : Nat, s.heap.size ≤ q → A q) (hK : va_K (dC, dI) vwCl (tw_T q RX12) s) (hN_X13_113 : va_Nw (.methodLinkNest RX13 113 yX12_init "KnotHouseModel") s) (hAO : va_AO RX12 s) (u : Nat → Nat) (H : Heap) (locs : List Loc) (ls : Array Slot) {a0 : Nat} (hu0 : u 0 = a0) (hM : al_M (dC, dI) vwCl xt13_56 (q5f q) A s.heap u Z13 H locs) (hl : lv_has ls 2 [(0, .ref (u 0))]) (kk : ∀ (u : Nat → Nat) (H : Heap) (locs : List Loc) (ls : Array Slot), u 0 = a0 → al_M (dC, dI) vwCl xt13_70 (q5f q) A s.heap u Z13 H locs → lv_has ls 2 [(0, .ref (u 0))] → W p l e RI13 s m args below meth c H locs 106 173444 Q (F0 m 616 ls [])) : W p l e RI13 s m args below meth c H locs 92 144205 Q (F0 m 474 ls []) := by
  refine lv_aload_n hx hb diX13_474 rfl (lv_at hl 0 rfl) ?_
  refine lv_bipush (v := 24) hx hb diX13_475 (by decide) ?_
  refine ow_newa (D := (dC, dI)) (N' := 24) (a0 := (24, .inl (fun _ => 0))) (ty := .int) hx hb (hts (.arrayClass .int) mi13_3) rfl hK hM.1 hM.2.1 hM.2.2.1 hA 0 rfl (fun _ h => h) (fun _ => rfl) (by decide) (by decide) (by decide) (Nat.le_of_ble_eq_true rfl) (Nat.le_of_ble_eq_true rfl) diX13_477 (fun q96 H hP hD hS => ?_)
  refine W.widen (k := 93) (n := 144229) (Nat.le_of_ble_eq_true rfl) (Nat.le_of_ble_eq_true rfl) ?_
  refine va_putF (D := (dC, dI)) (ci := 16) (v := .ref q96) (ty := .array .int) (C := RX13) (T := TX13) (N := 120) hx hb hts wi13_13 tyX13 tyX13_ok nmX13 hown hK hP hD hS 0 (al_heA (X := xt13_56) (o := 0) rfl rfl rfl) rfl 68 (by decide) (hts (.fieldLink RX13 259 "KnotHouseModel" "leftCol" "[I") mi13_69) (fun _ h9 => h9) rfl hin rfl (by decide +kernel) rfl rfl (by rw [List.length_map]; decide +kernel) diX13_479 (fun H locs hP hD hS => ?_)
  obtain ⟨u, hu, hM⟩ := al_ext (X := xt13_56) (X1 := xt13_57) (o := 0) (k := 68) (h := 69) (Y := [69]) (ad := [q96]) (k0 := 0) (ci := 16) ck13_56 rfl rfl hM.2.2.2 rfl hP hD hS
  rw [← hu] at hl
  have hu0 := hu.trans hu0
  clear hu hP hD hS
  refine W.widen (k := 93) (n := 144229) (Nat.le_of_ble_eq_true rfl) (Nat.le_of_ble_eq_true rfl) ?_
  refine lv_aload_n hx hb diX13_482 rfl (lv_at hl 0 rfl) ?_
  refine lv_sipush (v := 169) hx hb diX13_483 (by decide) ?_
  refine ow_newa (D := (dC, dI)) (N' := 169) (a0 := (169, .inr (.inl (fun _ => 0)))) (ty := .long) hx hb (hts (.arrayClass .long) mi13_5) rfl hK hM.1 hM.2.1 hM.2.2.1 hA 2 rfl (fun _ h => h) (fun _ => rfl) (by decide) (by decide) (by decide) (Nat.le_of_ble_eq_true rfl) (Nat.le_of_ble_eq_true rfl) diX13_486 (fun q97 H hP hD hS => ?_)
  refine W.widen (k := 94) (n := 144398) (Nat.le_of_ble_eq_true rfl) (Nat.le_of_ble_eq_true rfl) ?_
  refine va_putF (D := (dC, dI)) (ci := 16) (v := .ref q97) (ty := .array .long) (C := RX13) (T := TX13) (N := 120) hx hb hts wi13_13 tyX13 tyX13_ok nmX13 hown hK hP hD hS 0 (al_heA (X := xt13_57) (o := 0) rfl rfl rfl) rfl 71 (by decide) (hts (.fieldLink RX13 262 "KnotHouseModel" "square" "[J") mi13_70) (fun _ h9 => h9) rfl hin rfl (by decide +kernel) rfl rfl (by rw [List.length_map]; decide +kernel) diX13_488 (fun H locs hP hD hS => ?_)
  obtain ⟨u, hu, hM⟩ := al_ext (X := xt13_57) (X1 := xt13_58) (o := 0) (k := 71) (h := 72) (Y := [72]) (ad := [q97]) (k0 := 0) (ci := 16) ck13_57 rfl rfl hM.2.2.2 rfl hP hD hS
  rw [← hu] at hl
  have hu0 := hu.trans hu0
  clear hu hP hD hS
  refine W.widen (k := 94) (n := 144398) (Nat.le_of_ble_eq_true rfl) (Nat.le_of_ble_eq_true rfl) ?_
  refine lv_aload_n hx hb diX13_491 rfl (lv_at hl 0 rfl) ?_
  refine lv_iconst (v := 5) hx hb diX13_492 (by decide) ?_
  refine ow_newa (D := (dC, dI)) (N' := 5) (a0 := (5, .inl (fun _ => 0))) (ty := .int) hx hb (hts (.arrayClass .int) mi13_3) rfl hK hM.1 hM.2.1 hM.2.2.1 hA 0 rfl (fun _ h => h) (fun _ => rfl) (by decide) (by decide) (by decide) (Nat.le_of_ble_eq_true rfl) (Nat.le_of_ble_eq_true rfl) diX13_493 (fun q98 H hP hD hS => ?_)
  refine W.widen (k := 95) (n := 144403) (Nat.le_of_ble_eq_true rfl) (Nat.le_of_ble_eq_true rfl) ?_
  refine lv_dup hx hb diX13_495 rfl ?_
  refine lv_iconst (v := 0) hx hb diX13_496 (by decide) ?_
  refine lv_iconst (v := 1) hx hb diX13_497 (by decide) ?_
  refine va_iast (D := (dC, dI)) hx hb hK hP hD hS (nw xt13_58 (q5f q) u Z13).length 0 al_lastc rfl (by unfold vp_in; decide) diX13_498 (fun H locs hP hD hS => ?_)
  rw [al_setl] at hP hD
  refine lv_dup hx hb diX13_499 rfl ?_
  refine lv_iconst (v := 1) hx hb diX13_500 (by decide) ?_
  refine lv_iconst (v := 1) hx hb diX13_501 (by decide) ?_
  refine va_iast (D := (dC, dI)) hx hb hK hP hD hS (nw xt13_58 (q5f q) u Z13).length 0 al_lastc rfl (by unfold vp_in; decide) diX13_502 (fun H locs hP hD hS => ?_)
  rw [al_setl] at hP hD
  refine lv_dup hx hb diX13_503 rfl ?_
  refine lv_iconst (v := 2) hx hb diX13_504 (by decide) ?_
  refine lv_iconst (v := 2) hx hb diX13_505 (by decide) ?_
  refine va_iast (D := (dC, dI)) hx hb hK hP hD hS (nw xt13_58 (q5f q) u Z13).length 0 al_lastc rfl (by unfold vp_in; decide) diX13_506 (fun H locs hP hD hS => ?_)
  rw [al_setl] at hP hD
  refine lv_dup hx hb diX13_507 rfl ?_
  refine lv_iconst (v := 3) hx hb diX13_508 (by decide) ?_
  refine lv_bipush (v := 6) hx hb diX13_509 (by decide) ?_
  refine va_iast (D := (dC, dI)) hx hb hK hP hD hS (nw xt13_58 (q5f q) u Z13).length 0 al_lastc rfl (by unfold vp_in; decide) diX13_511 (fun H locs hP hD hS => ?_)
  rw [al_setl] at hP hD
  refine lv_dup hx hb diX13_512 rfl ?_
  refine lv_iconst (v := 4) hx hb diX13_513 (by decide) ?_
  refine lv_bipush (v := 24) hx hb diX13_514 (by decide) ?_
  refine va_iast (D := (dC, dI)) hx hb hK hP hD hS (nw xt13_58 (q5f q) u Z13).length 0 al_lastc rfl (by unfold vp_in; decide) diX13_516 (fun H locs hP hD hS => ?_)
  rw [al_setl] at hP hD
  refine va_putF (D := (dC, dI)) (ci := 16) (v := .ref q98) (ty := .array .int) (C := RX13) (T := TX13) (N := 120) hx hb hts wi13_13 tyX13 tyX13_ok nmX13 hown hK hP hD hS 0 (al_heA (X := xt13_58) (o := 0) rfl rfl rfl) rfl 72 (by decide) (hts (.fieldLink RX13 265 "KnotHouseModel" "things" "[I") mi13_71) (fun _ h9 => h9) rfl hin rfl (by decide +kernel) rfl rfl (by rw [List.length_map]; decide +kernel) diX13_517 (fun H locs hP hD hS => ?_)
  obtain ⟨u, hu, hM⟩ := al_ext (X := xt13_58) (X1 := xt13_59) (o := 0) (k := 72) (h := 73) (Y := [73]) (ad := [q98]) (k0 := 0) (ci := 16) ck13_58 rfl rfl hM.2.2.2 rfl hP hD hS
  rw [← hu] at hl
  have hu0 := hu.trans hu0
  clear hu hP hD hS
  refine W.widen (k := 95) (n := 144403) (Nat.le_of_ble_eq_true rfl) (Nat.le_of_ble_eq_true rfl) ?_
  refine lv_aload_n hx hb diX13_520 rfl (lv_at hl 0 rfl) ?_
  refine lv_sipush (v := 480) hx hb diX13_521 (by decide) ?_
  refine ow_newa (D := (dC, dI)) (N' := 480) (a0 := (480, .inl (fun _ => 0))) (ty := .int) hx hb (hts (.arrayClass .int) mi13_3) rfl hK hM.1 hM.2.1 hM.2.2.1 hA 0 rfl (fun _ h => h) (fun _ => rfl) (by decide) (by decide) (by decide) (Nat.le_of_ble_eq_true rfl) (Nat.le_of_ble_eq_true rfl) diX13_524 (fun q99 H hP hD hS => ?_)
  refine W.widen (k := 96) (n := 144883) (Nat.le_of_ble_eq_true rfl) (Nat.le_of_ble_eq_true rfl) ?_
  refine va_putF (D := (dC, dI)) (ci := 16) (v := .ref q99) (ty := .array .int) (C := RX13) (T := TX13) (N := 120) hx hb hts wi13_13 tyX13 tyX13_ok nmX13 hown hK hP hD hS 0 (al_heA (X := xt13_59) (o := 0) rfl rfl rfl) rfl 73 (by decide) (hts (.fieldLink RX13 268 "KnotHouseModel" "images" "[I") mi13_72) (fun _ h9 => h9) rfl hin rfl (by decide +kernel) rfl rfl (by rw [List.length_map]; decide +kernel) diX13_526 (fun H locs hP hD hS => ?_)
  obtain ⟨u, hu, hM⟩ := al_ext (X := xt13_59) (X1 := xt13_60) (o := 0) (k := 73) (h := 74) (Y := [74]) (ad := [q99]) (k0 := 0) (ci := 16) ck13_59 rfl rfl hM.2.2.2 rfl hP hD hS
  rw [← hu] at hl
  have hu0 := hu.trans hu0
  clear hu hP hD hS
  refine W.widen (k := 96) (n := 144883) (Nat.le_of_ble_eq_true rfl) (Nat.le_of_ble_eq_true rfl) ?_
  refine lv_aload_n hx hb diX13_529 rfl (lv_at hl 0 rfl) ?_
  refine lv_sipush (v := 2880) hx hb diX13_530 (by decide) ?_
  refine ow_newa (D := (dC, dI)) (N' := 2880) (a0 := (2880, .inl (fun _ => 0))) (ty := .int) hx hb (hts (.arrayClass .int) mi13_3) rfl hK hM.1 hM.2.1 hM.2.2.1 hA 0 rfl (fun _ h => h) (fun _ => rfl) (by decide) (by decide) (by decide) (Nat.le_of_ble_eq_true rfl) (Nat.le_of_ble_eq_true rfl) diX13_533 (fun q100 H hP hD hS => ?_)
  refine W.widen (k := 97) (n := 147763) (Nat.le_of_ble_eq_true rfl) (Nat.le_of_ble_eq_true rfl) ?_
  refine va_putF (D := (dC, dI)) (ci := 16) (v := .ref q100) (ty := .array .int) (C := RX13) (T := TX13) (N := 120) hx hb hts wi13_13 tyX13 tyX13_ok nmX13 hown hK hP hD hS 0 (al_heA (X := xt13_60) (o := 0) rfl rfl rfl) rfl 74 (by decide) (hts (.fieldLink RX13 271 "KnotHouseModel" "down" "[I") mi13_73) (fun _ h9 => h9) rfl hin rfl (by decide +kernel) rfl rfl (by rw [List.length_map]; decide +kernel) diX13_535 (fun H locs hP hD hS => ?_)
  obtain ⟨u, hu, hM⟩ := al_ext (X := xt13_60) (X1 := xt13_61) (o := 0) (k := 74) (h := 75) (Y := [75]) (ad := [q100]) (k0 := 0) (ci := 16) ck13_60 rfl rfl hM.2.2.2 rfl hP hD hS
  rw [← hu] at hl
  have hu0 := hu.trans hu0
  clear hu hP hD hS
  refine W.widen (k := 97) (n := 147763) (Nat.le_of_ble_eq_true rfl) (Nat.le_of_ble_eq_true rfl) ?_
  refine lv_aload_n hx hb diX13_538 rfl (lv_at hl 0 rfl) ?_
  refine lv_sipush (v := 2880) hx hb diX13_539 (by decide) ?_
  refine ow_newa (D := (dC, dI)) (N' := 2880) (a0 := (2880, .inl (fun _ => 0))) (ty := .int) hx hb (hts (.arrayClass .int) mi13_3) rfl hK hM.1 hM.2.1 hM.2.2.1 hA 0 rfl (fun _ h => h) (fun _ => rfl) (by decide) (by decide) (by decide) (Nat.le_of_ble_eq_true rfl) (Nat.le_of_ble_eq_true rfl) diX13_542 (fun q101 H hP hD hS => ?_)
  refine W.widen (k := 98) (n := 150643) (Nat.le_of_ble_eq_true rfl) (Nat.le_of_ble_eq_true rfl) ?_
  refine va_putF (D := (dC, dI)) (ci := 16) (v := .ref q101) (ty := .array .int) (C := RX13) (T := TX13) (N := 120) hx hb hts wi13_13 tyX13 tyX13_ok nmX13 hown hK hP hD hS 0 (al_heA (X := xt13_61) (o := 0) rfl rfl rfl) rfl 75 (by decide) (hts (.fieldLink RX13 274 "KnotHouseModel" "back" "[I") mi13_74) (fun _ h9 => h9) rfl hin rfl (by decide +kernel) rfl rfl (by rw [List.length_map]; decide +kernel) diX13_544 (fun H locs hP hD hS => ?_)
  obtain ⟨u, hu, hM⟩ := al_ext (X := xt13_61) (X1 := xt13_62) (o := 0) (k := 75) (h := 76) (Y := [76]) (ad := [q101]) (k0 := 0) (ci := 16) ck13_61 rfl rfl hM.2.2.2 rfl hP hD hS
  rw [← hu] at hl
  have hu0 := hu.trans hu0
  clear hu hP hD hS
  refine W.widen (k := 98) (n := 150643) (Nat.le_of_ble_eq_true rfl) (Nat.le_of_ble_eq_true rfl) ?_
  refine lv_aload_n hx hb diX13_547 rfl (lv_at hl 0 rfl) ?_
  refine lv_bipush (v := 40) hx hb diX13_548 (by decide) ?_
  refine ow_newa (D := (dC, dI)) (N' := 40) (a0 := (40, .inl (fun _ => 0))) (ty := .int) hx hb (hts (.arrayClass .int) mi13_3) rfl hK hM.1 hM.2.1 hM.2.2.1 hA 0 rfl (fun _ h => h) (fun _ => rfl) (by decide) (by decide) (by decide) (Nat.le_of_ble_eq_true rfl) (Nat.le_of_ble_eq_true rfl) diX13_550 (fun q102 H hP hD hS => ?_)
  refine W.widen (k := 99) (n := 150683) (Nat.le_of_ble_eq_true rfl) (Nat.le_of_ble_eq_true rfl) ?_
  refine va_putF (D := (dC, dI)) (ci := 16) (v := .ref q102) (ty := .array .int) (C := RX13) (T := TX13) (N := 120) hx hb hts wi13_13 tyX13 tyX13_ok nmX13 hown hK hP hD hS 0 (al_heA (X := xt13_62) (o := 0) rfl rfl rfl) rfl 76 (by decide) (hts (.fieldLink RX13 277 "KnotHouseModel" "given" "[I") mi13_75) (fun _ h9 => h9) rfl hin rfl (by decide +kernel) rfl rfl (by rw [List.length_map]; decide +kernel) diX13_552 (fun H locs hP hD hS => ?_)
  obtain ⟨u, hu, hM⟩ := al_ext (X := xt13_62) (X1 := xt13_63) (o := 0) (k := 76) (h := 77) (Y := [77]) (ad := [q102]) (k0 := 0) (ci := 16) ck13_62 rfl rfl hM.2.2.2 rfl hP hD hS
  rw [← hu] at hl
  have hu0 := hu.trans hu0
  clear hu hP hD hS
  refine W.widen (k := 99) (n := 150683) (Nat.le_of_ble_eq_true rfl) (Nat.le_of_ble_eq_true rfl) ?_
  refine lv_aload_n hx hb diX13_555 rfl (lv_at hl 0 rfl) ?_
  refine lv_bipush (v := 40) hx hb diX13_556 (by decide) ?_
  refine ow_newa (D := (dC, dI)) (N' := 40) (a0 := (40, .inl (fun _ => 0))) (ty := .int) hx hb (hts (.arrayClass .int) mi13_3) rfl hK hM.1 hM.2.1 hM.2.2.1 hA 0 rfl (fun _ h => h) (fun _ => rfl) (by decide) (by decide) (by decide) (Nat.le_of_ble_eq_true rfl) (Nat.le_of_ble_eq_true rfl) diX13_558 (fun q103 H hP hD hS => ?_)
  refine W.widen (k := 100) (n := 150723) (Nat.le_of_ble_eq_true rfl) (Nat.le_of_ble_eq_true rfl) ?_
  refine va_putF (D := (dC, dI)) (ci := 16) (v := .ref q103) (ty := .array .int) (C := RX13) (T := TX13) (N := 120) hx hb hts wi13_13 tyX13 tyX13_ok nmX13 hown hK hP hD hS 0 (al_heA (X := xt13_63) (o := 0) rfl rfl rfl) rfl 77 (by decide) (hts (.fieldLink RX13 280 "KnotHouseModel" "trail" "[I") mi13_76) (fun _ h9 => h9) rfl hin rfl (by decide +kernel) rfl rfl (by rw [List.length_map]; decide +kernel) diX13_560 (fun H locs hP hD hS => ?_)
  obtain ⟨u, hu, hM⟩ := al_ext (X := xt13_63) (X1 := xt13_64) (o := 0) (k := 77) (h := 78) (Y := [78]) (ad := [q103]) (k0 := 0) (ci := 16) ck13_63 rfl rfl hM.2.2.2 rfl hP hD hS
  rw [← hu] at hl
  have hu0 := hu.trans hu0
  clear hu hP hD hS
  refine W.widen (k := 100) (n := 150723) (Nat.le_of_ble_eq_true rfl) (Nat.le_of_ble_eq_true rfl) ?_
  refine lv_aload_n hx hb diX13_563 rfl (lv_at hl 0 rfl) ?_
  refine lv_bipush (v := 16) hx hb diX13_564 (by decide) ?_
  refine ow_newa (D := (dC, dI)) (N' := 16) (a0 := (16, .inl (fun _ => 0))) (ty := .boolean) hx hb (hts (.arrayClass .boolean) mi13_6) rfl hK hM.1 hM.2.1 hM.2.2.1 hA 3 rfl (fun _ h => h) (fun _ => rfl) (by decide) (by decide) (by decide) (Nat.le_of_ble_eq_true rfl) (Nat.le_of_ble_eq_true rfl) diX13_566 (fun q104 H hP hD hS => ?_)
  refine W.widen (k := 101) (n := 150739) (Nat.le_of_ble_eq_true rfl) (Nat.le_of_ble_eq_true rfl) ?_
  refine va_putF (D := (dC, dI)) (ci := 16) (v := .ref q104) (ty := .array .boolean) (C := RX13) (T := TX13) (N := 120) hx hb hts wi13_13 tyX13 tyX13_ok nmX13 hown hK hP hD hS 0 (al_heA (X := xt13_64) (o := 0) rfl rfl rfl) rfl 79 (by decide) (hts (.fieldLink RX13 283 "KnotHouseModel" "ofPart" "[Z") mi13_77) (fun _ h9 => h9) rfl hin rfl (by decide +kernel) rfl rfl (by rw [List.length_map]; decide +kernel) diX13_568 (fun H locs hP hD hS => ?_)
  obtain ⟨u, hu, hM⟩ := al_ext (X := xt13_64) (X1 := xt13_65) (o := 0) (k := 79) (h := 80) (Y := [80]) (ad := [q104]) (k0 := 0) (ci := 16) ck13_64 rfl rfl hM.2.2.2 rfl hP hD hS
  rw [← hu] at hl
  have hu0 := hu.trans hu0
  clear hu hP hD hS
  refine W.widen (k := 101) (n := 150739) (Nat.le_of_ble_eq_true rfl) (Nat.le_of_ble_eq_true rfl) ?_
  refine lv_aload_n hx hb diX13_571 rfl (lv_at hl 0 rfl) ?_
  refine lv_sipush (v := 8192) hx hb diX13_572 (by decide) ?_
  refine ow_newa (D := (dC, dI)) (N' := 8192) (a0 := (8192, .inl (fun _ => 0))) (ty := .byte) hx hb (hts (.arrayClass .byte) mi13_4) rfl hK hM.1 hM.2.1 hM.2.2.1 hA 1 rfl (fun _ h => h) (fun _ => rfl) (by decide) (by decide) (by decide) (Nat.le_of_ble_eq_true rfl) (Nat.le_of_ble_eq_true rfl) diX13_575 (fun q105 H hP hD hS => ?_)
  refine W.widen (k := 102) (n := 158931) (Nat.le_of_ble_eq_true rfl) (Nat.le_of_ble_eq_true rfl) ?_
  refine va_putF (D := (dC, dI)) (ci := 16) (v := .ref q105) (ty := .array .byte) (C := RX13) (T := TX13) (N := 120) hx hb hts wi13_13 tyX13 tyX13_ok nmX13 hown hK hP hD hS 0 (al_heA (X := xt13_65) (o := 0) rfl rfl rfl) rfl 80 (by decide) (hts (.fieldLink RX13 286 "KnotHouseModel" "loopOf" "[B") mi13_78) (fun _ h9 => h9) rfl hin rfl (by decide +kernel) rfl rfl (by rw [List.length_map]; decide +kernel) diX13_577 (fun H locs hP hD hS => ?_)
  obtain ⟨u, hu, hM⟩ := al_ext (X := xt13_65) (X1 := xt13_66) (o := 0) (k := 80) (h := 81) (Y := [81]) (ad := [q105]) (k0 := 0) (ci := 16) ck13_65 rfl rfl hM.2.2.2 rfl hP hD hS
  rw [← hu] at hl
  have hu0 := hu.trans hu0
  clear hu hP hD hS
  refine W.widen (k := 102) (n := 158931) (Nat.le_of_ble_eq_true rfl) (Nat.le_of_ble_eq_true rfl) ?_
  refine lv_aload_n hx hb diX13_580 rfl (lv_at hl 0 rfl) ?_
  refine lv_sipush (v := 256) hx hb diX13_581 (by decide) ?_
  refine ow_newa (D := (dC, dI)) (N' := 256) (a0 := (256, .inl (fun _ => 0))) (ty := .int) hx hb (hts (.arrayClass .int) mi13_3) rfl hK hM.1 hM.2.1 hM.2.2.1 hA 0 rfl (fun _ h => h) (fun _ => rfl) (by decide) (by decide) (by decide) (Nat.le_of_ble_eq_true rfl) (Nat.le_of_ble_eq_true rfl) diX13_584 (fun q106 H hP hD hS => ?_)
  refine W.widen (k := 103) (n := 159187) (Nat.le_of_ble_eq_true rfl) (Nat.le_of_ble_eq_true rfl) ?_
  refine va_putF (D := (dC, dI)) (ci := 16) (v := .ref q106) (ty := .array .int) (C := RX13) (T := TX13) (N := 120) hx hb hts wi13_13 tyX13 tyX13_ok nmX13 hown hK hP hD hS 0 (al_heA (X := xt13_66) (o := 0) rfl rfl rfl) rfl 81 (by decide) (hts (.fieldLink RX13 289 "KnotHouseModel" "loopCount" "[I") mi13_79) (fun _ h9 => h9) rfl hin rfl (by decide +kernel) rfl rfl (by rw [List.length_map]; decide +kernel) diX13_586 (fun H locs hP hD hS => ?_)
  obtain ⟨u, hu, hM⟩ := al_ext (X := xt13_66) (X1 := xt13_67) (o := 0) (k := 81) (h := 82) (Y := [82]) (ad := [q106]) (k0 := 0) (ci := 16) ck13_66 rfl rfl hM.2.2.2 rfl hP hD hS
  rw [← hu] at hl
  have hu0 := hu.trans hu0
  clear hu hP hD hS
  refine W.widen (k := 103) (n := 159187) (Nat.le_of_ble_eq_true rfl) (Nat.le_of_ble_eq_true rfl) ?_
  refine lv_aload_n hx hb diX13_589 rfl (lv_at hl 0 rfl) ?_
  refine lv_sipush (v := 257) hx hb diX13_590 (by decide) ?_
  refine ow_newa (D := (dC, dI)) (N' := 257) (a0 := (257, .inl (fun _ => 0))) (ty := .int) hx hb (hts (.arrayClass .int) mi13_3) rfl hK hM.1 hM.2.1 hM.2.2.1 hA 0 rfl (fun _ h => h) (fun _ => rfl) (by decide) (by decide) (by decide) (Nat.le_of_ble_eq_true rfl) (Nat.le_of_ble_eq_true rfl) diX13_593 (fun q107 H hP hD hS => ?_)
  refine W.widen (k := 104) (n := 159444) (Nat.le_of_ble_eq_true rfl) (Nat.le_of_ble_eq_true rfl) ?_
  refine va_putF (D := (dC, dI)) (ci := 16) (v := .ref q107) (ty := .array .int) (C := RX13) (T := TX13) (N := 120) hx hb hts wi13_13 tyX13 tyX13_ok nmX13 hown hK hP hD hS 0 (al_heA (X := xt13_67) (o := 0) rfl rfl rfl) rfl 82 (by decide) (hts (.fieldLink RX13 292 "KnotHouseModel" "base" "[I") mi13_80) (fun _ h9 => h9) rfl hin rfl (by decide +kernel) rfl rfl (by rw [List.length_map]; decide +kernel) diX13_595 (fun H locs hP hD hS => ?_)
  obtain ⟨u, hu, hM⟩ := al_ext (X := xt13_67) (X1 := xt13_68) (o := 0) (k := 82) (h := 83) (Y := [83]) (ad := [q107]) (k0 := 0) (ci := 16) ck13_67 rfl rfl hM.2.2.2 rfl hP hD hS
  rw [← hu] at hl
  have hu0 := hu.trans hu0
  clear hu hP hD hS
  refine W.widen (k := 104) (n := 159444) (Nat.le_of_ble_eq_true rfl) (Nat.le_of_ble_eq_true rfl) ?_
  refine lv_aload_n hx hb diX13_598 rfl (lv_at hl 0 rfl) ?_
  refine lv_sipush (v := 13200) hx hb diX13_599 (by decide) ?_
  refine ow_newa (D := (dC, dI)) (N' := 13200) (a0 := (13200, .inl (fun _ => 0))) (ty := .int) hx hb (hts (.arrayClass .int) mi13_3) rfl hK hM.1 hM.2.1 hM.2.2.1 hA 0 rfl (fun _ h => h) (fun _ => rfl) (by decide) (by decide) (by decide) (Nat.le_of_ble_eq_true rfl) (Nat.le_of_ble_eq_true rfl) diX13_602 (fun q108 H hP hD hS => ?_)
  refine W.widen (k := 105) (n := 172644) (Nat.le_of_ble_eq_true rfl) (Nat.le_of_ble_eq_true rfl) ?_
  refine va_putF (D := (dC, dI)) (ci := 16) (v := .ref q108) (ty := .array .int) (C := RX13) (T := TX13) (N := 120) hx hb hts wi13_13 tyX13 tyX13_ok nmX13 hown hK hP hD hS 0 (al_heA (X := xt13_68) (o := 0) rfl rfl rfl) rfl 83 (by decide) (hts (.fieldLink RX13 295 "KnotHouseModel" "place" "[I") mi13_81) (fun _ h9 => h9) rfl hin rfl (by decide +kernel) rfl rfl (by rw [List.length_map]; decide +kernel) diX13_604 (fun H locs hP hD hS => ?_)
  obtain ⟨u, hu, hM⟩ := al_ext (X := xt13_68) (X1 := xt13_69) (o := 0) (k := 83) (h := 84) (Y := [84]) (ad := [q108]) (k0 := 0) (ci := 16) ck13_68 rfl rfl hM.2.2.2 rfl hP hD hS
  rw [← hu] at hl
  have hu0 := hu.trans hu0
  clear hu hP hD hS
  refine W.widen (k := 105) (n := 172644) (Nat.le_of_ble_eq_true rfl) (Nat.le_of_ble_eq_true rfl) ?_
  refine lv_aload_n hx hb diX13_607 rfl (lv_at hl 0 rfl) ?_
  refine lv_sipush (v := 800) hx hb diX13_608 (by decide) ?_
  refine ow_newa (D := (dC, dI)) (N' := 800) (a0 := (800, .inl (fun _ => 0))) (ty := .int) hx hb (hts (.arrayClass .int) mi13_3) rfl hK hM.1 hM.2.1 hM.2.2.1 hA 0 rfl (fun _ h => h) (fun _ => rfl) (by decide) (by decide) (by decide) (Nat.le_of_ble_eq_true rfl) (Nat.le_of_ble_eq_true rfl) diX13_611 (fun q109 H hP hD hS => ?_)
  refine W.widen (k := 106) (n := 173444) (Nat.le_of_ble_eq_true rfl) (Nat.le_of_ble_eq_true rfl) ?_
  refine va_putF (D := (dC, dI)) (ci := 16) (v := .ref q109) (ty := .array .int) (C := RX13) (T := TX13) (N := 120) hx hb hts wi13_13 tyX13 tyX13_ok nmX13 hown hK hP hD hS 0 (al_heA (X := xt13_69) (o := 0) rfl rfl rfl) rfl 84 (by decide) (hts (.fieldLink RX13 298 "KnotHouseModel" "many" "[I") mi13_82) (fun _ h9 => h9) rfl hin rfl (by decide +kernel) rfl rfl (by rw [List.length_map]; decide +kernel) diX13_613 (fun H locs hP hD hS => ?_)
  obtain ⟨u, hu, hM⟩ := al_ext (X := xt13_69) (X1 := xt13_70) (o := 0) (k := 84) (h := 85) (Y := [85]) (ad := [q109]) (k0 := 0) (ci := 16) ck13_69 rfl rfl hM.2.2.2 rfl hP hD hS
  rw [← hu] at hl
  have hu0 := hu.trans hu0
  clear hu hP hD hS
  refine W.widen (k := 106) (n := 173444) (Nat.le_of_ble_eq_true rfl) (Nat.le_of_ble_eq_true rfl) ?_
  exact kk u _ _ ls hu0 hM hl
set_option maxHeartbeats 4000000 in
set_option maxRecDepth 100000 in
theorem hc13_5 {p : Program} {l : Launch} {e : Env} {s : State} {m : MethodId} {args : Array Value} {below : List Frame} {meth : Method} {c : Code} {Q : State → Prop} {A : Nat → Prop} {dC : Nat → ClassId} {dI : Nat → Nat → Nat} {q : ow_Q5} (hx : p.tables.exec = Jvm.exec) (hb : c.code = cX13_init) (hml : c.maxLocals = 2) (hown : s.vm.findClass RX13 = some m.cls) (hts : ∀ w ∈ wi13, w.before args s = true) (hin : meth.name = "<init>") (hA : ∀ q : Nat, s.heap.size ≤ q → A q) (hK : va_K (dC, dI) vwCl (tw_T q RX12) s) (hN_X13_113 : va_Nw (.methodLinkNest RX13 113 yX12_init "KnotHouseModel") s) (hAO : va_AO RX12 s) (u : Nat → Nat) (H : Heap) (locs : List Loc) (ls : Array Slot) {a0 : Nat} (hu0 : u 0 = a0) (hM : al_M (dC, dI) vwCl xt13_70 (q5f q) A s.heap u Z13 H locs) (hl : lv_has ls 2 [(0, .ref (u 0))]) (kk : ∀ (u : Nat → Nat) (H : Heap) (locs : List Loc) (ls : Array Slot), u 0 = a0 → al_M (dC, dI) vwCl xt13_84 (q5f q) A s.heap u Z13 H locs → lv_has ls 2 [(0, .ref (u 0))] → W p l e RI13 s m args below meth c H locs 120 1129410 Q (F0 m 739 ls [])) : W p l e RI13 s m args below meth c H locs 106 173444 Q (F0 m 616 ls []) := by
  refine lv_aload_n hx hb diX13_616 rfl (lv_at hl 0 rfl) ?_
  refine lv_sipush (v := 800) hx hb diX13_617 (by decide) ?_
  refine ow_newa (D := (dC, dI)) (N' := 800) (a0 := (800, .inl (fun _ => 0))) (ty := .int) hx hb (hts (.arrayClass .int) mi13_3) rfl hK hM.1 hM.2.1 hM.2.2.1 hA 0 rfl (fun _ h => h) (fun _ => rfl) (by decide) (by decide) (by decide) (Nat.le_of_ble_eq_true rfl) (Nat.le_of_ble_eq_true rfl) diX13_620 (fun q110 H hP hD hS => ?_)
  refine W.widen (k := 107) (n := 174244) (Nat.le_of_ble_eq_true rfl) (Nat.le_of_ble_eq_true rfl) ?_
  refine va_putF (D := (dC, dI)) (ci := 16) (v := .ref q110) (ty := .array .int) (C := RX13) (T := TX13) (N := 120) hx hb hts wi13_13 tyX13 tyX13_ok nmX13 hown hK hP hD hS 0 (al_heA (X := xt13_70) (o := 0) rfl rfl rfl) rfl 85 (by decide) (hts (.fieldLink RX13 301 "KnotHouseModel" "steps" "[I") mi13_83) (fun _ h9 => h9) rfl hin rfl (by decide +kernel) rfl rfl (by rw [List.length_map]; decide +kernel) diX13_622 (fun H locs hP hD hS => ?_)
  obtain ⟨u, hu, hM⟩ := al_ext (X := xt13_70) (X1 := xt13_71) (o := 0) (k := 85) (h := 86) (Y := [86]) (ad := [q110]) (k0 := 0) (ci := 16) ck13_70 rfl rfl hM.2.2.2 rfl hP hD hS
  rw [← hu] at hl
  have hu0 := hu.trans hu0
  clear hu hP hD hS
  refine W.widen (k := 107) (n := 174244) (Nat.le_of_ble_eq_true rfl) (Nat.le_of_ble_eq_true rfl) ?_
  refine lv_aload_n hx hb diX13_625 rfl (lv_at hl 0 rfl) ?_
  refine lv_sipush (v := 800) hx hb diX13_626 (by decide) ?_
  refine ow_newa (D := (dC, dI)) (N' := 800) (a0 := (800, .inl (fun _ => 0))) (ty := .int) hx hb (hts (.arrayClass .int) mi13_3) rfl hK hM.1 hM.2.1 hM.2.2.1 hA 0 rfl (fun _ h => h) (fun _ => rfl) (by decide) (by decide) (by decide) (Nat.le_of_ble_eq_true rfl) (Nat.le_of_ble_eq_true rfl) diX13_629 (fun q111 H hP hD hS => ?_)
  refine W.widen (k := 108) (n := 175044) (Nat.le_of_ble_eq_true rfl) (Nat.le_of_ble_eq_true rfl) ?_
  refine va_putF (D := (dC, dI)) (ci := 16) (v := .ref q111) (ty := .array .int) (C := RX13) (T := TX13) (N := 120) hx hb hts wi13_13 tyX13 tyX13_ok nmX13 hown hK hP hD hS 0 (al_heA (X := xt13_71) (o := 0) rfl rfl rfl) rfl 86 (by decide) (hts (.fieldLink RX13 304 "KnotHouseModel" "ranks" "[I") mi13_84) (fun _ h9 => h9) rfl hin rfl (by decide +kernel) rfl rfl (by rw [List.length_map]; decide +kernel) diX13_631 (fun H locs hP hD hS => ?_)
  obtain ⟨u, hu, hM⟩ := al_ext (X := xt13_71) (X1 := xt13_72) (o := 0) (k := 86) (h := 87) (Y := [87]) (ad := [q111]) (k0 := 0) (ci := 16) ck13_71 rfl rfl hM.2.2.2 rfl hP hD hS
  rw [← hu] at hl
  have hu0 := hu.trans hu0
  clear hu hP hD hS
  refine W.widen (k := 108) (n := 175044) (Nat.le_of_ble_eq_true rfl) (Nat.le_of_ble_eq_true rfl) ?_
  refine lv_aload_n hx hb diX13_634 rfl (lv_at hl 0 rfl) ?_
  refine lv_sipush (v := 13200) hx hb diX13_635 (by decide) ?_
  refine ow_newa (D := (dC, dI)) (N' := 13200) (a0 := (13200, .inl (fun _ => 0))) (ty := .int) hx hb (hts (.arrayClass .int) mi13_3) rfl hK hM.1 hM.2.1 hM.2.2.1 hA 0 rfl (fun _ h => h) (fun _ => rfl) (by decide) (by decide) (by decide) (Nat.le_of_ble_eq_true rfl) (Nat.le_of_ble_eq_true rfl) diX13_638 (fun q112 H hP hD hS => ?_)
  refine W.widen (k := 109) (n := 188244) (Nat.le_of_ble_eq_true rfl) (Nat.le_of_ble_eq_true rfl) ?_
  refine va_putF (D := (dC, dI)) (ci := 16) (v := .ref q112) (ty := .array .int) (C := RX13) (T := TX13) (N := 120) hx hb hts wi13_13 tyX13 tyX13_ok nmX13 hown hK hP hD hS 0 (al_heA (X := xt13_72) (o := 0) rfl rfl rfl) rfl 88 (by decide) (hts (.fieldLink RX13 307 "KnotHouseModel" "work" "[I") mi13_85) (fun _ h9 => h9) rfl hin rfl (by decide +kernel) rfl rfl (by rw [List.length_map]; decide +kernel) diX13_640 (fun H locs hP hD hS => ?_)
  obtain ⟨u, hu, hM⟩ := al_ext (X := xt13_72) (X1 := xt13_73) (o := 0) (k := 88) (h := 89) (Y := [89]) (ad := [q112]) (k0 := 0) (ci := 16) ck13_72 rfl rfl hM.2.2.2 rfl hP hD hS
  rw [← hu] at hl
  have hu0 := hu.trans hu0
  clear hu hP hD hS
  refine W.widen (k := 109) (n := 188244) (Nat.le_of_ble_eq_true rfl) (Nat.le_of_ble_eq_true rfl) ?_
  refine lv_aload_n hx hb diX13_643 rfl (lv_at hl 0 rfl) ?_
  refine lv_sipush (v := 13200) hx hb diX13_644 (by decide) ?_
  refine ow_newa (D := (dC, dI)) (N' := 13200) (a0 := (13200, .inl (fun _ => 0))) (ty := .int) hx hb (hts (.arrayClass .int) mi13_3) rfl hK hM.1 hM.2.1 hM.2.2.1 hA 0 rfl (fun _ h => h) (fun _ => rfl) (by decide) (by decide) (by decide) (Nat.le_of_ble_eq_true rfl) (Nat.le_of_ble_eq_true rfl) diX13_647 (fun q113 H hP hD hS => ?_)
  refine W.widen (k := 110) (n := 201444) (Nat.le_of_ble_eq_true rfl) (Nat.le_of_ble_eq_true rfl) ?_
  refine va_putF (D := (dC, dI)) (ci := 16) (v := .ref q113) (ty := .array .int) (C := RX13) (T := TX13) (N := 120) hx hb hts wi13_13 tyX13 tyX13_ok nmX13 hown hK hP hD hS 0 (al_heA (X := xt13_73) (o := 0) rfl rfl rfl) rfl 89 (by decide) (hts (.fieldLink RX13 310 "KnotHouseModel" "rowBegin" "[I") mi13_86) (fun _ h9 => h9) rfl hin rfl (by decide +kernel) rfl rfl (by rw [List.length_map]; decide +kernel) diX13_649 (fun H locs hP hD hS => ?_)
  obtain ⟨u, hu, hM⟩ := al_ext (X := xt13_73) (X1 := xt13_74) (o := 0) (k := 89) (h := 90) (Y := [90]) (ad := [q113]) (k0 := 0) (ci := 16) ck13_73 rfl rfl hM.2.2.2 rfl hP hD hS
  rw [← hu] at hl
  have hu0 := hu.trans hu0
  clear hu hP hD hS
  refine W.widen (k := 110) (n := 201444) (Nat.le_of_ble_eq_true rfl) (Nat.le_of_ble_eq_true rfl) ?_
  refine lv_aload_n hx hb diX13_652 rfl (lv_at hl 0 rfl) ?_
  refine lv_sipush (v := 13200) hx hb diX13_653 (by decide) ?_
  refine ow_newa (D := (dC, dI)) (N' := 13200) (a0 := (13200, .inl (fun _ => 0))) (ty := .int) hx hb (hts (.arrayClass .int) mi13_3) rfl hK hM.1 hM.2.1 hM.2.2.1 hA 0 rfl (fun _ h => h) (fun _ => rfl) (by decide) (by decide) (by decide) (Nat.le_of_ble_eq_true rfl) (Nat.le_of_ble_eq_true rfl) diX13_656 (fun q114 H hP hD hS => ?_)
  refine W.widen (k := 111) (n := 214644) (Nat.le_of_ble_eq_true rfl) (Nat.le_of_ble_eq_true rfl) ?_
  refine va_putF (D := (dC, dI)) (ci := 16) (v := .ref q114) (ty := .array .int) (C := RX13) (T := TX13) (N := 120) hx hb hts wi13_13 tyX13 tyX13_ok nmX13 hown hK hP hD hS 0 (al_heA (X := xt13_74) (o := 0) rfl rfl rfl) rfl 90 (by decide) (hts (.fieldLink RX13 313 "KnotHouseModel" "rowEnd" "[I") mi13_87) (fun _ h9 => h9) rfl hin rfl (by decide +kernel) rfl rfl (by rw [List.length_map]; decide +kernel) diX13_658 (fun H locs hP hD hS => ?_)
  obtain ⟨u, hu, hM⟩ := al_ext (X := xt13_74) (X1 := xt13_75) (o := 0) (k := 90) (h := 91) (Y := [91]) (ad := [q114]) (k0 := 0) (ci := 16) ck13_74 rfl rfl hM.2.2.2 rfl hP hD hS
  rw [← hu] at hl
  have hu0 := hu.trans hu0
  clear hu hP hD hS
  refine W.widen (k := 111) (n := 214644) (Nat.le_of_ble_eq_true rfl) (Nat.le_of_ble_eq_true rfl) ?_
  refine lv_aload_n hx hb diX13_661 rfl (lv_at hl 0 rfl) ?_
  refine lv_ldcw (v := 900000) hx hb hown (hts (.constant RX13 316 (900000)) mi13_8) diX13_662 ?_
  refine ow_newa (D := (dC, dI)) (N' := 900000) (a0 := (900000, .inl (fun _ => 0))) (ty := .int) hx hb (hts (.arrayClass .int) mi13_3) rfl hK hM.1 hM.2.1 hM.2.2.1 hA 0 rfl (fun _ h => h) (fun _ => rfl) (by decide) (by decide) (by decide) (Nat.le_of_ble_eq_true rfl) (Nat.le_of_ble_eq_true rfl) diX13_665 (fun q115 H hP hD hS => ?_)
  refine W.widen (k := 112) (n := 1114644) (Nat.le_of_ble_eq_true rfl) (Nat.le_of_ble_eq_true rfl) ?_
  refine va_putF (D := (dC, dI)) (ci := 16) (v := .ref q115) (ty := .array .int) (C := RX13) (T := TX13) (N := 120) hx hb hts wi13_13 tyX13 tyX13_ok nmX13 hown hK hP hD hS 0 (al_heA (X := xt13_75) (o := 0) rfl rfl rfl) rfl 91 (by decide) (hts (.fieldLink RX13 317 "KnotHouseModel" "pool" "[I") mi13_88) (fun _ h9 => h9) rfl hin rfl (by decide +kernel) rfl rfl (by rw [List.length_map]; decide +kernel) diX13_667 (fun H locs hP hD hS => ?_)
  obtain ⟨u, hu, hM⟩ := al_ext (X := xt13_75) (X1 := xt13_76) (o := 0) (k := 91) (h := 92) (Y := [92]) (ad := [q115]) (k0 := 0) (ci := 16) ck13_75 rfl rfl hM.2.2.2 rfl hP hD hS
  rw [← hu] at hl
  have hu0 := hu.trans hu0
  clear hu hP hD hS
  refine W.widen (k := 112) (n := 1114644) (Nat.le_of_ble_eq_true rfl) (Nat.le_of_ble_eq_true rfl) ?_
  refine lv_aload_n hx hb diX13_670 rfl (lv_at hl 0 rfl) ?_
  refine lv_sipush (v := 320) hx hb diX13_671 (by decide) ?_
  refine ow_newa (D := (dC, dI)) (N' := 320) (a0 := (320, .inl (fun _ => 0))) (ty := .int) hx hb (hts (.arrayClass .int) mi13_3) rfl hK hM.1 hM.2.1 hM.2.2.1 hA 0 rfl (fun _ h => h) (fun _ => rfl) (by decide) (by decide) (by decide) (Nat.le_of_ble_eq_true rfl) (Nat.le_of_ble_eq_true rfl) diX13_674 (fun q116 H hP hD hS => ?_)
  refine W.widen (k := 113) (n := 1114964) (Nat.le_of_ble_eq_true rfl) (Nat.le_of_ble_eq_true rfl) ?_
  refine va_putF (D := (dC, dI)) (ci := 16) (v := .ref q116) (ty := .array .int) (C := RX13) (T := TX13) (N := 120) hx hb hts wi13_13 tyX13 tyX13_ok nmX13 hown hK hP hD hS 0 (al_heA (X := xt13_76) (o := 0) rfl rfl rfl) rfl 93 (by decide) (hts (.fieldLink RX13 320 "KnotHouseModel" "words" "[I") mi13_89) (fun _ h9 => h9) rfl hin rfl (by decide +kernel) rfl rfl (by rw [List.length_map]; decide +kernel) diX13_676 (fun H locs hP hD hS => ?_)
  obtain ⟨u, hu, hM⟩ := al_ext (X := xt13_76) (X1 := xt13_77) (o := 0) (k := 93) (h := 94) (Y := [94]) (ad := [q116]) (k0 := 0) (ci := 16) ck13_76 rfl rfl hM.2.2.2 rfl hP hD hS
  rw [← hu] at hl
  have hu0 := hu.trans hu0
  clear hu hP hD hS
  refine W.widen (k := 113) (n := 1114964) (Nat.le_of_ble_eq_true rfl) (Nat.le_of_ble_eq_true rfl) ?_
  refine lv_aload_n hx hb diX13_679 rfl (lv_at hl 0 rfl) ?_
  refine lv_bipush (v := 20) hx hb diX13_680 (by decide) ?_
  refine ow_newa (D := (dC, dI)) (N' := 20) (a0 := (20, .inl (fun _ => 0))) (ty := .int) hx hb (hts (.arrayClass .int) mi13_3) rfl hK hM.1 hM.2.1 hM.2.2.1 hA 0 rfl (fun _ h => h) (fun _ => rfl) (by decide) (by decide) (by decide) (Nat.le_of_ble_eq_true rfl) (Nat.le_of_ble_eq_true rfl) diX13_682 (fun q117 H hP hD hS => ?_)
  refine W.widen (k := 114) (n := 1114984) (Nat.le_of_ble_eq_true rfl) (Nat.le_of_ble_eq_true rfl) ?_
  refine va_putF (D := (dC, dI)) (ci := 16) (v := .ref q117) (ty := .array .int) (C := RX13) (T := TX13) (N := 120) hx hb hts wi13_13 tyX13 tyX13_ok nmX13 hown hK hP hD hS 0 (al_heA (X := xt13_77) (o := 0) rfl rfl rfl) rfl 94 (by decide) (hts (.fieldLink RX13 323 "KnotHouseModel" "lengths" "[I") mi13_90) (fun _ h9 => h9) rfl hin rfl (by decide +kernel) rfl rfl (by rw [List.length_map]; decide +kernel) diX13_684 (fun H locs hP hD hS => ?_)
  obtain ⟨u, hu, hM⟩ := al_ext (X := xt13_77) (X1 := xt13_78) (o := 0) (k := 94) (h := 95) (Y := [95]) (ad := [q117]) (k0 := 0) (ci := 16) ck13_77 rfl rfl hM.2.2.2 rfl hP hD hS
  rw [← hu] at hl
  have hu0 := hu.trans hu0
  clear hu hP hD hS
  refine W.widen (k := 114) (n := 1114984) (Nat.le_of_ble_eq_true rfl) (Nat.le_of_ble_eq_true rfl) ?_
  refine lv_aload_n hx hb diX13_687 rfl (lv_at hl 0 rfl) ?_
  refine lv_bipush (v := 20) hx hb diX13_688 (by decide) ?_
  refine ow_newa (D := (dC, dI)) (N' := 20) (a0 := (20, .inl (fun _ => 0))) (ty := .int) hx hb (hts (.arrayClass .int) mi13_3) rfl hK hM.1 hM.2.1 hM.2.2.1 hA 0 rfl (fun _ h => h) (fun _ => rfl) (by decide) (by decide) (by decide) (Nat.le_of_ble_eq_true rfl) (Nat.le_of_ble_eq_true rfl) diX13_690 (fun q118 H hP hD hS => ?_)
  refine W.widen (k := 115) (n := 1115004) (Nat.le_of_ble_eq_true rfl) (Nat.le_of_ble_eq_true rfl) ?_
  refine va_putF (D := (dC, dI)) (ci := 16) (v := .ref q118) (ty := .array .int) (C := RX13) (T := TX13) (N := 120) hx hb hts wi13_13 tyX13 tyX13_ok nmX13 hown hK hP hD hS 0 (al_heA (X := xt13_78) (o := 0) rfl rfl rfl) rfl 95 (by decide) (hts (.fieldLink RX13 326 "KnotHouseModel" "strands" "[I") mi13_91) (fun _ h9 => h9) rfl hin rfl (by decide +kernel) rfl rfl (by rw [List.length_map]; decide +kernel) diX13_692 (fun H locs hP hD hS => ?_)
  obtain ⟨u, hu, hM⟩ := al_ext (X := xt13_78) (X1 := xt13_79) (o := 0) (k := 95) (h := 96) (Y := [96]) (ad := [q118]) (k0 := 0) (ci := 16) ck13_78 rfl rfl hM.2.2.2 rfl hP hD hS
  rw [← hu] at hl
  have hu0 := hu.trans hu0
  clear hu hP hD hS
  refine W.widen (k := 115) (n := 1115004) (Nat.le_of_ble_eq_true rfl) (Nat.le_of_ble_eq_true rfl) ?_
  refine lv_aload_n hx hb diX13_695 rfl (lv_at hl 0 rfl) ?_
  refine lv_bipush (v := 6) hx hb diX13_696 (by decide) ?_
  refine ow_newa (D := (dC, dI)) (N' := 6) (a0 := (6, .inl (fun _ => 0))) (ty := .int) hx hb (hts (.arrayClass .int) mi13_3) rfl hK hM.1 hM.2.1 hM.2.2.1 hA 0 rfl (fun _ h => h) (fun _ => rfl) (by decide) (by decide) (by decide) (Nat.le_of_ble_eq_true rfl) (Nat.le_of_ble_eq_true rfl) diX13_698 (fun q119 H hP hD hS => ?_)
  refine W.widen (k := 116) (n := 1115010) (Nat.le_of_ble_eq_true rfl) (Nat.le_of_ble_eq_true rfl) ?_
  refine va_putF (D := (dC, dI)) (ci := 16) (v := .ref q119) (ty := .array .int) (C := RX13) (T := TX13) (N := 120) hx hb hts wi13_13 tyX13 tyX13_ok nmX13 hown hK hP hD hS 0 (al_heA (X := xt13_79) (o := 0) rfl rfl rfl) rfl 96 (by decide) (hts (.fieldLink RX13 329 "KnotHouseModel" "simples" "[I") mi13_92) (fun _ h9 => h9) rfl hin rfl (by decide +kernel) rfl rfl (by rw [List.length_map]; decide +kernel) diX13_700 (fun H locs hP hD hS => ?_)
  obtain ⟨u, hu, hM⟩ := al_ext (X := xt13_79) (X1 := xt13_80) (o := 0) (k := 96) (h := 97) (Y := [97]) (ad := [q119]) (k0 := 0) (ci := 16) ck13_79 rfl rfl hM.2.2.2 rfl hP hD hS
  rw [← hu] at hl
  have hu0 := hu.trans hu0
  clear hu hP hD hS
  refine W.widen (k := 116) (n := 1115010) (Nat.le_of_ble_eq_true rfl) (Nat.le_of_ble_eq_true rfl) ?_
  refine lv_aload_n hx hb diX13_703 rfl (lv_at hl 0 rfl) ?_
  refine lv_sipush (v := 3600) hx hb diX13_704 (by decide) ?_
  refine ow_newa (D := (dC, dI)) (N' := 3600) (a0 := (3600, .inl (fun _ => 0))) (ty := .int) hx hb (hts (.arrayClass .int) mi13_3) rfl hK hM.1 hM.2.1 hM.2.2.1 hA 0 rfl (fun _ h => h) (fun _ => rfl) (by decide) (by decide) (by decide) (Nat.le_of_ble_eq_true rfl) (Nat.le_of_ble_eq_true rfl) diX13_707 (fun q120 H hP hD hS => ?_)
  refine W.widen (k := 117) (n := 1118610) (Nat.le_of_ble_eq_true rfl) (Nat.le_of_ble_eq_true rfl) ?_
  refine va_putF (D := (dC, dI)) (ci := 16) (v := .ref q120) (ty := .array .int) (C := RX13) (T := TX13) (N := 120) hx hb hts wi13_13 tyX13 tyX13_ok nmX13 hown hK hP hD hS 0 (al_heA (X := xt13_80) (o := 0) rfl rfl rfl) rfl 97 (by decide) (hts (.fieldLink RX13 332 "KnotHouseModel" "ends" "[I") mi13_93) (fun _ h9 => h9) rfl hin rfl (by decide +kernel) rfl rfl (by rw [List.length_map]; decide +kernel) diX13_709 (fun H locs hP hD hS => ?_)
  obtain ⟨u, hu, hM⟩ := al_ext (X := xt13_80) (X1 := xt13_81) (o := 0) (k := 97) (h := 98) (Y := [98]) (ad := [q120]) (k0 := 0) (ci := 16) ck13_80 rfl rfl hM.2.2.2 rfl hP hD hS
  rw [← hu] at hl
  have hu0 := hu.trans hu0
  clear hu hP hD hS
  refine W.widen (k := 117) (n := 1118610) (Nat.le_of_ble_eq_true rfl) (Nat.le_of_ble_eq_true rfl) ?_
  refine lv_aload_n hx hb diX13_712 rfl (lv_at hl 0 rfl) ?_
  refine lv_sipush (v := 7200) hx hb diX13_713 (by decide) ?_
  refine ow_newa (D := (dC, dI)) (N' := 7200) (a0 := (7200, .inl (fun _ => 0))) (ty := .int) hx hb (hts (.arrayClass .int) mi13_3) rfl hK hM.1 hM.2.1 hM.2.2.1 hA 0 rfl (fun _ h => h) (fun _ => rfl) (by decide) (by decide) (by decide) (Nat.le_of_ble_eq_true rfl) (Nat.le_of_ble_eq_true rfl) diX13_716 (fun q121 H hP hD hS => ?_)
  refine W.widen (k := 118) (n := 1125810) (Nat.le_of_ble_eq_true rfl) (Nat.le_of_ble_eq_true rfl) ?_
  refine va_putF (D := (dC, dI)) (ci := 16) (v := .ref q121) (ty := .array .int) (C := RX13) (T := TX13) (N := 120) hx hb hts wi13_13 tyX13 tyX13_ok nmX13 hown hK hP hD hS 0 (al_heA (X := xt13_81) (o := 0) rfl rfl rfl) rfl 98 (by decide) (hts (.fieldLink RX13 335 "KnotHouseModel" "letters" "[I") mi13_94) (fun _ h9 => h9) rfl hin rfl (by decide +kernel) rfl rfl (by rw [List.length_map]; decide +kernel) diX13_718 (fun H locs hP hD hS => ?_)
  obtain ⟨u, hu, hM⟩ := al_ext (X := xt13_81) (X1 := xt13_82) (o := 0) (k := 98) (h := 99) (Y := [99]) (ad := [q121]) (k0 := 0) (ci := 16) ck13_81 rfl rfl hM.2.2.2 rfl hP hD hS
  rw [← hu] at hl
  have hu0 := hu.trans hu0
  clear hu hP hD hS
  refine W.widen (k := 118) (n := 1125810) (Nat.le_of_ble_eq_true rfl) (Nat.le_of_ble_eq_true rfl) ?_
  refine lv_aload_n hx hb diX13_721 rfl (lv_at hl 0 rfl) ?_
  refine lv_sipush (v := 720) hx hb diX13_722 (by decide) ?_
  refine ow_newa (D := (dC, dI)) (N' := 720) (a0 := (720, .inl (fun _ => 0))) (ty := .int) hx hb (hts (.arrayClass .int) mi13_3) rfl hK hM.1 hM.2.1 hM.2.2.1 hA 0 rfl (fun _ h => h) (fun _ => rfl) (by decide) (by decide) (by decide) (Nat.le_of_ble_eq_true rfl) (Nat.le_of_ble_eq_true rfl) diX13_725 (fun q122 H hP hD hS => ?_)
  refine W.widen (k := 119) (n := 1126530) (Nat.le_of_ble_eq_true rfl) (Nat.le_of_ble_eq_true rfl) ?_
  refine va_putF (D := (dC, dI)) (ci := 16) (v := .ref q122) (ty := .array .int) (C := RX13) (T := TX13) (N := 120) hx hb hts wi13_13 tyX13 tyX13_ok nmX13 hown hK hP hD hS 0 (al_heA (X := xt13_82) (o := 0) rfl rfl rfl) rfl 99 (by decide) (hts (.fieldLink RX13 338 "KnotHouseModel" "sizes" "[I") mi13_95) (fun _ h9 => h9) rfl hin rfl (by decide +kernel) rfl rfl (by rw [List.length_map]; decide +kernel) diX13_727 (fun H locs hP hD hS => ?_)
  obtain ⟨u, hu, hM⟩ := al_ext (X := xt13_82) (X1 := xt13_83) (o := 0) (k := 99) (h := 100) (Y := [100]) (ad := [q122]) (k0 := 0) (ci := 16) ck13_82 rfl rfl hM.2.2.2 rfl hP hD hS
  rw [← hu] at hl
  have hu0 := hu.trans hu0
  clear hu hP hD hS
  refine W.widen (k := 119) (n := 1126530) (Nat.le_of_ble_eq_true rfl) (Nat.le_of_ble_eq_true rfl) ?_
  refine lv_aload_n hx hb diX13_730 rfl (lv_at hl 0 rfl) ?_
  refine lv_sipush (v := 2880) hx hb diX13_731 (by decide) ?_
  refine ow_newa (D := (dC, dI)) (N' := 2880) (a0 := (2880, .inl (fun _ => 0))) (ty := .int) hx hb (hts (.arrayClass .int) mi13_3) rfl hK hM.1 hM.2.1 hM.2.2.1 hA 0 rfl (fun _ h => h) (fun _ => rfl) (by decide) (by decide) (by decide) (Nat.le_of_ble_eq_true rfl) (Nat.le_of_ble_eq_true rfl) diX13_734 (fun q123 H hP hD hS => ?_)
  refine W.widen (k := 120) (n := 1129410) (Nat.le_of_ble_eq_true rfl) (Nat.le_of_ble_eq_true rfl) ?_
  refine va_putF (D := (dC, dI)) (ci := 16) (v := .ref q123) (ty := .array .int) (C := RX13) (T := TX13) (N := 120) hx hb hts wi13_13 tyX13 tyX13_ok nmX13 hown hK hP hD hS 0 (al_heA (X := xt13_83) (o := 0) rfl rfl rfl) rfl 100 (by decide) (hts (.fieldLink RX13 341 "KnotHouseModel" "more" "[I") mi13_96) (fun _ h9 => h9) rfl hin rfl (by decide +kernel) rfl rfl (by rw [List.length_map]; decide +kernel) diX13_736 (fun H locs hP hD hS => ?_)
  obtain ⟨u, hu, hM⟩ := al_ext (X := xt13_83) (X1 := xt13_84) (o := 0) (k := 100) (h := 101) (Y := [101]) (ad := [q123]) (k0 := 0) (ci := 16) ck13_83 rfl rfl hM.2.2.2 rfl hP hD hS
  rw [← hu] at hl
  have hu0 := hu.trans hu0
  clear hu hP hD hS
  refine W.widen (k := 120) (n := 1129410) (Nat.le_of_ble_eq_true rfl) (Nat.le_of_ble_eq_true rfl) ?_
  exact kk u _ _ ls hu0 hM hl
set_option maxHeartbeats 4000000 in
set_option maxRecDepth 100000 in
theorem hc13_6 {p : Program} {l : Launch} {e : Env} {s : State} {m : MethodId} {args : Array Value} {below : List Frame} {meth : Method} {c : Code} {Q : State → Prop} {A : Nat → Prop} {dC : Nat → ClassId} {dI : Nat → Nat → Nat} {q : ow_Q5} (hx : p.tables.exec = Jvm.exec) (hb : c.code = cX13_init) (hml : c.maxLocals = 2) (hown : s.vm.findClass RX13 = some m.cls) (hts : ∀ w ∈ wi13, w.before args s = true) (hin : meth.name = "<init>") (hA : ∀ q : Nat, s.heap.size ≤ q → A q) (hK : va_K (dC, dI) vwCl (tw_T q RX12) s) (hN_X13_113 : va_Nw (.methodLinkNest RX13 113 yX12_init "KnotHouseModel") s) (hAO : va_AO RX12 s) (u : Nat → Nat) (H : Heap) (locs : List Loc) (ls : Array Slot) {a0 : Nat} (hu0 : u 0 = a0) (hM : al_M (dC, dI) vwCl xt13_84 (q5f q) A s.heap u Z13 H locs) (hl : lv_has ls 2 [(0, .ref (u 0))]) (kk : ∀ (u : Nat → Nat) (H : Heap) (locs : List Loc) (ls : Array Slot), u 0 = a0 → al_M (dC, dI) vwCl xt13_98 (q5f q) A s.heap u Z13 H locs → lv_has ls 2 [(0, .ref (u 0))] → W p l e RI13 s m args below meth c H locs 134 1146945 Q (F0 m 857 ls [])) : W p l e RI13 s m args below meth c H locs 120 1129410 Q (F0 m 739 ls []) := by
  refine lv_aload_n hx hb diX13_739 rfl (lv_at hl 0 rfl) ?_
  refine lv_sipush (v := 720) hx hb diX13_740 (by decide) ?_
  refine ow_newa (D := (dC, dI)) (N' := 720) (a0 := (720, .inl (fun _ => 0))) (ty := .int) hx hb (hts (.arrayClass .int) mi13_3) rfl hK hM.1 hM.2.1 hM.2.2.1 hA 0 rfl (fun _ h => h) (fun _ => rfl) (by decide) (by decide) (by decide) (Nat.le_of_ble_eq_true rfl) (Nat.le_of_ble_eq_true rfl) diX13_743 (fun q124 H hP hD hS => ?_)
  refine W.widen (k := 121) (n := 1130130) (Nat.le_of_ble_eq_true rfl) (Nat.le_of_ble_eq_true rfl) ?_
  refine va_putF (D := (dC, dI)) (ci := 16) (v := .ref q124) (ty := .array .int) (C := RX13) (T := TX13) (N := 120) hx hb hts wi13_13 tyX13 tyX13_ok nmX13 hown hK hP hD hS 0 (al_heA (X := xt13_84) (o := 0) rfl rfl rfl) rfl 101 (by decide) (hts (.fieldLink RX13 344 "KnotHouseModel" "ahead" "[I") mi13_97) (fun _ h9 => h9) rfl hin rfl (by decide +kernel) rfl rfl (by rw [List.length_map]; decide +kernel) diX13_745 (fun H locs hP hD hS => ?_)
  obtain ⟨u, hu, hM⟩ := al_ext (X := xt13_84) (X1 := xt13_85) (o := 0) (k := 101) (h := 102) (Y := [102]) (ad := [q124]) (k0 := 0) (ci := 16) ck13_84 rfl rfl hM.2.2.2 rfl hP hD hS
  rw [← hu] at hl
  have hu0 := hu.trans hu0
  clear hu hP hD hS
  refine W.widen (k := 121) (n := 1130130) (Nat.le_of_ble_eq_true rfl) (Nat.le_of_ble_eq_true rfl) ?_
  refine lv_aload_n hx hb diX13_748 rfl (lv_at hl 0 rfl) ?_
  refine lv_sipush (v := 720) hx hb diX13_749 (by decide) ?_
  refine ow_newa (D := (dC, dI)) (N' := 720) (a0 := (720, .inl (fun _ => 0))) (ty := .int) hx hb (hts (.arrayClass .int) mi13_3) rfl hK hM.1 hM.2.1 hM.2.2.1 hA 0 rfl (fun _ h => h) (fun _ => rfl) (by decide) (by decide) (by decide) (Nat.le_of_ble_eq_true rfl) (Nat.le_of_ble_eq_true rfl) diX13_752 (fun q125 H hP hD hS => ?_)
  refine W.widen (k := 122) (n := 1130850) (Nat.le_of_ble_eq_true rfl) (Nat.le_of_ble_eq_true rfl) ?_
  refine va_putF (D := (dC, dI)) (ci := 16) (v := .ref q125) (ty := .array .int) (C := RX13) (T := TX13) (N := 120) hx hb hts wi13_13 tyX13 tyX13_ok nmX13 hown hK hP hD hS 0 (al_heA (X := xt13_85) (o := 0) rfl rfl rfl) rfl 102 (by decide) (hts (.fieldLink RX13 347 "KnotHouseModel" "over2" "[I") mi13_98) (fun _ h9 => h9) rfl hin rfl (by decide +kernel) rfl rfl (by rw [List.length_map]; decide +kernel) diX13_754 (fun H locs hP hD hS => ?_)
  obtain ⟨u, hu, hM⟩ := al_ext (X := xt13_85) (X1 := xt13_86) (o := 0) (k := 102) (h := 103) (Y := [103]) (ad := [q125]) (k0 := 0) (ci := 16) ck13_85 rfl rfl hM.2.2.2 rfl hP hD hS
  rw [← hu] at hl
  have hu0 := hu.trans hu0
  clear hu hP hD hS
  refine W.widen (k := 122) (n := 1130850) (Nat.le_of_ble_eq_true rfl) (Nat.le_of_ble_eq_true rfl) ?_
  refine lv_aload_n hx hb diX13_757 rfl (lv_at hl 0 rfl) ?_
  refine lv_sipush (v := 2880) hx hb diX13_758 (by decide) ?_
  refine ow_newa (D := (dC, dI)) (N' := 2880) (a0 := (2880, .inl (fun _ => 0))) (ty := .int) hx hb (hts (.arrayClass .int) mi13_3) rfl hK hM.1 hM.2.1 hM.2.2.1 hA 0 rfl (fun _ h => h) (fun _ => rfl) (by decide) (by decide) (by decide) (Nat.le_of_ble_eq_true rfl) (Nat.le_of_ble_eq_true rfl) diX13_761 (fun q126 H hP hD hS => ?_)
  refine W.widen (k := 123) (n := 1133730) (Nat.le_of_ble_eq_true rfl) (Nat.le_of_ble_eq_true rfl) ?_
  refine va_putF (D := (dC, dI)) (ci := 16) (v := .ref q126) (ty := .array .int) (C := RX13) (T := TX13) (N := 120) hx hb hts wi13_13 tyX13 tyX13_ok nmX13 hown hK hP hD hS 0 (al_heA (X := xt13_86) (o := 0) rfl rfl rfl) rfl 103 (by decide) (hts (.fieldLink RX13 350 "KnotHouseModel" "passes" "[I") mi13_99) (fun _ h9 => h9) rfl hin rfl (by decide +kernel) rfl rfl (by rw [List.length_map]; decide +kernel) diX13_763 (fun H locs hP hD hS => ?_)
  obtain ⟨u, hu, hM⟩ := al_ext (X := xt13_86) (X1 := xt13_87) (o := 0) (k := 103) (h := 104) (Y := [104]) (ad := [q126]) (k0 := 0) (ci := 16) ck13_86 rfl rfl hM.2.2.2 rfl hP hD hS
  rw [← hu] at hl
  have hu0 := hu.trans hu0
  clear hu hP hD hS
  refine W.widen (k := 123) (n := 1133730) (Nat.le_of_ble_eq_true rfl) (Nat.le_of_ble_eq_true rfl) ?_
  refine lv_aload_n hx hb diX13_766 rfl (lv_at hl 0 rfl) ?_
  refine lv_sipush (v := 2880) hx hb diX13_767 (by decide) ?_
  refine ow_newa (D := (dC, dI)) (N' := 2880) (a0 := (2880, .inl (fun _ => 0))) (ty := .int) hx hb (hts (.arrayClass .int) mi13_3) rfl hK hM.1 hM.2.1 hM.2.2.1 hA 0 rfl (fun _ h => h) (fun _ => rfl) (by decide) (by decide) (by decide) (Nat.le_of_ble_eq_true rfl) (Nat.le_of_ble_eq_true rfl) diX13_770 (fun q127 H hP hD hS => ?_)
  refine W.widen (k := 124) (n := 1136610) (Nat.le_of_ble_eq_true rfl) (Nat.le_of_ble_eq_true rfl) ?_
  refine va_putF (D := (dC, dI)) (ci := 16) (v := .ref q127) (ty := .array .int) (C := RX13) (T := TX13) (N := 120) hx hb hts wi13_13 tyX13 tyX13_ok nmX13 hown hK hP hD hS 0 (al_heA (X := xt13_87) (o := 0) rfl rfl rfl) rfl 104 (by decide) (hts (.fieldLink RX13 353 "KnotHouseModel" "leaves" "[I") mi13_100) (fun _ h9 => h9) rfl hin rfl (by decide +kernel) rfl rfl (by rw [List.length_map]; decide +kernel) diX13_772 (fun H locs hP hD hS => ?_)
  obtain ⟨u, hu, hM⟩ := al_ext (X := xt13_87) (X1 := xt13_88) (o := 0) (k := 104) (h := 105) (Y := [105]) (ad := [q127]) (k0 := 0) (ci := 16) ck13_87 rfl rfl hM.2.2.2 rfl hP hD hS
  rw [← hu] at hl
  have hu0 := hu.trans hu0
  clear hu hP hD hS
  refine W.widen (k := 124) (n := 1136610) (Nat.le_of_ble_eq_true rfl) (Nat.le_of_ble_eq_true rfl) ?_
  refine lv_aload_n hx hb diX13_775 rfl (lv_at hl 0 rfl) ?_
  refine lv_iconst (v := 5) hx hb diX13_776 (by decide) ?_
  refine ow_newa (D := (dC, dI)) (N' := 5) (a0 := (5, .inl (fun _ => 0))) (ty := .int) hx hb (hts (.arrayClass .int) mi13_3) rfl hK hM.1 hM.2.1 hM.2.2.1 hA 0 rfl (fun _ h => h) (fun _ => rfl) (by decide) (by decide) (by decide) (Nat.le_of_ble_eq_true rfl) (Nat.le_of_ble_eq_true rfl) diX13_777 (fun q128 H hP hD hS => ?_)
  refine W.widen (k := 125) (n := 1136615) (Nat.le_of_ble_eq_true rfl) (Nat.le_of_ble_eq_true rfl) ?_
  refine va_putF (D := (dC, dI)) (ci := 16) (v := .ref q128) (ty := .array .int) (C := RX13) (T := TX13) (N := 120) hx hb hts wi13_13 tyX13 tyX13_ok nmX13 hown hK hP hD hS 0 (al_heA (X := xt13_88) (o := 0) rfl rfl rfl) rfl 105 (by decide) (hts (.fieldLink RX13 356 "KnotHouseModel" "endRow" "[I") mi13_101) (fun _ h9 => h9) rfl hin rfl (by decide +kernel) rfl rfl (by rw [List.length_map]; decide +kernel) diX13_779 (fun H locs hP hD hS => ?_)
  obtain ⟨u, hu, hM⟩ := al_ext (X := xt13_88) (X1 := xt13_89) (o := 0) (k := 105) (h := 106) (Y := [106]) (ad := [q128]) (k0 := 0) (ci := 16) ck13_88 rfl rfl hM.2.2.2 rfl hP hD hS
  rw [← hu] at hl
  have hu0 := hu.trans hu0
  clear hu hP hD hS
  refine W.widen (k := 125) (n := 1136615) (Nat.le_of_ble_eq_true rfl) (Nat.le_of_ble_eq_true rfl) ?_
  refine lv_aload_n hx hb diX13_782 rfl (lv_at hl 0 rfl) ?_
  refine lv_sipush (v := 400) hx hb diX13_783 (by decide) ?_
  refine ow_newa (D := (dC, dI)) (N' := 400) (a0 := (400, .inl (fun _ => 0))) (ty := .int) hx hb (hts (.arrayClass .int) mi13_3) rfl hK hM.1 hM.2.1 hM.2.2.1 hA 0 rfl (fun _ h => h) (fun _ => rfl) (by decide) (by decide) (by decide) (Nat.le_of_ble_eq_true rfl) (Nat.le_of_ble_eq_true rfl) diX13_786 (fun q129 H hP hD hS => ?_)
  refine W.widen (k := 126) (n := 1137015) (Nat.le_of_ble_eq_true rfl) (Nat.le_of_ble_eq_true rfl) ?_
  refine va_putF (D := (dC, dI)) (ci := 16) (v := .ref q129) (ty := .array .int) (C := RX13) (T := TX13) (N := 120) hx hb hts wi13_13 tyX13 tyX13_ok nmX13 hown hK hP hD hS 0 (al_heA (X := xt13_89) (o := 0) rfl rfl rfl) rfl 106 (by decide) (hts (.fieldLink RX13 359 "KnotHouseModel" "signed" "[I") mi13_102) (fun _ h9 => h9) rfl hin rfl (by decide +kernel) rfl rfl (by rw [List.length_map]; decide +kernel) diX13_788 (fun H locs hP hD hS => ?_)
  obtain ⟨u, hu, hM⟩ := al_ext (X := xt13_89) (X1 := xt13_90) (o := 0) (k := 106) (h := 107) (Y := [107]) (ad := [q129]) (k0 := 0) (ci := 16) ck13_89 rfl rfl hM.2.2.2 rfl hP hD hS
  rw [← hu] at hl
  have hu0 := hu.trans hu0
  clear hu hP hD hS
  refine W.widen (k := 126) (n := 1137015) (Nat.le_of_ble_eq_true rfl) (Nat.le_of_ble_eq_true rfl) ?_
  refine lv_aload_n hx hb diX13_791 rfl (lv_at hl 0 rfl) ?_
  refine lv_sipush (v := 600) hx hb diX13_792 (by decide) ?_
  refine ow_newa (D := (dC, dI)) (N' := 600) (a0 := (600, .inl (fun _ => 0))) (ty := .int) hx hb (hts (.arrayClass .int) mi13_3) rfl hK hM.1 hM.2.1 hM.2.2.1 hA 0 rfl (fun _ h => h) (fun _ => rfl) (by decide) (by decide) (by decide) (Nat.le_of_ble_eq_true rfl) (Nat.le_of_ble_eq_true rfl) diX13_795 (fun q130 H hP hD hS => ?_)
  refine W.widen (k := 127) (n := 1137615) (Nat.le_of_ble_eq_true rfl) (Nat.le_of_ble_eq_true rfl) ?_
  refine va_putF (D := (dC, dI)) (ci := 16) (v := .ref q130) (ty := .array .int) (C := RX13) (T := TX13) (N := 120) hx hb hts wi13_13 tyX13 tyX13_ok nmX13 hown hK hP hD hS 0 (al_heA (X := xt13_90) (o := 0) rfl rfl rfl) rfl 107 (by decide) (hts (.fieldLink RX13 362 "KnotHouseModel" "word" "[I") mi13_103) (fun _ h9 => h9) rfl hin rfl (by decide +kernel) rfl rfl (by rw [List.length_map]; decide +kernel) diX13_797 (fun H locs hP hD hS => ?_)
  obtain ⟨u, hu, hM⟩ := al_ext (X := xt13_90) (X1 := xt13_91) (o := 0) (k := 107) (h := 108) (Y := [108]) (ad := [q130]) (k0 := 0) (ci := 16) ck13_90 rfl rfl hM.2.2.2 rfl hP hD hS
  rw [← hu] at hl
  have hu0 := hu.trans hu0
  clear hu hP hD hS
  refine W.widen (k := 127) (n := 1137615) (Nat.le_of_ble_eq_true rfl) (Nat.le_of_ble_eq_true rfl) ?_
  refine lv_aload_n hx hb diX13_800 rfl (lv_at hl 0 rfl) ?_
  refine lv_sipush (v := 600) hx hb diX13_801 (by decide) ?_
  refine ow_newa (D := (dC, dI)) (N' := 600) (a0 := (600, .inl (fun _ => 0))) (ty := .int) hx hb (hts (.arrayClass .int) mi13_3) rfl hK hM.1 hM.2.1 hM.2.2.1 hA 0 rfl (fun _ h => h) (fun _ => rfl) (by decide) (by decide) (by decide) (Nat.le_of_ble_eq_true rfl) (Nat.le_of_ble_eq_true rfl) diX13_804 (fun q131 H hP hD hS => ?_)
  refine W.widen (k := 128) (n := 1138215) (Nat.le_of_ble_eq_true rfl) (Nat.le_of_ble_eq_true rfl) ?_
  refine va_putF (D := (dC, dI)) (ci := 16) (v := .ref q131) (ty := .array .int) (C := RX13) (T := TX13) (N := 120) hx hb hts wi13_13 tyX13 tyX13_ok nmX13 hown hK hP hD hS 0 (al_heA (X := xt13_91) (o := 0) rfl rfl rfl) rfl 109 (by decide) (hts (.fieldLink RX13 365 "KnotHouseModel" "quotient" "[I") mi13_104) (fun _ h9 => h9) rfl hin rfl (by decide +kernel) rfl rfl (by rw [List.length_map]; decide +kernel) diX13_806 (fun H locs hP hD hS => ?_)
  obtain ⟨u, hu, hM⟩ := al_ext (X := xt13_91) (X1 := xt13_92) (o := 0) (k := 109) (h := 110) (Y := [110]) (ad := [q131]) (k0 := 0) (ci := 16) ck13_91 rfl rfl hM.2.2.2 rfl hP hD hS
  rw [← hu] at hl
  have hu0 := hu.trans hu0
  clear hu hP hD hS
  refine W.widen (k := 128) (n := 1138215) (Nat.le_of_ble_eq_true rfl) (Nat.le_of_ble_eq_true rfl) ?_
  refine lv_aload_n hx hb diX13_809 rfl (lv_at hl 0 rfl) ?_
  refine lv_sipush (v := 600) hx hb diX13_810 (by decide) ?_
  refine ow_newa (D := (dC, dI)) (N' := 600) (a0 := (600, .inl (fun _ => 0))) (ty := .int) hx hb (hts (.arrayClass .int) mi13_3) rfl hK hM.1 hM.2.1 hM.2.2.1 hA 0 rfl (fun _ h => h) (fun _ => rfl) (by decide) (by decide) (by decide) (Nat.le_of_ble_eq_true rfl) (Nat.le_of_ble_eq_true rfl) diX13_813 (fun q132 H hP hD hS => ?_)
  refine W.widen (k := 129) (n := 1138815) (Nat.le_of_ble_eq_true rfl) (Nat.le_of_ble_eq_true rfl) ?_
  refine va_putF (D := (dC, dI)) (ci := 16) (v := .ref q132) (ty := .array .int) (C := RX13) (T := TX13) (N := 120) hx hb hts wi13_13 tyX13 tyX13_ok nmX13 hown hK hP hD hS 0 (al_heA (X := xt13_92) (o := 0) rfl rfl rfl) rfl 113 (by decide) (hts (.fieldLink RX13 368 "KnotHouseModel" "formS" "[I") mi13_105) (fun _ h9 => h9) rfl hin rfl (by decide +kernel) rfl rfl (by rw [List.length_map]; decide +kernel) diX13_815 (fun H locs hP hD hS => ?_)
  obtain ⟨u, hu, hM⟩ := al_ext (X := xt13_92) (X1 := xt13_93) (o := 0) (k := 113) (h := 114) (Y := [114]) (ad := [q132]) (k0 := 0) (ci := 16) ck13_92 rfl rfl hM.2.2.2 rfl hP hD hS
  rw [← hu] at hl
  have hu0 := hu.trans hu0
  clear hu hP hD hS
  refine W.widen (k := 129) (n := 1138815) (Nat.le_of_ble_eq_true rfl) (Nat.le_of_ble_eq_true rfl) ?_
  refine lv_aload_n hx hb diX13_818 rfl (lv_at hl 0 rfl) ?_
  refine lv_sipush (v := 8040) hx hb diX13_819 (by decide) ?_
  refine ow_newa (D := (dC, dI)) (N' := 8040) (a0 := (8040, .inl (fun _ => 0))) (ty := .int) hx hb (hts (.arrayClass .int) mi13_3) rfl hK hM.1 hM.2.1 hM.2.2.1 hA 0 rfl (fun _ h => h) (fun _ => rfl) (by decide) (by decide) (by decide) (Nat.le_of_ble_eq_true rfl) (Nat.le_of_ble_eq_true rfl) diX13_822 (fun q133 H hP hD hS => ?_)
  refine W.widen (k := 130) (n := 1146855) (Nat.le_of_ble_eq_true rfl) (Nat.le_of_ble_eq_true rfl) ?_
  refine va_putF (D := (dC, dI)) (ci := 16) (v := .ref q133) (ty := .array .int) (C := RX13) (T := TX13) (N := 120) hx hb hts wi13_13 tyX13 tyX13_ok nmX13 hown hK hP hD hS 0 (al_heA (X := xt13_93) (o := 0) rfl rfl rfl) rfl 114 (by decide) (hts (.fieldLink RX13 371 "KnotHouseModel" "forms" "[I") mi13_106) (fun _ h9 => h9) rfl hin rfl (by decide +kernel) rfl rfl (by rw [List.length_map]; decide +kernel) diX13_824 (fun H locs hP hD hS => ?_)
  obtain ⟨u, hu, hM⟩ := al_ext (X := xt13_93) (X1 := xt13_94) (o := 0) (k := 114) (h := 115) (Y := [115]) (ad := [q133]) (k0 := 0) (ci := 16) ck13_93 rfl rfl hM.2.2.2 rfl hP hD hS
  rw [← hu] at hl
  have hu0 := hu.trans hu0
  clear hu hP hD hS
  refine W.widen (k := 130) (n := 1146855) (Nat.le_of_ble_eq_true rfl) (Nat.le_of_ble_eq_true rfl) ?_
  refine lv_aload_n hx hb diX13_827 rfl (lv_at hl 0 rfl) ?_
  refine lv_bipush (v := 40) hx hb diX13_828 (by decide) ?_
  refine ow_newa (D := (dC, dI)) (N' := 40) (a0 := (40, .inl (fun _ => 0))) (ty := .int) hx hb (hts (.arrayClass .int) mi13_3) rfl hK hM.1 hM.2.1 hM.2.2.1 hA 0 rfl (fun _ h => h) (fun _ => rfl) (by decide) (by decide) (by decide) (Nat.le_of_ble_eq_true rfl) (Nat.le_of_ble_eq_true rfl) diX13_830 (fun q134 H hP hD hS => ?_)
  refine W.widen (k := 131) (n := 1146895) (Nat.le_of_ble_eq_true rfl) (Nat.le_of_ble_eq_true rfl) ?_
  refine va_putF (D := (dC, dI)) (ci := 16) (v := .ref q134) (ty := .array .int) (C := RX13) (T := TX13) (N := 120) hx hb hts wi13_13 tyX13 tyX13_ok nmX13 hown hK hP hD hS 0 (al_heA (X := xt13_94) (o := 0) rfl rfl rfl) rfl 116 (by decide) (hts (.fieldLink RX13 374 "KnotHouseModel" "one" "[I") mi13_107) (fun _ h9 => h9) rfl hin rfl (by decide +kernel) rfl rfl (by rw [List.length_map]; decide +kernel) diX13_832 (fun H locs hP hD hS => ?_)
  obtain ⟨u, hu, hM⟩ := al_ext (X := xt13_94) (X1 := xt13_95) (o := 0) (k := 116) (h := 117) (Y := [117]) (ad := [q134]) (k0 := 0) (ci := 16) ck13_94 rfl rfl hM.2.2.2 rfl hP hD hS
  rw [← hu] at hl
  have hu0 := hu.trans hu0
  clear hu hP hD hS
  refine W.widen (k := 131) (n := 1146895) (Nat.le_of_ble_eq_true rfl) (Nat.le_of_ble_eq_true rfl) ?_
  refine lv_aload_n hx hb diX13_835 rfl (lv_at hl 0 rfl) ?_
  refine lv_bipush (v := 40) hx hb diX13_836 (by decide) ?_
  refine ow_newa (D := (dC, dI)) (N' := 40) (a0 := (40, .inl (fun _ => 0))) (ty := .int) hx hb (hts (.arrayClass .int) mi13_3) rfl hK hM.1 hM.2.1 hM.2.2.1 hA 0 rfl (fun _ h => h) (fun _ => rfl) (by decide) (by decide) (by decide) (Nat.le_of_ble_eq_true rfl) (Nat.le_of_ble_eq_true rfl) diX13_838 (fun q135 H hP hD hS => ?_)
  refine W.widen (k := 132) (n := 1146935) (Nat.le_of_ble_eq_true rfl) (Nat.le_of_ble_eq_true rfl) ?_
  refine va_putF (D := (dC, dI)) (ci := 16) (v := .ref q135) (ty := .array .int) (C := RX13) (T := TX13) (N := 120) hx hb hts wi13_13 tyX13 tyX13_ok nmX13 hown hK hP hD hS 0 (al_heA (X := xt13_95) (o := 0) rfl rfl rfl) rfl 117 (by decide) (hts (.fieldLink RX13 377 "KnotHouseModel" "two" "[I") mi13_108) (fun _ h9 => h9) rfl hin rfl (by decide +kernel) rfl rfl (by rw [List.length_map]; decide +kernel) diX13_840 (fun H locs hP hD hS => ?_)
  obtain ⟨u, hu, hM⟩ := al_ext (X := xt13_95) (X1 := xt13_96) (o := 0) (k := 117) (h := 118) (Y := [118]) (ad := [q135]) (k0 := 0) (ci := 16) ck13_95 rfl rfl hM.2.2.2 rfl hP hD hS
  rw [← hu] at hl
  have hu0 := hu.trans hu0
  clear hu hP hD hS
  refine W.widen (k := 132) (n := 1146935) (Nat.le_of_ble_eq_true rfl) (Nat.le_of_ble_eq_true rfl) ?_
  refine lv_aload_n hx hb diX13_843 rfl (lv_at hl 0 rfl) ?_
  refine lv_iconst (v := 5) hx hb diX13_844 (by decide) ?_
  refine ow_newa (D := (dC, dI)) (N' := 5) (a0 := (5, .inl (fun _ => 0))) (ty := .int) hx hb (hts (.arrayClass .int) mi13_3) rfl hK hM.1 hM.2.1 hM.2.2.1 hA 0 rfl (fun _ h => h) (fun _ => rfl) (by decide) (by decide) (by decide) (Nat.le_of_ble_eq_true rfl) (Nat.le_of_ble_eq_true rfl) diX13_845 (fun q136 H hP hD hS => ?_)
  refine W.widen (k := 133) (n := 1146940) (Nat.le_of_ble_eq_true rfl) (Nat.le_of_ble_eq_true rfl) ?_
  refine va_putF (D := (dC, dI)) (ci := 16) (v := .ref q136) (ty := .array .int) (C := RX13) (T := TX13) (N := 120) hx hb hts wi13_13 tyX13 tyX13_ok nmX13 hown hK hP hD hS 0 (al_heA (X := xt13_96) (o := 0) rfl rfl rfl) rfl 118 (by decide) (hts (.fieldLink RX13 380 "KnotHouseModel" "leads" "[I") mi13_109) (fun _ h9 => h9) rfl hin rfl (by decide +kernel) rfl rfl (by rw [List.length_map]; decide +kernel) diX13_847 (fun H locs hP hD hS => ?_)
  obtain ⟨u, hu, hM⟩ := al_ext (X := xt13_96) (X1 := xt13_97) (o := 0) (k := 118) (h := 119) (Y := [119]) (ad := [q136]) (k0 := 0) (ci := 16) ck13_96 rfl rfl hM.2.2.2 rfl hP hD hS
  rw [← hu] at hl
  have hu0 := hu.trans hu0
  clear hu hP hD hS
  refine W.widen (k := 133) (n := 1146940) (Nat.le_of_ble_eq_true rfl) (Nat.le_of_ble_eq_true rfl) ?_
  refine lv_aload_n hx hb diX13_850 rfl (lv_at hl 0 rfl) ?_
  refine lv_iconst (v := 5) hx hb diX13_851 (by decide) ?_
  refine ow_newa (D := (dC, dI)) (N' := 5) (a0 := (5, .inl (fun _ => 0))) (ty := .boolean) hx hb (hts (.arrayClass .boolean) mi13_6) rfl hK hM.1 hM.2.1 hM.2.2.1 hA 3 rfl (fun _ h => h) (fun _ => rfl) (by decide) (by decide) (by decide) (Nat.le_of_ble_eq_true rfl) (Nat.le_of_ble_eq_true rfl) diX13_852 (fun q137 H hP hD hS => ?_)
  refine W.widen (k := 134) (n := 1146945) (Nat.le_of_ble_eq_true rfl) (Nat.le_of_ble_eq_true rfl) ?_
  refine va_putF (D := (dC, dI)) (ci := 16) (v := .ref q137) (ty := .array .boolean) (C := RX13) (T := TX13) (N := 120) hx hb hts wi13_13 tyX13 tyX13_ok nmX13 hown hK hP hD hS 0 (al_heA (X := xt13_97) (o := 0) rfl rfl rfl) rfl 119 (by decide) (hts (.fieldLink RX13 383 "KnotHouseModel" "closed" "[Z") mi13_110) (fun _ h9 => h9) rfl hin rfl (by decide +kernel) rfl rfl (by rw [List.length_map]; decide +kernel) diX13_854 (fun H locs hP hD hS => ?_)
  obtain ⟨u, hu, hM⟩ := al_ext (X := xt13_97) (X1 := xt13_98) (o := 0) (k := 119) (h := 120) (Y := [120]) (ad := [q137]) (k0 := 0) (ci := 16) ck13_97 rfl rfl hM.2.2.2 rfl hP hD hS
  rw [← hu] at hl
  have hu0 := hu.trans hu0
  clear hu hP hD hS
  refine W.widen (k := 134) (n := 1146945) (Nat.le_of_ble_eq_true rfl) (Nat.le_of_ble_eq_true rfl) ?_
  exact kk u _ _ ls hu0 hM hl
