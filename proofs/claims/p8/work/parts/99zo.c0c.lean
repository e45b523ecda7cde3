set_option maxHeartbeats 4000000 in
set_option maxRecDepth 100000 in
theorem hc0_0 {p : Program} {l : Launch} {e : Env} {s : State} {m : MethodId} {args : Array Value} {below : List Frame} {meth : Method} {c : Code} {Q : State → Prop} {A : Nat → Prop} {dC : Nat → ClassId} {dI : Nat → Nat → Nat} {q : Nat → ClassId} (hx : p.tables.exec = Jvm.exec) (hb : c.code = cX0_init) (hml : c.maxLocals = 7) (hown : s.vm.findClass RX0 = some m.cls) (hts : ∀ w ∈ wsX0_init, w.before args s = true) (hin : meth.name = "<init>") (hA : ∀ q : Nat, s.heap.size ≤ q → A q) (hK : va_K (dC, dI) vwCl (uw_T q RX7) s) (hOJ : ow_AO .long s) (u : Nat → Nat) (H : Heap) (locs : List Loc) (ls : Array Slot) {a0 : Nat} (hu0 : u 41000 = a0) (hM : al_M (dC, dI) vwCl xt0_0 q A s.heap u zeroS H locs) (hl : lv_has ls 7 [(0, .ref (u 41000))]) (kk : ∀ (u : Nat → Nat) (H : Heap) (locs : List Loc) (ls : Array Slot), u 41000 = a0 → al_M (dC, dI) vwCl xt0_12 q A s.heap u zeroS H locs → lv_has ls 7 [(0, .ref (u 41000))] → W p l e RI0 s m args below meth c H locs 24 1092 Q (F0 m 105 ls [])) : W p l e RI0 s m args below meth c H locs 0 0 Q (F0 m 4 ls []) := by
  refine lv_aload_n hx hb dX0_init_4 rfl (lv_at hl 0 rfl) ?_
  refine lv_bipush (v := 24) hx hb dX0_init_5 (by decide) ?_
  refine ow_newa (D := (dC, dI)) (N' := 24) (a0 := (24, .inl (fun _ => 0))) (ty := .int) hx hb (hts (.arrayClass .int) (by decide +kernel)) rfl hK hM.1 hM.2.1 hM.2.2.1 hA 0 rfl (fun _ h => h) (fun _ => rfl) (by decide) (by decide) (by decide) (Nat.le_of_ble_eq_true rfl) (Nat.le_of_ble_eq_true rfl) dX0_init_7 (fun q1 H hP hD hS => ?_)
  refine W.widen (k := 1) (n := 24) (Nat.le_of_ble_eq_true rfl) (Nat.le_of_ble_eq_true rfl) ?_
  refine va_putF (D := (dC, dI)) (ci := 3) (v := .ref q1) (ty := .array .int) (C := RX0) (T := TX0) (N := 16) hx hb hts (by decide +kernel) tyX0 tyX0_ok nmX0 hown hK hP hD hS 0 (al_heA (X := xt0_0) (o := 41000) rfl rfl rfl) rfl 0 (by decide) (hts (.fieldLink RX0 9 "KnotHouse$Arcs" "arc" "[I") (by decide +kernel)) (fun _ h9 => h9) rfl hin rfl (by decide +kernel) rfl rfl (by rw [List.length_map]; decide +kernel) dX0_init_9 (fun H locs hP hD hS => ?_)
  obtain ⟨u, hu, hM⟩ := al_ext (X := xt0_0) (X1 := xt0_1) (o := 41000) (k := 0) (h := 41001) (Y := [41001]) (ad := [q1]) (k0 := 0) (ci := 3) ck0_0 rfl rfl hM.2.2.2 rfl hP hD hS
  rw [← hu] at hl
  have hu0 := hu.trans hu0
  clear hu hP hD hS
  refine W.widen (k := 1) (n := 24) (Nat.le_of_ble_eq_true rfl) (Nat.le_of_ble_eq_true rfl) ?_
  refine lv_aload_n hx hb dX0_init_12 rfl (lv_at hl 0 rfl) ?_
  refine lv_bipush (v := 12) hx hb dX0_init_13 (by decide) ?_
  refine lv_bipush (v := 18) hx hb dX0_init_15 (by decide) ?_
  refine al_mna (D := (dC, dI)) (ty := .long) (N' := 12) (K' := 18) (z := (18, .inr (.inl (fun _ => 0)))) hx hb hown (hts (.classLink RX0 15 "[[J") (by decide +kernel)) hOJ (hts (.arrayClass .long) (by decide +kernel)) hK hM.1 hM.2.1 hM.2.2.1 hA ((hK.2 2 _ rfl).2) 6 rfl (by decide) (by decide) (by decide) (by decide) (by decide) (by decide) (by decide) (by decide) (Nat.le_of_ble_eq_true rfl) (Nat.le_of_ble_eq_true rfl) (fun _ => rfl) dX0_init_17 (fun q2 r3 H hP hD hS => ?_)
  refine W.widen (k := 14) (n := 252) (Nat.le_of_ble_eq_true rfl) (Nat.le_of_ble_eq_true rfl) ?_
  rw [List.append_assoc] at hP hD
  refine va_putF (D := (dC, dI)) (ci := 3) (v := .ref q2) (ty := .array (.array .long)) (C := RX0) (T := TX0) (N := 16) hx hb hts (by decide +kernel) tyX0 tyX0_ok nmX0 hown hK hP hD hS 0 (al_heA (X := xt0_1) (o := 41000) rfl rfl rfl) rfl 2 (by decide) (hts (.fieldLink RX0 17 "KnotHouse$Arcs" "matrix" "[[J") (by decide +kernel)) (fun _ h9 => h9) rfl hin rfl (by decide +kernel) rfl rfl (by rw [List.length_map]; decide +kernel) dX0_init_21 (fun H locs hP hD hS => ?_)
  obtain ⟨u, hu, hM⟩ := al_ext (X := xt0_1) (X1 := xt0_2) (o := 41000) (k := 2) (h := 41003) (Y := [41003, 42001, 42002, 42003, 42004, 42005, 42006, 42007, 42008, 42009, 42010, 42011, 42012]) (ad := [q2, r3 0, r3 1, r3 2, r3 3, r3 4, r3 5, r3 6, r3 7, r3 8, r3 9, r3 10, r3 11]) (k0 := 0) (ci := 3) ck0_1 rfl rfl hM.2.2.2 (by rw [al_grid (N := 12) (r := r3) (es := [(1, 42001), (1, 42002), (1, 42003), (1, 42004), (1, 42005), (1, 42006), (1, 42007), (1, 42008), (1, 42009), (1, 42010), (1, 42011), (1, 42012)]) (u1 := uml u [41003, 42001, 42002, 42003, 42004, 42005, 42006, 42007, 42008, 42009, 42010, 42011, 42012] [q2, r3 0, r3 1, r3 2, r3 3, r3 4, r3 5, r3 6, r3 7, r3 8, r3 9, r3 10, r3 11]) rfl (fun i hi => match i, hi with | 0, _ => rfl | 1, _ => rfl | 2, _ => rfl | 3, _ => rfl | 4, _ => rfl | 5, _ => rfl | 6, _ => rfl | 7, _ => rfl | 8, _ => rfl | 9, _ => rfl | 10, _ => rfl | 11, _ => rfl | n + 12, h => absurd h (by omega))]; rfl) hP hD hS
  rw [← hu] at hl
  have hu0 := hu.trans hu0
  clear hu hP hD hS
  refine W.widen (k := 14) (n := 252) (Nat.le_of_ble_eq_true rfl) (Nat.le_of_ble_eq_true rfl) ?_
  refine lv_aload_n hx hb dX0_init_24 rfl (lv_at hl 0 rfl) ?_
  refine lv_bipush (v := 18) hx hb dX0_init_25 (by decide) ?_
  refine ow_newa (D := (dC, dI)) (N' := 18) (a0 := (18, .inr (.inl (fun _ => 0)))) (ty := .long) hx hb (hts (.arrayClass .long) (by decide +kernel)) rfl hK hM.1 hM.2.1 hM.2.2.1 hA 2 rfl (fun _ h => h) (fun _ => rfl) (by decide) (by decide) (by decide) (Nat.le_of_ble_eq_true rfl) (Nat.le_of_ble_eq_true rfl) dX0_init_27 (fun q4 H hP hD hS => ?_)
  refine W.widen (k := 15) (n := 270) (Nat.le_of_ble_eq_true rfl) (Nat.le_of_ble_eq_true rfl) ?_
  refine va_putF (D := (dC, dI)) (ci := 3) (v := .ref q4) (ty := .array .long) (C := RX0) (T := TX0) (N := 16) hx hb hts (by decide +kernel) tyX0 tyX0_ok nmX0 hown hK hP hD hS 0 (al_heA (X := xt0_2) (o := 41000) rfl rfl rfl) rfl 3 (by decide) (hts (.fieldLink RX0 20 "KnotHouse$Arcs" "divisors" "[J") (by decide +kernel)) (fun _ h9 => h9) rfl hin rfl (by decide +kernel) rfl rfl (by rw [List.length_map]; decide +kernel) dX0_init_29 (fun H locs hP hD hS => ?_)
  obtain ⟨u, hu, hM⟩ := al_ext (X := xt0_2) (X1 := xt0_3) (o := 41000) (k := 3) (h := 41004) (Y := [41004]) (ad := [q4]) (k0 := 0) (ci := 3) ck0_2 rfl rfl hM.2.2.2 rfl hP hD hS
  rw [← hu] at hl
  have hu0 := hu.trans hu0
  clear hu hP hD hS
  refine W.widen (k := 15) (n := 270) (Nat.le_of_ble_eq_true rfl) (Nat.le_of_ble_eq_true rfl) ?_
  refine lv_aload_n hx hb dX0_init_32 rfl (lv_at hl 0 rfl) ?_
  refine lv_sipush (v := 576) hx hb dX0_init_33 (by decide) ?_
  refine ow_newa (D := (dC, dI)) (N' := 576) (a0 := (576, .inl (fun _ => 0))) (ty := .byte) hx hb (hts (.arrayClass .byte) (by decide +kernel)) rfl hK hM.1 hM.2.1 hM.2.2.1 hA 1 rfl (fun _ h => h) (fun _ => rfl) (by decide) (by decide) (by decide) (Nat.le_of_ble_eq_true rfl) (Nat.le_of_ble_eq_true rfl) dX0_init_36 (fun q5 H hP hD hS => ?_)
  refine W.widen (k := 16) (n := 846) (Nat.le_of_ble_eq_true rfl) (Nat.le_of_ble_eq_true rfl) ?_
  refine va_putF (D := (dC, dI)) (ci := 3) (v := .ref q5) (ty := .array .byte) (C := RX0) (T := TX0) (N := 16) hx hb hts (by decide +kernel) tyX0 tyX0_ok nmX0 hown hK hP hD hS 0 (al_heA (X := xt0_3) (o := 41000) rfl rfl rfl) rfl 5 (by decide) (hts (.fieldLink RX0 24 "KnotHouse$Arcs" "conjugates" "[B") (by decide +kernel)) (fun _ h9 => h9) rfl hin rfl (by decide +kernel) rfl rfl (by rw [List.length_map]; decide +kernel) dX0_init_38 (fun H locs hP hD hS => ?_)
  obtain ⟨u, hu, hM⟩ := al_ext (X := xt0_3) (X1 := xt0_4) (o := 41000) (k := 5) (h := 41006) (Y := [41006]) (ad := [q5]) (k0 := 0) (ci := 3) ck0_3 rfl rfl hM.2.2.2 rfl hP hD hS
  rw [← hu] at hl
  have hu0 := hu.trans hu0
  clear hu hP hD hS
  refine W.widen (k := 16) (n := 846) (Nat.le_of_ble_eq_true rfl) (Nat.le_of_ble_eq_true rfl) ?_
  refine lv_aload_n hx hb dX0_init_41 rfl (lv_at hl 0 rfl) ?_
  refine lv_bipush (v := 24) hx hb dX0_init_42 (by decide) ?_
  refine ow_newa (D := (dC, dI)) (N' := 24) (a0 := (24, .inl (fun _ => 0))) (ty := .byte) hx hb (hts (.arrayClass .byte) (by decide +kernel)) rfl hK hM.1 hM.2.1 hM.2.2.1 hA 1 rfl (fun _ h => h) (fun _ => rfl) (by decide) (by decide) (by decide) (Nat.le_of_ble_eq_true rfl) (Nat.le_of_ble_eq_true rfl) dX0_init_44 (fun q6 H hP hD hS => ?_)
  refine W.widen (k := 17) (n := 870) (Nat.le_of_ble_eq_true rfl) (Nat.le_of_ble_eq_true rfl) ?_
  refine va_putF (D := (dC, dI)) (ci := 3) (v := .ref q6) (ty := .array .byte) (C := RX0) (T := TX0) (N := 16) hx hb hts (by decide +kernel) tyX0 tyX0_ok nmX0 hown hK hP hD hS 0 (al_heA (X := xt0_4) (o := 41000) rfl rfl rfl) rfl 6 (by decide) (hts (.fieldLink RX0 28 "KnotHouse$Arcs" "inverses" "[B") (by decide +kernel)) (fun _ h9 => h9) rfl hin rfl (by decide +kernel) rfl rfl (by rw [List.length_map]; decide +kernel) dX0_init_46 (fun H locs hP hD hS => ?_)
  obtain ⟨u, hu, hM⟩ := al_ext (X := xt0_4) (X1 := xt0_5) (o := 41000) (k := 6) (h := 41007) (Y := [41007]) (ad := [q6]) (k0 := 0) (ci := 3) ck0_4 rfl rfl hM.2.2.2 rfl hP hD hS
  rw [← hu] at hl
  have hu0 := hu.trans hu0
  clear hu hP hD hS
  refine W.widen (k := 17) (n := 870) (Nat.le_of_ble_eq_true rfl) (Nat.le_of_ble_eq_true rfl) ?_
  refine lv_aload_n hx hb dX0_init_49 rfl (lv_at hl 0 rfl) ?_
  refine lv_bipush (v := 24) hx hb dX0_init_50 (by decide) ?_
  refine ow_newa (D := (dC, dI)) (N' := 24) (a0 := (24, .inl (fun _ => 0))) (ty := .int) hx hb (hts (.arrayClass .int) (by decide +kernel)) rfl hK hM.1 hM.2.1 hM.2.2.1 hA 0 rfl (fun _ h => h) (fun _ => rfl) (by decide) (by decide) (by decide) (Nat.le_of_ble_eq_true rfl) (Nat.le_of_ble_eq_true rfl) dX0_init_52 (fun q7 H hP hD hS => ?_)
  refine W.widen (k := 18) (n := 894) (Nat.le_of_ble_eq_true rfl) (Nat.le_of_ble_eq_true rfl) ?_
  refine va_putF (D := (dC, dI)) (ci := 3) (v := .ref q7) (ty := .array .int) (C := RX0) (T := TX0) (N := 16) hx hb hts (by decide +kernel) tyX0 tyX0_ok nmX0 hown hK hP hD hS 0 (al_heA (X := xt0_5) (o := 41000) rfl rfl rfl) rfl 7 (by decide) (hts (.fieldLink RX0 31 "KnotHouse$Arcs" "classSize" "[I") (by decide +kernel)) (fun _ h9 => h9) rfl hin rfl (by decide +kernel) rfl rfl (by rw [List.length_map]; decide +kernel) dX0_init_54 (fun H locs hP hD hS => ?_)
  obtain ⟨u, hu, hM⟩ := al_ext (X := xt0_5) (X1 := xt0_6) (o := 41000) (k := 7) (h := 41008) (Y := [41008]) (ad := [q7]) (k0 := 0) (ci := 3) ck0_5 rfl rfl hM.2.2.2 rfl hP hD hS
  rw [← hu] at hl
  have hu0 := hu.trans hu0
  clear hu hP hD hS
  refine W.widen (k := 18) (n := 894) (Nat.le_of_ble_eq_true rfl) (Nat.le_of_ble_eq_true rfl) ?_
  refine lv_aload_n hx hb dX0_init_57 rfl (lv_at hl 0 rfl) ?_
  refine lv_bipush (v := 18) hx hb dX0_init_58 (by decide) ?_
  refine ow_newa (D := (dC, dI)) (N' := 18) (a0 := (18, .inl (fun _ => 0))) (ty := .int) hx hb (hts (.arrayClass .int) (by decide +kernel)) rfl hK hM.1 hM.2.1 hM.2.2.1 hA 0 rfl (fun _ h => h) (fun _ => rfl) (by decide) (by decide) (by decide) (Nat.le_of_ble_eq_true rfl) (Nat.le_of_ble_eq_true rfl) dX0_init_60 (fun q8 H hP hD hS => ?_)
  refine W.widen (k := 19) (n := 912) (Nat.le_of_ble_eq_true rfl) (Nat.le_of_ble_eq_true rfl) ?_
  refine va_putF (D := (dC, dI)) (ci := 3) (v := .ref q8) (ty := .array .int) (C := RX0) (T := TX0) (N := 16) hx hb hts (by decide +kernel) tyX0 tyX0_ok nmX0 hown hK hP hD hS 0 (al_heA (X := xt0_6) (o := 41000) rfl rfl rfl) rfl 8 (by decide) (hts (.fieldLink RX0 34 "KnotHouse$Arcs" "value" "[I") (by decide +kernel)) (fun _ h9 => h9) rfl hin rfl (by decide +kernel) rfl rfl (by rw [List.length_map]; decide +kernel) dX0_init_62 (fun H locs hP hD hS => ?_)
  obtain ⟨u, hu, hM⟩ := al_ext (X := xt0_6) (X1 := xt0_7) (o := 41000) (k := 8) (h := 41009) (Y := [41009]) (ad := [q8]) (k0 := 0) (ci := 3) ck0_6 rfl rfl hM.2.2.2 rfl hP hD hS
  rw [← hu] at hl
  have hu0 := hu.trans hu0
  clear hu hP hD hS
  refine W.widen (k := 19) (n := 912) (Nat.le_of_ble_eq_true rfl) (Nat.le_of_ble_eq_true rfl) ?_
  refine lv_aload_n hx hb dX0_init_65 rfl (lv_at hl 0 rfl) ?_
  refine lv_bipush (v := 36) hx hb dX0_init_66 (by decide) ?_
  refine ow_newa (D := (dC, dI)) (N' := 36) (a0 := (36, .inl (fun _ => 0))) (ty := .int) hx hb (hts (.arrayClass .int) (by decide +kernel)) rfl hK hM.1 hM.2.1 hM.2.2.1 hA 0 rfl (fun _ h => h) (fun _ => rfl) (by decide) (by decide) (by decide) (Nat.le_of_ble_eq_true rfl) (Nat.le_of_ble_eq_true rfl) dX0_init_68 (fun q9 H hP hD hS => ?_)
  refine W.widen (k := 20) (n := 948) (Nat.le_of_ble_eq_true rfl) (Nat.le_of_ble_eq_true rfl) ?_
  refine va_putF (D := (dC, dI)) (ci := 3) (v := .ref q9) (ty := .array .int) (C := RX0) (T := TX0) (N := 16) hx hb hts (by decide +kernel) tyX0 tyX0_ok nmX0 hown hK hP hD hS 0 (al_heA (X := xt0_7) (o := 41000) rfl rfl rfl) rfl 10 (by decide) (hts (.fieldLink RX0 37 "KnotHouse$Arcs" "stepKind" "[I") (by decide +kernel)) (fun _ h9 => h9) rfl hin rfl (by decide +kernel) rfl rfl (by rw [List.length_map]; decide +kernel) dX0_init_70 (fun H locs hP hD hS => ?_)
  obtain ⟨u, hu, hM⟩ := al_ext (X := xt0_7) (X1 := xt0_8) (o := 41000) (k := 10) (h := 41011) (Y := [41011]) (ad := [q9]) (k0 := 0) (ci := 3) ck0_7 rfl rfl hM.2.2.2 rfl hP hD hS
  rw [← hu] at hl
  have hu0 := hu.trans hu0
  clear hu hP hD hS
  refine W.widen (k := 20) (n := 948) (Nat.le_of_ble_eq_true rfl) (Nat.le_of_ble_eq_true rfl) ?_
  refine lv_aload_n hx hb dX0_init_73 rfl (lv_at hl 0 rfl) ?_
  refine lv_bipush (v := 36) hx hb dX0_init_74 (by decide) ?_
  refine ow_newa (D := (dC, dI)) (N' := 36) (a0 := (36, .inl (fun _ => 0))) (ty := .int) hx hb (hts (.arrayClass .int) (by decide +kernel)) rfl hK hM.1 hM.2.1 hM.2.2.1 hA 0 rfl (fun _ h => h) (fun _ => rfl) (by decide) (by decide) (by decide) (Nat.le_of_ble_eq_true rfl) (Nat.le_of_ble_eq_true rfl) dX0_init_76 (fun q10 H hP hD hS => ?_)
  refine W.widen (k := 21) (n := 984) (Nat.le_of_ble_eq_true rfl) (Nat.le_of_ble_eq_true rfl) ?_
  refine va_putF (D := (dC, dI)) (ci := 3) (v := .ref q10) (ty := .array .int) (C := RX0) (T := TX0) (N := 16) hx hb hts (by decide +kernel) tyX0 tyX0_ok nmX0 hown hK hP hD hS 0 (al_heA (X := xt0_8) (o := 41000) rfl rfl rfl) rfl 11 (by decide) (hts (.fieldLink RX0 40 "KnotHouse$Arcs" "stepTo" "[I") (by decide +kernel)) (fun _ h9 => h9) rfl hin rfl (by decide +kernel) rfl rfl (by rw [List.length_map]; decide +kernel) dX0_init_78 (fun H locs hP hD hS => ?_)
  obtain ⟨u, hu, hM⟩ := al_ext (X := xt0_8) (X1 := xt0_9) (o := 41000) (k := 11) (h := 41012) (Y := [41012]) (ad := [q10]) (k0 := 0) (ci := 3) ck0_8 rfl rfl hM.2.2.2 rfl hP hD hS
  rw [← hu] at hl
  have hu0 := hu.trans hu0
  clear hu hP hD hS
  refine W.widen (k := 21) (n := 984) (Nat.le_of_ble_eq_true rfl) (Nat.le_of_ble_eq_true rfl) ?_
  refine lv_aload_n hx hb dX0_init_81 rfl (lv_at hl 0 rfl) ?_
  refine lv_bipush (v := 36) hx hb dX0_init_82 (by decide) ?_
  refine ow_newa (D := (dC, dI)) (N' := 36) (a0 := (36, .inl (fun _ => 0))) (ty := .int) hx hb (hts (.arrayClass .int) (by decide +kernel)) rfl hK hM.1 hM.2.1 hM.2.2.1 hA 0 rfl (fun _ h => h) (fun _ => rfl) (by decide) (by decide) (by decide) (Nat.le_of_ble_eq_true rfl) (Nat.le_of_ble_eq_true rfl) dX0_init_84 (fun q11 H hP hD hS => ?_)
  refine W.widen (k := 22) (n := 1020) (Nat.le_of_ble_eq_true rfl) (Nat.le_of_ble_eq_true rfl) ?_
  refine va_putF (D := (dC, dI)) (ci := 3) (v := .ref q11) (ty := .array .int) (C := RX0) (T := TX0) (N := 16) hx hb hts (by decide +kernel) tyX0 tyX0_ok nmX0 hown hK hP hD hS 0 (al_heA (X := xt0_9) (o := 41000) rfl rfl rfl) rfl 12 (by decide) (hts (.fieldLink RX0 43 "KnotHouse$Arcs" "stepBy" "[I") (by decide +kernel)) (fun _ h9 => h9) rfl hin rfl (by decide +kernel) rfl rfl (by rw [List.length_map]; decide +kernel) dX0_init_86 (fun H locs hP hD hS => ?_)
  obtain ⟨u, hu, hM⟩ := al_ext (X := xt0_9) (X1 := xt0_10) (o := 41000) (k := 12) (h := 41013) (Y := [41013]) (ad := [q11]) (k0 := 0) (ci := 3) ck0_9 rfl rfl hM.2.2.2 rfl hP hD hS
  rw [← hu] at hl
  have hu0 := hu.trans hu0
  clear hu hP hD hS
  refine W.widen (k := 22) (n := 1020) (Nat.le_of_ble_eq_true rfl) (Nat.le_of_ble_eq_true rfl) ?_
  refine lv_aload_n hx hb dX0_init_89 rfl (lv_at hl 0 rfl) ?_
  refine lv_bipush (v := 36) hx hb dX0_init_90 (by decide) ?_
  refine ow_newa (D := (dC, dI)) (N' := 36) (a0 := (36, .inl (fun _ => 0))) (ty := .int) hx hb (hts (.arrayClass .int) (by decide +kernel)) rfl hK hM.1 hM.2.1 hM.2.2.1 hA 0 rfl (fun _ h => h) (fun _ => rfl) (by decide) (by decide) (by decide) (Nat.le_of_ble_eq_true rfl) (Nat.le_of_ble_eq_true rfl) dX0_init_92 (fun q12 H hP hD hS => ?_)
  refine W.widen (k := 23) (n := 1056) (Nat.le_of_ble_eq_true rfl) (Nat.le_of_ble_eq_true rfl) ?_
  refine va_putF (D := (dC, dI)) (ci := 3) (v := .ref q12) (ty := .array .int) (C := RX0) (T := TX0) (N := 16) hx hb hts (by decide +kernel) tyX0 tyX0_ok nmX0 hown hK hP hD hS 0 (al_heA (X := xt0_10) (o := 41000) rfl rfl rfl) rfl 13 (by decide) (hts (.fieldLink RX0 46 "KnotHouse$Arcs" "stepFrom" "[I") (by decide +kernel)) (fun _ h9 => h9) rfl hin rfl (by decide +kernel) rfl rfl (by rw [List.length_map]; decide +kernel) dX0_init_94 (fun H locs hP hD hS => ?_)
  obtain ⟨u, hu, hM⟩ := al_ext (X := xt0_10) (X1 := xt0_11) (o := 41000) (k := 13) (h := 41014) (Y := [41014]) (ad := [q12]) (k0 := 0) (ci := 3) ck0_10 rfl rfl hM.2.2.2 rfl hP hD hS
  rw [← hu] at hl
  have hu0 := hu.trans hu0
  clear hu hP hD hS
  refine W.widen (k := 23) (n := 1056) (Nat.le_of_ble_eq_true rfl) (Nat.le_of_ble_eq_true rfl) ?_
  refine lv_aload_n hx hb dX0_init_97 rfl (lv_at hl 0 rfl) ?_
  refine lv_bipush (v := 36) hx hb dX0_init_98 (by decide) ?_
  refine ow_newa (D := (dC, dI)) (N' := 36) (a0 := (36, .inl (fun _ => 0))) (ty := .boolean) hx hb (hts (.arrayClass .boolean) (by decide +kernel)) rfl hK hM.1 hM.2.1 hM.2.2.1 hA 3 rfl (fun _ h => h) (fun _ => rfl) (by decide) (by decide) (by decide) (Nat.le_of_ble_eq_true rfl) (Nat.le_of_ble_eq_true rfl) dX0_init_100 (fun q13 H hP hD hS => ?_)
  refine W.widen (k := 24) (n := 1092) (Nat.le_of_ble_eq_true rfl) (Nat.le_of_ble_eq_true rfl) ?_
  refine va_putF (D := (dC, dI)) (ci := 3) (v := .ref q13) (ty := .array .boolean) (C := RX0) (T := TX0) (N := 16) hx hb hts (by decide +kernel) tyX0 tyX0_ok nmX0 hown hK hP hD hS 0 (al_heA (X := xt0_11) (o := 41000) rfl rfl rfl) rfl 14 (by decide) (hts (.fieldLink RX0 49 "KnotHouse$Arcs" "stepInverse" "[Z") (by decide +kernel)) (fun _ h9 => h9) rfl hin rfl (by decide +kernel) rfl rfl (by rw [List.length_map]; decide +kernel) dX0_init_102 (fun H locs hP hD hS => ?_)
  obtain ⟨u, hu, hM⟩ := al_ext (X := xt0_11) (X1 := xt0_12) (o := 41000) (k := 14) (h := 41015) (Y := [41015]) (ad := [q13]) (k0 := 0) (ci := 3) ck0_11 rfl rfl hM.2.2.2 rfl hP hD hS
  rw [← hu] at hl
  have hu0 := hu.trans hu0
  clear hu hP hD hS
  refine W.widen (k := 24) (n := 1092) (Nat.le_of_ble_eq_true rfl) (Nat.le_of_ble_eq_true rfl) ?_
  exact kk u _ _ ls hu0 hM hl
