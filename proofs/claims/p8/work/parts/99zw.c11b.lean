set_option maxHeartbeats 4000000 in
set_option maxRecDepth 100000 in
theorem hc11_0 {p : Program} {l : Launch} {e : Env} {s : State} {m : MethodId} {args : Array Value} {below : List Frame} {meth : Method} {c : Code} {Q : State → Prop} {A : Nat → Prop} {dC : Nat → ClassId} {dI : Nat → Nat → Nat} {q : Nat → ClassId} {z8 z0 zA z1 : ow_MS} {K : Nat} (hx : p.tables.exec = Jvm.exec) (hb : c.code = cX11_init) (hml : c.maxLocals = 1) (hown : s.vm.findClass RX11 = some m.cls) (hts : ∀ w ∈ wi11, w.before args s = true) (hin : meth.name = "<init>") (hA : ∀ q : Nat, s.heap.size ≤ q → A q) (hK : va_K (dC, dI) vwCl (uw_T q RX7) s) (hN_X11_26 : va_Nw (.methodLinkNest RX11 26 yX7_init "KnotHouse") s) (hN_X11_36 : va_Nw (.methodLinkNest RX11 36 yX4_init "KnotHouse") s) (hN_X11_43 : va_Nw (.methodLinkNest RX11 43 yX2_init "KnotHouse") s) (hN_X11_50 : va_Nw (.methodLinkNest RX11 50 yX9_init "KnotHouse") s) (hN_X11_57 : va_Nw (.methodLinkNest RX11 57 yX6_init "KnotHouse") s) (hN_X11_96 : va_Nw (.methodLinkNest RX11 96 yX5_init "KnotHouse") s) (hN_X11_106 : va_Nw (.methodLinkNest RX11 106 yX10_init "KnotHouse") s) (hN_X6_28 : va_Nw (.methodLinkNest RX6 28 yX7_init "KnotHouse") s) (hN_X6_38 : va_Nw (.methodLinkNest RX6 38 yX4_init "KnotHouse") s) (hN_X6_48 : va_Nw (.methodLinkNest RX6 48 yX2_init "KnotHouse") s) (hN_X8_44 : va_Nw (.methodLinkNest RX8 44 yX7_init "KnotHouse") s) (hN_X1_11 : va_Nw (.methodLinkNest RX1 11 yX7_init "KnotHouse") s) (hN_X10_20 : va_Nw (.methodLinkNest RX10 20 yX5_init "KnotHouse") s) (hOI : ow_AO .int s) (hOJ : ow_AO .long s) (hAO : va_AO RX7 s) (hq8 : ce_X8i_b8 K 24000 zeroS = some z8) (hq0 : ce_X0i_b0 K 41000 53001 zeroS = some z0) (hqA : ce_X1i_b1 K 43000 zeroS = some zA) (hqB : ce_X1j_b1b K 43000 53001 (usZ zA [53]) = some z1) (u : Nat → Nat) (H : Heap) (locs : List Loc) (ls : Array Slot) {a0 : Nat} (hu0 : u 0 = a0) (hM : al_M (dC, dI) vwCl xt11_0 q A s.heap u (Zc z8 z0 z1) H locs) (hl : lv_has ls 1 [(0, .ref (u 0))]) (kk : ∀ (u : Nat → Nat) (H : Heap) (locs : List Loc) (ls : Array Slot), u 0 = a0 → al_M (dC, dI) vwCl xt11_4 q A s.heap u (Zc z8 z0 z1) H locs → lv_has ls 1 [(0, .ref (u 0))] → W p l e RI11 s m args below meth c H locs 23 62882 Q (F0 m 55 ls [])) : W p l e RI11 s m args below meth c H locs 0 0 Q (F0 m 4 ls []) := by
  refine lv_aload_n hx hb dX11_init_4 rfl (lv_at hl 0 rfl) ?_
  refine va_new (ci := 6) (fs := [.null, .null, .null, .null, .int 0]) (C := RX3) (T := TX3) (N := 5) hx hb hts (fun w h => wi11_X3 w h) tyX3 tyX3_ok hown (hts (.classLink RX11 7 RX3) (wi11_L (by decide +kernel))) (hts (.instantiable RX3 5) (wi11_L (by decide +kernel))) (hts (.initialized RX3) (wi11_L (by decide +kernel))) hK hM.1 hM.2.1 hM.2.2.1 hA rfl (by decide +kernel) (Nat.le_of_ble_eq_true rfl) (Nat.le_of_ble_eq_true rfl) dX11_init_5 (fun o1 H hP hD hS => ?_)
  refine W.widen (k := 1) (n := 5) (Nat.le_of_ble_eq_true rfl) (Nat.le_of_ble_eq_true rfl) ?_
  refine lv_dup hx hb dX11_init_8 rfl ?_
  refine lv_bipush (v := 40) hx hb dX11_init_9 (by decide) ?_
  have hPc := al_subP hP
  have hDc := al_subD hD
  have hFc := al_freeC hD hS hA
  refine va_callv (va_runI (As := [.int 40]) (rest := [.ref o1, .ref (u 0)]) ⟨hx, hb, hml, hown, hts⟩ (k_X3_init_40 l dC dI (q 0) (q 1) (q 2) (q 3) o1 H.size) (cwI 1 hts gi11_X3_init rfl rfl rfl (hts (.initialized RX3) (wi11_L (by decide +kernel))) (hts (.methodLink RX11 11 yX3_init) (wi11_L (by decide +kernel))) (hts (.instanceMethod yX3_init) (wi11_L (by decide +kernel))) rfl (by decide +kernel) ⟨(Nat.le_of_ble_eq_true rfl), (Nat.le_of_ble_eq_true rfl)⟩) ⟨fun a U g mk q => by obtain ⟨q0, q1, qP, qK, qD⟩ := q; exact ⟨q0, q1, qP, va_K.moved (u := U) (U := U.calling g mk a) (Vm.Alike.refl U.vm) qK, qD⟩, fun U hU hW => ⟨rfl, by rw [hU], by rw [hU]; exact hPc, va_K.moved hW.alike (hK.sub [0, 1, 2, 3] rfl), hDc.weaken (fun _ _ _ _ => trivial)⟩⟩ rfl rfl hl.1 rfl (lv_room (Nat.le_of_ble_eq_true rfl)) dX11_init_11 ⟨(Nat.le_of_ble_eq_true rfl), (Nat.le_of_ble_eq_true rfl)⟩) hS (fun q _ h => hFc q h) hFc (fun t2 t H1 locs ht hvm hw hB hz1 hk1 hS => ?_)
  obtain ⟨z3, z4, z5, z6⟩ := t2
  obtain ⟨hP1, hD1⟩ := hB
  rw [ht] at hP1
  obtain ⟨hP, hD⟩ := al_join hP hD hk1 hFc hP1 hD1
  clear hPc hDc hFc hvm hw hz1 hk1 hP1 hD1 ht
  refine W.widen (k := 5) (n := 1325) (Nat.le_of_ble_eq_true rfl) (Nat.le_of_ble_eq_true rfl) ?_
  refine va_putF (D := (dC, dI)) (ci := 14) (v := .ref o1) (ty := .object "KnotHouse$Codes") (C := RX11) (T := TX11) (N := 19) hx hb hts (fun w h => wi11_X11 w h) tyX11 tyX11_ok nmX11 hown hK hP hD hS 0 (al_heA (X := xt11_0) (o := 0) rfl rfl rfl) rfl 0 (by decide) (hts (.fieldLink RX11 14 "KnotHouse" "diagrams" "LKnotHouse$Codes;") (wi11_L (by decide +kernel))) (fun _ h9 => h9) rfl hin rfl (by decide +kernel) rfl rfl (by rw [List.length_map]; decide +kernel) dX11_init_14 (fun H locs hP hD hS => ?_)
  obtain ⟨u, hu, hM⟩ := al_ext (X := xt11_0) (X1 := xt11_1) (o := 0) (k := 0) (h := 1000) (Y := [1000, 1001, 1002, 1003, 1004]) (ad := [o1, z3, z4, z5, z6]) (k0 := 0) (ci := 14) ck11_0 rfl rfl hM.2.2.2 rfl hP hD hS
  rw [← hu] at hl
  have hu0 := hu.trans hu0
  clear hu hP hD hS
  refine W.widen (k := 5) (n := 1325) (Nat.le_of_ble_eq_true rfl) (Nat.le_of_ble_eq_true rfl) ?_
  refine lv_aload_n hx hb dX11_init_17 rfl (lv_at hl 0 rfl) ?_
  refine va_new (ci := 6) (fs := [.null, .null, .null, .null, .int 0]) (C := RX3) (T := TX3) (N := 5) hx hb hts (fun w h => wi11_X3 w h) tyX3 tyX3_ok hown (hts (.classLink RX11 7 RX3) (wi11_L (by decide +kernel))) (hts (.instantiable RX3 5) (wi11_L (by decide +kernel))) (hts (.initialized RX3) (wi11_L (by decide +kernel))) hK hM.1 hM.2.1 hM.2.2.1 hA rfl (by decide +kernel) (Nat.le_of_ble_eq_true rfl) (Nat.le_of_ble_eq_true rfl) dX11_init_18 (fun o7 H hP hD hS => ?_)
  refine W.widen (k := 6) (n := 1330) (Nat.le_of_ble_eq_true rfl) (Nat.le_of_ble_eq_true rfl) ?_
  refine lv_dup hx hb dX11_init_21 rfl ?_
  refine lv_sipush (v := 1848) hx hb dX11_init_22 (by decide) ?_
  have hPc := al_subP hP
  have hDc := al_subD hD
  have hFc := al_freeC hD hS hA
  refine va_callv (va_runI (As := [.int 1848]) (rest := [.ref o7, .ref (u 0)]) ⟨hx, hb, hml, hown, hts⟩ (k_X3_init_1848 l dC dI (q 0) (q 1) (q 2) (q 3) o7 H.size) (cwI 1 hts gi11_X3_init rfl rfl rfl (hts (.initialized RX3) (wi11_L (by decide +kernel))) (hts (.methodLink RX11 11 yX3_init) (wi11_L (by decide +kernel))) (hts (.instanceMethod yX3_init) (wi11_L (by decide +kernel))) rfl (by decide +kernel) ⟨(Nat.le_of_ble_eq_true rfl), (Nat.le_of_ble_eq_true rfl)⟩) ⟨fun a U g mk q => by obtain ⟨q0, q1, qP, qK, qD⟩ := q; exact ⟨q0, q1, qP, va_K.moved (u := U) (U := U.calling g mk a) (Vm.Alike.refl U.vm) qK, qD⟩, fun U hU hW => ⟨rfl, by rw [hU], by rw [hU]; exact hPc, va_K.moved hW.alike (hK.sub [0, 1, 2, 3] rfl), hDc.weaken (fun _ _ _ _ => trivial)⟩⟩ rfl rfl hl.1 rfl (lv_room (Nat.le_of_ble_eq_true rfl)) dX11_init_25 ⟨(Nat.le_of_ble_eq_true rfl), (Nat.le_of_ble_eq_true rfl)⟩) hS (fun q _ h => hFc q h) hFc (fun t8 t H1 locs ht hvm hw hB hz1 hk1 hS => ?_)
  obtain ⟨z9, z10, z11, z12⟩ := t8
  obtain ⟨hP1, hD1⟩ := hB
  rw [ht] at hP1
  obtain ⟨hP, hD⟩ := al_join hP hD hk1 hFc hP1 hD1
  clear hPc hDc hFc hvm hw hz1 hk1 hP1 hD1 ht
  refine W.widen (k := 10) (n := 62314) (Nat.le_of_ble_eq_true rfl) (Nat.le_of_ble_eq_true rfl) ?_
  refine va_putF (D := (dC, dI)) (ci := 14) (v := .ref o7) (ty := .object "KnotHouse$Codes") (C := RX11) (T := TX11) (N := 19) hx hb hts (fun w h => wi11_X11 w h) tyX11 tyX11_ok nmX11 hown hK hP hD hS 0 (al_heA (X := xt11_1) (o := 0) rfl rfl rfl) rfl 1 (by decide) (hts (.fieldLink RX11 18 "KnotHouse" "list" "LKnotHouse$Codes;") (wi11_L (by decide +kernel))) (fun _ h9 => h9) rfl hin rfl (by decide +kernel) rfl rfl (by rw [List.length_map]; decide +kernel) dX11_init_28 (fun H locs hP hD hS => ?_)
  obtain ⟨u, hu, hM⟩ := al_ext (X := xt11_1) (X1 := xt11_2) (o := 0) (k := 1) (h := 2000) (Y := [2000, 2001, 2002, 2003, 2004]) (ad := [o7, z9, z10, z11, z12]) (k0 := 0) (ci := 14) ck11_1 rfl rfl hM.2.2.2 rfl hP hD hS
  rw [← hu] at hl
  have hu0 := hu.trans hu0
  clear hu hP hD hS
  refine W.widen (k := 10) (n := 62314) (Nat.le_of_ble_eq_true rfl) (Nat.le_of_ble_eq_true rfl) ?_
  refine lv_aload_n hx hb dX11_init_31 rfl (lv_at hl 0 rfl) ?_
  refine va_new (ci := 6) (fs := [.null, .null, .null, .null, .int 0]) (C := RX3) (T := TX3) (N := 5) hx hb hts (fun w h => wi11_X3 w h) tyX3 tyX3_ok hown (hts (.classLink RX11 7 RX3) (wi11_L (by decide +kernel))) (hts (.instantiable RX3 5) (wi11_L (by decide +kernel))) (hts (.initialized RX3) (wi11_L (by decide +kernel))) hK hM.1 hM.2.1 hM.2.2.1 hA rfl (by decide +kernel) (Nat.le_of_ble_eq_true rfl) (Nat.le_of_ble_eq_true rfl) dX11_init_32 (fun o13 H hP hD hS => ?_)
  refine W.widen (k := 11) (n := 62319) (Nat.le_of_ble_eq_true rfl) (Nat.le_of_ble_eq_true rfl) ?_
  refine lv_dup hx hb dX11_init_35 rfl ?_
  refine lv_bipush (v := 12) hx hb dX11_init_36 (by decide) ?_
  have hPc := al_subP hP
  have hDc := al_subD hD
  have hFc := al_freeC hD hS hA
  refine va_callv (va_runI (As := [.int 12]) (rest := [.ref o13, .ref (u 0)]) ⟨hx, hb, hml, hown, hts⟩ (k_X3_init_12 l dC dI (q 0) (q 1) (q 2) (q 3) o13 H.size) (cwI 1 hts gi11_X3_init rfl rfl rfl (hts (.initialized RX3) (wi11_L (by decide +kernel))) (hts (.methodLink RX11 11 yX3_init) (wi11_L (by decide +kernel))) (hts (.instanceMethod yX3_init) (wi11_L (by decide +kernel))) rfl (by decide +kernel) ⟨(Nat.le_of_ble_eq_true rfl), (Nat.le_of_ble_eq_true rfl)⟩) ⟨fun a U g mk q => by obtain ⟨q0, q1, qP, qK, qD⟩ := q; exact ⟨q0, q1, qP, va_K.moved (u := U) (U := U.calling g mk a) (Vm.Alike.refl U.vm) qK, qD⟩, fun U hU hW => ⟨rfl, by rw [hU], by rw [hU]; exact hPc, va_K.moved hW.alike (hK.sub [0, 1, 2, 3] rfl), hDc.weaken (fun _ _ _ _ => trivial)⟩⟩ rfl rfl hl.1 rfl (lv_room (Nat.le_of_ble_eq_true rfl)) dX11_init_38 ⟨(Nat.le_of_ble_eq_true rfl), (Nat.le_of_ble_eq_true rfl)⟩) hS (fun q _ h => hFc q h) hFc (fun t14 t H1 locs ht hvm hw hB hz1 hk1 hS => ?_)
  obtain ⟨z15, z16, z17, z18⟩ := t14
  obtain ⟨hP1, hD1⟩ := hB
  rw [ht] at hP1
  obtain ⟨hP, hD⟩ := al_join hP hD hk1 hFc hP1 hD1
  clear hPc hDc hFc hvm hw hz1 hk1 hP1 hD1 ht
  refine W.widen (k := 15) (n := 62715) (Nat.le_of_ble_eq_true rfl) (Nat.le_of_ble_eq_true rfl) ?_
  refine va_putF (D := (dC, dI)) (ci := 14) (v := .ref o13) (ty := .object "KnotHouse$Codes") (C := RX11) (T := TX11) (N := 19) hx hb hts (fun w h => wi11_X11 w h) tyX11 tyX11_ok nmX11 hown hK hP hD hS 0 (al_heA (X := xt11_2) (o := 0) rfl rfl rfl) rfl 2 (by decide) (hts (.fieldLink RX11 21 "KnotHouse" "found" "LKnotHouse$Codes;") (wi11_L (by decide +kernel))) (fun _ h9 => h9) rfl hin rfl (by decide +kernel) rfl rfl (by rw [List.length_map]; decide +kernel) dX11_init_41 (fun H locs hP hD hS => ?_)
  obtain ⟨u, hu, hM⟩ := al_ext (X := xt11_2) (X1 := xt11_3) (o := 0) (k := 2) (h := 3000) (Y := [3000, 3001, 3002, 3003, 3004]) (ad := [o13, z15, z16, z17, z18]) (k0 := 0) (ci := 14) ck11_2 rfl rfl hM.2.2.2 rfl hP hD hS
  rw [← hu] at hl
  have hu0 := hu.trans hu0
  clear hu hP hD hS
  refine W.widen (k := 15) (n := 62715) (Nat.le_of_ble_eq_true rfl) (Nat.le_of_ble_eq_true rfl) ?_
  refine lv_aload_n hx hb dX11_init_44 rfl (lv_at hl 0 rfl) ?_
  refine va_new (ci := 10) (fs := [.null, .null, .null, .null, .null, .null, .null, .int 0, .int 0, .int 0, .int 0]) (C := RX7) (T := TX7) (N := 11) hx hb hts (fun w h => wi11_X7 w h) tyX7 tyX7_ok hown (hts (.classLink RX11 24 RX7) (wi11_L (by decide +kernel))) (hts (.instantiable RX7 11) (wi11_L (by decide +kernel))) (hts (.initialized RX7) (wi11_L (by decide +kernel))) hK hM.1 hM.2.1 hM.2.2.1 hA rfl (by decide +kernel) (Nat.le_of_ble_eq_true rfl) (Nat.le_of_ble_eq_true rfl) dX11_init_45 (fun o19 H hP hD hS => ?_)
  refine W.widen (k := 16) (n := 62726) (Nat.le_of_ble_eq_true rfl) (Nat.le_of_ble_eq_true rfl) ?_
  refine lv_dup hx hb dX11_init_48 rfl ?_
  have hPc := al_subP hP
  have hDc := al_subD hD
  have hFc := al_freeC hD hS hA
  refine va_callv (va_runIN (As := []) (rest := [.ref o19, .ref (u 0)]) ⟨hx, hb, hml, hown, hts⟩ (k_X7_init l dC dI (q 0) (q 1) (q 2) (q 3) o19 H.size) ⟨va_cnB (host := "KnotHouse") 0 hts gi11_X7_init_n26 rfl rfl rfl hN_X11_26 (hts (.initialized RX7) (wi11_L (by decide +kernel))) (by decide +kernel) ⟨(Nat.le_of_ble_eq_true rfl), (Nat.le_of_ble_eq_true rfl)⟩, rfl, hts (.instanceMethod yX7_init) (wi11_L (by decide +kernel))⟩ ⟨fun a U g mk q => by obtain ⟨q0, q1, qP, qK, qD⟩ := q; exact ⟨q0, q1, qP, va_K.moved (u := U) (U := U.calling g mk a) (Vm.Alike.refl U.vm) qK, qD⟩, fun U hU hW => ⟨rfl, by rw [hU], by rw [hU]; exact hPc, va_K.moved hW.alike (hK.sub [0, 1, 2, 3] rfl), hDc.weaken (fun _ _ _ _ => trivial)⟩⟩ rfl rfl hl.1 rfl (lv_room (Nat.le_of_ble_eq_true rfl)) dX11_init_49 ⟨(Nat.le_of_ble_eq_true rfl), (Nat.le_of_ble_eq_true rfl)⟩) hS (fun q _ h => hFc q h) hFc (fun t20 t H1 locs ht hvm hw hB hz1 hk1 hS => ?_)
  obtain ⟨z21, z22, z23, z24, z25, z26, z27⟩ := t20
  obtain ⟨hP1, hD1⟩ := hB
  rw [ht] at hP1
  obtain ⟨hP, hD⟩ := al_join hP hD hk1 hFc hP1 hD1
  clear hPc hDc hFc hvm hw hz1 hk1 hP1 hD1 ht
  refine W.widen (k := 23) (n := 62882) (Nat.le_of_ble_eq_true rfl) (Nat.le_of_ble_eq_true rfl) ?_
  refine va_putF (D := (dC, dI)) (ci := 14) (v := .ref o19) (ty := .object "KnotHouse$Net") (C := RX11) (T := TX11) (N := 19) hx hb hts (fun w h => wi11_X11 w h) tyX11 tyX11_ok nmX11 hown hK hP hD hS 0 (al_heA (X := xt11_3) (o := 0) rfl rfl rfl) rfl 3 (by decide) (hts (.fieldLink RX11 27 "KnotHouse" "net" "LKnotHouse$Net;") (wi11_L (by decide +kernel))) (fun _ h9 => h9) rfl hin rfl (by decide +kernel) rfl rfl (by rw [List.length_map]; decide +kernel) dX11_init_52 (fun H locs hP hD hS => ?_)
  obtain ⟨u, hu, hM⟩ := al_ext (X := xt11_3) (X1 := xt11_4) (o := 0) (k := 3) (h := 4000) (Y := [4000, 4001, 4002, 4003, 4004, 4005, 4006, 4007]) (ad := [o19, z21, z22, z23, z24, z25, z26, z27]) (k0 := 0) (ci := 14) ck11_3 rfl rfl hM.2.2.2 rfl hP hD hS
  rw [← hu] at hl
  have hu0 := hu.trans hu0
  clear hu hP hD hS
  refine W.widen (k := 23) (n := 62882) (Nat.le_of_ble_eq_true rfl) (Nat.le_of_ble_eq_true rfl) ?_
  exact kk u _ _ ls hu0 hM hl
set_option maxHeartbeats 4000000 in
set_option maxRecDepth 100000 in
theorem hc11_1 {p : Program} {l : Launch} {e : Env} {s : State} {m : MethodId} {args : Array Value} {below : List Frame} {meth : Method} {c : Code} {Q : State → Prop} {A : Nat → Prop} {dC : Nat → ClassId} {dI : Nat → Nat → Nat} {q : Nat → ClassId} {z8 z0 zA z1 : ow_MS} {K : Nat} (hx : p.tables.exec = Jvm.exec) (hb : c.code = cX11_init) (hml : c.maxLocals = 1) (hown : s.vm.findClass RX11 = some m.cls) (hts : ∀ w ∈ wi11, w.before args s = true) (hin : meth.name = "<init>") (hA : ∀ q : Nat, s.heap.size ≤ q → A q) (hK : va_K (dC, dI) vwCl (uw_T q RX7) s) (hN_X11_26 : va_Nw (.methodLinkNest RX11 26 yX7_init "KnotHouse") s) (hN_X11_36 : va_Nw (.methodLinkNest RX11 36 yX4_init "KnotHouse") s) (hN_X11_43 : va_Nw (.methodLinkNest RX11 43 yX2_init "KnotHouse") s) (hN_X11_50 : va_Nw (.methodLinkNest RX11 50 yX9_init "KnotHouse") s) (hN_X11_57 : va_Nw (.methodLinkNest RX11 57 yX6_init "KnotHouse") s) (hN_X11_96 : va_Nw (.methodLinkNest RX11 96 yX5_init "KnotHouse") s) (hN_X11_106 : va_Nw (.methodLinkNest RX11 106 yX10_init "KnotHouse") s) (hN_X6_28 : va_Nw (.methodLinkNest RX6 28 yX7_init "KnotHouse") s) (hN_X6_38 : va_Nw (.methodLinkNest RX6 38 yX4_init "KnotHouse") s) (hN_X6_48 : va_Nw (.methodLinkNest RX6 48 yX2_init "KnotHouse") s) (hN_X8_44 : va_Nw (.methodLinkNest RX8 44 yX7_init "KnotHouse") s) (hN_X1_11 : va_Nw (.methodLinkNest RX1 11 yX7_init "KnotHouse") s) (hN_X10_20 : va_Nw (.methodLinkNest RX10 20 yX5_init "KnotHouse") s) (hOI : ow_AO .int s) (hOJ : ow_AO .long s) (hAO : va_AO RX7 s) (hq8 : ce_X8i_b8 K 24000 zeroS = some z8) (hq0 : ce_X0i_b0 K 41000 53001 zeroS = some z0) (hqA : ce_X1i_b1 K 43000 zeroS = some zA) (hqB : ce_X1j_b1b K 43000 53001 (usZ zA [53]) = some z1) (u : Nat → Nat) (H : Heap) (locs : List Loc) (ls : Array Slot) {a0 : Nat} (hu0 : u 0 = a0) (hM : al_M (dC, dI) vwCl xt11_4 q A s.heap u (Zc z8 z0 z1) H locs) (hl : lv_has ls 1 [(0, .ref (u 0))]) (kk : ∀ (u : Nat → Nat) (H : Heap) (locs : List Loc) (ls : Array Slot), u 0 = a0 → al_M (dC, dI) vwCl xt11_8 q A s.heap u (Zc z8 z0 z1) H locs → lv_has ls 1 [(0, .ref (u 0))] → W p l e RI11 s m args below meth c H locs 62 64487 Q (F0 m 99 ls [])) : W p l e RI11 s m args below meth c H locs 23 62882 Q (F0 m 55 ls []) := by
  refine lv_aload_n hx hb dX11_init_55 rfl (lv_at hl 0 rfl) ?_
  refine va_new (ci := 10) (fs := [.null, .null, .null, .null, .null, .null, .null, .int 0, .int 0, .int 0, .int 0]) (C := RX7) (T := TX7) (N := 11) hx hb hts (fun w h => wi11_X7 w h) tyX7 tyX7_ok hown (hts (.classLink RX11 24 RX7) (wi11_L (by decide +kernel))) (hts (.instantiable RX7 11) (wi11_L (by decide +kernel))) (hts (.initialized RX7) (wi11_L (by decide +kernel))) hK hM.1 hM.2.1 hM.2.2.1 hA rfl (by decide +kernel) (Nat.le_of_ble_eq_true rfl) (Nat.le_of_ble_eq_true rfl) dX11_init_56 (fun o28 H hP hD hS => ?_)
  refine W.widen (k := 24) (n := 62893) (Nat.le_of_ble_eq_true rfl) (Nat.le_of_ble_eq_true rfl) ?_
  refine lv_dup hx hb dX11_init_59 rfl ?_
  have hPc := al_subP hP
  have hDc := al_subD hD
  have hFc := al_freeC hD hS hA
  refine va_callv (va_runIN (As := []) (rest := [.ref o28, .ref (u 0)]) ⟨hx, hb, hml, hown, hts⟩ (k_X7_init l dC dI (q 0) (q 1) (q 2) (q 3) o28 H.size) ⟨va_cnB (host := "KnotHouse") 0 hts gi11_X7_init_n26 rfl rfl rfl hN_X11_26 (hts (.initialized RX7) (wi11_L (by decide +kernel))) (by decide +kernel) ⟨(Nat.le_of_ble_eq_true rfl), (Nat.le_of_ble_eq_true rfl)⟩, rfl, hts (.instanceMethod yX7_init) (wi11_L (by decide +kernel))⟩ ⟨fun a U g mk q => by obtain ⟨q0, q1, qP, qK, qD⟩ := q; exact ⟨q0, q1, qP, va_K.moved (u := U) (U := U.calling g mk a) (Vm.Alike.refl U.vm) qK, qD⟩, fun U hU hW => ⟨rfl, by rw [hU], by rw [hU]; exact hPc, va_K.moved hW.alike (hK.sub [0, 1, 2, 3] rfl), hDc.weaken (fun _ _ _ _ => trivial)⟩⟩ rfl rfl hl.1 rfl (lv_room (Nat.le_of_ble_eq_true rfl)) dX11_init_60 ⟨(Nat.le_of_ble_eq_true rfl), (Nat.le_of_ble_eq_true rfl)⟩) hS (fun q _ h => hFc q h) hFc (fun t29 t H1 locs ht hvm hw hB hz1 hk1 hS => ?_)
  obtain ⟨z30, z31, z32, z33, z34, z35, z36⟩ := t29
  obtain ⟨hP1, hD1⟩ := hB
  rw [ht] at hP1
  obtain ⟨hP, hD⟩ := al_join hP hD hk1 hFc hP1 hD1
  clear hPc hDc hFc hvm hw hz1 hk1 hP1 hD1 ht
  refine W.widen (k := 31) (n := 63049) (Nat.le_of_ble_eq_true rfl) (Nat.le_of_ble_eq_true rfl) ?_
  refine va_putF (D := (dC, dI)) (ci := 14) (v := .ref o28) (ty := .object "KnotHouse$Net") (C := RX11) (T := TX11) (N := 19) hx hb hts (fun w h => wi11_X11 w h) tyX11 tyX11_ok nmX11 hown hK hP hD hS 0 (al_heA (X := xt11_4) (o := 0) rfl rfl rfl) rfl 4 (by decide) (hts (.fieldLink RX11 31 "KnotHouse" "other" "LKnotHouse$Net;") (wi11_L (by decide +kernel))) (fun _ h9 => h9) rfl hin rfl (by decide +kernel) rfl rfl (by rw [List.length_map]; decide +kernel) dX11_init_63 (fun H locs hP hD hS => ?_)
  obtain ⟨u, hu, hM⟩ := al_ext (X := xt11_4) (X1 := xt11_5) (o := 0) (k := 4) (h := 5000) (Y := [5000, 5001, 5002, 5003, 5004, 5005, 5006, 5007]) (ad := [o28, z30, z31, z32, z33, z34, z35, z36]) (k0 := 0) (ci := 14) ck11_4 rfl rfl hM.2.2.2 rfl hP hD hS
  rw [← hu] at hl
  have hu0 := hu.trans hu0
  clear hu hP hD hS
  refine W.widen (k := 31) (n := 63049) (Nat.le_of_ble_eq_true rfl) (Nat.le_of_ble_eq_true rfl) ?_
  refine lv_aload_n hx hb dX11_init_66 rfl (lv_at hl 0 rfl) ?_
  refine va_new (ci := 7) (fs := [.null, .int 0, .null, .null, .null, .null, .null, .null]) (C := RX4) (T := TX4) (N := 8) hx hb hts (fun w h => wi11_X4 w h) tyX4 tyX4_ok hown (hts (.classLink RX11 34 RX4) (wi11_L (by decide +kernel))) (hts (.instantiable RX4 8) (wi11_L (by decide +kernel))) (hts (.initialized RX4) (wi11_L (by decide +kernel))) hK hM.1 hM.2.1 hM.2.2.1 hA rfl (by decide +kernel) (Nat.le_of_ble_eq_true rfl) (Nat.le_of_ble_eq_true rfl) dX11_init_67 (fun o37 H hP hD hS => ?_)
  refine W.widen (k := 32) (n := 63057) (Nat.le_of_ble_eq_true rfl) (Nat.le_of_ble_eq_true rfl) ?_
  refine lv_dup hx hb dX11_init_70 rfl ?_
  have hPc := al_subP hP
  have hDc := al_subD hD
  have hFc := al_freeC hD hS hA
  refine va_callv (va_runIN (As := []) (rest := [.ref o37, .ref (u 0)]) ⟨hx, hb, hml, hown, hts⟩ (k_X4_init l dC dI (q 0) (q 1) (q 2) (q 3) o37 H.size) ⟨va_cnB (host := "KnotHouse") 0 hts gi11_X4_init_n36 rfl rfl rfl hN_X11_36 (hts (.initialized RX4) (wi11_L (by decide +kernel))) (by decide +kernel) ⟨(Nat.le_of_ble_eq_true rfl), (Nat.le_of_ble_eq_true rfl)⟩, rfl, hts (.instanceMethod yX4_init) (wi11_L (by decide +kernel))⟩ ⟨fun a U g mk q => by obtain ⟨q0, q1, qP, qK, qD⟩ := q; exact ⟨q0, q1, qP, va_K.moved (u := U) (U := U.calling g mk a) (Vm.Alike.refl U.vm) qK, qD⟩, fun U hU hW => ⟨rfl, by rw [hU], by rw [hU]; exact hPc, va_K.moved hW.alike (hK.sub [0, 1, 2, 3] rfl), hDc.weaken (fun _ _ _ _ => trivial)⟩⟩ rfl rfl hl.1 rfl (lv_room (Nat.le_of_ble_eq_true rfl)) dX11_init_71 ⟨(Nat.le_of_ble_eq_true rfl), (Nat.le_of_ble_eq_true rfl)⟩) hS (fun q _ h => hFc q h) hFc (fun t38 t H1 locs ht hvm hw hB hz1 hk1 hS => ?_)
  obtain ⟨z39, z40, z41, z42, z43, z44, z45⟩ := t38
  obtain ⟨hP1, hD1⟩ := hB
  rw [ht] at hP1
  obtain ⟨hP, hD⟩ := al_join hP hD hk1 hFc hP1 hD1
  clear hPc hDc hFc hvm hw hz1 hk1 hP1 hD1 ht
  refine W.widen (k := 39) (n := 63402) (Nat.le_of_ble_eq_true rfl) (Nat.le_of_ble_eq_true rfl) ?_
  refine va_putF (D := (dC, dI)) (ci := 14) (v := .ref o37) (ty := .object "KnotHouse$Faces") (C := RX11) (T := TX11) (N := 19) hx hb hts (fun w h => wi11_X11 w h) tyX11 tyX11_ok nmX11 hown hK hP hD hS 0 (al_heA (X := xt11_5) (o := 0) rfl rfl rfl) rfl 5 (by decide) (hts (.fieldLink RX11 37 "KnotHouse" "faces" "LKnotHouse$Faces;") (wi11_L (by decide +kernel))) (fun _ h9 => h9) rfl hin rfl (by decide +kernel) rfl rfl (by rw [List.length_map]; decide +kernel) dX11_init_74 (fun H locs hP hD hS => ?_)
  obtain ⟨u, hu, hM⟩ := al_ext (X := xt11_5) (X1 := xt11_6) (o := 0) (k := 5) (h := 6000) (Y := [6000, 6001, 6003, 6004, 6005, 6006, 6007, 6008]) (ad := [o37, z39, z40, z41, z42, z43, z44, z45]) (k0 := 0) (ci := 14) ck11_5 rfl rfl hM.2.2.2 rfl hP hD hS
  rw [← hu] at hl
  have hu0 := hu.trans hu0
  clear hu hP hD hS
  refine W.widen (k := 39) (n := 63402) (Nat.le_of_ble_eq_true rfl) (Nat.le_of_ble_eq_true rfl) ?_
  refine lv_aload_n hx hb dX11_init_77 rfl (lv_at hl 0 rfl) ?_
  refine va_new (ci := 5) (fs := [.null, .null, .null, .null, .null, .null]) (C := RX2) (T := TX2) (N := 6) hx hb hts (fun w h => wi11_X2 w h) tyX2 tyX2_ok hown (hts (.classLink RX11 41 RX2) (wi11_L (by decide +kernel))) (hts (.instantiable RX2 6) (wi11_L (by decide +kernel))) (hts (.initialized RX2) (wi11_L (by decide +kernel))) hK hM.1 hM.2.1 hM.2.2.1 hA rfl (by decide +kernel) (Nat.le_of_ble_eq_true rfl) (Nat.le_of_ble_eq_true rfl) dX11_init_78 (fun o46 H hP hD hS => ?_)
  refine W.widen (k := 40) (n := 63408) (Nat.le_of_ble_eq_true rfl) (Nat.le_of_ble_eq_true rfl) ?_
  refine lv_dup hx hb dX11_init_81 rfl ?_
  have hPc := al_subP hP
  have hDc := al_subD hD
  have hFc := al_freeC hD hS hA
  refine va_callv (va_runIN (As := []) (rest := [.ref o46, .ref (u 0)]) ⟨hx, hb, hml, hown, hts⟩ (k_X2_init l dC dI (q 0) (q 1) (q 2) (q 3) o46 H.size) ⟨va_cnB (host := "KnotHouse") 0 hts gi11_X2_init_n43 rfl rfl rfl hN_X11_43 (hts (.initialized RX2) (wi11_L (by decide +kernel))) (by decide +kernel) ⟨(Nat.le_of_ble_eq_true rfl), (Nat.le_of_ble_eq_true rfl)⟩, rfl, hts (.instanceMethod yX2_init) (wi11_L (by decide +kernel))⟩ ⟨fun a U g mk q => by obtain ⟨q0, q1, qP, qK, qD⟩ := q; exact ⟨q0, q1, qP, va_K.moved (u := U) (U := U.calling g mk a) (Vm.Alike.refl U.vm) qK, qD⟩, fun U hU hW => ⟨rfl, by rw [hU], by rw [hU]; exact hPc, va_K.moved hW.alike (hK.sub [0, 1, 2, 3] rfl), hDc.weaken (fun _ _ _ _ => trivial)⟩⟩ rfl rfl hl.1 rfl (lv_room (Nat.le_of_ble_eq_true rfl)) dX11_init_82 ⟨(Nat.le_of_ble_eq_true rfl), (Nat.le_of_ble_eq_true rfl)⟩) hS (fun q _ h => hFc q h) hFc (fun t47 t H1 locs ht hvm hw hB hz1 hk1 hS => ?_)
  obtain ⟨z48, z49, z50, z51, z52, z53, z54, z55, z56, z57, z58, z59, z60, z61, z62, z63, z64, z65⟩ := t47
  obtain ⟨hP1, hD1⟩ := hB
  rw [ht] at hP1
  obtain ⟨hP, hD⟩ := al_join hP hD hk1 hFc hP1 hD1
  clear hPc hDc hFc hvm hw hz1 hk1 hP1 hD1 ht
  refine W.widen (k := 58) (n := 63957) (Nat.le_of_ble_eq_true rfl) (Nat.le_of_ble_eq_true rfl) ?_
  refine va_putF (D := (dC, dI)) (ci := 14) (v := .ref o46) (ty := .object "KnotHouse$Coder") (C := RX11) (T := TX11) (N := 19) hx hb hts (fun w h => wi11_X11 w h) tyX11 tyX11_ok nmX11 hown hK hP hD hS 0 (al_heA (X := xt11_6) (o := 0) rfl rfl rfl) rfl 6 (by decide) (hts (.fieldLink RX11 44 "KnotHouse" "coder" "LKnotHouse$Coder;") (wi11_L (by decide +kernel))) (fun _ h9 => h9) rfl hin rfl (by decide +kernel) rfl rfl (by rw [List.length_map]; decide +kernel) dX11_init_85 (fun H locs hP hD hS => ?_)
  obtain ⟨u, hu, hM⟩ := al_ext (X := xt11_6) (X1 := xt11_7) (o := 0) (k := 6) (h := 7000) (Y := [7000, 8000, 8001, 8002, 8003, 8004, 9000, 9001, 9002, 9003, 9004, 10000, 10001, 10002, 10003, 10004, 7004, 7005, 7006]) (ad := [o46, z48, z49, z50, z51, z52, z53, z54, z55, z56, z57, z58, z59, z60, z61, z62, z63, z64, z65]) (k0 := 0) (ci := 14) ck11_6 rfl rfl hM.2.2.2 rfl hP hD hS
  rw [← hu] at hl
  have hu0 := hu.trans hu0
  clear hu hP hD hS
  refine W.widen (k := 58) (n := 63957) (Nat.le_of_ble_eq_true rfl) (Nat.le_of_ble_eq_true rfl) ?_
  refine lv_aload_n hx hb dX11_init_88 rfl (lv_at hl 0 rfl) ?_
  refine va_new (ci := 12) (fs := [.int 0, .null, .null, .null, .int 0, .int 0]) (C := RX9) (T := TX9) (N := 6) hx hb hts (fun w h => wi11_X9 w h) tyX9 tyX9_ok hown (hts (.classLink RX11 48 RX9) (wi11_L (by decide +kernel))) (hts (.instantiable RX9 6) (wi11_L (by decide +kernel))) (hts (.initialized RX9) (wi11_L (by decide +kernel))) hK hM.1 hM.2.1 hM.2.2.1 hA rfl (by decide +kernel) (Nat.le_of_ble_eq_true rfl) (Nat.le_of_ble_eq_true rfl) dX11_init_89 (fun o66 H hP hD hS => ?_)
  refine W.widen (k := 59) (n := 63963) (Nat.le_of_ble_eq_true rfl) (Nat.le_of_ble_eq_true rfl) ?_
  refine lv_dup hx hb dX11_init_92 rfl ?_
  have hPc := al_subP hP
  have hDc := al_subD hD
  have hFc := al_freeC hD hS hA
  refine va_callv (va_runIN (As := []) (rest := [.ref o66, .ref (u 0)]) ⟨hx, hb, hml, hown, hts⟩ (k_X9_init l dC dI (q 0) (q 1) (q 2) (q 3) o66 H.size) ⟨va_cnB (host := "KnotHouse") 0 hts gi11_X9_init_n50 rfl rfl rfl hN_X11_50 (hts (.initialized RX9) (wi11_L (by decide +kernel))) (by decide +kernel) ⟨(Nat.le_of_ble_eq_true rfl), (Nat.le_of_ble_eq_true rfl)⟩, rfl, hts (.instanceMethod yX9_init) (wi11_L (by decide +kernel))⟩ ⟨fun a U g mk q => by obtain ⟨q0, q1, qP, qK, qD⟩ := q; exact ⟨q0, q1, qP, va_K.moved (u := U) (U := U.calling g mk a) (Vm.Alike.refl U.vm) qK, qD⟩, fun U hU hW => ⟨rfl, by rw [hU], by rw [hU]; exact hPc, va_K.moved hW.alike (hK.sub [0, 1, 2, 3] rfl), hDc.weaken (fun _ _ _ _ => trivial)⟩⟩ rfl rfl hl.1 rfl (lv_room (Nat.le_of_ble_eq_true rfl)) dX11_init_93 ⟨(Nat.le_of_ble_eq_true rfl), (Nat.le_of_ble_eq_true rfl)⟩) hS (fun q _ h => hFc q h) hFc (fun t67 t H1 locs ht hvm hw hB hz1 hk1 hS => ?_)
  obtain ⟨z68, z69, z70⟩ := t67
  obtain ⟨hP1, hD1⟩ := hB
  rw [ht] at hP1
  obtain ⟨hP, hD⟩ := al_join hP hD hk1 hFc hP1 hD1
  clear hPc hDc hFc hvm hw hz1 hk1 hP1 hD1 ht
  refine W.widen (k := 62) (n := 64487) (Nat.le_of_ble_eq_true rfl) (Nat.le_of_ble_eq_true rfl) ?_
  refine va_putF (D := (dC, dI)) (ci := 14) (v := .ref o66) (ty := .object "KnotHouse$Reader") (C := RX11) (T := TX11) (N := 19) hx hb hts (fun w h => wi11_X11 w h) tyX11 tyX11_ok nmX11 hown hK hP hD hS 0 (al_heA (X := xt11_7) (o := 0) rfl rfl rfl) rfl 7 (by decide) (hts (.fieldLink RX11 51 "KnotHouse" "reader" "LKnotHouse$Reader;") (wi11_L (by decide +kernel))) (fun _ h9 => h9) rfl hin rfl (by decide +kernel) rfl rfl (by rw [List.length_map]; decide +kernel) dX11_init_96 (fun H locs hP hD hS => ?_)
  obtain ⟨u, hu, hM⟩ := al_ext (X := xt11_7) (X1 := xt11_8) (o := 0) (k := 7) (h := 11000) (Y := [11000, 11002, 11003, 11004]) (ad := [o66, z68, z69, z70]) (k0 := 0) (ci := 14) ck11_7 rfl rfl hM.2.2.2 rfl hP hD hS
  rw [← hu] at hl
  have hu0 := hu.trans hu0
  clear hu hP hD hS
  refine W.widen (k := 62) (n := 64487) (Nat.le_of_ble_eq_true rfl) (Nat.le_of_ble_eq_true rfl) ?_
  exact kk u _ _ ls hu0 hM hl
set_option maxHeartbeats 4000000 in
set_option maxRecDepth 100000 in
theorem hc11_2 {p : Program} {l : Launch} {e : Env} {s : State} {m : MethodId} {args : Array Value} {below : List Frame} {meth : Method} {c : Code} {Q : State → Prop} {A : Nat → Prop} {dC : Nat → ClassId} {dI : Nat → Nat → Nat} {q : Nat → ClassId} {z8 z0 zA z1 : ow_MS} {K : Nat} (hx : p.tables.exec = Jvm.exec) (hb : c.code = cX11_init) (hml : c.maxLocals = 1) (hown : s.vm.findClass RX11 = some m.cls) (hts : ∀ w ∈ wi11, w.before args s = true) (hin : meth.name = "<init>") (hA : ∀ q : Nat, s.heap.size ≤ q → A q) (hK : va_K (dC, dI) vwCl (uw_T q RX7) s) (hN_X11_26 : va_Nw (.methodLinkNest RX11 26 yX7_init "KnotHouse") s) (hN_X11_36 : va_Nw (.methodLinkNest RX11 36 yX4_init "KnotHouse") s) (hN_X11_43 : va_Nw (.methodLinkNest RX11 43 yX2_init "KnotHouse") s) (hN_X11_50 : va_Nw (.methodLinkNest RX11 50 yX9_init "KnotHouse") s) (hN_X11_57 : va_Nw (.methodLinkNest RX11 57 yX6_init "KnotHouse") s) (hN_X11_96 : va_Nw (.methodLinkNest RX11 96 yX5_init "KnotHouse") s) (hN_X11_106 : va_Nw (.methodLinkNest RX11 106 yX10_init "KnotHouse") s) (hN_X6_28 : va_Nw (.methodLinkNest RX6 28 yX7_init "KnotHouse") s) (hN_X6_38 : va_Nw (.methodLinkNest RX6 38 yX4_init "KnotHouse") s) (hN_X6_48 : va_Nw (.methodLinkNest RX6 48 yX2_init "KnotHouse") s) (hN_X8_44 : va_Nw (.methodLinkNest RX8 44 yX7_init "KnotHouse") s) (hN_X1_11 : va_Nw (.methodLinkNest RX1 11 yX7_init "KnotHouse") s) (hN_X10_20 : va_Nw (.methodLinkNest RX10 20 yX5_init "KnotHouse") s) (hOI : ow_AO .int s) (hOJ : ow_AO .long s) (hAO : va_AO RX7 s) (hq8 : ce_X8i_b8 K 24000 zeroS = some z8) (hq0 : ce_X0i_b0 K 41000 53001 zeroS = some z0) (hqA : ce_X1i_b1 K 43000 zeroS = some zA) (hqB : ce_X1j_b1b K 43000 53001 (usZ zA [53]) = some z1) (u : Nat → Nat) (H : Heap) (locs : List Loc) (ls : Array Slot) {a0 : Nat} (hu0 : u 0 = a0) (hM : al_M (dC, dI) vwCl xt11_8 q A s.heap u (Zc z8 z0 z1) H locs) (hl : lv_has ls 1 [(0, .ref (u 0))]) (kk : ∀ (u : Nat → Nat) (H : Heap) (locs : List Loc) (ls : Array Slot), u 0 = a0 → al_M (dC, dI) vwCl xt11_12 q A s.heap u (Zc z8 z0 z1) H locs → lv_has ls 1 [(0, .ref (u 0))] → W p l e RI11 s m args below meth c H locs 339 169395 Q (F0 m 143 ls [])) : W p l e RI11 s m args below meth c H locs 62 64487 Q (F0 m 99 ls []) := by
  refine lv_aload_n hx hb dX11_init_99 rfl (lv_at hl 0 rfl) ?_
  refine va_new (ci := 9) (fs := [.null, .null, .null, .null, .null, .null, .null, .null]) (C := RX6) (T := TX6) (N := 8) hx hb hts (fun w h => wi11_X6 w h) tyX6 tyX6_ok hown (hts (.classLink RX11 55 RX6) (wi11_L (by decide +kernel))) (hts (.instantiable RX6 8) (wi11_L (by decide +kernel))) (hts (.initialized RX6) (wi11_L (by decide +kernel))) hK hM.1 hM.2.1 hM.2.2.1 hA rfl (by decide +kernel) (Nat.le_of_ble_eq_true rfl) (Nat.le_of_ble_eq_true rfl) dX11_init_100 (fun o71 H hP hD hS => ?_)
  refine W.widen (k := 63) (n := 64495) (Nat.le_of_ble_eq_true rfl) (Nat.le_of_ble_eq_true rfl) ?_
  refine lv_dup hx hb dX11_init_103 rfl ?_
  have hPc := al_subP hP
  have hDc := al_subD hD
  have hFc := al_freeC hD hS hA
  refine va_callv (va_runIN (As := []) (rest := [.ref o71, .ref (u 0)]) ⟨hx, hb, hml, hown, hts⟩ (k_X6_init l dC dI (q 0) (q 1) (q 2) (q 3) o71 H.size) ⟨va_cnB (host := "KnotHouse") 0 hts gi11_X6_init_n57 rfl rfl rfl hN_X11_57 (hts (.initialized RX6) (wi11_L (by decide +kernel))) (by decide +kernel) ⟨(Nat.le_of_ble_eq_true rfl), (Nat.le_of_ble_eq_true rfl)⟩, rfl, hts (.instanceMethod yX6_init) (wi11_L (by decide +kernel))⟩ ⟨fun a U g mk q => by obtain ⟨q0, q1, qP, qK, qD, n0, n1, n2⟩ := q; exact ⟨q0, q1, qP, va_K.moved (u := U) (U := U.calling g mk a) (Vm.Alike.refl U.vm) qK, qD, va_Nw.same rfl rfl n0, va_Nw.same rfl rfl n1, va_Nw.same rfl rfl n2⟩, fun U hU hW => ⟨rfl, by rw [hU], by rw [hU]; exact hPc, va_K.moved hW.alike (hK.sub [0, 1, 2, 3] rfl), hDc.weaken (fun _ _ _ _ => trivial), va_Nw.warmM hW hN_X6_28, va_Nw.warmM hW hN_X6_38, va_Nw.warmM hW hN_X6_48⟩⟩ rfl rfl hl.1 rfl (lv_room (Nat.le_of_ble_eq_true rfl)) dX11_init_104 ⟨(Nat.le_of_ble_eq_true rfl), (Nat.le_of_ble_eq_true rfl)⟩) hS (fun q _ h => hFc q h) hFc (fun t72 t H1 locs ht hvm hw hB hz1 hk1 hS => ?_)
  obtain ⟨z73, z74, z75, z76, z77, z78, z79, z80, z81, z82, z83, z84, z85, z86, z87, z88, z89, z90, z91, z92, z93, z94, z95, z96, z97, z98, z99, z100, z101, z102, z103, z104, z105, z106, z107, z108, z109, z110, z111, z112, z113, z114, z115, z116, z117, z118, z119, z120, z121, z122, z123, z124, z125, z126, z127, z128, z129, z130, z131, z132, z133, z134, z135, z136, z137, z138⟩ := t72
  obtain ⟨hP1, hD1⟩ := hB
  rw [ht] at hP1
  obtain ⟨hP, hD⟩ := al_join hP hD hk1 hFc hP1 hD1
  clear hPc hDc hFc hvm hw hz1 hk1 hP1 hD1 ht
  refine W.widen (k := 129) (n := 107718) (Nat.le_of_ble_eq_true rfl) (Nat.le_of_ble_eq_true rfl) ?_
  refine va_putF (D := (dC, dI)) (ci := 14) (v := .ref o71) (ty := .object "KnotHouse$Mover") (C := RX11) (T := TX11) (N := 19) hx hb hts (fun w h => wi11_X11 w h) tyX11 tyX11_ok nmX11 hown hK hP hD hS 0 (al_heA (X := xt11_8) (o := 0) rfl rfl rfl) rfl 8 (by decide) (hts (.fieldLink RX11 58 "KnotHouse" "mover" "LKnotHouse$Mover;") (wi11_L (by decide +kernel))) (fun _ h9 => h9) rfl hin rfl (by decide +kernel) rfl rfl (by rw [List.length_map]; decide +kernel) dX11_init_107 (fun H locs hP hD hS => ?_)
  obtain ⟨u, hu, hM⟩ := al_ext (X := xt11_8) (X1 := xt11_9) (o := 0) (k := 8) (h := 12000) (Y := [12000, 13000, 13001, 13002, 13003, 13004, 14000, 14001, 14002, 14003, 14004, 15000, 15001, 15002, 15003, 15004, 16000, 16001, 16002, 16003, 16004, 16005, 16006, 16007, 17000, 17001, 17002, 17003, 17004, 17005, 17006, 17007, 18000, 18001, 18003, 18004, 18005, 18006, 18007, 18008, 19000, 19001, 19003, 19004, 19005, 19006, 19007, 19008, 20000, 21000, 21001, 21002, 21003, 21004, 22000, 22001, 22002, 22003, 22004, 23000, 23001, 23002, 23003, 23004, 20004, 20005, 20006]) (ad := [o71, z73, z74, z75, z76, z77, z78, z79, z80, z81, z82, z83, z84, z85, z86, z87, z88, z89, z90, z91, z92, z93, z94, z95, z96, z97, z98, z99, z100, z101, z102, z103, z104, z105, z106, z107, z108, z109, z110, z111, z112, z113, z114, z115, z116, z117, z118, z119, z120, z121, z122, z123, z124, z125, z126, z127, z128, z129, z130, z131, z132, z133, z134, z135, z136, z137, z138]) (k0 := 0) (ci := 14) ck11_8 rfl rfl hM.2.2.2 rfl hP hD hS
  rw [← hu] at hl
  have hu0 := hu.trans hu0
  clear hu hP hD hS
  refine W.widen (k := 129) (n := 107718) (Nat.le_of_ble_eq_true rfl) (Nat.le_of_ble_eq_true rfl) ?_
  refine lv_aload_n hx hb dX11_init_110 rfl (lv_at hl 0 rfl) ?_
  refine va_new (ci := 11) (fs := nul8) (C := RX8) (T := TX8) (N := 9) hx hb hts (fun w h => wi11_X8 w h) tyX8 tyX8_ok hown (hts (.classLink RX11 62 RX8) (wi11_L (by decide +kernel))) (hts (.instantiable RX8 9) (wi11_L (by decide +kernel))) (hts (.initialized RX8) (wi11_L (by decide +kernel))) hK hM.1 hM.2.1 hM.2.2.1 hA rfl (by decide +kernel) (Nat.le_of_ble_eq_true rfl) (Nat.le_of_ble_eq_true rfl) dX11_init_111 (fun o139 H hP hD hS => ?_)
  refine W.widen (k := 130) (n := 107727) (Nat.le_of_ble_eq_true rfl) (Nat.le_of_ble_eq_true rfl) ?_
  refine lv_dup hx hb dX11_init_114 rfl ?_
  have hPc := al_subP hP
  have hDc := al_subD hD
  have hFc := al_freeC hD hS hA
  refine va_callv (va_runI (As := []) (rest := [.ref o139, .ref (u 0)]) ⟨hx, hb, hml, hown, hts⟩ (kh_X8_init l dC dI q o139 H.size K z8 hq8) (cwI 0 hts gi11_X8_init rfl rfl rfl (hts (.initialized RX8) (wi11_L (by decide +kernel))) (hts (.methodLink RX11 64 yX8_init) (wi11_L (by decide +kernel))) (hts (.instanceMethod yX8_init) (wi11_L (by decide +kernel))) rfl (by decide +kernel) ⟨(Nat.le_of_ble_eq_true rfl), (Nat.le_of_ble_eq_true rfl)⟩) ⟨fun a U g mk q => by obtain ⟨q0, q1, qP, qK, qD, n0, n1, n2⟩ := q; exact ⟨q0, q1, qP, va_K.moved (u := U) (U := U.calling g mk a) (Vm.Alike.refl U.vm) qK, qD, va_Nw.same rfl rfl n0, va_AO.moved (u := U) (U := U.calling g mk a) (Vm.Alike.refl U.vm) n1, ow_AO.moved (u := U) (U := U.calling g mk a) (Vm.Alike.refl U.vm) n2⟩, fun U hU hW => ⟨rfl, by rw [hU], by rw [hU]; exact hPc, va_K.moved hW.alike hK, hDc.weaken (fun _ _ _ _ => trivial), va_Nw.warmM hW hN_X8_44, va_AO.moved hW.alike hAO, ow_AO.moved hW.alike hOI⟩⟩ rfl rfl hl.1 rfl (lv_room (Nat.le_of_ble_eq_true rfl)) dX11_init_115 ⟨(Nat.le_of_ble_eq_true rfl), (Nat.le_of_ble_eq_true rfl)⟩) hS (fun q _ h => hFc q h) hFc (fun t140 t H1 locs ht hvm hw hB hz1 hk1 hS => ?_)
  obtain ⟨hu9, hP1, hD1⟩ := hB
  rw [ht] at hP1
  obtain ⟨hP, hD⟩ := al_join hP hD hk1 hFc hP1 hD1
  clear hPc hDc hFc hvm hw hz1 hk1 hP1 hD1 ht
  refine W.widen (k := 277) (n := 116411) (Nat.le_of_ble_eq_true rfl) (Nat.le_of_ble_eq_true rfl) ?_
  refine va_putF (D := (dC, dI)) (ci := 14) (v := .ref o139) (ty := .object "KnotHouse$Polynomials") (C := RX11) (T := TX11) (N := 19) hx hb hts (fun w h => wi11_X11 w h) tyX11 tyX11_ok nmX11 hown hK hP hD hS 0 (al_heA (X := xt11_9) (o := 0) rfl rfl rfl) rfl 9 (by decide) (hts (.fieldLink RX11 65 "KnotHouse" "polynomials" "LKnotHouse$Polynomials;") (wi11_L (by decide +kernel))) (fun _ h9 => h9) rfl hin rfl (by decide +kernel) rfl rfl (by rw [List.length_map]; decide +kernel) dX11_init_118 (fun H locs hP hD hS => ?_)
  subst hu9
  obtain ⟨u, hu, hM⟩ := al_extM (X := xt11_9) (X1 := xt11_10) (Y := cT8) (o := 0) (k := 9) (h := 24000) (ci := 14) (u2 := t140) (z2 := z8) (bl := bl8) ck11_9 rfl rfl hM.2.2.2 (Zc_8 z8 z0 z1) hP hD hS
  rw [← hu] at hl
  have hu0 := hu.trans hu0
  clear hu hP hD hS
  refine W.widen (k := 277) (n := 116411) (Nat.le_of_ble_eq_true rfl) (Nat.le_of_ble_eq_true rfl) ?_
  refine lv_aload_n hx hb dX11_init_121 rfl (lv_at hl 0 rfl) ?_
  refine va_new (ci := 3) (fs := nul0) (C := RX0) (T := TX0) (N := 16) hx hb hts (fun w h => wi11_X0 w h) tyX0 tyX0_ok hown (hts (.classLink RX11 69 RX0) (wi11_L (by decide +kernel))) (hts (.instantiable RX0 16) (wi11_L (by decide +kernel))) (hts (.initialized RX0) (wi11_L (by decide +kernel))) hK hM.1 hM.2.1 hM.2.2.1 hA rfl (by decide +kernel) (Nat.le_of_ble_eq_true rfl) (Nat.le_of_ble_eq_true rfl) dX11_init_122 (fun o141 H hP hD hS => ?_)
  refine W.widen (k := 278) (n := 116427) (Nat.le_of_ble_eq_true rfl) (Nat.le_of_ble_eq_true rfl) ?_
  refine lv_dup hx hb dX11_init_125 rfl ?_
  have hPc := al_subP hP
  have hDc := al_subD hD
  have hFc := al_freeC hD hS hA
  refine va_callv (va_runI (As := []) (rest := [.ref o141, .ref (u 0)]) ⟨hx, hb, hml, hown, hts⟩ (kh_X0_init l dC dI q o141 H.size K z0 hq0) (cwI 0 hts gi11_X0_init rfl rfl rfl (hts (.initialized RX0) (wi11_L (by decide +kernel))) (hts (.methodLink RX11 71 yX0_init) (wi11_L (by decide +kernel))) (hts (.instanceMethod yX0_init) (wi11_L (by decide +kernel))) rfl (by decide +kernel) ⟨(Nat.le_of_ble_eq_true rfl), (Nat.le_of_ble_eq_true rfl)⟩) ⟨fun a U g mk q => by obtain ⟨q0, q1, qP, qK, qD, n0⟩ := q; exact ⟨q0, q1, qP, va_K.moved (u := U) (U := U.calling g mk a) (Vm.Alike.refl U.vm) qK, qD, ow_AO.moved (u := U) (U := U.calling g mk a) (Vm.Alike.refl U.vm) n0⟩, fun U hU hW => ⟨rfl, by rw [hU], by rw [hU]; exact hPc, va_K.moved hW.alike hK, hDc.weaken (fun _ _ _ _ => trivial), ow_AO.moved hW.alike hOJ⟩⟩ rfl rfl hl.1 rfl (lv_room (Nat.le_of_ble_eq_true rfl)) dX11_init_126 ⟨(Nat.le_of_ble_eq_true rfl), (Nat.le_of_ble_eq_true rfl)⟩) hS (fun q _ h => hFc q h) hFc (fun t142 t H1 locs ht hvm hw hB hz1 hk1 hS => ?_)
  obtain ⟨hu9, hP1, hD1⟩ := hB
  rw [ht] at hP1
  obtain ⟨hP, hD⟩ := al_join hP hD hk1 hFc hP1 hD1
  clear hPc hDc hFc hvm hw hz1 hk1 hP1 hD1 ht
  refine W.widen (k := 303) (n := 117543) (Nat.le_of_ble_eq_true rfl) (Nat.le_of_ble_eq_true rfl) ?_
  refine va_putF (D := (dC, dI)) (ci := 14) (v := .ref o141) (ty := .object "KnotHouse$Arcs") (C := RX11) (T := TX11) (N := 19) hx hb hts (fun w h => wi11_X11 w h) tyX11 tyX11_ok nmX11 hown hK hP hD hS 0 (al_heA (X := xt11_10) (o := 0) rfl rfl rfl) rfl 10 (by decide) (hts (.fieldLink RX11 72 "KnotHouse" "arcs" "LKnotHouse$Arcs;") (wi11_L (by decide +kernel))) (fun _ h9 => h9) rfl hin rfl (by decide +kernel) rfl rfl (by rw [List.length_map]; decide +kernel) dX11_init_129 (fun H locs hP hD hS => ?_)
  subst hu9
  obtain ⟨u, hu, hM⟩ := al_extM (X := xt11_10) (X1 := xt11_11) (Y := cT0n) (o := 0) (k := 10) (h := 41000) (ci := 14) (u2 := t142) (z2 := z0) (bl := bl0) ck11_10 rfl rfl hM.2.2.2 (Zc_0 z8 z0 z1) hP hD hS
  rw [← hu] at hl
  have hu0 := hu.trans hu0
  clear hu hP hD hS
  refine W.widen (k := 303) (n := 117543) (Nat.le_of_ble_eq_true rfl) (Nat.le_of_ble_eq_true rfl) ?_
  refine lv_aload_n hx hb dX11_init_132 rfl (lv_at hl 0 rfl) ?_
  refine va_new (ci := 4) (fs := nul1) (C := RX1) (T := TX1) (N := 20) hx hb hts (fun w h => wi11_X1 w h) tyX1 tyX1_ok hown (hts (.classLink RX11 76 RX1) (wi11_L (by decide +kernel))) (hts (.instantiable RX1 20) (wi11_L (by decide +kernel))) (hts (.initialized RX1) (wi11_L (by decide +kernel))) hK hM.1 hM.2.1 hM.2.2.1 hA rfl (by decide +kernel) (Nat.le_of_ble_eq_true rfl) (Nat.le_of_ble_eq_true rfl) dX11_init_133 (fun o143 H hP hD hS => ?_)
  refine W.widen (k := 304) (n := 117563) (Nat.le_of_ble_eq_true rfl) (Nat.le_of_ble_eq_true rfl) ?_
  refine lv_dup hx hb dX11_init_136 rfl ?_
  have hPc := al_subP hP
  have hDc := al_subD hD
  have hFc := al_freeC hD hS hA
  refine va_callv (va_runI (As := []) (rest := [.ref o143, .ref (u 0)]) ⟨hx, hb, hml, hown, hts⟩ (kh_X1_init l dC dI q o143 H.size K zA z1 hqA hqB) (cwI 0 hts gi11_X1_init rfl rfl rfl (hts (.initialized RX1) (wi11_L (by decide +kernel))) (hts (.methodLink RX11 78 yX1_init) (wi11_L (by decide +kernel))) (hts (.instanceMethod yX1_init) (wi11_L (by decide +kernel))) rfl (by decide +kernel) ⟨(Nat.le_of_ble_eq_true rfl), (Nat.le_of_ble_eq_true rfl)⟩) ⟨fun a U g mk q => by obtain ⟨q0, q1, qP, qK, qD, n0, n1⟩ := q; exact ⟨q0, q1, qP, va_K.moved (u := U) (U := U.calling g mk a) (Vm.Alike.refl U.vm) qK, qD, va_Nw.same rfl rfl n0, ow_AO.moved (u := U) (U := U.calling g mk a) (Vm.Alike.refl U.vm) n1⟩, fun U hU hW => ⟨rfl, by rw [hU], by rw [hU]; exact hPc, va_K.moved hW.alike hK, hDc.weaken (fun _ _ _ _ => trivial), va_Nw.warmM hW hN_X1_11, ow_AO.moved hW.alike hOI⟩⟩ rfl rfl hl.1 rfl (lv_room (Nat.le_of_ble_eq_true rfl)) dX11_init_137 ⟨(Nat.le_of_ble_eq_true rfl), (Nat.le_of_ble_eq_true rfl)⟩) hS (fun q _ h => hFc q h) hFc (fun t144 t H1 locs ht hvm hw hB hz1 hk1 hS => ?_)
  obtain ⟨hu9, hP1, hD1⟩ := hB
  rw [ht] at hP1
  obtain ⟨hP, hD⟩ := al_join hP hD hk1 hFc hP1 hD1
  clear hPc hDc hFc hvm hw hz1 hk1 hP1 hD1 ht
  refine W.widen (k := 339) (n := 169395) (Nat.le_of_ble_eq_true rfl) (Nat.le_of_ble_eq_true rfl) ?_
  refine va_putF (D := (dC, dI)) (ci := 14) (v := .ref o143) (ty := .object "KnotHouse$Chains") (C := RX11) (T := TX11) (N := 19) hx hb hts (fun w h => wi11_X11 w h) tyX11 tyX11_ok nmX11 hown hK hP hD hS 0 (al_heA (X := xt11_11) (o := 0) rfl rfl rfl) rfl 11 (by decide) (hts (.fieldLink RX11 79 "KnotHouse" "chains" "LKnotHouse$Chains;") (wi11_L (by decide +kernel))) (fun _ h9 => h9) rfl hin rfl (by decide +kernel) rfl rfl (by rw [List.length_map]; decide +kernel) dX11_init_140 (fun H locs hP hD hS => ?_)
  subst hu9
  obtain ⟨u, hu, hM⟩ := al_extM (X := xt11_11) (X1 := xt11_12) (Y := cT1) (o := 0) (k := 11) (h := 43000) (ci := 14) (u2 := t144) (z2 := z1) (bl := bl1) ck11_11 rfl rfl hM.2.2.2 (Zc_1 z8 z0 z1) hP hD hS
  rw [← hu] at hl
  have hu0 := hu.trans hu0
  clear hu hP hD hS
  refine W.widen (k := 339) (n := 169395) (Nat.le_of_ble_eq_true rfl) (Nat.le_of_ble_eq_true rfl) ?_
  exact kk u _ _ ls hu0 hM hl
set_option maxHeartbeats 4000000 in
set_option maxRecDepth 100000 in
theorem hc11_3 {p : Program} {l : Launch} {e : Env} {s : State} {m : MethodId} {args : Array Value} {below : List Frame} {meth : Method} {c : Code} {Q : State → Prop} {A : Nat → Prop} {dC : Nat → ClassId} {dI : Nat → Nat → Nat} {q : Nat → ClassId} {z8 z0 zA z1 : ow_MS} {K : Nat} (hx : p.tables.exec = Jvm.exec) (hb : c.code = cX11_init) (hml : c.maxLocals = 1) (hown : s.vm.findClass RX11 = some m.cls) (hts : ∀ w ∈ wi11, w.before args s = true) (hin : meth.name = "<init>") (hA : ∀ q : Nat, s.heap.size ≤ q → A q) (hK : va_K (dC, dI) vwCl (uw_T q RX7) s) (hN_X11_26 : va_Nw (.methodLinkNest RX11 26 yX7_init "KnotHouse") s) (hN_X11_36 : va_Nw (.methodLinkNest RX11 36 yX4_init "KnotHouse") s) (hN_X11_43 : va_Nw (.methodLinkNest RX11 43 yX2_init "KnotHouse") s) (hN_X11_50 : va_Nw (.methodLinkNest RX11 50 yX9_init "KnotHouse") s) (hN_X11_57 : va_Nw (.methodLinkNest RX11 57 yX6_init "KnotHouse") s) (hN_X11_96 : va_Nw (.methodLinkNest RX11 96 yX5_init "KnotHouse") s) (hN_X11_106 : va_Nw (.methodLinkNest RX11 106 yX10_init "KnotHouse") s) (hN_X6_28 : va_Nw (.methodLinkNest RX6 28 yX7_init "KnotHouse") s) (hN_X6_38 : va_Nw (.methodLinkNest RX6 38 yX4_init "KnotHouse") s) (hN_X6_48 : va_Nw (.methodLinkNest RX6 48 yX2_init "KnotHouse") s) (hN_X8_44 : va_Nw (.methodLinkNest RX8 44 yX7_init "KnotHouse") s) (hN_X1_11 : va_Nw (.methodLinkNest RX1 11 yX7_init "KnotHouse") s) (hN_X10_20 : va_Nw (.methodLinkNest RX10 20 yX5_init "KnotHouse") s) (hOI : ow_AO .int s) (hOJ : ow_AO .long s) (hAO : va_AO RX7 s) (hq8 : ce_X8i_b8 K 24000 zeroS = some z8) (hq0 : ce_X0i_b0 K 41000 53001 zeroS = some z0) (hqA : ce_X1i_b1 K 43000 zeroS = some zA) (hqB : ce_X1j_b1b K 43000 53001 (usZ zA [53]) = some z1) (u : Nat → Nat) (H : Heap) (locs : List Loc) (ls : Array Slot) {a0 : Nat} (hu0 : u 0 = a0) (hM : al_M (dC, dI) vwCl xt11_12 q A s.heap u (Zc z8 z0 z1) H locs) (hl : lv_has ls 1 [(0, .ref (u 0))]) (kk : ∀ (u : Nat → Nat) (H : Heap) (locs : List Loc) (ls : Array Slot), u 0 = a0 → al_M (dC, dI) vwCl xt11_16 q A s.heap u (Zc z8 z0 z1) H locs → lv_has ls 1 [(0, .ref (u 0))] → W p l e RI11 s m args below meth c H locs 344 169785 Q (F0 m 179 ls [])) : W p l e RI11 s m args below meth c H locs 339 169395 Q (F0 m 143 ls []) := by
  refine lv_aload_n hx hb dX11_init_143 rfl (lv_at hl 0 rfl) ?_
  refine lv_sipush (v := 320) hx hb dX11_init_144 (by decide) ?_
  refine ow_newa (D := (dC, dI)) (N' := 320) (a0 := (320, .inl (fun _ => 0))) (ty := .byte) hx hb (hts (.arrayClass .byte) (wi11_L (by decide +kernel))) rfl hK hM.1 hM.2.1 hM.2.2.1 hA 1 rfl (fun _ h => h) (fun _ => rfl) (by decide) (by decide) (by decide) (Nat.le_of_ble_eq_true rfl) (Nat.le_of_ble_eq_true rfl) dX11_init_147 (fun q145 H hP hD hS => ?_)
  refine W.widen (k := 340) (n := 169715) (Nat.le_of_ble_eq_true rfl) (Nat.le_of_ble_eq_true rfl) ?_
  refine va_putF (D := (dC, dI)) (ci := 14) (v := .ref q145) (ty := .array .byte) (C := RX11) (T := TX11) (N := 19) hx hb hts (fun w h => wi11_X11 w h) tyX11 tyX11_ok nmX11 hown hK hP hD hS 0 (al_heA (X := xt11_12) (o := 0) rfl rfl rfl) rfl 12 (by decide) (hts (.fieldLink RX11 83 "KnotHouse" "letters" "[B") (wi11_L (by decide +kernel))) (fun _ h9 => h9) rfl hin rfl (by decide +kernel) rfl rfl (by rw [List.length_map]; decide +kernel) dX11_init_149 (fun H locs hP hD hS => ?_)
  obtain ⟨u, hu, hM⟩ := al_ext (X := xt11_12) (X1 := xt11_13) (o := 0) (k := 12) (h := 13) (Y := [13]) (ad := [q145]) (k0 := 0) (ci := 14) ck11_12 rfl rfl hM.2.2.2 rfl hP hD hS
  rw [← hu] at hl
  have hu0 := hu.trans hu0
  clear hu hP hD hS
  refine W.widen (k := 340) (n := 169715) (Nat.le_of_ble_eq_true rfl) (Nat.le_of_ble_eq_true rfl) ?_
  refine lv_aload_n hx hb dX11_init_152 rfl (lv_at hl 0 rfl) ?_
  refine lv_bipush (v := 20) hx hb dX11_init_153 (by decide) ?_
  refine ow_newa (D := (dC, dI)) (N' := 20) (a0 := (20, .inl (fun _ => 0))) (ty := .int) hx hb (hts (.arrayClass .int) (wi11_L (by decide +kernel))) rfl hK hM.1 hM.2.1 hM.2.2.1 hA 0 rfl (fun _ h => h) (fun _ => rfl) (by decide) (by decide) (by decide) (Nat.le_of_ble_eq_true rfl) (Nat.le_of_ble_eq_true rfl) dX11_init_155 (fun q146 H hP hD hS => ?_)
  refine W.widen (k := 341) (n := 169735) (Nat.le_of_ble_eq_true rfl) (Nat.le_of_ble_eq_true rfl) ?_
  refine va_putF (D := (dC, dI)) (ci := 14) (v := .ref q146) (ty := .array .int) (C := RX11) (T := TX11) (N := 19) hx hb hts (fun w h => wi11_X11 w h) tyX11 tyX11_ok nmX11 hown hK hP hD hS 0 (al_heA (X := xt11_13) (o := 0) rfl rfl rfl) rfl 13 (by decide) (hts (.fieldLink RX11 87 "KnotHouse" "lengths" "[I") (wi11_L (by decide +kernel))) (fun _ h9 => h9) rfl hin rfl (by decide +kernel) rfl rfl (by rw [List.length_map]; decide +kernel) dX11_init_157 (fun H locs hP hD hS => ?_)
  obtain ⟨u, hu, hM⟩ := al_ext (X := xt11_13) (X1 := xt11_14) (o := 0) (k := 13) (h := 14) (Y := [14]) (ad := [q146]) (k0 := 0) (ci := 14) ck11_13 rfl rfl hM.2.2.2 rfl hP hD hS
  rw [← hu] at hl
  have hu0 := hu.trans hu0
  clear hu hP hD hS
  refine W.widen (k := 341) (n := 169735) (Nat.le_of_ble_eq_true rfl) (Nat.le_of_ble_eq_true rfl) ?_
  refine lv_aload_n hx hb dX11_init_160 rfl (lv_at hl 0 rfl) ?_
  refine lv_bipush (v := 20) hx hb dX11_init_161 (by decide) ?_
  refine ow_newa (D := (dC, dI)) (N' := 20) (a0 := (20, .inl (fun _ => 0))) (ty := .int) hx hb (hts (.arrayClass .int) (wi11_L (by decide +kernel))) rfl hK hM.1 hM.2.1 hM.2.2.1 hA 0 rfl (fun _ h => h) (fun _ => rfl) (by decide) (by decide) (by decide) (Nat.le_of_ble_eq_true rfl) (Nat.le_of_ble_eq_true rfl) dX11_init_163 (fun q147 H hP hD hS => ?_)
  refine W.widen (k := 342) (n := 169755) (Nat.le_of_ble_eq_true rfl) (Nat.le_of_ble_eq_true rfl) ?_
  refine va_putF (D := (dC, dI)) (ci := 14) (v := .ref q147) (ty := .array .int) (C := RX11) (T := TX11) (N := 19) hx hb hts (fun w h => wi11_X11 w h) tyX11 tyX11_ok nmX11 hown hK hP hD hS 0 (al_heA (X := xt11_14) (o := 0) rfl rfl rfl) rfl 14 (by decide) (hts (.fieldLink RX11 91 "KnotHouse" "strands" "[I") (wi11_L (by decide +kernel))) (fun _ h9 => h9) rfl hin rfl (by decide +kernel) rfl rfl (by rw [List.length_map]; decide +kernel) dX11_init_165 (fun H locs hP hD hS => ?_)
  obtain ⟨u, hu, hM⟩ := al_ext (X := xt11_14) (X1 := xt11_15) (o := 0) (k := 14) (h := 15) (Y := [15]) (ad := [q147]) (k0 := 0) (ci := 14) ck11_14 rfl rfl hM.2.2.2 rfl hP hD hS
  rw [← hu] at hl
  have hu0 := hu.trans hu0
  clear hu hP hD hS
  refine W.widen (k := 342) (n := 169755) (Nat.le_of_ble_eq_true rfl) (Nat.le_of_ble_eq_true rfl) ?_
  refine lv_aload_n hx hb dX11_init_168 rfl (lv_at hl 0 rfl) ?_
  refine va_new (ci := 8) (fs := [.int 0, .int 0, .int 0, .null, .int 0, .int 0]) (C := RX5) (T := TX5) (N := 6) hx hb hts (fun w h => wi11_X5 w h) tyX5 tyX5_ok hown (hts (.classLink RX11 94 RX5) (wi11_L (by decide +kernel))) (hts (.instantiable RX5 6) (wi11_L (by decide +kernel))) (hts (.initialized RX5) (wi11_L (by decide +kernel))) hK hM.1 hM.2.1 hM.2.2.1 hA rfl (by decide +kernel) (Nat.le_of_ble_eq_true rfl) (Nat.le_of_ble_eq_true rfl) dX11_init_169 (fun o148 H hP hD hS => ?_)
  refine W.widen (k := 343) (n := 169761) (Nat.le_of_ble_eq_true rfl) (Nat.le_of_ble_eq_true rfl) ?_
  refine lv_dup hx hb dX11_init_172 rfl ?_
  have hPc := al_subP hP
  have hDc := al_subD hD
  have hFc := al_freeC hD hS hA
  refine va_callv (va_runIN (As := []) (rest := [.ref o148, .ref (u 0)]) ⟨hx, hb, hml, hown, hts⟩ (k_X5_init l dC dI (q 0) (q 1) (q 2) (q 3) o148 H.size) ⟨va_cnB (host := "KnotHouse") 0 hts gi11_X5_init_n96 rfl rfl rfl hN_X11_96 (hts (.initialized RX5) (wi11_L (by decide +kernel))) (by decide +kernel) ⟨(Nat.le_of_ble_eq_true rfl), (Nat.le_of_ble_eq_true rfl)⟩, rfl, hts (.instanceMethod yX5_init) (wi11_L (by decide +kernel))⟩ ⟨fun a U g mk q => by obtain ⟨q0, q1, qP, qK, qD⟩ := q; exact ⟨q0, q1, qP, va_K.moved (u := U) (U := U.calling g mk a) (Vm.Alike.refl U.vm) qK, qD⟩, fun U hU hW => ⟨rfl, by rw [hU], by rw [hU]; exact hPc, va_K.moved hW.alike (hK.sub [0, 1, 2, 3] rfl), hDc.weaken (fun _ _ _ _ => trivial)⟩⟩ rfl rfl hl.1 rfl (lv_room (Nat.le_of_ble_eq_true rfl)) dX11_init_173 ⟨(Nat.le_of_ble_eq_true rfl), (Nat.le_of_ble_eq_true rfl)⟩) hS (fun q _ h => hFc q h) hFc (fun t149 t H1 locs ht hvm hw hB hz1 hk1 hS => ?_)
  obtain ⟨hP1, hD1⟩ := hB
  rw [ht] at hP1
  obtain ⟨hP, hD⟩ := al_join hP hD hk1 hFc hP1 hD1
  clear hPc hDc hFc hvm hw hz1 hk1 hP1 hD1 ht
  refine W.widen (k := 344) (n := 169785) (Nat.le_of_ble_eq_true rfl) (Nat.le_of_ble_eq_true rfl) ?_
  refine va_putF (D := (dC, dI)) (ci := 14) (v := .ref o148) (ty := .object "KnotHouse$Form") (C := RX11) (T := TX11) (N := 19) hx hb hts (fun w h => wi11_X11 w h) tyX11 tyX11_ok nmX11 hown hK hP hD hS 0 (al_heA (X := xt11_15) (o := 0) rfl rfl rfl) rfl 15 (by decide) (hts (.fieldLink RX11 97 "KnotHouse" "form" "LKnotHouse$Form;") (wi11_L (by decide +kernel))) (fun _ h9 => h9) rfl hin rfl (by decide +kernel) rfl rfl (by rw [List.length_map]; decide +kernel) dX11_init_176 (fun H locs hP hD hS => ?_)
  obtain ⟨u, hu, hM⟩ := al_ext (X := xt11_15) (X1 := xt11_16) (o := 0) (k := 15) (h := 46000) (Y := [46000, 46004]) (ad := [o148, t149]) (k0 := 0) (ci := 14) ck11_15 rfl rfl hM.2.2.2 rfl hP hD hS
  rw [← hu] at hl
  have hu0 := hu.trans hu0
  clear hu hP hD hS
  refine W.widen (k := 344) (n := 169785) (Nat.le_of_ble_eq_true rfl) (Nat.le_of_ble_eq_true rfl) ?_
  exact kk u _ _ ls hu0 hM hl
set_option maxHeartbeats 4000000 in
set_option maxRecDepth 100000 in
theorem hc11_4 {p : Program} {l : Launch} {e : Env} {s : State} {m : MethodId} {args : Array Value} {below : List Frame} {meth : Method} {c : Code} {Q : State → Prop} {A : Nat → Prop} {dC : Nat → ClassId} {dI : Nat → Nat → Nat} {q : Nat → ClassId} {z8 z0 zA z1 : ow_MS} {K : Nat} (hx : p.tables.exec = Jvm.exec) (hb : c.code = cX11_init) (hml : c.maxLocals = 1) (hown : s.vm.findClass RX11 = some m.cls) (hts : ∀ w ∈ wi11, w.before args s = true) (hin : meth.name = "<init>") (hA : ∀ q : Nat, s.heap.size ≤ q → A q) (hK : va_K (dC, dI) vwCl (uw_T q RX7) s) (hN_X11_26 : va_Nw (.methodLinkNest RX11 26 yX7_init "KnotHouse") s) (hN_X11_36 : va_Nw (.methodLinkNest RX11 36 yX4_init "KnotHouse") s) (hN_X11_43 : va_Nw (.methodLinkNest RX11 43 yX2_init "KnotHouse") s) (hN_X11_50 : va_Nw (.methodLinkNest RX11 50 yX9_init "KnotHouse") s) (hN_X11_57 : va_Nw (.methodLinkNest RX11 57 yX6_init "KnotHouse") s) (hN_X11_96 : va_Nw (.methodLinkNest RX11 96 yX5_init "KnotHouse") s) (hN_X11_106 : va_Nw (.methodLinkNest RX11 106 yX10_init "KnotHouse") s) (hN_X6_28 : va_Nw (.methodLinkNest RX6 28 yX7_init "KnotHouse") s) (hN_X6_38 : va_Nw (.methodLinkNest RX6 38 yX4_init "KnotHouse") s) (hN_X6_48 : va_Nw (.methodLinkNest RX6 48 yX2_init "KnotHouse") s) (hN_X8_44 : va_Nw (.methodLinkNest RX8 44 yX7_init "KnotHouse") s) (hN_X1_11 : va_Nw (.methodLinkNest RX1 11 yX7_init "KnotHouse") s) (hN_X10_20 : va_Nw (.methodLinkNest RX10 20 yX5_init "KnotHouse") s) (hOI : ow_AO .int s) (hOJ : ow_AO .long s) (hAO : va_AO RX7 s) (hq8 : ce_X8i_b8 K 24000 zeroS = some z8) (hq0 : ce_X0i_b0 K 41000 53001 zeroS = some z0) (hqA : ce_X1i_b1 K 43000 zeroS = some zA) (hqB : ce_X1j_b1b K 43000 53001 (usZ zA [53]) = some z1) (u : Nat → Nat) (H : Heap) (locs : List Loc) (ls : Array Slot) {a0 : Nat} (hu0 : u 0 = a0) (hM : al_M (dC, dI) vwCl xt11_16 q A s.heap u (Zc z8 z0 z1) H locs) (hl : lv_has ls 1 [(0, .ref (u 0))]) (kk : ∀ (u : Nat → Nat) (H : Heap) (locs : List Loc) (ls : Array Slot), u 0 = a0 → al_M (dC, dI) vwCl xt11_19 q A s.heap u (Zc z8 z0 z1) H locs → lv_has ls 1 [(0, .ref (u 0))] → W p l e RI11 s m args below meth c H locs 362 178483 Q (F0 m 212 ls [])) : W p l e RI11 s m args below meth c H locs 344 169785 Q (F0 m 179 ls []) := by
  refine lv_aload_n hx hb dX11_init_179 rfl (lv_at hl 0 rfl) ?_
  refine va_new (ci := 8) (fs := [.int 0, .int 0, .int 0, .null, .int 0, .int 0]) (C := RX5) (T := TX5) (N := 6) hx hb hts (fun w h => wi11_X5 w h) tyX5 tyX5_ok hown (hts (.classLink RX11 94 RX5) (wi11_L (by decide +kernel))) (hts (.instantiable RX5 6) (wi11_L (by decide +kernel))) (hts (.initialized RX5) (wi11_L (by decide +kernel))) hK hM.1 hM.2.1 hM.2.2.1 hA rfl (by decide +kernel) (Nat.le_of_ble_eq_true rfl) (Nat.le_of_ble_eq_true rfl) dX11_init_180 (fun o151 H hP hD hS => ?_)
  refine W.widen (k := 345) (n := 169791) (Nat.le_of_ble_eq_true rfl) (Nat.le_of_ble_eq_true rfl) ?_
  refine lv_dup hx hb dX11_init_183 rfl ?_
  have hPc := al_subP hP
  have hDc := al_subD hD
  have hFc := al_freeC hD hS hA
  refine va_callv (va_runIN (As := []) (rest := [.ref o151, .ref (u 0)]) ⟨hx, hb, hml, hown, hts⟩ (k_X5_init l dC dI (q 0) (q 1) (q 2) (q 3) o151 H.size) ⟨va_cnB (host := "KnotHouse") 0 hts gi11_X5_init_n96 rfl rfl rfl hN_X11_96 (hts (.initialized RX5) (wi11_L (by decide +kernel))) (by decide +kernel) ⟨(Nat.le_of_ble_eq_true rfl), (Nat.le_of_ble_eq_true rfl)⟩, rfl, hts (.instanceMethod yX5_init) (wi11_L (by decide +kernel))⟩ ⟨fun a U g mk q => by obtain ⟨q0, q1, qP, qK, qD⟩ := q; exact ⟨q0, q1, qP, va_K.moved (u := U) (U := U.calling g mk a) (Vm.Alike.refl U.vm) qK, qD⟩, fun U hU hW => ⟨rfl, by rw [hU], by rw [hU]; exact hPc, va_K.moved hW.alike (hK.sub [0, 1, 2, 3] rfl), hDc.weaken (fun _ _ _ _ => trivial)⟩⟩ rfl rfl hl.1 rfl (lv_room (Nat.le_of_ble_eq_true rfl)) dX11_init_184 ⟨(Nat.le_of_ble_eq_true rfl), (Nat.le_of_ble_eq_true rfl)⟩) hS (fun q _ h => hFc q h) hFc (fun t152 t H1 locs ht hvm hw hB hz1 hk1 hS => ?_)
  obtain ⟨hP1, hD1⟩ := hB
  rw [ht] at hP1
  obtain ⟨hP, hD⟩ := al_join hP hD hk1 hFc hP1 hD1
  clear hPc hDc hFc hvm hw hz1 hk1 hP1 hD1 ht
  refine W.widen (k := 346) (n := 169815) (Nat.le_of_ble_eq_true rfl) (Nat.le_of_ble_eq_true rfl) ?_
  refine va_putF (D := (dC, dI)) (ci := 14) (v := .ref o151) (ty := .object "KnotHouse$Form") (C := RX11) (T := TX11) (N := 19) hx hb hts (fun w h => wi11_X11 w h) tyX11 tyX11_ok nmX11 hown hK hP hD hS 0 (al_heA (X := xt11_16) (o := 0) rfl rfl rfl) rfl 16 (by decide) (hts (.fieldLink RX11 101 "KnotHouse" "otherForm" "LKnotHouse$Form;") (wi11_L (by decide +kernel))) (fun _ h9 => h9) rfl hin rfl (by decide +kernel) rfl rfl (by rw [List.length_map]; decide +kernel) dX11_init_187 (fun H locs hP hD hS => ?_)
  obtain ⟨u, hu, hM⟩ := al_ext (X := xt11_16) (X1 := xt11_17) (o := 0) (k := 16) (h := 47000) (Y := [47000, 47004]) (ad := [o151, t152]) (k0 := 0) (ci := 14) ck11_16 rfl rfl hM.2.2.2 rfl hP hD hS
  rw [← hu] at hl
  have hu0 := hu.trans hu0
  clear hu hP hD hS
  refine W.widen (k := 346) (n := 169815) (Nat.le_of_ble_eq_true rfl) (Nat.le_of_ble_eq_true rfl) ?_
  refine lv_aload_n hx hb dX11_init_190 rfl (lv_at hl 0 rfl) ?_
  refine va_new (ci := 13) (fs := [.int 0, .int 0, .int 0, .int 0, .null, .null, .null, .null, .null, .null, .int 0]) (C := RX10) (T := TX10) (N := 11) hx hb hts (fun w h => wi11_X10 w h) tyX10 tyX10_ok hown (hts (.classLink RX11 104 RX10) (wi11_L (by decide +kernel))) (hts (.instantiable RX10 11) (wi11_L (by decide +kernel))) (hts (.initialized RX10) (wi11_L (by decide +kernel))) hK hM.1 hM.2.1 hM.2.2.1 hA rfl (by decide +kernel) (Nat.le_of_ble_eq_true rfl) (Nat.le_of_ble_eq_true rfl) dX11_init_191 (fun o154 H hP hD hS => ?_)
  refine W.widen (k := 347) (n := 169826) (Nat.le_of_ble_eq_true rfl) (Nat.le_of_ble_eq_true rfl) ?_
  refine lv_dup hx hb dX11_init_194 rfl ?_
  have hPc := al_subP hP
  have hDc := al_subD hD
  have hFc := al_freeC hD hS hA
  refine va_callv (va_runIN (As := []) (rest := [.ref o154, .ref (u 0)]) ⟨hx, hb, hml, hown, hts⟩ (k_X10_init l dC dI (q 0) (q 1) (q 2) (q 3) o154 H.size) ⟨va_cnB (host := "KnotHouse") 0 hts gi11_X10_init_n106 rfl rfl rfl hN_X11_106 (hts (.initialized RX10) (wi11_L (by decide +kernel))) (by decide +kernel) ⟨(Nat.le_of_ble_eq_true rfl), (Nat.le_of_ble_eq_true rfl)⟩, rfl, hts (.instanceMethod yX10_init) (wi11_L (by decide +kernel))⟩ ⟨fun a U g mk q => by obtain ⟨q0, q1, qP, qK, qD, n0⟩ := q; exact ⟨q0, q1, qP, va_K.moved (u := U) (U := U.calling g mk a) (Vm.Alike.refl U.vm) qK, qD, va_Nw.same rfl rfl n0⟩, fun U hU hW => ⟨rfl, by rw [hU], by rw [hU]; exact hPc, va_K.moved hW.alike (hK.sub [0, 1, 2, 3] rfl), hDc.weaken (fun _ _ _ _ => trivial), va_Nw.warmM hW hN_X10_20⟩⟩ rfl rfl hl.1 rfl (lv_room (Nat.le_of_ble_eq_true rfl)) dX11_init_195 ⟨(Nat.le_of_ble_eq_true rfl), (Nat.le_of_ble_eq_true rfl)⟩) hS (fun q _ h => hFc q h) hFc (fun t155 t H1 locs ht hvm hw hB hz1 hk1 hS => ?_)
  obtain ⟨z156, z157, z158, z159, z160, z161, z162⟩ := t155
  obtain ⟨hP1, hD1⟩ := hB
  rw [ht] at hP1
  obtain ⟨hP, hD⟩ := al_join hP hD hk1 hFc hP1 hD1
  clear hPc hDc hFc hvm hw hz1 hk1 hP1 hD1 ht
  refine W.widen (k := 354) (n := 174149) (Nat.le_of_ble_eq_true rfl) (Nat.le_of_ble_eq_true rfl) ?_
  refine va_putF (D := (dC, dI)) (ci := 14) (v := .ref o154) (ty := .object "KnotHouse$Summit") (C := RX11) (T := TX11) (N := 19) hx hb hts (fun w h => wi11_X11 w h) tyX11 tyX11_ok nmX11 hown hK hP hD hS 0 (al_heA (X := xt11_17) (o := 0) rfl rfl rfl) rfl 17 (by decide) (hts (.fieldLink RX11 107 "KnotHouse" "summitSet" "LKnotHouse$Summit;") (wi11_L (by decide +kernel))) (fun _ h9 => h9) rfl hin rfl (by decide +kernel) rfl rfl (by rw [List.length_map]; decide +kernel) dX11_init_198 (fun H locs hP hD hS => ?_)
  obtain ⟨u, hu, hM⟩ := al_ext (X := xt11_17) (X1 := xt11_18) (o := 0) (k := 17) (h := 48000) (Y := [48000, 48005, 48006, 49000, 49004, 48008, 48009, 48010]) (ad := [o154, z156, z157, z158, z159, z160, z161, z162]) (k0 := 0) (ci := 14) ck11_17 rfl rfl hM.2.2.2 rfl hP hD hS
  rw [← hu] at hl
  have hu0 := hu.trans hu0
  clear hu hP hD hS
  refine W.widen (k := 354) (n := 174149) (Nat.le_of_ble_eq_true rfl) (Nat.le_of_ble_eq_true rfl) ?_
  refine lv_aload_n hx hb dX11_init_201 rfl (lv_at hl 0 rfl) ?_
  refine va_new (ci := 13) (fs := [.int 0, .int 0, .int 0, .int 0, .null, .null, .null, .null, .null, .null, .int 0]) (C := RX10) (T := TX10) (N := 11) hx hb hts (fun w h => wi11_X10 w h) tyX10 tyX10_ok hown (hts (.classLink RX11 104 RX10) (wi11_L (by decide +kernel))) (hts (.instantiable RX10 11) (wi11_L (by decide +kernel))) (hts (.initialized RX10) (wi11_L (by decide +kernel))) hK hM.1 hM.2.1 hM.2.2.1 hA rfl (by decide +kernel) (Nat.le_of_ble_eq_true rfl) (Nat.le_of_ble_eq_true rfl) dX11_init_202 (fun o163 H hP hD hS => ?_)
  refine W.widen (k := 355) (n := 174160) (Nat.le_of_ble_eq_true rfl) (Nat.le_of_ble_eq_true rfl) ?_
  refine lv_dup hx hb dX11_init_205 rfl ?_
  have hPc := al_subP hP
  have hDc := al_subD hD
  have hFc := al_freeC hD hS hA
  refine va_callv (va_runIN (As := []) (rest := [.ref o163, .ref (u 0)]) ⟨hx, hb, hml, hown, hts⟩ (k_X10_init l dC dI (q 0) (q 1) (q 2) (q 3) o163 H.size) ⟨va_cnB (host := "KnotHouse") 0 hts gi11_X10_init_n106 rfl rfl rfl hN_X11_106 (hts (.initialized RX10) (wi11_L (by decide +kernel))) (by decide +kernel) ⟨(Nat.le_of_ble_eq_true rfl), (Nat.le_of_ble_eq_true rfl)⟩, rfl, hts (.instanceMethod yX10_init) (wi11_L (by decide +kernel))⟩ ⟨fun a U g mk q => by obtain ⟨q0, q1, qP, qK, qD, n0⟩ := q; exact ⟨q0, q1, qP, va_K.moved (u := U) (U := U.calling g mk a) (Vm.Alike.refl U.vm) qK, qD, va_Nw.same rfl rfl n0⟩, fun U hU hW => ⟨rfl, by rw [hU], by rw [hU]; exact hPc, va_K.moved hW.alike (hK.sub [0, 1, 2, 3] rfl), hDc.weaken (fun _ _ _ _ => trivial), va_Nw.warmM hW hN_X10_20⟩⟩ rfl rfl hl.1 rfl (lv_room (Nat.le_of_ble_eq_true rfl)) dX11_init_206 ⟨(Nat.le_of_ble_eq_true rfl), (Nat.le_of_ble_eq_true rfl)⟩) hS (fun q _ h => hFc q h) hFc (fun t164 t H1 locs ht hvm hw hB hz1 hk1 hS => ?_)
  obtain ⟨z165, z166, z167, z168, z169, z170, z171⟩ := t164
  obtain ⟨hP1, hD1⟩ := hB
  rw [ht] at hP1
  obtain ⟨hP, hD⟩ := al_join hP hD hk1 hFc hP1 hD1
  clear hPc hDc hFc hvm hw hz1 hk1 hP1 hD1 ht
  refine W.widen (k := 362) (n := 178483) (Nat.le_of_ble_eq_true rfl) (Nat.le_of_ble_eq_true rfl) ?_
  refine va_putF (D := (dC, dI)) (ci := 14) (v := .ref o163) (ty := .object "KnotHouse$Summit") (C := RX11) (T := TX11) (N := 19) hx hb hts (fun w h => wi11_X11 w h) tyX11 tyX11_ok nmX11 hown hK hP hD hS 0 (al_heA (X := xt11_18) (o := 0) rfl rfl rfl) rfl 18 (by decide) (hts (.fieldLink RX11 111 "KnotHouse" "otherSet" "LKnotHouse$Summit;") (wi11_L (by decide +kernel))) (fun _ h9 => h9) rfl hin rfl (by decide +kernel) rfl rfl (by rw [List.length_map]; decide +kernel) dX11_init_209 (fun H locs hP hD hS => ?_)
  obtain ⟨u, hu, hM⟩ := al_ext (X := xt11_18) (X1 := xt11_19) (o := 0) (k := 18) (h := 50000) (Y := [50000, 50005, 50006, 51000, 51004, 50008, 50009, 50010]) (ad := [o163, z165, z166, z167, z168, z169, z170, z171]) (k0 := 0) (ci := 14) ck11_18 rfl rfl hM.2.2.2 rfl hP hD hS
  rw [← hu] at hl
  have hu0 := hu.trans hu0
  clear hu hP hD hS
  refine W.widen (k := 362) (n := 178483) (Nat.le_of_ble_eq_true rfl) (Nat.le_of_ble_eq_true rfl) ?_
  exact kk u _ _ ls hu0 hM hl
