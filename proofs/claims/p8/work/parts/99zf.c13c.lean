def blM : List Nat := [4, 5, 6, 7, 8, 9, 10, 11, 12, 13, 14, 15, 16, 17, 18]
theorem al_lastN {X : ow_Tb} {q : Nat → ClassId} {u : Nat → Nat} {z : ow_MS} {c : Nat × va_E} {w : va_W} : (nw X q u z ++ (c :: w))[X.1.length]? = some c := by
  have h : (nw X q u z).length = X.1.length := by
    unfold nw
    rw [List.length_map]
  rw [List.getElem?_append_right (by omega), h, Nat.sub_self]
  rfl
set_option maxHeartbeats 4000000 in
set_option maxRecDepth 100000 in
theorem hv13_0 {p : Program} {l : Launch} {e : Env} {s : State} {m : MethodId} {args : Array Value} {below : List Frame} {meth : Method} {c : Code} {Q : State → Prop} {A : Nat → Prop} {dC : Nat → ClassId} {dI : Nat → Nat → Nat} {q : ow_Q5} {z2 : ow_MS} (hx : p.tables.exec = Jvm.exec) (hb : c.code = cX13_init) (hml : c.maxLocals = 2) (hown : s.vm.findClass RX13 = some m.cls) (hts : ∀ w ∈ wi13, w.before args s = true) (hA : ∀ q : Nat, s.heap.size ≤ q → A q) (hK : va_K (dC, dI) vwCl (tw_T q RX12) s) (hN_X13_113 : va_Nw (.methodLinkNest RX13 113 yX12_init "KnotHouseModel") s) (hAO : va_AO RX12 s) (u : Nat → Nat) (H : Heap) (locs : List Loc) (ls : Array Slot) {a0 : Nat} (hu0 : u 0 = a0) (hM : al_M (dC, dI) vwCl xv13_0 (q5f q) A s.heap u (usZ z2 blM) H locs) (hl : lv_has ls 2 [(1, .int 0), (0, .ref (u 0))]) (kk : ∀ (u : Nat → Nat) (H : Heap) (locs : List Loc) (ls : Array Slot), u 0 = a0 → al_M (dC, dI) vwCl xv13_1 (q5f q) A s.heap u (usZ z2 blM) H locs → lv_has ls 2 [(1, .int 1), (0, .ref (u 0))] → W p l e RI13 s m args below meth c H locs 147 1147521 Q (F0 m 867 ls [])) : W p l e RI13 s m args below meth c H locs 134 1146945 Q (F0 m 867 ls []) := by
  refine lv_iload_n hx hb diX13_867 rfl (lv_at hl 0 rfl) ?_
  refine lv_aload_n hx hb diX13_868 rfl (lv_at hl 1 rfl) ?_
  refine va_get (D := (dC, dI)) (ci := 16) (v := .ref (u 40)) (C := RX13) (T := TX13) (N := 120) hx hb hts wi13_13 hown hK hM.1 0 (al_he (X := xv13_0) (o := 0) rfl rfl rfl) rfl 39 (by decide) (hts (.fieldLink RX13 179 "KnotHouseModel" "level" "[LKnotHouseModel$Net;") mi13_43) (fun _ h9 => h9) rfl diX13_869 ?_
  refine va_alen (v := 15) hx hb hK hM.1 67 4 (al_he4' (X := xv13_0) (r := 40) rfl rfl) rfl rfl diX13_872 ?_
  refine lv_icmp_ge (tgt := 895) hx hb diX13_873 (by decide) (fun c9 => absurd c9 (by decide)) (fun _ => ?_)
  refine lv_aload_n hx hb diX13_876 rfl (lv_at hl 1 rfl) ?_
  refine va_get (D := (dC, dI)) (ci := 16) (v := .ref (u 40)) (C := RX13) (T := TX13) (N := 120) hx hb hts wi13_13 hown hK hM.1 0 (al_he (X := xv13_0) (o := 0) rfl rfl rfl) rfl 39 (by decide) (hts (.fieldLink RX13 179 "KnotHouseModel" "level" "[LKnotHouseModel$Net;") mi13_43) (fun _ h9 => h9) rfl diX13_877 ?_
  refine lv_iload_n hx hb diX13_880 rfl (lv_at hl 0 rfl) ?_
  refine va_new (ci := 15) (fs := [.int 0, .int 0, .null, .null, .null, .null, .null, .null, .null, .null, .null, .null, .int 0, .null, .null, .int 0]) (C := RX12) (T := TX12) (N := 16) hx hb hts wi13_12 tyX12 tyX12_ok hown (hts (.classLink RX13 19 RX12) mi13_9) (hts (.instantiable RX12 16) mi13_10) (hts (.initialized RX12) mi13_11) hK hM.1 hM.2.1 hM.2.2.1 hA rfl (by decide +kernel) (Nat.le_of_ble_eq_true rfl) (Nat.le_of_ble_eq_true rfl) diX13_881 (fun o138 H hP hD hS => ?_)
  refine W.widen (k := 135) (n := 1146961) (Nat.le_of_ble_eq_true rfl) (Nat.le_of_ble_eq_true rfl) ?_
  refine lv_dup hx hb diX13_884 rfl ?_
  have hPc := al_subP hP
  have hDc := al_subD hD
  have hFc := al_freeC hD hS hA
  refine va_callv (va_runIN (As := []) (rest := [.ref o138, .int 0, .ref (u 40)]) ⟨hx, hb, hml, hown, hts⟩ (k_X12_init l dC dI q.1 q.2.1 q.2.2.1 q.2.2.2.1 o138 H.size) ⟨va_cnB (host := "KnotHouseModel") 0 hts gi13_X12 rfl rfl rfl hN_X13_113 (hts (.initialized RX12) mi13_11) (by decide +kernel) ⟨(Nat.le_of_ble_eq_true rfl), (Nat.le_of_ble_eq_true rfl)⟩, rfl, hts (.instanceMethod yX12_init) mi13_12⟩ ⟨fun a U g mk q => by obtain ⟨q0, q1, qP, qK, qD⟩ := q; exact ⟨q0, q1, qP, va_K.moved (u := U) (U := U.calling g mk a) (Vm.Alike.refl U.vm) qK, qD⟩, fun U hU hW => ⟨rfl, by rw [hU], by rw [hU]; exact hPc, va_K.moved hW.alike (hK.sub [0, 1, 2, 3] rfl), hDc.weaken (fun _ _ _ _ => trivial)⟩⟩ rfl rfl hl.1 rfl (lv_room (Nat.le_of_ble_eq_true rfl)) diX13_885 ⟨(Nat.le_of_ble_eq_true rfl), (Nat.le_of_ble_eq_true rfl)⟩) hS (fun q _ h => hFc q h) hFc (fun t139 t H1 locs ht hvm hw hB hz1 hk1 hS => ?_)
  obtain ⟨z140, z141, z142, z143, z144, z145, z146, z147, z148, z149, z150, z151⟩ := t139
  obtain ⟨hP1, hD1⟩ := hB
  rw [ht] at hP1
  obtain ⟨hP, hD⟩ := al_join hP hD hk1 hFc hP1 hD1
  clear hPc hDc hFc hvm hw hz1 hk1 hP1 hD1 ht
  refine W.widen (k := 147) (n := 1147521) (Nat.le_of_ble_eq_true rfl) (Nat.le_of_ble_eq_true rfl) ?_
  refine va_astq (D := (dC, dI)) hx hb hK hP hD hS 67 4 135 15 (al_he4 (X := xv13_0) (r := 40) rfl rfl) rfl al_lastN rfl (by unfold vp_in; decide) diX13_888 (fun H locs hP hD hS => ?_)
  obtain ⟨u, hu, hM⟩ := al_extA (X := xv13_0) (X1 := xv13_1) (r := 40) (h := 4000) (Y := [4000, 4003, 4004, 4005, 4006, 4007, 4008, 4009, 4010, 4011, 4012, 4014, 4015]) (ad := [o138, z140, z141, z142, z143, z144, z145, z146, z147, z148, z149, z150, z151]) (k0 := 67) (o := 0) (n := 0) cv13_0 rfl rfl hM.2.2.2 (by decide +kernel) rfl hP hD hS
  rw [← hu] at hl
  have hu0 := hu.trans hu0
  clear hu hP hD hS
  refine W.widen (k := 147) (n := 1147521) (Nat.le_of_ble_eq_true rfl) (Nat.le_of_ble_eq_true rfl) ?_
  refine lv_iinc (v := 1) (lv' := [(1, .int 1), (0, .ref (u 0))]) hx hb diX13_889 hl (k := 0) rfl rfl (by decide) rfl (fun ls hl => ?_)
  refine lv_goto (tgt := 867) hx hb diX13_892 (by decide) ?_
  exact kk u _ _ ls hu0 hM hl
set_option maxHeartbeats 4000000 in
set_option maxRecDepth 100000 in
theorem hv13_1 {p : Program} {l : Launch} {e : Env} {s : State} {m : MethodId} {args : Array Value} {below : List Frame} {meth : Method} {c : Code} {Q : State → Prop} {A : Nat → Prop} {dC : Nat → ClassId} {dI : Nat → Nat → Nat} {q : ow_Q5} {z2 : ow_MS} (hx : p.tables.exec = Jvm.exec) (hb : c.code = cX13_init) (hml : c.maxLocals = 2) (hown : s.vm.findClass RX13 = some m.cls) (hts : ∀ w ∈ wi13, w.before args s = true) (hA : ∀ q : Nat, s.heap.size ≤ q → A q) (hK : va_K (dC, dI) vwCl (tw_T q RX12) s) (hN_X13_113 : va_Nw (.methodLinkNest RX13 113 yX12_init "KnotHouseModel") s) (hAO : va_AO RX12 s) (u : Nat → Nat) (H : Heap) (locs : List Loc) (ls : Array Slot) {a0 : Nat} (hu0 : u 0 = a0) (hM : al_M (dC, dI) vwCl xv13_1 (q5f q) A s.heap u (usZ z2 blM) H locs) (hl : lv_has ls 2 [(1, .int 1), (0, .ref (u 0))]) (kk : ∀ (u : Nat → Nat) (H : Heap) (locs : List Loc) (ls : Array Slot), u 0 = a0 → al_M (dC, dI) vwCl xv13_2 (q5f q) A s.heap u (usZ z2 blM) H locs → lv_has ls 2 [(1, .int 2), (0, .ref (u 0))] → W p l e RI13 s m args below meth c H locs 160 1148097 Q (F0 m 867 ls [])) : W p l e RI13 s m args below meth c H locs 147 1147521 Q (F0 m 867 ls []) := by
  refine lv_iload_n hx hb diX13_867 rfl (lv_at hl 0 rfl) ?_
  refine lv_aload_n hx hb diX13_868 rfl (lv_at hl 1 rfl) ?_
  refine va_get (D := (dC, dI)) (ci := 16) (v := .ref (u 40)) (C := RX13) (T := TX13) (N := 120) hx hb hts wi13_13 hown hK hM.1 0 (al_he (X := xv13_1) (o := 0) rfl rfl rfl) rfl 39 (by decide) (hts (.fieldLink RX13 179 "KnotHouseModel" "level" "[LKnotHouseModel$Net;") mi13_43) (fun _ h9 => h9) rfl diX13_869 ?_
  refine va_alen (v := 15) hx hb hK hM.1 67 4 (al_he4' (X := xv13_1) (r := 40) rfl rfl) rfl rfl diX13_872 ?_
  refine lv_icmp_ge (tgt := 895) hx hb diX13_873 (by decide) (fun c9 => absurd c9 (by decide)) (fun _ => ?_)
  refine lv_aload_n hx hb diX13_876 rfl (lv_at hl 1 rfl) ?_
  refine va_get (D := (dC, dI)) (ci := 16) (v := .ref (u 40)) (C := RX13) (T := TX13) (N := 120) hx hb hts wi13_13 hown hK hM.1 0 (al_he (X := xv13_1) (o := 0) rfl rfl rfl) rfl 39 (by decide) (hts (.fieldLink RX13 179 "KnotHouseModel" "level" "[LKnotHouseModel$Net;") mi13_43) (fun _ h9 => h9) rfl diX13_877 ?_
  refine lv_iload_n hx hb diX13_880 rfl (lv_at hl 0 rfl) ?_
  refine va_new (ci := 15) (fs := [.int 0, .int 0, .null, .null, .null, .null, .null, .null, .null, .null, .null, .null, .int 0, .null, .null, .int 0]) (C := RX12) (T := TX12) (N := 16) hx hb hts wi13_12 tyX12 tyX12_ok hown (hts (.classLink RX13 19 RX12) mi13_9) (hts (.instantiable RX12 16) mi13_10) (hts (.initialized RX12) mi13_11) hK hM.1 hM.2.1 hM.2.2.1 hA rfl (by decide +kernel) (Nat.le_of_ble_eq_true rfl) (Nat.le_of_ble_eq_true rfl) diX13_881 (fun o152 H hP hD hS => ?_)
  refine W.widen (k := 148) (n := 1147537) (Nat.le_of_ble_eq_true rfl) (Nat.le_of_ble_eq_true rfl) ?_
  refine lv_dup hx hb diX13_884 rfl ?_
  have hPc := al_subP hP
  have hDc := al_subD hD
  have hFc := al_freeC hD hS hA
  refine va_callv (va_runIN (As := []) (rest := [.ref o152, .int 1, .ref (u 40)]) ⟨hx, hb, hml, hown, hts⟩ (k_X12_init l dC dI q.1 q.2.1 q.2.2.1 q.2.2.2.1 o152 H.size) ⟨va_cnB (host := "KnotHouseModel") 0 hts gi13_X12 rfl rfl rfl hN_X13_113 (hts (.initialized RX12) mi13_11) (by decide +kernel) ⟨(Nat.le_of_ble_eq_true rfl), (Nat.le_of_ble_eq_true rfl)⟩, rfl, hts (.instanceMethod yX12_init) mi13_12⟩ ⟨fun a U g mk q => by obtain ⟨q0, q1, qP, qK, qD⟩ := q; exact ⟨q0, q1, qP, va_K.moved (u := U) (U := U.calling g mk a) (Vm.Alike.refl U.vm) qK, qD⟩, fun U hU hW => ⟨rfl, by rw [hU], by rw [hU]; exact hPc, va_K.moved hW.alike (hK.sub [0, 1, 2, 3] rfl), hDc.weaken (fun _ _ _ _ => trivial)⟩⟩ rfl rfl hl.1 rfl (lv_room (Nat.le_of_ble_eq_true rfl)) diX13_885 ⟨(Nat.le_of_ble_eq_true rfl), (Nat.le_of_ble_eq_true rfl)⟩) hS (fun q _ h => hFc q h) hFc (fun t153 t H1 locs ht hvm hw hB hz1 hk1 hS => ?_)
  obtain ⟨z154, z155, z156, z157, z158, z159, z160, z161, z162, z163, z164, z165⟩ := t153
  obtain ⟨hP1, hD1⟩ := hB
  rw [ht] at hP1
  obtain ⟨hP, hD⟩ := al_join hP hD hk1 hFc hP1 hD1
  clear hPc hDc hFc hvm hw hz1 hk1 hP1 hD1 ht
  refine W.widen (k := 160) (n := 1148097) (Nat.le_of_ble_eq_true rfl) (Nat.le_of_ble_eq_true rfl) ?_
  refine va_astq (D := (dC, dI)) hx hb hK hP hD hS 67 4 148 15 (al_he4 (X := xv13_1) (r := 40) rfl rfl) rfl al_lastN rfl (by unfold vp_in; decide) diX13_888 (fun H locs hP hD hS => ?_)
  obtain ⟨u, hu, hM⟩ := al_extA (X := xv13_1) (X1 := xv13_2) (r := 40) (h := 5000) (Y := [5000, 5003, 5004, 5005, 5006, 5007, 5008, 5009, 5010, 5011, 5012, 5014, 5015]) (ad := [o152, z154, z155, z156, z157, z158, z159, z160, z161, z162, z163, z164, z165]) (k0 := 67) (o := 0) (n := 1) cv13_1 rfl rfl hM.2.2.2 (by decide +kernel) rfl hP hD hS
  rw [← hu] at hl
  have hu0 := hu.trans hu0
  clear hu hP hD hS
  refine W.widen (k := 160) (n := 1148097) (Nat.le_of_ble_eq_true rfl) (Nat.le_of_ble_eq_true rfl) ?_
  refine lv_iinc (v := 2) (lv' := [(1, .int 2), (0, .ref (u 0))]) hx hb diX13_889 hl (k := 0) rfl rfl (by decide) rfl (fun ls hl => ?_)
  refine lv_goto (tgt := 867) hx hb diX13_892 (by decide) ?_
  exact kk u _ _ ls hu0 hM hl
set_option maxHeartbeats 4000000 in
set_option maxRecDepth 100000 in
theorem hv13_2 {p : Program} {l : Launch} {e : Env} {s : State} {m : MethodId} {args : Array Value} {below : List Frame} {meth : Method} {c : Code} {Q : State → Prop} {A : Nat → Prop} {dC : Nat → ClassId} {dI : Nat → Nat → Nat} {q : ow_Q5} {z2 : ow_MS} (hx : p.tables.exec = Jvm.exec) (hb : c.code = cX13_init) (hml : c.maxLocals = 2) (hown : s.vm.findClass RX13 = some m.cls) (hts : ∀ w ∈ wi13, w.before args s = true) (hA : ∀ q : Nat, s.heap.size ≤ q → A q) (hK : va_K (dC, dI) vwCl (tw_T q RX12) s) (hN_X13_113 : va_Nw (.methodLinkNest RX13 113 yX12_init "KnotHouseModel") s) (hAO : va_AO RX12 s) (u : Nat → Nat) (H : Heap) (locs : List Loc) (ls : Array Slot) {a0 : Nat} (hu0 : u 0 = a0) (hM : al_M (dC, dI) vwCl xv13_2 (q5f q) A s.heap u (usZ z2 blM) H locs) (hl : lv_has ls 2 [(1, .int 2), (0, .ref (u 0))]) (kk : ∀ (u : Nat → Nat) (H : Heap) (locs : List Loc) (ls : Array Slot), u 0 = a0 → al_M (dC, dI) vwCl xv13_3 (q5f q) A s.heap u (usZ z2 blM) H locs → lv_has ls 2 [(1, .int 3), (0, .ref (u 0))] → W p l e RI13 s m args below meth c H locs 173 1148673 Q (F0 m 867 ls [])) : W p l e RI13 s m args below meth c H locs 160 1148097 Q (F0 m 867 ls []) := by
  refine lv_iload_n hx hb diX13_867 rfl (lv_at hl 0 rfl) ?_
  refine lv_aload_n hx hb diX13_868 rfl (lv_at hl 1 rfl) ?_
  refine va_get (D := (dC, dI)) (ci := 16) (v := .ref (u 40)) (C := RX13) (T := TX13) (N := 120) hx hb hts wi13_13 hown hK hM.1 0 (al_he (X := xv13_2) (o := 0) rfl rfl rfl) rfl 39 (by decide) (hts (.fieldLink RX13 179 "KnotHouseModel" "level" "[LKnotHouseModel$Net;") mi13_43) (fun _ h9 => h9) rfl diX13_869 ?_
  refine va_alen (v := 15) hx hb hK hM.1 67 4 (al_he4' (X := xv13_2) (r := 40) rfl rfl) rfl rfl diX13_872 ?_
  refine lv_icmp_ge (tgt := 895) hx hb diX13_873 (by decide) (fun c9 => absurd c9 (by decide)) (fun _ => ?_)
  refine lv_aload_n hx hb diX13_876 rfl (lv_at hl 1 rfl) ?_
  refine va_get (D := (dC, dI)) (ci := 16) (v := .ref (u 40)) (C := RX13) (T := TX13) (N := 120) hx hb hts wi13_13 hown hK hM.1 0 (al_he (X := xv13_2) (o := 0) rfl rfl rfl) rfl 39 (by decide) (hts (.fieldLink RX13 179 "KnotHouseModel" "level" "[LKnotHouseModel$Net;") mi13_43) (fun _ h9 => h9) rfl diX13_877 ?_
  refine lv_iload_n hx hb diX13_880 rfl (lv_at hl 0 rfl) ?_
  refine va_new (ci := 15) (fs := [.int 0, .int 0, .null, .null, .null, .null, .null, .null, .null, .null, .null, .null, .int 0, .null, .null, .int 0]) (C := RX12) (T := TX12) (N := 16) hx hb hts wi13_12 tyX12 tyX12_ok hown (hts (.classLink RX13 19 RX12) mi13_9) (hts (.instantiable RX12 16) mi13_10) (hts (.initialized RX12) mi13_11) hK hM.1 hM.2.1 hM.2.2.1 hA rfl (by decide +kernel) (Nat.le_of_ble_eq_true rfl) (Nat.le_of_ble_eq_true rfl) diX13_881 (fun o166 H hP hD hS => ?_)
  refine W.widen (k := 161) (n := 1148113) (Nat.le_of_ble_eq_true rfl) (Nat.le_of_ble_eq_true rfl) ?_
  refine lv_dup hx hb diX13_884 rfl ?_
  have hPc := al_subP hP
  have hDc := al_subD hD
  have hFc := al_freeC hD hS hA
  refine va_callv (va_runIN (As := []) (rest := [.ref o166, .int 2, .ref (u 40)]) ⟨hx, hb, hml, hown, hts⟩ (k_X12_init l dC dI q.1 q.2.1 q.2.2.1 q.2.2.2.1 o166 H.size) ⟨va_cnB (host := "KnotHouseModel") 0 hts gi13_X12 rfl rfl rfl hN_X13_113 (hts (.initialized RX12) mi13_11) (by decide +kernel) ⟨(Nat.le_of_ble_eq_true rfl), (Nat.le_of_ble_eq_true rfl)⟩, rfl, hts (.instanceMethod yX12_init) mi13_12⟩ ⟨fun a U g mk q => by obtain ⟨q0, q1, qP, qK, qD⟩ := q; exact ⟨q0, q1, qP, va_K.moved (u := U) (U := U.calling g mk a) (Vm.Alike.refl U.vm) qK, qD⟩, fun U hU hW => ⟨rfl, by rw [hU], by rw [hU]; exact hPc, va_K.moved hW.alike (hK.sub [0, 1, 2, 3] rfl), hDc.weaken (fun _ _ _ _ => trivial)⟩⟩ rfl rfl hl.1 rfl (lv_room (Nat.le_of_ble_eq_true rfl)) diX13_885 ⟨(Nat.le_of_ble_eq_true rfl), (Nat.le_of_ble_eq_true rfl)⟩) hS (fun q _ h => hFc q h) hFc (fun t167 t H1 locs ht hvm hw hB hz1 hk1 hS => ?_)
  obtain ⟨z168, z169, z170, z171, z172, z173, z174, z175, z176, z177, z178, z179⟩ := t167
  obtain ⟨hP1, hD1⟩ := hB
  rw [ht] at hP1
  obtain ⟨hP, hD⟩ := al_join hP hD hk1 hFc hP1 hD1
  clear hPc hDc hFc hvm hw hz1 hk1 hP1 hD1 ht
  refine W.widen (k := 173) (n := 1148673) (Nat.le_of_ble_eq_true rfl) (Nat.le_of_ble_eq_true rfl) ?_
  refine va_astq (D := (dC, dI)) hx hb hK hP hD hS 67 4 161 15 (al_he4 (X := xv13_2) (r := 40) rfl rfl) rfl al_lastN rfl (by unfold vp_in; decide) diX13_888 (fun H locs hP hD hS => ?_)
  obtain ⟨u, hu, hM⟩ := al_extA (X := xv13_2) (X1 := xv13_3) (r := 40) (h := 6000) (Y := [6000, 6003, 6004, 6005, 6006, 6007, 6008, 6009, 6010, 6011, 6012, 6014, 6015]) (ad := [o166, z168, z169, z170, z171, z172, z173, z174, z175, z176, z177, z178, z179]) (k0 := 67) (o := 0) (n := 2) cv13_2 rfl rfl hM.2.2.2 (by decide +kernel) rfl hP hD hS
  rw [← hu] at hl
  have hu0 := hu.trans hu0
  clear hu hP hD hS
  refine W.widen (k := 173) (n := 1148673) (Nat.le_of_ble_eq_true rfl) (Nat.le_of_ble_eq_true rfl) ?_
  refine lv_iinc (v := 3) (lv' := [(1, .int 3), (0, .ref (u 0))]) hx hb diX13_889 hl (k := 0) rfl rfl (by decide) rfl (fun ls hl => ?_)
  refine lv_goto (tgt := 867) hx hb diX13_892 (by decide) ?_
  exact kk u _ _ ls hu0 hM hl
set_option maxHeartbeats 4000000 in
set_option maxRecDepth 100000 in
theorem hv13_3 {p : Program} {l : Launch} {e : Env} {s : State} {m : MethodId} {args : Array Value} {below : List Frame} {meth : Method} {c : Code} {Q : State → Prop} {A : Nat → Prop} {dC : Nat → ClassId} {dI : Nat → Nat → Nat} {q : ow_Q5} {z2 : ow_MS} (hx : p.tables.exec = Jvm.exec) (hb : c.code = cX13_init) (hml : c.maxLocals = 2) (hown : s.vm.findClass RX13 = some m.cls) (hts : ∀ w ∈ wi13, w.before args s = true) (hA : ∀ q : Nat, s.heap.size ≤ q → A q) (hK : va_K (dC, dI) vwCl (tw_T q RX12) s) (hN_X13_113 : va_Nw (.methodLinkNest RX13 113 yX12_init "KnotHouseModel") s) (hAO : va_AO RX12 s) (u : Nat → Nat) (H : Heap) (locs : List Loc) (ls : Array Slot) {a0 : Nat} (hu0 : u 0 = a0) (hM : al_M (dC, dI) vwCl xv13_3 (q5f q) A s.heap u (usZ z2 blM) H locs) (hl : lv_has ls 2 [(1, .int 3), (0, .ref (u 0))]) (kk : ∀ (u : Nat → Nat) (H : Heap) (locs : List Loc) (ls : Array Slot), u 0 = a0 → al_M (dC, dI) vwCl xv13_4 (q5f q) A s.heap u (usZ z2 blM) H locs → lv_has ls 2 [(1, .int 4), (0, .ref (u 0))] → W p l e RI13 s m args below meth c H locs 186 1149249 Q (F0 m 867 ls [])) : W p l e RI13 s m args below meth c H locs 173 1148673 Q (F0 m 867 ls []) := by
  refine lv_iload_n hx hb diX13_867 rfl (lv_at hl 0 rfl) ?_
  refine lv_aload_n hx hb diX13_868 rfl (lv_at hl 1 rfl) ?_
  refine va_get (D := (dC, dI)) (ci := 16) (v := .ref (u 40)) (C := RX13) (T := TX13) (N := 120) hx hb hts wi13_13 hown hK hM.1 0 (al_he (X := xv13_3) (o := 0) rfl rfl rfl) rfl 39 (by decide) (hts (.fieldLink RX13 179 "KnotHouseModel" "level" "[LKnotHouseModel$Net;") mi13_43) (fun _ h9 => h9) rfl diX13_869 ?_
  refine va_alen (v := 15) hx hb hK hM.1 67 4 (al_he4' (X := xv13_3) (r := 40) rfl rfl) rfl rfl diX13_872 ?_
  refine lv_icmp_ge (tgt := 895) hx hb diX13_873 (by decide) (fun c9 => absurd c9 (by decide)) (fun _ => ?_)
  refine lv_aload_n hx hb diX13_876 rfl (lv_at hl 1 rfl) ?_
  refine va_get (D := (dC, dI)) (ci := 16) (v := .ref (u 40)) (C := RX13) (T := TX13) (N := 120) hx hb hts wi13_13 hown hK hM.1 0 (al_he (X := xv13_3) (o := 0) rfl rfl rfl) rfl 39 (by decide) (hts (.fieldLink RX13 179 "KnotHouseModel" "level" "[LKnotHouseModel$Net;") mi13_43) (fun _ h9 => h9) rfl diX13_877 ?_
  refine lv_iload_n hx hb diX13_880 rfl (lv_at hl 0 rfl) ?_
  refine va_new (ci := 15) (fs := [.int 0, .int 0, .null, .null, .null, .null, .null, .null, .null, .null, .null, .null, .int 0, .null, .null, .int 0]) (C := RX12) (T := TX12) (N := 16) hx hb hts wi13_12 tyX12 tyX12_ok hown (hts (.classLink RX13 19 RX12) mi13_9) (hts (.instantiable RX12 16) mi13_10) (hts (.initialized RX12) mi13_11) hK hM.1 hM.2.1 hM.2.2.1 hA rfl (by decide +kernel) (Nat.le_of_ble_eq_true rfl) (Nat.le_of_ble_eq_true rfl) diX13_881 (fun o180 H hP hD hS => ?_)
  refine W.widen (k := 174) (n := 1148689) (Nat.le_of_ble_eq_true rfl) (Nat.le_of_ble_eq_true rfl) ?_
  refine lv_dup hx hb diX13_884 rfl ?_
  have hPc := al_subP hP
  have hDc := al_subD hD
  have hFc := al_freeC hD hS hA
  refine va_callv (va_runIN (As := []) (rest := [.ref o180, .int 3, .ref (u 40)]) ⟨hx, hb, hml, hown, hts⟩ (k_X12_init l dC dI q.1 q.2.1 q.2.2.1 q.2.2.2.1 o180 H.size) ⟨va_cnB (host := "KnotHouseModel") 0 hts gi13_X12 rfl rfl rfl hN_X13_113 (hts (.initialized RX12) mi13_11) (by decide +kernel) ⟨(Nat.le_of_ble_eq_true rfl), (Nat.le_of_ble_eq_true rfl)⟩, rfl, hts (.instanceMethod yX12_init) mi13_12⟩ ⟨fun a U g mk q => by obtain ⟨q0, q1, qP, qK, qD⟩ := q; exact ⟨q0, q1, qP, va_K.moved (u := U) (U := U.calling g mk a) (Vm.Alike.refl U.vm) qK, qD⟩, fun U hU hW => ⟨rfl, by rw [hU], by rw [hU]; exact hPc, va_K.moved hW.alike (hK.sub [0, 1, 2, 3] rfl), hDc.weaken (fun _ _ _ _ => trivial)⟩⟩ rfl rfl hl.1 rfl (lv_room (Nat.le_of_ble_eq_true rfl)) diX13_885 ⟨(Nat.le_of_ble_eq_true rfl), (Nat.le_of_ble_eq_true rfl)⟩) hS (fun q _ h => hFc q h) hFc (fun t181 t H1 locs ht hvm hw hB hz1 hk1 hS => ?_)
  obtain ⟨z182, z183, z184, z185, z186, z187, z188, z189, z190, z191, z192, z193⟩ := t181
  obtain ⟨hP1, hD1⟩ := hB
  rw [ht] at hP1
  obtain ⟨hP, hD⟩ := al_join hP hD hk1 hFc hP1 hD1
  clear hPc hDc hFc hvm hw hz1 hk1 hP1 hD1 ht
  refine W.widen (k := 186) (n := 1149249) (Nat.le_of_ble_eq_true rfl) (Nat.le_of_ble_eq_true rfl) ?_
  refine va_astq (D := (dC, dI)) hx hb hK hP hD hS 67 4 174 15 (al_he4 (X := xv13_3) (r := 40) rfl rfl) rfl al_lastN rfl (by unfold vp_in; decide) diX13_888 (fun H locs hP hD hS => ?_)
  obtain ⟨u, hu, hM⟩ := al_extA (X := xv13_3) (X1 := xv13_4) (r := 40) (h := 7000) (Y := [7000, 7003, 7004, 7005, 7006, 7007, 7008, 7009, 7010, 7011, 7012, 7014, 7015]) (ad := [o180, z182, z183, z184, z185, z186, z187, z188, z189, z190, z191, z192, z193]) (k0 := 67) (o := 0) (n := 3) cv13_3 rfl rfl hM.2.2.2 (by decide +kernel) rfl hP hD hS
  rw [← hu] at hl
  have hu0 := hu.trans hu0
  clear hu hP hD hS
  refine W.widen (k := 186) (n := 1149249) (Nat.le_of_ble_eq_true rfl) (Nat.le_of_ble_eq_true rfl) ?_
  refine lv_iinc (v := 4) (lv' := [(1, .int 4), (0, .ref (u 0))]) hx hb diX13_889 hl (k := 0) rfl rfl (by decide) rfl (fun ls hl => ?_)
  refine lv_goto (tgt := 867) hx hb diX13_892 (by decide) ?_
  exact kk u _ _ ls hu0 hM hl
set_option maxHeartbeats 4000000 in
set_option maxRecDepth 100000 in
theorem hv13_4 {p : Program} {l : Launch} {e : Env} {s : State} {m : MethodId} {args : Array Value} {below : List Frame} {meth : Method} {c : Code} {Q : State → Prop} {A : Nat → Prop} {dC : Nat → ClassId} {dI : Nat → Nat → Nat} {q : ow_Q5} {z2 : ow_MS} (hx : p.tables.exec = Jvm.exec) (hb : c.code = cX13_init) (hml : c.maxLocals = 2) (hown : s.vm.findClass RX13 = some m.cls) (hts : ∀ w ∈ wi13, w.before args s = true) (hA : ∀ q : Nat, s.heap.size ≤ q → A q) (hK : va_K (dC, dI) vwCl (tw_T q RX12) s) (hN_X13_113 : va_Nw (.methodLinkNest RX13 113 yX12_init "KnotHouseModel") s) (hAO : va_AO RX12 s) (u : Nat → Nat) (H : Heap) (locs : List Loc) (ls : Array Slot) {a0 : Nat} (hu0 : u 0 = a0) (hM : al_M (dC, dI) vwCl xv13_4 (q5f q) A s.heap u (usZ z2 blM) H locs) (hl : lv_has ls 2 [(1, .int 4), (0, .ref (u 0))]) (kk : ∀ (u : Nat → Nat) (H : Heap) (locs : List Loc) (ls : Array Slot), u 0 = a0 → al_M (dC, dI) vwCl xv13_5 (q5f q) A s.heap u (usZ z2 blM) H locs → lv_has ls 2 [(1, .int 5), (0, .ref (u 0))] → W p l e RI13 s m args below meth c H locs 199 1149825 Q (F0 m 867 ls [])) : W p l e RI13 s m args below meth c H locs 186 1149249 Q (F0 m 867 ls []) := by
  refine lv_iload_n hx hb diX13_867 rfl (lv_at hl 0 rfl) ?_
  refine lv_aload_n hx hb diX13_868 rfl (lv_at hl 1 rfl) ?_
  refine va_get (D := (dC, dI)) (ci := 16) (v := .ref (u 40)) (C := RX13) (T := TX13) (N := 120) hx hb hts wi13_13 hown hK hM.1 0 (al_he (X := xv13_4) (o := 0) rfl rfl rfl) rfl 39 (by decide) (hts (.fieldLink RX13 179 "KnotHouseModel" "level" "[LKnotHouseModel$Net;") mi13_43) (fun _ h9 => h9) rfl diX13_869 ?_
  refine va_alen (v := 15) hx hb hK hM.1 67 4 (al_he4' (X := xv13_4) (r := 40) rfl rfl) rfl rfl diX13_872 ?_
  refine lv_icmp_ge (tgt := 895) hx hb diX13_873 (by decide) (fun c9 => absurd c9 (by decide)) (fun _ => ?_)
  refine lv_aload_n hx hb diX13_876 rfl (lv_at hl 1 rfl) ?_
  refine va_get (D := (dC, dI)) (ci := 16) (v := .ref (u 40)) (C := RX13) (T := TX13) (N := 120) hx hb hts wi13_13 hown hK hM.1 0 (al_he (X := xv13_4) (o := 0) rfl rfl rfl) rfl 39 (by decide) (hts (.fieldLink RX13 179 "KnotHouseModel" "level" "[LKnotHouseModel$Net;") mi13_43) (fun _ h9 => h9) rfl diX13_877 ?_
  refine lv_iload_n hx hb diX13_880 rfl (lv_at hl 0 rfl) ?_
  refine va_new (ci := 15) (fs := [.int 0, .int 0, .null, .null, .null, .null, .null, .null, .null, .null, .null, .null, .int 0, .null, .null, .int 0]) (C := RX12) (T := TX12) (N := 16) hx hb hts wi13_12 tyX12 tyX12_ok hown (hts (.classLink RX13 19 RX12) mi13_9) (hts (.instantiable RX12 16) mi13_10) (hts (.initialized RX12) mi13_11) hK hM.1 hM.2.1 hM.2.2.1 hA rfl (by decide +kernel) (Nat.le_of_ble_eq_true rfl) (Nat.le_of_ble_eq_true rfl) diX13_881 (fun o194 H hP hD hS => ?_)
  refine W.widen (k := 187) (n := 1149265) (Nat.le_of_ble_eq_true rfl) (Nat.le_of_ble_eq_true rfl) ?_
  refine lv_dup hx hb diX13_884 rfl ?_
  have hPc := al_subP hP
  have hDc := al_subD hD
  have hFc := al_freeC hD hS hA
  refine va_callv (va_runIN (As := []) (rest := [.ref o194, .int 4, .ref (u 40)]) ⟨hx, hb, hml, hown, hts⟩ (k_X12_init l dC dI q.1 q.2.1 q.2.2.1 q.2.2.2.1 o194 H.size) ⟨va_cnB (host := "KnotHouseModel") 0 hts gi13_X12 rfl rfl rfl hN_X13_113 (hts (.initialized RX12) mi13_11) (by decide +kernel) ⟨(Nat.le_of_ble_eq_true rfl), (Nat.le_of_ble_eq_true rfl)⟩, rfl, hts (.instanceMethod yX12_init) mi13_12⟩ ⟨fun a U g mk q => by obtain ⟨q0, q1, qP, qK, qD⟩ := q; exact ⟨q0, q1, qP, va_K.moved (u := U) (U := U.calling g mk a) (Vm.Alike.refl U.vm) qK, qD⟩, fun U hU hW => ⟨rfl, by rw [hU], by rw [hU]; exact hPc, va_K.moved hW.alike (hK.sub [0, 1, 2, 3] rfl), hDc.weaken (fun _ _ _ _ => trivial)⟩⟩ rfl rfl hl.1 rfl (lv_room (Nat.le_of_ble_eq_true rfl)) diX13_885 ⟨(Nat.le_of_ble_eq_true rfl), (Nat.le_of_ble_eq_true rfl)⟩) hS (fun q _ h => hFc q h) hFc (fun t195 t H1 locs ht hvm hw hB hz1 hk1 hS => ?_)
  obtain ⟨z196, z197, z198, z199, z200, z201, z202, z203, z204, z205, z206, z207⟩ := t195
  obtain ⟨hP1, hD1⟩ := hB
  rw [ht] at hP1
  obtain ⟨hP, hD⟩ := al_join hP hD hk1 hFc hP1 hD1
  clear hPc hDc hFc hvm hw hz1 hk1 hP1 hD1 ht
  refine W.widen (k := 199) (n := 1149825) (Nat.le_of_ble_eq_true rfl) (Nat.le_of_ble_eq_true rfl) ?_
  refine va_astq (D := (dC, dI)) hx hb hK hP hD hS 67 4 187 15 (al_he4 (X := xv13_4) (r := 40) rfl rfl) rfl al_lastN rfl (by unfold vp_in; decide) diX13_888 (fun H locs hP hD hS => ?_)
  obtain ⟨u, hu, hM⟩ := al_extA (X := xv13_4) (X1 := xv13_5) (r := 40) (h := 8000) (Y := [8000, 8003, 8004, 8005, 8006, 8007, 8008, 8009, 8010, 8011, 8012, 8014, 8015]) (ad := [o194, z196, z197, z198, z199, z200, z201, z202, z203, z204, z205, z206, z207]) (k0 := 67) (o := 0) (n := 4) cv13_4 rfl rfl hM.2.2.2 (by decide +kernel) rfl hP hD hS
  rw [← hu] at hl
  have hu0 := hu.trans hu0
  clear hu hP hD hS
  refine W.widen (k := 199) (n := 1149825) (Nat.le_of_ble_eq_true rfl) (Nat.le_of_ble_eq_true rfl) ?_
  refine lv_iinc (v := 5) (lv' := [(1, .int 5), (0, .ref (u 0))]) hx hb diX13_889 hl (k := 0) rfl rfl (by decide) rfl (fun ls hl => ?_)
  refine lv_goto (tgt := 867) hx hb diX13_892 (by decide) ?_
  exact kk u _ _ ls hu0 hM hl
set_option maxHeartbeats 4000000 in
set_option maxRecDepth 100000 in
theorem hv13_5 {p : Program} {l : Launch} {e : Env} {s : State} {m : MethodId} {args : Array Value} {below : List Frame} {meth : Method} {c : Code} {Q : State → Prop} {A : Nat → Prop} {dC : Nat → ClassId} {dI : Nat → Nat → Nat} {q : ow_Q5} {z2 : ow_MS} (hx : p.tables.exec = Jvm.exec) (hb : c.code = cX13_init) (hml : c.maxLocals = 2) (hown : s.vm.findClass RX13 = some m.cls) (hts : ∀ w ∈ wi13, w.before args s = true) (hA : ∀ q : Nat, s.heap.size ≤ q → A q) (hK : va_K (dC, dI) vwCl (tw_T q RX12) s) (hN_X13_113 : va_Nw (.methodLinkNest RX13 113 yX12_init "KnotHouseModel") s) (hAO : va_AO RX12 s) (u : Nat → Nat) (H : Heap) (locs : List Loc) (ls : Array Slot) {a0 : Nat} (hu0 : u 0 = a0) (hM : al_M (dC, dI) vwCl xv13_5 (q5f q) A s.heap u (usZ z2 blM) H locs) (hl : lv_has ls 2 [(1, .int 5), (0, .ref (u 0))]) (kk : ∀ (u : Nat → Nat) (H : Heap) (locs : List Loc) (ls : Array Slot), u 0 = a0 → al_M (dC, dI) vwCl xv13_6 (q5f q) A s.heap u (usZ z2 blM) H locs → lv_has ls 2 [(1, .int 6), (0, .ref (u 0))] → W p l e RI13 s m args below meth c H locs 212 1150401 Q (F0 m 867 ls [])) : W p l e RI13 s m args below meth c H locs 199 1149825 Q (F0 m 867 ls []) := by
  refine lv_iload_n hx hb diX13_867 rfl (lv_at hl 0 rfl) ?_
  refine lv_aload_n hx hb diX13_868 rfl (lv_at hl 1 rfl) ?_
  refine va_get (D := (dC, dI)) (ci := 16) (v := .ref (u 40)) (C := RX13) (T := TX13) (N := 120) hx hb hts wi13_13 hown hK hM.1 0 (al_he (X := xv13_5) (o := 0) rfl rfl rfl) rfl 39 (by decide) (hts (.fieldLink RX13 179 "KnotHouseModel" "level" "[LKnotHouseModel$Net;") mi13_43) (fun _ h9 => h9) rfl diX13_869 ?_
  refine va_alen (v := 15) hx hb hK hM.1 67 4 (al_he4' (X := xv13_5) (r := 40) rfl rfl) rfl rfl diX13_872 ?_
  refine lv_icmp_ge (tgt := 895) hx hb diX13_873 (by decide) (fun c9 => absurd c9 (by decide)) (fun _ => ?_)
  refine lv_aload_n hx hb diX13_876 rfl (lv_at hl 1 rfl) ?_
  refine va_get (D := (dC, dI)) (ci := 16) (v := .ref (u 40)) (C := RX13) (T := TX13) (N := 120) hx hb hts wi13_13 hown hK hM.1 0 (al_he (X := xv13_5) (o := 0) rfl rfl rfl) rfl 39 (by decide) (hts (.fieldLink RX13 179 "KnotHouseModel" "level" "[LKnotHouseModel$Net;") mi13_43) (fun _ h9 => h9) rfl diX13_877 ?_
  refine lv_iload_n hx hb diX13_880 rfl (lv_at hl 0 rfl) ?_
  refine va_new (ci := 15) (fs := [.int 0, .int 0, .null, .null, .null, .null, .null, .null, .null, .null, .null, .null, .int 0, .null, .null, .int 0]) (C := RX12) (T := TX12) (N := 16) hx hb hts wi13_12 tyX12 tyX12_ok hown (hts (.classLink RX13 19 RX12) mi13_9) (hts (.instantiable RX12 16) mi13_10) (hts (.initialized RX12) mi13_11) hK hM.1 hM.2.1 hM.2.2.1 hA rfl (by decide +kernel) (Nat.le_of_ble_eq_true rfl) (Nat.le_of_ble_eq_true rfl) diX13_881 (fun o208 H hP hD hS => ?_)
  refine W.widen (k := 200) (n := 1149841) (Nat.le_of_ble_eq_true rfl) (Nat.le_of_ble_eq_true rfl) ?_
  refine lv_dup hx hb diX13_884 rfl ?_
  have hPc := al_subP hP
  have hDc := al_subD hD
  have hFc := al_freeC hD hS hA
  refine va_callv (va_runIN (As := []) (rest := [.ref o208, .int 5, .ref (u 40)]) ⟨hx, hb, hml, hown, hts⟩ (k_X12_init l dC dI q.1 q.2.1 q.2.2.1 q.2.2.2.1 o208 H.size) ⟨va_cnB (host := "KnotHouseModel") 0 hts gi13_X12 rfl rfl rfl hN_X13_113 (hts (.initialized RX12) mi13_11) (by decide +kernel) ⟨(Nat.le_of_ble_eq_true rfl), (Nat.le_of_ble_eq_true rfl)⟩, rfl, hts (.instanceMethod yX12_init) mi13_12⟩ ⟨fun a U g mk q => by obtain ⟨q0, q1, qP, qK, qD⟩ := q; exact ⟨q0, q1, qP, va_K.moved (u := U) (U := U.calling g mk a) (Vm.Alike.refl U.vm) qK, qD⟩, fun U hU hW => ⟨rfl, by rw [hU], by rw [hU]; exact hPc, va_K.moved hW.alike (hK.sub [0, 1, 2, 3] rfl), hDc.weaken (fun _ _ _ _ => trivial)⟩⟩ rfl rfl hl.1 rfl (lv_room (Nat.le_of_ble_eq_true rfl)) diX13_885 ⟨(Nat.le_of_ble_eq_true rfl), (Nat.le_of_ble_eq_true rfl)⟩) hS (fun q _ h => hFc q h) hFc (fun t209 t H1 locs ht hvm hw hB hz1 hk1 hS => ?_)
  obtain ⟨z210, z211, z212, z213, z214, z215, z216, z217, z218, z219, z220, z221⟩ := t209
  obtain ⟨hP1, hD1⟩ := hB
  rw [ht] at hP1
  obtain ⟨hP, hD⟩ := al_join hP hD hk1 hFc hP1 hD1
  clear hPc hDc hFc hvm hw hz1 hk1 hP1 hD1 ht
  refine W.widen (k := 212) (n := 1150401) (Nat.le_of_ble_eq_true rfl) (Nat.le_of_ble_eq_true rfl) ?_
  refine va_astq (D := (dC, dI)) hx hb hK hP hD hS 67 4 200 15 (al_he4 (X := xv13_5) (r := 40) rfl rfl) rfl al_lastN rfl (by unfold vp_in; decide) diX13_888 (fun H locs hP hD hS => ?_)
  obtain ⟨u, hu, hM⟩ := al_extA (X := xv13_5) (X1 := xv13_6) (r := 40) (h := 9000) (Y := [9000, 9003, 9004, 9005, 9006, 9007, 9008, 9009, 9010, 9011, 9012, 9014, 9015]) (ad := [o208, z210, z211, z212, z213, z214, z215, z216, z217, z218, z219, z220, z221]) (k0 := 67) (o := 0) (n := 5) cv13_5 rfl rfl hM.2.2.2 (by decide +kernel) rfl hP hD hS
  rw [← hu] at hl
  have hu0 := hu.trans hu0
  clear hu hP hD hS
  refine W.widen (k := 212) (n := 1150401) (Nat.le_of_ble_eq_true rfl) (Nat.le_of_ble_eq_true rfl) ?_
  refine lv_iinc (v := 6) (lv' := [(1, .int 6), (0, .ref (u 0))]) hx hb diX13_889 hl (k := 0) rfl rfl (by decide) rfl (fun ls hl => ?_)
  refine lv_goto (tgt := 867) hx hb diX13_892 (by decide) ?_
  exact kk u _ _ ls hu0 hM hl
set_option maxHeartbeats 4000000 in
set_option maxRecDepth 100000 in
theorem hv13_6 {p : Program} {l : Launch} {e : Env} {s : State} {m : MethodId} {args : Array Value} {below : List Frame} {meth : Method} {c : Code} {Q : State → Prop} {A : Nat → Prop} {dC : Nat → ClassId} {dI : Nat → Nat → Nat} {q : ow_Q5} {z2 : ow_MS} (hx : p.tables.exec = Jvm.exec) (hb : c.code = cX13_init) (hml : c.maxLocals = 2) (hown : s.vm.findClass RX13 = some m.cls) (hts : ∀ w ∈ wi13, w.before args s = true) (hA : ∀ q : Nat, s.heap.size ≤ q → A q) (hK : va_K (dC, dI) vwCl (tw_T q RX12) s) (hN_X13_113 : va_Nw (.methodLinkNest RX13 113 yX12_init "KnotHouseModel") s) (hAO : va_AO RX12 s) (u : Nat → Nat) (H : Heap) (locs : List Loc) (ls : Array Slot) {a0 : Nat} (hu0 : u 0 = a0) (hM : al_M (dC, dI) vwCl xv13_6 (q5f q) A s.heap u (usZ z2 blM) H locs) (hl : lv_has ls 2 [(1, .int 6), (0, .ref (u 0))]) (kk : ∀ (u : Nat → Nat) (H : Heap) (locs : List Loc) (ls : Array Slot), u 0 = a0 → al_M (dC, dI) vwCl xv13_7 (q5f q) A s.heap u (usZ z2 blM) H locs → lv_has ls 2 [(1, .int 7), (0, .ref (u 0))] → W p l e RI13 s m args below meth c H locs 225 1150977 Q (F0 m 867 ls [])) : W p l e RI13 s m args below meth c H locs 212 1150401 Q (F0 m 867 ls []) := by
  refine lv_iload_n hx hb diX13_867 rfl (lv_at hl 0 rfl) ?_
  refine lv_aload_n hx hb diX13_868 rfl (lv_at hl 1 rfl) ?_
  refine va_get (D := (dC, dI)) (ci := 16) (v := .ref (u 40)) (C := RX13) (T := TX13) (N := 120) hx hb hts wi13_13 hown hK hM.1 0 (al_he (X := xv13_6) (o := 0) rfl rfl rfl) rfl 39 (by decide) (hts (.fieldLink RX13 179 "KnotHouseModel" "level" "[LKnotHouseModel$Net;") mi13_43) (fun _ h9 => h9) rfl diX13_869 ?_
  refine va_alen (v := 15) hx hb hK hM.1 67 4 (al_he4' (X := xv13_6) (r := 40) rfl rfl) rfl rfl diX13_872 ?_
  refine lv_icmp_ge (tgt := 895) hx hb diX13_873 (by decide) (fun c9 => absurd c9 (by decide)) (fun _ => ?_)
  refine lv_aload_n hx hb diX13_876 rfl (lv_at hl 1 rfl) ?_
  refine va_get (D := (dC, dI)) (ci := 16) (v := .ref (u 40)) (C := RX13) (T := TX13) (N := 120) hx hb hts wi13_13 hown hK hM.1 0 (al_he (X := xv13_6) (o := 0) rfl rfl rfl) rfl 39 (by decide) (hts (.fieldLink RX13 179 "KnotHouseModel" "level" "[LKnotHouseModel$Net;") mi13_43) (fun _ h9 => h9) rfl diX13_877 ?_
  refine lv_iload_n hx hb diX13_880 rfl (lv_at hl 0 rfl) ?_
  refine va_new (ci := 15) (fs := [.int 0, .int 0, .null, .null, .null, .null, .null, .null, .null, .null, .null, .null, .int 0, .null, .null, .int 0]) (C := RX12) (T := TX12) (N := 16) hx hb hts wi13_12 tyX12 tyX12_ok hown (hts (.classLink RX13 19 RX12) mi13_9) (hts (.instantiable RX12 16) mi13_10) (hts (.initialized RX12) mi13_11) hK hM.1 hM.2.1 hM.2.2.1 hA rfl (by decide +kernel) (Nat.le_of_ble_eq_true rfl) (Nat.le_of_ble_eq_true rfl) diX13_881 (fun o222 H hP hD hS => ?_)
  refine W.widen (k := 213) (n := 1150417) (Nat.le_of_ble_eq_true rfl) (Nat.le_of_ble_eq_true rfl) ?_
  refine lv_dup hx hb diX13_884 rfl ?_
  have hPc := al_subP hP
  have hDc := al_subD hD
  have hFc := al_freeC hD hS hA
  refine va_callv (va_runIN (As := []) (rest := [.ref o222, .int 6, .ref (u 40)]) ⟨hx, hb, hml, hown, hts⟩ (k_X12_init l dC dI q.1 q.2.1 q.2.2.1 q.2.2.2.1 o222 H.size) ⟨va_cnB (host := "KnotHouseModel") 0 hts gi13_X12 rfl rfl rfl hN_X13_113 (hts (.initialized RX12) mi13_11) (by decide +kernel) ⟨(Nat.le_of_ble_eq_true rfl), (Nat.le_of_ble_eq_true rfl)⟩, rfl, hts (.instanceMethod yX12_init) mi13_12⟩ ⟨fun a U g mk q => by obtain ⟨q0, q1, qP, qK, qD⟩ := q; exact ⟨q0, q1, qP, va_K.moved (u := U) (U := U.calling g mk a) (Vm.Alike.refl U.vm) qK, qD⟩, fun U hU hW => ⟨rfl, by rw [hU], by rw [hU]; exact hPc, va_K.moved hW.alike (hK.sub [0, 1, 2, 3] rfl), hDc.weaken (fun _ _ _ _ => trivial)⟩⟩ rfl rfl hl.1 rfl (lv_room (Nat.le_of_ble_eq_true rfl)) diX13_885 ⟨(Nat.le_of_ble_eq_true rfl), (Nat.le_of_ble_eq_true rfl)⟩) hS (fun q _ h => hFc q h) hFc (fun t223 t H1 locs ht hvm hw hB hz1 hk1 hS => ?_)
  obtain ⟨z224, z225, z226, z227, z228, z229, z230, z231, z232, z233, z234, z235⟩ := t223
  obtain ⟨hP1, hD1⟩ := hB
  rw [ht] at hP1
  obtain ⟨hP, hD⟩ := al_join hP hD hk1 hFc hP1 hD1
  clear hPc hDc hFc hvm hw hz1 hk1 hP1 hD1 ht
  refine W.widen (k := 225) (n := 1150977) (Nat.le_of_ble_eq_true rfl) (Nat.le_of_ble_eq_true rfl) ?_
  refine va_astq (D := (dC, dI)) hx hb hK hP hD hS 67 4 213 15 (al_he4 (X := xv13_6) (r := 40) rfl rfl) rfl al_lastN rfl (by unfold vp_in; decide) diX13_888 (fun H locs hP hD hS => ?_)
  obtain ⟨u, hu, hM⟩ := al_extA (X := xv13_6) (X1 := xv13_7) (r := 40) (h := 10000) (Y := [10000, 10003, 10004, 10005, 10006, 10007, 10008, 10009, 10010, 10011, 10012, 10014, 10015]) (ad := [o222, z224, z225, z226, z227, z228, z229, z230, z231, z232, z233, z234, z235]) (k0 := 67) (o := 0) (n := 6) cv13_6 rfl rfl hM.2.2.2 (by decide +kernel) rfl hP hD hS
  rw [← hu] at hl
  have hu0 := hu.trans hu0
  clear hu hP hD hS
  refine W.widen (k := 225) (n := 1150977) (Nat.le_of_ble_eq_true rfl) (Nat.le_of_ble_eq_true rfl) ?_
  refine lv_iinc (v := 7) (lv' := [(1, .int 7), (0, .ref (u 0))]) hx hb diX13_889 hl (k := 0) rfl rfl (by decide) rfl (fun ls hl => ?_)
  refine lv_goto (tgt := 867) hx hb diX13_892 (by decide) ?_
  exact kk u _ _ ls hu0 hM hl
set_option maxHeartbeats 4000000 in
set_option maxRecDepth 100000 in
theorem hv13_7 {p : Program} {l : Launch} {e : Env} {s : State} {m : MethodId} {args : Array Value} {below : List Frame} {meth : Method} {c : Code} {Q : State → Prop} {A : Nat → Prop} {dC : Nat → ClassId} {dI : Nat → Nat → Nat} {q : ow_Q5} {z2 : ow_MS} (hx : p.tables.exec = Jvm.exec) (hb : c.code = cX13_init) (hml : c.maxLocals = 2) (hown : s.vm.findClass RX13 = some m.cls) (hts : ∀ w ∈ wi13, w.before args s = true) (hA : ∀ q : Nat, s.heap.size ≤ q → A q) (hK : va_K (dC, dI) vwCl (tw_T q RX12) s) (hN_X13_113 : va_Nw (.methodLinkNest RX13 113 yX12_init "KnotHouseModel") s) (hAO : va_AO RX12 s) (u : Nat → Nat) (H : Heap) (locs : List Loc) (ls : Array Slot) {a0 : Nat} (hu0 : u 0 = a0) (hM : al_M (dC, dI) vwCl xv13_7 (q5f q) A s.heap u (usZ z2 blM) H locs) (hl : lv_has ls 2 [(1, .int 7), (0, .ref (u 0))]) (kk : ∀ (u : Nat → Nat) (H : Heap) (locs : List Loc) (ls : Array Slot), u 0 = a0 → al_M (dC, dI) vwCl xv13_8 (q5f q) A s.heap u (usZ z2 blM) H locs → lv_has ls 2 [(1, .int 8), (0, .ref (u 0))] → W p l e RI13 s m args below meth c H locs 238 1151553 Q (F0 m 867 ls [])) : W p l e RI13 s m args below meth c H locs 225 1150977 Q (F0 m 867 ls []) := by
  refine lv_iload_n hx hb diX13_867 rfl (lv_at hl 0 rfl) ?_
  refine lv_aload_n hx hb diX13_868 rfl (lv_at hl 1 rfl) ?_
  refine va_get (D := (dC, dI)) (ci := 16) (v := .ref (u 40)) (C := RX13) (T := TX13) (N := 120) hx hb hts wi13_13 hown hK hM.1 0 (al_he (X := xv13_7) (o := 0) rfl rfl rfl) rfl 39 (by decide) (hts (.fieldLink RX13 179 "KnotHouseModel" "level" "[LKnotHouseModel$Net;") mi13_43) (fun _ h9 => h9) rfl diX13_869 ?_
  refine va_alen (v := 15) hx hb hK hM.1 67 4 (al_he4' (X := xv13_7) (r := 40) rfl rfl) rfl rfl diX13_872 ?_
  refine lv_icmp_ge (tgt := 895) hx hb diX13_873 (by decide) (fun c9 => absurd c9 (by decide)) (fun _ => ?_)
  refine lv_aload_n hx hb diX13_876 rfl (lv_at hl 1 rfl) ?_
  refine va_get (D := (dC, dI)) (ci := 16) (v := .ref (u 40)) (C := RX13) (T := TX13) (N := 120) hx hb hts wi13_13 hown hK hM.1 0 (al_he (X := xv13_7) (o := 0) rfl rfl rfl) rfl 39 (by decide) (hts (.fieldLink RX13 179 "KnotHouseModel" "level" "[LKnotHouseModel$Net;") mi13_43) (fun _ h9 => h9) rfl diX13_877 ?_
  refine lv_iload_n hx hb diX13_880 rfl (lv_at hl 0 rfl) ?_
  refine va_new (ci := 15) (fs := [.int 0, .int 0, .null, .null, .null, .null, .null, .null, .null, .null, .null, .null, .int 0, .null, .null, .int 0]) (C := RX12) (T := TX12) (N := 16) hx hb hts wi13_12 tyX12 tyX12_ok hown (hts (.classLink RX13 19 RX12) mi13_9) (hts (.instantiable RX12 16) mi13_10) (hts (.initialized RX12) mi13_11) hK hM.1 hM.2.1 hM.2.2.1 hA rfl (by decide +kernel) (Nat.le_of_ble_eq_true rfl) (Nat.le_of_ble_eq_true rfl) diX13_881 (fun o236 H hP hD hS => ?_)
  refine W.widen (k := 226) (n := 1150993) (Nat.le_of_ble_eq_true rfl) (Nat.le_of_ble_eq_true rfl) ?_
  refine lv_dup hx hb diX13_884 rfl ?_
  have hPc := al_subP hP
  have hDc := al_subD hD
  have hFc := al_freeC hD hS hA
  refine va_callv (va_runIN (As := []) (rest := [.ref o236, .int 7, .ref (u 40)]) ⟨hx, hb, hml, hown, hts⟩ (k_X12_init l dC dI q.1 q.2.1 q.2.2.1 q.2.2.2.1 o236 H.size) ⟨va_cnB (host := "KnotHouseModel") 0 hts gi13_X12 rfl rfl rfl hN_X13_113 (hts (.initialized RX12) mi13_11) (by decide +kernel) ⟨(Nat.le_of_ble_eq_true rfl), (Nat.le_of_ble_eq_true rfl)⟩, rfl, hts (.instanceMethod yX12_init) mi13_12⟩ ⟨fun a U g mk q => by obtain ⟨q0, q1, qP, qK, qD⟩ := q; exact ⟨q0, q1, qP, va_K.moved (u := U) (U := U.calling g mk a) (Vm.Alike.refl U.vm) qK, qD⟩, fun U hU hW => ⟨rfl, by rw [hU], by rw [hU]; exact hPc, va_K.moved hW.alike (hK.sub [0, 1, 2, 3] rfl), hDc.weaken (fun _ _ _ _ => trivial)⟩⟩ rfl rfl hl.1 rfl (lv_room (Nat.le_of_ble_eq_true rfl)) diX13_885 ⟨(Nat.le_of_ble_eq_true rfl), (Nat.le_of_ble_eq_true rfl)⟩) hS (fun q _ h => hFc q h) hFc (fun t237 t H1 locs ht hvm hw hB hz1 hk1 hS => ?_)
  obtain ⟨z238, z239, z240, z241, z242, z243, z244, z245, z246, z247, z248, z249⟩ := t237
  obtain ⟨hP1, hD1⟩ := hB
  rw [ht] at hP1
  obtain ⟨hP, hD⟩ := al_join hP hD hk1 hFc hP1 hD1
  clear hPc hDc hFc hvm hw hz1 hk1 hP1 hD1 ht
  refine W.widen (k := 238) (n := 1151553) (Nat.le_of_ble_eq_true rfl) (Nat.le_of_ble_eq_true rfl) ?_
  refine va_astq (D := (dC, dI)) hx hb hK hP hD hS 67 4 226 15 (al_he4 (X := xv13_7) (r := 40) rfl rfl) rfl al_lastN rfl (by unfold vp_in; decide) diX13_888 (fun H locs hP hD hS => ?_)
  obtain ⟨u, hu, hM⟩ := al_extA (X := xv13_7) (X1 := xv13_8) (r := 40) (h := 11000) (Y := [11000, 11003, 11004, 11005, 11006, 11007, 11008, 11009, 11010, 11011, 11012, 11014, 11015]) (ad := [o236, z238, z239, z240, z241, z242, z243, z244, z245, z246, z247, z248, z249]) (k0 := 67) (o := 0) (n := 7) cv13_7 rfl rfl hM.2.2.2 (by decide +kernel) rfl hP hD hS
  rw [← hu] at hl
  have hu0 := hu.trans hu0
  clear hu hP hD hS
  refine W.widen (k := 238) (n := 1151553) (Nat.le_of_ble_eq_true rfl) (Nat.le_of_ble_eq_true rfl) ?_
  refine lv_iinc (v := 8) (lv' := [(1, .int 8), (0, .ref (u 0))]) hx hb diX13_889 hl (k := 0) rfl rfl (by decide) rfl (fun ls hl => ?_)
  refine lv_goto (tgt := 867) hx hb diX13_892 (by decide) ?_
  exact kk u _ _ ls hu0 hM hl
set_option maxHeartbeats 4000000 in
set_option maxRecDepth 100000 in
theorem hv13_8 {p : Program} {l : Launch} {e : Env} {s : State} {m : MethodId} {args : Array Value} {below : List Frame} {meth : Method} {c : Code} {Q : State → Prop} {A : Nat → Prop} {dC : Nat → ClassId} {dI : Nat → Nat → Nat} {q : ow_Q5} {z2 : ow_MS} (hx : p.tables.exec = Jvm.exec) (hb : c.code = cX13_init) (hml : c.maxLocals = 2) (hown : s.vm.findClass RX13 = some m.cls) (hts : ∀ w ∈ wi13, w.before args s = true) (hA : ∀ q : Nat, s.heap.size ≤ q → A q) (hK : va_K (dC, dI) vwCl (tw_T q RX12) s) (hN_X13_113 : va_Nw (.methodLinkNest RX13 113 yX12_init "KnotHouseModel") s) (hAO : va_AO RX12 s) (u : Nat → Nat) (H : Heap) (locs : List Loc) (ls : Array Slot) {a0 : Nat} (hu0 : u 0 = a0) (hM : al_M (dC, dI) vwCl xv13_8 (q5f q) A s.heap u (usZ z2 blM) H locs) (hl : lv_has ls 2 [(1, .int 8), (0, .ref (u 0))]) (kk : ∀ (u : Nat → Nat) (H : Heap) (locs : List Loc) (ls : Array Slot), u 0 = a0 → al_M (dC, dI) vwCl xv13_9 (q5f q) A s.heap u (usZ z2 blM) H locs → lv_has ls 2 [(1, .int 9), (0, .ref (u 0))] → W p l e RI13 s m args below meth c H locs 251 1152129 Q (F0 m 867 ls [])) : W p l e RI13 s m args below meth c H locs 238 1151553 Q (F0 m 867 ls []) := by
  refine lv_iload_n hx hb diX13_867 rfl (lv_at hl 0 rfl) ?_
  refine lv_aload_n hx hb diX13_868 rfl (lv_at hl 1 rfl) ?_
  refine va_get (D := (dC, dI)) (ci := 16) (v := .ref (u 40)) (C := RX13) (T := TX13) (N := 120) hx hb hts wi13_13 hown hK hM.1 0 (al_he (X := xv13_8) (o := 0) rfl rfl rfl) rfl 39 (by decide) (hts (.fieldLink RX13 179 "KnotHouseModel" "level" "[LKnotHouseModel$Net;") mi13_43) (fun _ h9 => h9) rfl diX13_869 ?_
  refine va_alen (v := 15) hx hb hK hM.1 67 4 (al_he4' (X := xv13_8) (r := 40) rfl rfl) rfl rfl diX13_872 ?_
  refine lv_icmp_ge (tgt := 895) hx hb diX13_873 (by decide) (fun c9 => absurd c9 (by decide)) (fun _ => ?_)
  refine lv_aload_n hx hb diX13_876 rfl (lv_at hl 1 rfl) ?_
  refine va_get (D := (dC, dI)) (ci := 16) (v := .ref (u 40)) (C := RX13) (T := TX13) (N := 120) hx hb hts wi13_13 hown hK hM.1 0 (al_he (X := xv13_8) (o := 0) rfl rfl rfl) rfl 39 (by decide) (hts (.fieldLink RX13 179 "KnotHouseModel" "level" "[LKnotHouseModel$Net;") mi13_43) (fun _ h9 => h9) rfl diX13_877 ?_
  refine lv_iload_n hx hb diX13_880 rfl (lv_at hl 0 rfl) ?_
  refine va_new (ci := 15) (fs := [.int 0, .int 0, .null, .null, .null, .null, .null, .null, .null, .null, .null, .null, .int 0, .null, .null, .int 0]) (C := RX12) (T := TX12) (N := 16) hx hb hts wi13_12 tyX12 tyX12_ok hown (hts (.classLink RX13 19 RX12) mi13_9) (hts (.instantiable RX12 16) mi13_10) (hts (.initialized RX12) mi13_11) hK hM.1 hM.2.1 hM.2.2.1 hA rfl (by decide +kernel) (Nat.le_of_ble_eq_true rfl) (Nat.le_of_ble_eq_true rfl) diX13_881 (fun o250 H hP hD hS => ?_)
  refine W.widen (k := 239) (n := 1151569) (Nat.le_of_ble_eq_true rfl) (Nat.le_of_ble_eq_true rfl) ?_
  refine lv_dup hx hb diX13_884 rfl ?_
  have hPc := al_subP hP
  have hDc := al_subD hD
  have hFc := al_freeC hD hS hA
  refine va_callv (va_runIN (As := []) (rest := [.ref o250, .int 8, .ref (u 40)]) ⟨hx, hb, hml, hown, hts⟩ (k_X12_init l dC dI q.1 q.2.1 q.2.2.1 q.2.2.2.1 o250 H.size) ⟨va_cnB (host := "KnotHouseModel") 0 hts gi13_X12 rfl rfl rfl hN_X13_113 (hts (.initialized RX12) mi13_11) (by decide +kernel) ⟨(Nat.le_of_ble_eq_true rfl), (Nat.le_of_ble_eq_true rfl)⟩, rfl, hts (.instanceMethod yX12_init) mi13_12⟩ ⟨fun a U g mk q => by obtain ⟨q0, q1, qP, qK, qD⟩ := q; exact ⟨q0, q1, qP, va_K.moved (u := U) (U := U.calling g mk a) (Vm.Alike.refl U.vm) qK, qD⟩, fun U hU hW => ⟨rfl, by rw [hU], by rw [hU]; exact hPc, va_K.moved hW.alike (hK.sub [0, 1, 2, 3] rfl), hDc.weaken (fun _ _ _ _ => trivial)⟩⟩ rfl rfl hl.1 rfl (lv_room (Nat.le_of_ble_eq_true rfl)) diX13_885 ⟨(Nat.le_of_ble_eq_true rfl), (Nat.le_of_ble_eq_true rfl)⟩) hS (fun q _ h => hFc q h) hFc (fun t251 t H1 locs ht hvm hw hB hz1 hk1 hS => ?_)
  obtain ⟨z252, z253, z254, z255, z256, z257, z258, z259, z260, z261, z262, z263⟩ := t251
  obtain ⟨hP1, hD1⟩ := hB
  rw [ht] at hP1
  obtain ⟨hP, hD⟩ := al_join hP hD hk1 hFc hP1 hD1
  clear hPc hDc hFc hvm hw hz1 hk1 hP1 hD1 ht
  refine W.widen (k := 251) (n := 1152129) (Nat.le_of_ble_eq_true rfl) (Nat.le_of_ble_eq_true rfl) ?_
  refine va_astq (D := (dC, dI)) hx hb hK hP hD hS 67 4 239 15 (al_he4 (X := xv13_8) (r := 40) rfl rfl) rfl al_lastN rfl (by unfold vp_in; decide) diX13_888 (fun H locs hP hD hS => ?_)
  obtain ⟨u, hu, hM⟩ := al_extA (X := xv13_8) (X1 := xv13_9) (r := 40) (h := 12000) (Y := [12000, 12003, 12004, 12005, 12006, 12007, 12008, 12009, 12010, 12011, 12012, 12014, 12015]) (ad := [o250, z252, z253, z254, z255, z256, z257, z258, z259, z260, z261, z262, z263]) (k0 := 67) (o := 0) (n := 8) cv13_8 rfl rfl hM.2.2.2 (by decide +kernel) rfl hP hD hS
  rw [← hu] at hl
  have hu0 := hu.trans hu0
  clear hu hP hD hS
  refine W.widen (k := 251) (n := 1152129) (Nat.le_of_ble_eq_true rfl) (Nat.le_of_ble_eq_true rfl) ?_
  refine lv_iinc (v := 9) (lv' := [(1, .int 9), (0, .ref (u 0))]) hx hb diX13_889 hl (k := 0) rfl rfl (by decide) rfl (fun ls hl => ?_)
  refine lv_goto (tgt := 867) hx hb diX13_892 (by decide) ?_
  exact kk u _ _ ls hu0 hM hl
set_option maxHeartbeats 4000000 in
set_option maxRecDepth 100000 in
theorem hv13_9 {p : Program} {l : Launch} {e : Env} {s : State} {m : MethodId} {args : Array Value} {below : List Frame} {meth : Method} {c : Code} {Q : State → Prop} {A : Nat → Prop} {dC : Nat → ClassId} {dI : Nat → Nat → Nat} {q : ow_Q5} {z2 : ow_MS} (hx : p.tables.exec = Jvm.exec) (hb : c.code = cX13_init) (hml : c.maxLocals = 2) (hown : s.vm.findClass RX13 = some m.cls) (hts : ∀ w ∈ wi13, w.before args s = true) (hA : ∀ q : Nat, s.heap.size ≤ q → A q) (hK : va_K (dC, dI) vwCl (tw_T q RX12) s) (hN_X13_113 : va_Nw (.methodLinkNest RX13 113 yX12_init "KnotHouseModel") s) (hAO : va_AO RX12 s) (u : Nat → Nat) (H : Heap) (locs : List Loc) (ls : Array Slot) {a0 : Nat} (hu0 : u 0 = a0) (hM : al_M (dC, dI) vwCl xv13_9 (q5f q) A s.heap u (usZ z2 blM) H locs) (hl : lv_has ls 2 [(1, .int 9), (0, .ref (u 0))]) (kk : ∀ (u : Nat → Nat) (H : Heap) (locs : List Loc) (ls : Array Slot), u 0 = a0 → al_M (dC, dI) vwCl xv13_10 (q5f q) A s.heap u (usZ z2 blM) H locs → lv_has ls 2 [(1, .int 10), (0, .ref (u 0))] → W p l e RI13 s m args below meth c H locs 264 1152705 Q (F0 m 867 ls [])) : W p l e RI13 s m args below meth c H locs 251 1152129 Q (F0 m 867 ls []) := by
  refine lv_iload_n hx hb diX13_867 rfl (lv_at hl 0 rfl) ?_
  refine lv_aload_n hx hb diX13_868 rfl (lv_at hl 1 rfl) ?_
  refine va_get (D := (dC, dI)) (ci := 16) (v := .ref (u 40)) (C := RX13) (T := TX13) (N := 120) hx hb hts wi13_13 hown hK hM.1 0 (al_he (X := xv13_9) (o := 0) rfl rfl rfl) rfl 39 (by decide) (hts (.fieldLink RX13 179 "KnotHouseModel" "level" "[LKnotHouseModel$Net;") mi13_43) (fun _ h9 => h9) rfl diX13_869 ?_
  refine va_alen (v := 15) hx hb hK hM.1 67 4 (al_he4' (X := xv13_9) (r := 40) rfl rfl) rfl rfl diX13_872 ?_
  refine lv_icmp_ge (tgt := 895) hx hb diX13_873 (by decide) (fun c9 => absurd c9 (by decide)) (fun _ => ?_)
  refine lv_aload_n hx hb diX13_876 rfl (lv_at hl 1 rfl) ?_
  refine va_get (D := (dC, dI)) (ci := 16) (v := .ref (u 40)) (C := RX13) (T := TX13) (N := 120) hx hb hts wi13_13 hown hK hM.1 0 (al_he (X := xv13_9) (o := 0) rfl rfl rfl) rfl 39 (by decide) (hts (.fieldLink RX13 179 "KnotHouseModel" "level" "[LKnotHouseModel$Net;") mi13_43) (fun _ h9 => h9) rfl diX13_877 ?_
  refine lv_iload_n hx hb diX13_880 rfl (lv_at hl 0 rfl) ?_
  refine va_new (ci := 15) (fs := [.int 0, .int 0, .null, .null, .null, .null, .null, .null, .null, .null, .null, .null, .int 0, .null, .null, .int 0]) (C := RX12) (T := TX12) (N := 16) hx hb hts wi13_12 tyX12 tyX12_ok hown (hts (.classLink RX13 19 RX12) mi13_9) (hts (.instantiable RX12 16) mi13_10) (hts (.initialized RX12) mi13_11) hK hM.1 hM.2.1 hM.2.2.1 hA rfl (by decide +kernel) (Nat.le_of_ble_eq_true rfl) (Nat.le_of_ble_eq_true rfl) diX13_881 (fun o264 H hP hD hS => ?_)
  refine W.widen (k := 252) (n := 1152145) (Nat.le_of_ble_eq_true rfl) (Nat.le_of_ble_eq_true rfl) ?_
  refine lv_dup hx hb diX13_884 rfl ?_
  have hPc := al_subP hP
  have hDc := al_subD hD
  have hFc := al_freeC hD hS hA
  refine va_callv (va_runIN (As := []) (rest := [.ref o264, .int 9, .ref (u 40)]) ⟨hx, hb, hml, hown, hts⟩ (k_X12_init l dC dI q.1 q.2.1 q.2.2.1 q.2.2.2.1 o264 H.size) ⟨va_cnB (host := "KnotHouseModel") 0 hts gi13_X12 rfl rfl rfl hN_X13_113 (hts (.initialized RX12) mi13_11) (by decide +kernel) ⟨(Nat.le_of_ble_eq_true rfl), (Nat.le_of_ble_eq_true rfl)⟩, rfl, hts (.instanceMethod yX12_init) mi13_12⟩ ⟨fun a U g mk q => by obtain ⟨q0, q1, qP, qK, qD⟩ := q; exact ⟨q0, q1, qP, va_K.moved (u := U) (U := U.calling g mk a) (Vm.Alike.refl U.vm) qK, qD⟩, fun U hU hW => ⟨rfl, by rw [hU], by rw [hU]; exact hPc, va_K.moved hW.alike (hK.sub [0, 1, 2, 3] rfl), hDc.weaken (fun _ _ _ _ => trivial)⟩⟩ rfl rfl hl.1 rfl (lv_room (Nat.le_of_ble_eq_true rfl)) diX13_885 ⟨(Nat.le_of_ble_eq_true rfl), (Nat.le_of_ble_eq_true rfl)⟩) hS (fun q _ h => hFc q h) hFc (fun t265 t H1 locs ht hvm hw hB hz1 hk1 hS => ?_)
  obtain ⟨z266, z267, z268, z269, z270, z271, z272, z273, z274, z275, z276, z277⟩ := t265
  obtain ⟨hP1, hD1⟩ := hB
  rw [ht] at hP1
  obtain ⟨hP, hD⟩ := al_join hP hD hk1 hFc hP1 hD1
  clear hPc hDc hFc hvm hw hz1 hk1 hP1 hD1 ht
  refine W.widen (k := 264) (n := 1152705) (Nat.le_of_ble_eq_true rfl) (Nat.le_of_ble_eq_true rfl) ?_
  refine va_astq (D := (dC, dI)) hx hb hK hP hD hS 67 4 252 15 (al_he4 (X := xv13_9) (r := 40) rfl rfl) rfl al_lastN rfl (by unfold vp_in; decide) diX13_888 (fun H locs hP hD hS => ?_)
  obtain ⟨u, hu, hM⟩ := al_extA (X := xv13_9) (X1 := xv13_10) (r := 40) (h := 13000) (Y := [13000, 13003, 13004, 13005, 13006, 13007, 13008, 13009, 13010, 13011, 13012, 13014, 13015]) (ad := [o264, z266, z267, z268, z269, z270, z271, z272, z273, z274, z275, z276, z277]) (k0 := 67) (o := 0) (n := 9) cv13_9 rfl rfl hM.2.2.2 (by decide +kernel) rfl hP hD hS
  rw [← hu] at hl
  have hu0 := hu.trans hu0
  clear hu hP hD hS
  refine W.widen (k := 264) (n := 1152705) (Nat.le_of_ble_eq_true rfl) (Nat.le_of_ble_eq_true rfl) ?_
  refine lv_iinc (v := 10) (lv' := [(1, .int 10), (0, .ref (u 0))]) hx hb diX13_889 hl (k := 0) rfl rfl (by decide) rfl (fun ls hl => ?_)
  refine lv_goto (tgt := 867) hx hb diX13_892 (by decide) ?_
  exact kk u _ _ ls hu0 hM hl
set_option maxHeartbeats 4000000 in
set_option maxRecDepth 100000 in
theorem hv13_10 {p : Program} {l : Launch} {e : Env} {s : State} {m : MethodId} {args : Array Value} {below : List Frame} {meth : Method} {c : Code} {Q : State → Prop} {A : Nat → Prop} {dC : Nat → ClassId} {dI : Nat → Nat → Nat} {q : ow_Q5} {z2 : ow_MS} (hx : p.tables.exec = Jvm.exec) (hb : c.code = cX13_init) (hml : c.maxLocals = 2) (hown : s.vm.findClass RX13 = some m.cls) (hts : ∀ w ∈ wi13, w.before args s = true) (hA : ∀ q : Nat, s.heap.size ≤ q → A q) (hK : va_K (dC, dI) vwCl (tw_T q RX12) s) (hN_X13_113 : va_Nw (.methodLinkNest RX13 113 yX12_init "KnotHouseModel") s) (hAO : va_AO RX12 s) (u : Nat → Nat) (H : Heap) (locs : List Loc) (ls : Array Slot) {a0 : Nat} (hu0 : u 0 = a0) (hM : al_M (dC, dI) vwCl xv13_10 (q5f q) A s.heap u (usZ z2 blM) H locs) (hl : lv_has ls 2 [(1, .int 10), (0, .ref (u 0))]) (kk : ∀ (u : Nat → Nat) (H : Heap) (locs : List Loc) (ls : Array Slot), u 0 = a0 → al_M (dC, dI) vwCl xv13_11 (q5f q) A s.heap u (usZ z2 blM) H locs → lv_has ls 2 [(1, .int 11), (0, .ref (u 0))] → W p l e RI13 s m args below meth c H locs 277 1153281 Q (F0 m 867 ls [])) : W p l e RI13 s m args below meth c H locs 264 1152705 Q (F0 m 867 ls []) := by
  refine lv_iload_n hx hb diX13_867 rfl (lv_at hl 0 rfl) ?_
  refine lv_aload_n hx hb diX13_868 rfl (lv_at hl 1 rfl) ?_
  refine va_get (D := (dC, dI)) (ci := 16) (v := .ref (u 40)) (C := RX13) (T := TX13) (N := 120) hx hb hts wi13_13 hown hK hM.1 0 (al_he (X := xv13_10) (o := 0) rfl rfl rfl) rfl 39 (by decide) (hts (.fieldLink RX13 179 "KnotHouseModel" "level" "[LKnotHouseModel$Net;") mi13_43) (fun _ h9 => h9) rfl diX13_869 ?_
  refine va_alen (v := 15) hx hb hK hM.1 67 4 (al_he4' (X := xv13_10) (r := 40) rfl rfl) rfl rfl diX13_872 ?_
  refine lv_icmp_ge (tgt := 895) hx hb diX13_873 (by decide) (fun c9 => absurd c9 (by decide)) (fun _ => ?_)
  refine lv_aload_n hx hb diX13_876 rfl (lv_at hl 1 rfl) ?_
  refine va_get (D := (dC, dI)) (ci := 16) (v := .ref (u 40)) (C := RX13) (T := TX13) (N := 120) hx hb hts wi13_13 hown hK hM.1 0 (al_he (X := xv13_10) (o := 0) rfl rfl rfl) rfl 39 (by decide) (hts (.fieldLink RX13 179 "KnotHouseModel" "level" "[LKnotHouseModel$Net;") mi13_43) (fun _ h9 => h9) rfl diX13_877 ?_
  refine lv_iload_n hx hb diX13_880 rfl (lv_at hl 0 rfl) ?_
  refine va_new (ci := 15) (fs := [.int 0, .int 0, .null, .null, .null, .null, .null, .null, .null, .null, .null, .null, .int 0, .null, .null, .int 0]) (C := RX12) (T := TX12) (N := 16) hx hb hts wi13_12 tyX12 tyX12_ok hown (hts (.classLink RX13 19 RX12) mi13_9) (hts (.instantiable RX12 16) mi13_10) (hts (.initialized RX12) mi13_11) hK hM.1 hM.2.1 hM.2.2.1 hA rfl (by decide +kernel) (Nat.le_of_ble_eq_true rfl) (Nat.le_of_ble_eq_true rfl) diX13_881 (fun o278 H hP hD hS => ?_)
  refine W.widen (k := 265) (n := 1152721) (Nat.le_of_ble_eq_true rfl) (Nat.le_of_ble_eq_true rfl) ?_
  refine lv_dup hx hb diX13_884 rfl ?_
  have hPc := al_subP hP
  have hDc := al_subD hD
  have hFc := al_freeC hD hS hA
  refine va_callv (va_runIN (As := []) (rest := [.ref o278, .int 10, .ref (u 40)]) ⟨hx, hb, hml, hown, hts⟩ (k_X12_init l dC dI q.1 q.2.1 q.2.2.1 q.2.2.2.1 o278 H.size) ⟨va_cnB (host := "KnotHouseModel") 0 hts gi13_X12 rfl rfl rfl hN_X13_113 (hts (.initialized RX12) mi13_11) (by decide +kernel) ⟨(Nat.le_of_ble_eq_true rfl), (Nat.le_of_ble_eq_true rfl)⟩, rfl, hts (.instanceMethod yX12_init) mi13_12⟩ ⟨fun a U g mk q => by obtain ⟨q0, q1, qP, qK, qD⟩ := q; exact ⟨q0, q1, qP, va_K.moved (u := U) (U := U.calling g mk a) (Vm.Alike.refl U.vm) qK, qD⟩, fun U hU hW => ⟨rfl, by rw [hU], by rw [hU]; exact hPc, va_K.moved hW.alike (hK.sub [0, 1, 2, 3] rfl), hDc.weaken (fun _ _ _ _ => trivial)⟩⟩ rfl rfl hl.1 rfl (lv_room (Nat.le_of_ble_eq_true rfl)) diX13_885 ⟨(Nat.le_of_ble_eq_true rfl), (Nat.le_of_ble_eq_true rfl)⟩) hS (fun q _ h => hFc q h) hFc (fun t279 t H1 locs ht hvm hw hB hz1 hk1 hS => ?_)
  obtain ⟨z280, z281, z282, z283, z284, z285, z286, z287, z288, z289, z290, z291⟩ := t279
  obtain ⟨hP1, hD1⟩ := hB
  rw [ht] at hP1
  obtain ⟨hP, hD⟩ := al_join hP hD hk1 hFc hP1 hD1
  clear hPc hDc hFc hvm hw hz1 hk1 hP1 hD1 ht
  refine W.widen (k := 277) (n := 1153281) (Nat.le_of_ble_eq_true rfl) (Nat.le_of_ble_eq_true rfl) ?_
  refine va_astq (D := (dC, dI)) hx hb hK hP hD hS 67 4 265 15 (al_he4 (X := xv13_10) (r := 40) rfl rfl) rfl al_lastN rfl (by unfold vp_in; decide) diX13_888 (fun H locs hP hD hS => ?_)
  obtain ⟨u, hu, hM⟩ := al_extA (X := xv13_10) (X1 := xv13_11) (r := 40) (h := 14000) (Y := [14000, 14003, 14004, 14005, 14006, 14007, 14008, 14009, 14010, 14011, 14012, 14014, 14015]) (ad := [o278, z280, z281, z282, z283, z284, z285, z286, z287, z288, z289, z290, z291]) (k0 := 67) (o := 0) (n := 10) cv13_10 rfl rfl hM.2.2.2 (by decide +kernel) rfl hP hD hS
  rw [← hu] at hl
  have hu0 := hu.trans hu0
  clear hu hP hD hS
  refine W.widen (k := 277) (n := 1153281) (Nat.le_of_ble_eq_true rfl) (Nat.le_of_ble_eq_true rfl) ?_
  refine lv_iinc (v := 11) (lv' := [(1, .int 11), (0, .ref (u 0))]) hx hb diX13_889 hl (k := 0) rfl rfl (by decide) rfl (fun ls hl => ?_)
  refine lv_goto (tgt := 867) hx hb diX13_892 (by decide) ?_
  exact kk u _ _ ls hu0 hM hl
set_option maxHeartbeats 4000000 in
set_option maxRecDepth 100000 in
theorem hv13_11 {p : Program} {l : Launch} {e : Env} {s : State} {m : MethodId} {args : Array Value} {below : List Frame} {meth : Method} {c : Code} {Q : State → Prop} {A : Nat → Prop} {dC : Nat → ClassId} {dI : Nat → Nat → Nat} {q : ow_Q5} {z2 : ow_MS} (hx : p.tables.exec = Jvm.exec) (hb : c.code = cX13_init) (hml : c.maxLocals = 2) (hown : s.vm.findClass RX13 = some m.cls) (hts : ∀ w ∈ wi13, w.before args s = true) (hA : ∀ q : Nat, s.heap.size ≤ q → A q) (hK : va_K (dC, dI) vwCl (tw_T q RX12) s) (hN_X13_113 : va_Nw (.methodLinkNest RX13 113 yX12_init "KnotHouseModel") s) (hAO : va_AO RX12 s) (u : Nat → Nat) (H : Heap) (locs : List Loc) (ls : Array Slot) {a0 : Nat} (hu0 : u 0 = a0) (hM : al_M (dC, dI) vwCl xv13_11 (q5f q) A s.heap u (usZ z2 blM) H locs) (hl : lv_has ls 2 [(1, .int 11), (0, .ref (u 0))]) (kk : ∀ (u : Nat → Nat) (H : Heap) (locs : List Loc) (ls : Array Slot), u 0 = a0 → al_M (dC, dI) vwCl xv13_12 (q5f q) A s.heap u (usZ z2 blM) H locs → lv_has ls 2 [(1, .int 12), (0, .ref (u 0))] → W p l e RI13 s m args below meth c H locs 290 1153857 Q (F0 m 867 ls [])) : W p l e RI13 s m args below meth c H locs 277 1153281 Q (F0 m 867 ls []) := by
  refine lv_iload_n hx hb diX13_867 rfl (lv_at hl 0 rfl) ?_
  refine lv_aload_n hx hb diX13_868 rfl (lv_at hl 1 rfl) ?_
  refine va_get (D := (dC, dI)) (ci := 16) (v := .ref (u 40)) (C := RX13) (T := TX13) (N := 120) hx hb hts wi13_13 hown hK hM.1 0 (al_he (X := xv13_11) (o := 0) rfl rfl rfl) rfl 39 (by decide) (hts (.fieldLink RX13 179 "KnotHouseModel" "level" "[LKnotHouseModel$Net;") mi13_43) (fun _ h9 => h9) rfl diX13_869 ?_
  refine va_alen (v := 15) hx hb hK hM.1 67 4 (al_he4' (X := xv13_11) (r := 40) rfl rfl) rfl rfl diX13_872 ?_
  refine lv_icmp_ge (tgt := 895) hx hb diX13_873 (by decide) (fun c9 => absurd c9 (by decide)) (fun _ => ?_)
  refine lv_aload_n hx hb diX13_876 rfl (lv_at hl 1 rfl) ?_
  refine va_get (D := (dC, dI)) (ci := 16) (v := .ref (u 40)) (C := RX13) (T := TX13) (N := 120) hx hb hts wi13_13 hown hK hM.1 0 (al_he (X := xv13_11) (o := 0) rfl rfl rfl) rfl 39 (by decide) (hts (.fieldLink RX13 179 "KnotHouseModel" "level" "[LKnotHouseModel$Net;") mi13_43) (fun _ h9 => h9) rfl diX13_877 ?_
  refine lv_iload_n hx hb diX13_880 rfl (lv_at hl 0 rfl) ?_
  refine va_new (ci := 15) (fs := [.int 0, .int 0, .null, .null, .null, .null, .null, .null, .null, .null, .null, .null, .int 0, .null, .null, .int 0]) (C := RX12) (T := TX12) (N := 16) hx hb hts wi13_12 tyX12 tyX12_ok hown (hts (.classLink RX13 19 RX12) mi13_9) (hts (.instantiable RX12 16) mi13_10) (hts (.initialized RX12) mi13_11) hK hM.1 hM.2.1 hM.2.2.1 hA rfl (by decide +kernel) (Nat.le_of_ble_eq_true rfl) (Nat.le_of_ble_eq_true rfl) diX13_881 (fun o292 H hP hD hS => ?_)
  refine W.widen (k := 278) (n := 1153297) (Nat.le_of_ble_eq_true rfl) (Nat.le_of_ble_eq_true rfl) ?_
  refine lv_dup hx hb diX13_884 rfl ?_
  have hPc := al_subP hP
  have hDc := al_subD hD
  have hFc := al_freeC hD hS hA
  refine va_callv (va_runIN (As := []) (rest := [.ref o292, .int 11, .ref (u 40)]) ⟨hx, hb, hml, hown, hts⟩ (k_X12_init l dC dI q.1 q.2.1 q.2.2.1 q.2.2.2.1 o292 H.size) ⟨va_cnB (host := "KnotHouseModel") 0 hts gi13_X12 rfl rfl rfl hN_X13_113 (hts (.initialized RX12) mi13_11) (by decide +kernel) ⟨(Nat.le_of_ble_eq_true rfl), (Nat.le_of_ble_eq_true rfl)⟩, rfl, hts (.instanceMethod yX12_init) mi13_12⟩ ⟨fun a U g mk q => by obtain ⟨q0, q1, qP, qK, qD⟩ := q; exact ⟨q0, q1, qP, va_K.moved (u := U) (U := U.calling g mk a) (Vm.Alike.refl U.vm) qK, qD⟩, fun U hU hW => ⟨rfl, by rw [hU], by rw [hU]; exact hPc, va_K.moved hW.alike (hK.sub [0, 1, 2, 3] rfl), hDc.weaken (fun _ _ _ _ => trivial)⟩⟩ rfl rfl hl.1 rfl (lv_room (Nat.le_of_ble_eq_true rfl)) diX13_885 ⟨(Nat.le_of_ble_eq_true rfl), (Nat.le_of_ble_eq_true rfl)⟩) hS (fun q _ h => hFc q h) hFc (fun t293 t H1 locs ht hvm hw hB hz1 hk1 hS => ?_)
  obtain ⟨z294, z295, z296, z297, z298, z299, z300, z301, z302, z303, z304, z305⟩ := t293
  obtain ⟨hP1, hD1⟩ := hB
  rw [ht] at hP1
  obtain ⟨hP, hD⟩ := al_join hP hD hk1 hFc hP1 hD1
  clear hPc hDc hFc hvm hw hz1 hk1 hP1 hD1 ht
  refine W.widen (k := 290) (n := 1153857) (Nat.le_of_ble_eq_true rfl) (Nat.le_of_ble_eq_true rfl) ?_
  refine va_astq (D := (dC, dI)) hx hb hK hP hD hS 67 4 278 15 (al_he4 (X := xv13_11) (r := 40) rfl rfl) rfl al_lastN rfl (by unfold vp_in; decide) diX13_888 (fun H locs hP hD hS => ?_)
  obtain ⟨u, hu, hM⟩ := al_extA (X := xv13_11) (X1 := xv13_12) (r := 40) (h := 15000) (Y := [15000, 15003, 15004, 15005, 15006, 15007, 15008, 15009, 15010, 15011, 15012, 15014, 15015]) (ad := [o292, z294, z295, z296, z297, z298, z299, z300, z301, z302, z303, z304, z305]) (k0 := 67) (o := 0) (n := 11) cv13_11 rfl rfl hM.2.2.2 (by decide +kernel) rfl hP hD hS
  rw [← hu] at hl
  have hu0 := hu.trans hu0
  clear hu hP hD hS
  refine W.widen (k := 290) (n := 1153857) (Nat.le_of_ble_eq_true rfl) (Nat.le_of_ble_eq_true rfl) ?_
  refine lv_iinc (v := 12) (lv' := [(1, .int 12), (0, .ref (u 0))]) hx hb diX13_889 hl (k := 0) rfl rfl (by decide) rfl (fun ls hl => ?_)
  refine lv_goto (tgt := 867) hx hb diX13_892 (by decide) ?_
  exact kk u _ _ ls hu0 hM hl
set_option maxHeartbeats 4000000 in
set_option maxRecDepth 100000 in
theorem hv13_12 {p : Program} {l : Launch} {e : Env} {s : State} {m : MethodId} {args : Array Value} {below : List Frame} {meth : Method} {c : Code} {Q : State → Prop} {A : Nat → Prop} {dC : Nat → ClassId} {dI : Nat → Nat → Nat} {q : ow_Q5} {z2 : ow_MS} (hx : p.tables.exec = Jvm.exec) (hb : c.code = cX13_init) (hml : c.maxLocals = 2) (hown : s.vm.findClass RX13 = some m.cls) (hts : ∀ w ∈ wi13, w.before args s = true) (hA : ∀ q : Nat, s.heap.size ≤ q → A q) (hK : va_K (dC, dI) vwCl (tw_T q RX12) s) (hN_X13_113 : va_Nw (.methodLinkNest RX13 113 yX12_init "KnotHouseModel") s) (hAO : va_AO RX12 s) (u : Nat → Nat) (H : Heap) (locs : List Loc) (ls : Array Slot) {a0 : Nat} (hu0 : u 0 = a0) (hM : al_M (dC, dI) vwCl xv13_12 (q5f q) A s.heap u (usZ z2 blM) H locs) (hl : lv_has ls 2 [(1, .int 12), (0, .ref (u 0))]) (kk : ∀ (u : Nat → Nat) (H : Heap) (locs : List Loc) (ls : Array Slot), u 0 = a0 → al_M (dC, dI) vwCl xv13_13 (q5f q) A s.heap u (usZ z2 blM) H locs → lv_has ls 2 [(1, .int 13), (0, .ref (u 0))] → W p l e RI13 s m args below meth c H locs 303 1154433 Q (F0 m 867 ls [])) : W p l e RI13 s m args below meth c H locs 290 1153857 Q (F0 m 867 ls []) := by
  refine lv_iload_n hx hb diX13_867 rfl (lv_at hl 0 rfl) ?_
  refine lv_aload_n hx hb diX13_868 rfl (lv_at hl 1 rfl) ?_
  refine va_get (D := (dC, dI)) (ci := 16) (v := .ref (u 40)) (C := RX13) (T := TX13) (N := 120) hx hb hts wi13_13 hown hK hM.1 0 (al_he (X := xv13_12) (o := 0) rfl rfl rfl) rfl 39 (by decide) (hts (.fieldLink RX13 179 "KnotHouseModel" "level" "[LKnotHouseModel$Net;") mi13_43) (fun _ h9 => h9) rfl diX13_869 ?_
  refine va_alen (v := 15) hx hb hK hM.1 67 4 (al_he4' (X := xv13_12) (r := 40) rfl rfl) rfl rfl diX13_872 ?_
  refine lv_icmp_ge (tgt := 895) hx hb diX13_873 (by decide) (fun c9 => absurd c9 (by decide)) (fun _ => ?_)
  refine lv_aload_n hx hb diX13_876 rfl (lv_at hl 1 rfl) ?_
  refine va_get (D := (dC, dI)) (ci := 16) (v := .ref (u 40)) (C := RX13) (T := TX13) (N := 120) hx hb hts wi13_13 hown hK hM.1 0 (al_he (X := xv13_12) (o := 0) rfl rfl rfl) rfl 39 (by decide) (hts (.fieldLink RX13 179 "KnotHouseModel" "level" "[LKnotHouseModel$Net;") mi13_43) (fun _ h9 => h9) rfl diX13_877 ?_
  refine lv_iload_n hx hb diX13_880 rfl (lv_at hl 0 rfl) ?_
  refine va_new (ci := 15) (fs := [.int 0, .int 0, .null, .null, .null, .null, .null, .null, .null, .null, .null, .null, .int 0, .null, .null, .int 0]) (C := RX12) (T := TX12) (N := 16) hx hb hts wi13_12 tyX12 tyX12_ok hown (hts (.classLink RX13 19 RX12) mi13_9) (hts (.instantiable RX12 16) mi13_10) (hts (.initialized RX12) mi13_11) hK hM.1 hM.2.1 hM.2.2.1 hA rfl (by decide +kernel) (Nat.le_of_ble_eq_true rfl) (Nat.le_of_ble_eq_true rfl) diX13_881 (fun o306 H hP hD hS => ?_)
  refine W.widen (k := 291) (n := 1153873) (Nat.le_of_ble_eq_true rfl) (Nat.le_of_ble_eq_true rfl) ?_
  refine lv_dup hx hb diX13_884 rfl ?_
  have hPc := al_subP hP
  have hDc := al_subD hD
  have hFc := al_freeC hD hS hA
  refine va_callv (va_runIN (As := []) (rest := [.ref o306, .int 12, .ref (u 40)]) ⟨hx, hb, hml, hown, hts⟩ (k_X12_init l dC dI q.1 q.2.1 q.2.2.1 q.2.2.2.1 o306 H.size) ⟨va_cnB (host := "KnotHouseModel") 0 hts gi13_X12 rfl rfl rfl hN_X13_113 (hts (.initialized RX12) mi13_11) (by decide +kernel) ⟨(Nat.le_of_ble_eq_true rfl), (Nat.le_of_ble_eq_true rfl)⟩, rfl, hts (.instanceMethod yX12_init) mi13_12⟩ ⟨fun a U g mk q => by obtain ⟨q0, q1, qP, qK, qD⟩ := q; exact ⟨q0, q1, qP, va_K.moved (u := U) (U := U.calling g mk a) (Vm.Alike.refl U.vm) qK, qD⟩, fun U hU hW => ⟨rfl, by rw [hU], by rw [hU]; exact hPc, va_K.moved hW.alike (hK.sub [0, 1, 2, 3] rfl), hDc.weaken (fun _ _ _ _ => trivial)⟩⟩ rfl rfl hl.1 rfl (lv_room (Nat.le_of_ble_eq_true rfl)) diX13_885 ⟨(Nat.le_of_ble_eq_true rfl), (Nat.le_of_ble_eq_true rfl)⟩) hS (fun q _ h => hFc q h) hFc (fun t307 t H1 locs ht hvm hw hB hz1 hk1 hS => ?_)
  obtain ⟨z308, z309, z310, z311, z312, z313, z314, z315, z316, z317, z318, z319⟩ := t307
  obtain ⟨hP1, hD1⟩ := hB
  rw [ht] at hP1
  obtain ⟨hP, hD⟩ := al_join hP hD hk1 hFc hP1 hD1
  clear hPc hDc hFc hvm hw hz1 hk1 hP1 hD1 ht
  refine W.widen (k := 303) (n := 1154433) (Nat.le_of_ble_eq_true rfl) (Nat.le_of_ble_eq_true rfl) ?_
  refine va_astq (D := (dC, dI)) hx hb hK hP hD hS 67 4 291 15 (al_he4 (X := xv13_12) (r := 40) rfl rfl) rfl al_lastN rfl (by unfold vp_in; decide) diX13_888 (fun H locs hP hD hS => ?_)
  obtain ⟨u, hu, hM⟩ := al_extA (X := xv13_12) (X1 := xv13_13) (r := 40) (h := 16000) (Y := [16000, 16003, 16004, 16005, 16006, 16007, 16008, 16009, 16010, 16011, 16012, 16014, 16015]) (ad := [o306, z308, z309, z310, z311, z312, z313, z314, z315, z316, z317, z318, z319]) (k0 := 67) (o := 0) (n := 12) cv13_12 rfl rfl hM.2.2.2 (by decide +kernel) rfl hP hD hS
  rw [← hu] at hl
  have hu0 := hu.trans hu0
  clear hu hP hD hS
  refine W.widen (k := 303) (n := 1154433) (Nat.le_of_ble_eq_true rfl) (Nat.le_of_ble_eq_true rfl) ?_
  refine lv_iinc (v := 13) (lv' := [(1, .int 13), (0, .ref (u 0))]) hx hb diX13_889 hl (k := 0) rfl rfl (by decide) rfl (fun ls hl => ?_)
  refine lv_goto (tgt := 867) hx hb diX13_892 (by decide) ?_
  exact kk u _ _ ls hu0 hM hl
set_option maxHeartbeats 4000000 in
set_option maxRecDepth 100000 in
theorem hv13_13 {p : Program} {l : Launch} {e : Env} {s : State} {m : MethodId} {args : Array Value} {below : List Frame} {meth : Method} {c : Code} {Q : State → Prop} {A : Nat → Prop} {dC : Nat → ClassId} {dI : Nat → Nat → Nat} {q : ow_Q5} {z2 : ow_MS} (hx : p.tables.exec = Jvm.exec) (hb : c.code = cX13_init) (hml : c.maxLocals = 2) (hown : s.vm.findClass RX13 = some m.cls) (hts : ∀ w ∈ wi13, w.before args s = true) (hA : ∀ q : Nat, s.heap.size ≤ q → A q) (hK : va_K (dC, dI) vwCl (tw_T q RX12) s) (hN_X13_113 : va_Nw (.methodLinkNest RX13 113 yX12_init "KnotHouseModel") s) (hAO : va_AO RX12 s) (u : Nat → Nat) (H : Heap) (locs : List Loc) (ls : Array Slot) {a0 : Nat} (hu0 : u 0 = a0) (hM : al_M (dC, dI) vwCl xv13_13 (q5f q) A s.heap u (usZ z2 blM) H locs) (hl : lv_has ls 2 [(1, .int 13), (0, .ref (u 0))]) (kk : ∀ (u : Nat → Nat) (H : Heap) (locs : List Loc) (ls : Array Slot), u 0 = a0 → al_M (dC, dI) vwCl xv13_14 (q5f q) A s.heap u (usZ z2 blM) H locs → lv_has ls 2 [(1, .int 14), (0, .ref (u 0))] → W p l e RI13 s m args below meth c H locs 316 1155009 Q (F0 m 867 ls [])) : W p l e RI13 s m args below meth c H locs 303 1154433 Q (F0 m 867 ls []) := by
  refine lv_iload_n hx hb diX13_867 rfl (lv_at hl 0 rfl) ?_
  refine lv_aload_n hx hb diX13_868 rfl (lv_at hl 1 rfl) ?_
  refine va_get (D := (dC, dI)) (ci := 16) (v := .ref (u 40)) (C := RX13) (T := TX13) (N := 120) hx hb hts wi13_13 hown hK hM.1 0 (al_he (X := xv13_13) (o := 0) rfl rfl rfl) rfl 39 (by decide) (hts (.fieldLink RX13 179 "KnotHouseModel" "level" "[LKnotHouseModel$Net;") mi13_43) (fun _ h9 => h9) rfl diX13_869 ?_
  refine va_alen (v := 15) hx hb hK hM.1 67 4 (al_he4' (X := xv13_13) (r := 40) rfl rfl) rfl rfl diX13_872 ?_
  refine lv_icmp_ge (tgt := 895) hx hb diX13_873 (by decide) (fun c9 => absurd c9 (by decide)) (fun _ => ?_)
  refine lv_aload_n hx hb diX13_876 rfl (lv_at hl 1 rfl) ?_
  refine va_get (D := (dC, dI)) (ci := 16) (v := .ref (u 40)) (C := RX13) (T := TX13) (N := 120) hx hb hts wi13_13 hown hK hM.1 0 (al_he (X := xv13_13) (o := 0) rfl rfl rfl) rfl 39 (by decide) (hts (.fieldLink RX13 179 "KnotHouseModel" "level" "[LKnotHouseModel$Net;") mi13_43) (fun _ h9 => h9) rfl diX13_877 ?_
  refine lv_iload_n hx hb diX13_880 rfl (lv_at hl 0 rfl) ?_
  refine va_new (ci := 15) (fs := [.int 0, .int 0, .null, .null, .null, .null, .null, .null, .null, .null, .null, .null, .int 0, .null, .null, .int 0]) (C := RX12) (T := TX12) (N := 16) hx hb hts wi13_12 tyX12 tyX12_ok hown (hts (.classLink RX13 19 RX12) mi13_9) (hts (.instantiable RX12 16) mi13_10) (hts (.initialized RX12) mi13_11) hK hM.1 hM.2.1 hM.2.2.1 hA rfl (by decide +kernel) (Nat.le_of_ble_eq_true rfl) (Nat.le_of_ble_eq_true rfl) diX13_881 (fun o320 H hP hD hS => ?_)
  refine W.widen (k := 304) (n := 1154449) (Nat.le_of_ble_eq_true rfl) (Nat.le_of_ble_eq_true rfl) ?_
  refine lv_dup hx hb diX13_884 rfl ?_
  have hPc := al_subP hP
  have hDc := al_subD hD
  have hFc := al_freeC hD hS hA
  refine va_callv (va_runIN (As := []) (rest := [.ref o320, .int 13, .ref (u 40)]) ⟨hx, hb, hml, hown, hts⟩ (k_X12_init l dC dI q.1 q.2.1 q.2.2.1 q.2.2.2.1 o320 H.size) ⟨va_cnB (host := "KnotHouseModel") 0 hts gi13_X12 rfl rfl rfl hN_X13_113 (hts (.initialized RX12) mi13_11) (by decide +kernel) ⟨(Nat.le_of_ble_eq_true rfl), (Nat.le_of_ble_eq_true rfl)⟩, rfl, hts (.instanceMethod yX12_init) mi13_12⟩ ⟨fun a U g mk q => by obtain ⟨q0, q1, qP, qK, qD⟩ := q; exact ⟨q0, q1, qP, va_K.moved (u := U) (U := U.calling g mk a) (Vm.Alike.refl U.vm) qK, qD⟩, fun U hU hW => ⟨rfl, by rw [hU], by rw [hU]; exact hPc, va_K.moved hW.alike (hK.sub [0, 1, 2, 3] rfl), hDc.weaken (fun _ _ _ _ => trivial)⟩⟩ rfl rfl hl.1 rfl (lv_room (Nat.le_of_ble_eq_true rfl)) diX13_885 ⟨(Nat.le_of_ble_eq_true rfl), (Nat.le_of_ble_eq_true rfl)⟩) hS (fun q _ h => hFc q h) hFc (fun t321 t H1 locs ht hvm hw hB hz1 hk1 hS => ?_)
  obtain ⟨z322, z323, z324, z325, z326, z327, z328, z329, z330, z331, z332, z333⟩ := t321
  obtain ⟨hP1, hD1⟩ := hB
  rw [ht] at hP1
  obtain ⟨hP, hD⟩ := al_join hP hD hk1 hFc hP1 hD1
  clear hPc hDc hFc hvm hw hz1 hk1 hP1 hD1 ht
  refine W.widen (k := 316) (n := 1155009) (Nat.le_of_ble_eq_true rfl) (Nat.le_of_ble_eq_true rfl) ?_
  refine va_astq (D := (dC, dI)) hx hb hK hP hD hS 67 4 304 15 (al_he4 (X := xv13_13) (r := 40) rfl rfl) rfl al_lastN rfl (by unfold vp_in; decide) diX13_888 (fun H locs hP hD hS => ?_)
  obtain ⟨u, hu, hM⟩ := al_extA (X := xv13_13) (X1 := xv13_14) (r := 40) (h := 17000) (Y := [17000, 17003, 17004, 17005, 17006, 17007, 17008, 17009, 17010, 17011, 17012, 17014, 17015]) (ad := [o320, z322, z323, z324, z325, z326, z327, z328, z329, z330, z331, z332, z333]) (k0 := 67) (o := 0) (n := 13) cv13_13 rfl rfl hM.2.2.2 (by decide +kernel) rfl hP hD hS
  rw [← hu] at hl
  have hu0 := hu.trans hu0
  clear hu hP hD hS
  refine W.widen (k := 316) (n := 1155009) (Nat.le_of_ble_eq_true rfl) (Nat.le_of_ble_eq_true rfl) ?_
  refine lv_iinc (v := 14) (lv' := [(1, .int 14), (0, .ref (u 0))]) hx hb diX13_889 hl (k := 0) rfl rfl (by decide) rfl (fun ls hl => ?_)
  refine lv_goto (tgt := 867) hx hb diX13_892 (by decide) ?_
  exact kk u _ _ ls hu0 hM hl
set_option maxHeartbeats 4000000 in
set_option maxRecDepth 100000 in
theorem hv13_14 {p : Program} {l : Launch} {e : Env} {s : State} {m : MethodId} {args : Array Value} {below : List Frame} {meth : Method} {c : Code} {Q : State → Prop} {A : Nat → Prop} {dC : Nat → ClassId} {dI : Nat → Nat → Nat} {q : ow_Q5} {z2 : ow_MS} (hx : p.tables.exec = Jvm.exec) (hb : c.code = cX13_init) (hml : c.maxLocals = 2) (hown : s.vm.findClass RX13 = some m.cls) (hts : ∀ w ∈ wi13, w.before args s = true) (hA : ∀ q : Nat, s.heap.size ≤ q → A q) (hK : va_K (dC, dI) vwCl (tw_T q RX12) s) (hN_X13_113 : va_Nw (.methodLinkNest RX13 113 yX12_init "KnotHouseModel") s) (hAO : va_AO RX12 s) (u : Nat → Nat) (H : Heap) (locs : List Loc) (ls : Array Slot) {a0 : Nat} (hu0 : u 0 = a0) (hM : al_M (dC, dI) vwCl xv13_14 (q5f q) A s.heap u (usZ z2 blM) H locs) (hl : lv_has ls 2 [(1, .int 14), (0, .ref (u 0))]) (kk : ∀ (u : Nat → Nat) (H : Heap) (locs : List Loc) (ls : Array Slot), u 0 = a0 → al_M (dC, dI) vwCl xv13_15 (q5f q) A s.heap u (usZ z2 blM) H locs → lv_has ls 2 [(1, .int 15), (0, .ref (u 0))] → W p l e RI13 s m args below meth c H locs 329 1155585 Q (F0 m 867 ls [])) : W p l e RI13 s m args below meth c H locs 316 1155009 Q (F0 m 867 ls []) := by
  refine lv_iload_n hx hb diX13_867 rfl (lv_at hl 0 rfl) ?_
  refine lv_aload_n hx hb diX13_868 rfl (lv_at hl 1 rfl) ?_
  refine va_get (D := (dC, dI)) (ci := 16) (v := .ref (u 40)) (C := RX13) (T := TX13) (N := 120) hx hb hts wi13_13 hown hK hM.1 0 (al_he (X := xv13_14) (o := 0) rfl rfl rfl) rfl 39 (by decide) (hts (.fieldLink RX13 179 "KnotHouseModel" "level" "[LKnotHouseModel$Net;") mi13_43) (fun _ h9 => h9) rfl diX13_869 ?_
  refine va_alen (v := 15) hx hb hK hM.1 67 4 (al_he4' (X := xv13_14) (r := 40) rfl rfl) rfl rfl diX13_872 ?_
  refine lv_icmp_ge (tgt := 895) hx hb diX13_873 (by decide) (fun c9 => absurd c9 (by decide)) (fun _ => ?_)
  refine lv_aload_n hx hb diX13_876 rfl (lv_at hl 1 rfl) ?_
  refine va_get (D := (dC, dI)) (ci := 16) (v := .ref (u 40)) (C := RX13) (T := TX13) (N := 120) hx hb hts wi13_13 hown hK hM.1 0 (al_he (X := xv13_14) (o := 0) rfl rfl rfl) rfl 39 (by decide) (hts (.fieldLink RX13 179 "KnotHouseModel" "level" "[LKnotHouseModel$Net;") mi13_43) (fun _ h9 => h9) rfl diX13_877 ?_
  refine lv_iload_n hx hb diX13_880 rfl (lv_at hl 0 rfl) ?_
  refine va_new (ci := 15) (fs := [.int 0, .int 0, .null, .null, .null, .null, .null, .null, .null, .null, .null, .null, .int 0, .null, .null, .int 0]) (C := RX12) (T := TX12) (N := 16) hx hb hts wi13_12 tyX12 tyX12_ok hown (hts (.classLink RX13 19 RX12) mi13_9) (hts (.instantiable RX12 16) mi13_10) (hts (.initialized RX12) mi13_11) hK hM.1 hM.2.1 hM.2.2.1 hA rfl (by decide +kernel) (Nat.le_of_ble_eq_true rfl) (Nat.le_of_ble_eq_true rfl) diX13_881 (fun o334 H hP hD hS => ?_)
  refine W.widen (k := 317) (n := 1155025) (Nat.le_of_ble_eq_true rfl) (Nat.le_of_ble_eq_true rfl) ?_
  refine lv_dup hx hb diX13_884 rfl ?_
  have hPc := al_subP hP
  have hDc := al_subD hD
  have hFc := al_freeC hD hS hA
  refine va_callv (va_runIN (As := []) (rest := [.ref o334, .int 14, .ref (u 40)]) ⟨hx, hb, hml, hown, hts⟩ (k_X12_init l dC dI q.1 q.2.1 q.2.2.1 q.2.2.2.1 o334 H.size) ⟨va_cnB (host := "KnotHouseModel") 0 hts gi13_X12 rfl rfl rfl hN_X13_113 (hts (.initialized RX12) mi13_11) (by decide +kernel) ⟨(Nat.le_of_ble_eq_true rfl), (Nat.le_of_ble_eq_true rfl)⟩, rfl, hts (.instanceMethod yX12_init) mi13_12⟩ ⟨fun a U g mk q => by obtain ⟨q0, q1, qP, qK, qD⟩ := q; exact ⟨q0, q1, qP, va_K.moved (u := U) (U := U.calling g mk a) (Vm.Alike.refl U.vm) qK, qD⟩, fun U hU hW => ⟨rfl, by rw [hU], by rw [hU]; exact hPc, va_K.moved hW.alike (hK.sub [0, 1, 2, 3] rfl), hDc.weaken (fun _ _ _ _ => trivial)⟩⟩ rfl rfl hl.1 rfl (lv_room (Nat.le_of_ble_eq_true rfl)) diX13_885 ⟨(Nat.le_of_ble_eq_true rfl), (Nat.le_of_ble_eq_true rfl)⟩) hS (fun q _ h => hFc q h) hFc (fun t335 t H1 locs ht hvm hw hB hz1 hk1 hS => ?_)
  obtain ⟨z336, z337, z338, z339, z340, z341, z342, z343, z344, z345, z346, z347⟩ := t335
  obtain ⟨hP1, hD1⟩ := hB
  rw [ht] at hP1
  obtain ⟨hP, hD⟩ := al_join hP hD hk1 hFc hP1 hD1
  clear hPc hDc hFc hvm hw hz1 hk1 hP1 hD1 ht
  refine W.widen (k := 329) (n := 1155585) (Nat.le_of_ble_eq_true rfl) (Nat.le_of_ble_eq_true rfl) ?_
  refine va_astq (D := (dC, dI)) hx hb hK hP hD hS 67 4 317 15 (al_he4 (X := xv13_14) (r := 40) rfl rfl) rfl al_lastN rfl (by unfold vp_in; decide) diX13_888 (fun H locs hP hD hS => ?_)
  obtain ⟨u, hu, hM⟩ := al_extA (X := xv13_14) (X1 := xv13_15) (r := 40) (h := 18000) (Y := [18000, 18003, 18004, 18005, 18006, 18007, 18008, 18009, 18010, 18011, 18012, 18014, 18015]) (ad := [o334, z336, z337, z338, z339, z340, z341, z342, z343, z344, z345, z346, z347]) (k0 := 67) (o := 0) (n := 14) cv13_14 rfl rfl hM.2.2.2 (by decide +kernel) rfl hP hD hS
  rw [← hu] at hl
  have hu0 := hu.trans hu0
  clear hu hP hD hS
  refine W.widen (k := 329) (n := 1155585) (Nat.le_of_ble_eq_true rfl) (Nat.le_of_ble_eq_true rfl) ?_
  refine lv_iinc (v := 15) (lv' := [(1, .int 15), (0, .ref (u 0))]) hx hb diX13_889 hl (k := 0) rfl rfl (by decide) rfl (fun ls hl => ?_)
  refine lv_goto (tgt := 867) hx hb diX13_892 (by decide) ?_
  exact kk u _ _ ls hu0 hM hl
