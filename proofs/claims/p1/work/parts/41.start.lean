theorem ow_ary {args : Array Value} {s : State} {ty : FieldType} (h : (Cond.arrayClass ty).before args s = true) (hra : ∀ x : ClassId, s.vm.findClass ("[" ++ ty.toString) = some x → va_RA s x ty) : ∃ cA : ClassId, ArrOfT s cA ty ∧ va_RA s cA ty := by
  obtain ⟨cA, kA, comp, h1, h2, h3⟩ := Cond.arrayClass_spec h
  exact ⟨cA, fun n z => ⟨fun k h => (by cases h), kA, h2, comp, h3⟩, hra cA h1⟩
theorem ow_str {args : Array Value} {s : State} {own tx : String} {k : Nat} (h1 : (Cond.stringRef own k tx).before args s = true) (h2 : (Cond.exactly (.string own k) "java/lang/String").before args s = true) : ∃ a : Nat, vk_R own k tx a s := by
  obtain ⟨a, c, cell, kk, e1, -⟩ := Cond.exactly_spec h2
  exact ⟨a, vk_R.of h1 e1⟩
theorem in_wsJ00 : ∀ w ∈ wsJ00, w ∈ lw_tbl := fun w h => List.mem_append_right _ (ow_inr wsJ00 [1101, 1103, 1105, 1107] (by decide +kernel) w h)
theorem tw_985 : (Cond.instantiable RJ0 4) ∈ lw_tbl := tp_5 _ (List.mem_of_getElem? (i := 93) rfl)
theorem in_wsJ40 : ∀ w ∈ wsJ40, w ∈ lw_tbl := fun w h => List.mem_append_right _ (ow_inr wsJ40 [895, 897, 899, 901] (by decide +kernel) w h)
theorem tw_986 : (Cond.instantiable RJ4 4) ∈ lw_tbl := tp_4 _ (List.mem_of_getElem? (i := 154) rfl)
theorem in_wsJx000600 : ∀ w ∈ wsJx000600, w ∈ lw_tbl := fun w h => List.mem_append_right _ (ow_inr wsJx000600 [1116, 1117, 1118, 1119, 1120, 1134] (by decide +kernel) w h)
theorem tw_987 : (Cond.instantiable RJx00060 6) ∈ lw_tbl := tp_5 _ (List.mem_of_getElem? (i := 151) rfl)
theorem tw_988 : (Cond.instantiable RX11 19) ∈ lw_tbl := tp_1 _ (List.mem_of_getElem? (i := 36) rfl)
theorem tw_989 : (Cond.instantiable RX13 120) ∈ lw_tbl := tp_9 _ (List.mem_of_getElem? (i := 91) rfl)
theorem tw_990 : (Cond.stringRef RX11 166 "no such diagram") ∈ lw_tbl := tp_6 _ (List.mem_of_getElem? (i := 31) rfl)
theorem tw_991 : (Cond.stringRef RX11 172 "no such braid") ∈ lw_tbl := tp_8 _ (List.mem_of_getElem? (i := 186) rfl)
theorem tw_992 : (Cond.stringRef RX11 294 "so many were not found") ∈ lw_tbl := tp_7 _ (List.mem_of_getElem? (i := 49) rfl)
theorem tw_993 : (Cond.stringRef RX11 130 "the tape has not so many bytes") ∈ lw_tbl := tp_4 _ (List.mem_of_getElem? (i := 89) rfl)
theorem tw_994 : (Cond.stringRef RX11 149 "a braid has 2 to 5 strands") ∈ lw_tbl := tp_6 _ (List.mem_of_getElem? (i := 0) rfl)
theorem tw_995 : (Cond.laysStatic "java/lang/Throwable" "UNASSIGNED_STACK" "[Ljava/lang/StackTraceElement;") ∈ lw_tbl := tp_4 _ (List.mem_of_getElem? (i := 26) rfl)
theorem tw_996 : (Cond.initialized "java/lang/Throwable") ∈ lw_tbl := tp_1 _ (List.mem_of_getElem? (i := 17) rfl)
theorem tw_997 : (Cond.laysStatic "java/lang/Throwable" "SUPPRESSED_SENTINEL" "Ljava/util/List;") ∈ lw_tbl := tp_4 _ (List.mem_of_getElem? (i := 28) rfl)
theorem twd_RuntimeException : (Cond.declares (Bundle.initS "java/lang/RuntimeException")) ∈ lw_tbl := tp_4 _ (List.mem_of_getElem? (i := 3) rfl)
theorem twd_Exception : (Cond.declares (Bundle.initS "java/lang/Exception")) ∈ lw_tbl := tp_4 _ (List.mem_of_getElem? (i := 5) rfl)
theorem twd_Throwable : (Cond.declares (Bundle.initS Bundle.tN)) ∈ lw_tbl := tp_4 _ (List.mem_of_getElem? (i := 7) rfl)
theorem tw_1001 : (Cond.castable "java/lang/IndexOutOfBoundsException" "java/lang/IndexOutOfBoundsException") ∈ lw_tbl := tp_6 _ (List.mem_of_getElem? (i := 24) rfl)
theorem tw_1002 : (Cond.castable "java/lang/IllegalArgumentException" "java/lang/IllegalArgumentException") ∈ lw_tbl := tp_4 _ (List.mem_of_getElem? (i := 82) rfl)
theorem tw_1003 : (Cond.fieldLinkNest RX13 44 "KnotHouseModel$Net" "visits" "I" "KnotHouseModel") ∈ lw_tbl := tp_9 _ (List.mem_of_getElem? (i := 103) rfl)
theorem tw_1004 : (Cond.fieldLinkNest RX13 78 "KnotHouseModel$Net" "parts" "I" "KnotHouseModel") ∈ lw_tbl := tp_9 _ (List.mem_of_getElem? (i := 125) rfl)
theorem tw_1005 : (Cond.methodLinkNest RX11 26 yX7_init "KnotHouse") ∈ lw_tbl := tp_1 _ (List.mem_of_getElem? (i := 83) rfl)
theorem tw_1006 : (Cond.methodLinkNest RX11 36 yX4_init "KnotHouse") ∈ lw_tbl := tp_1 _ (List.mem_of_getElem? (i := 167) rfl)
theorem tw_1007 : (Cond.methodLinkNest RX11 43 yX2_init "KnotHouse") ∈ lw_tbl := tp_1 _ (List.mem_of_getElem? (i := 200) rfl)
theorem tw_1008 : (Cond.methodLinkNest RX11 50 yX9_init "KnotHouse") ∈ lw_tbl := tp_1 _ (List.mem_of_getElem? (i := 229) rfl)
theorem tw_1009 : (Cond.methodLinkNest RX11 57 yX6_init "KnotHouse") ∈ lw_tbl := tp_2 _ (List.mem_of_getElem? (i := 15) rfl)
theorem tw_1010 : (Cond.methodLinkNest RX11 96 yX5_init "KnotHouse") ∈ lw_tbl := tp_3 _ (List.mem_of_getElem? (i := 5) rfl)
theorem tw_1011 : (Cond.methodLinkNest RX11 106 yX10_init "KnotHouse") ∈ lw_tbl := tp_3 _ (List.mem_of_getElem? (i := 37) rfl)
theorem tw_1012 : (Cond.methodLinkNest RX6 28 yX7_init "KnotHouse") ∈ lw_tbl := tp_2 _ (List.mem_of_getElem? (i := 22) rfl)
theorem tw_1013 : (Cond.methodLinkNest RX6 38 yX4_init "KnotHouse") ∈ lw_tbl := tp_2 _ (List.mem_of_getElem? (i := 24) rfl)
theorem tw_1014 : (Cond.methodLinkNest RX6 48 yX2_init "KnotHouse") ∈ lw_tbl := tp_2 _ (List.mem_of_getElem? (i := 26) rfl)
theorem tw_1015 : (Cond.methodLinkNest RX8 44 yX7_init "KnotHouse") ∈ lw_tbl := tp_2 _ (List.mem_of_getElem? (i := 67) rfl)
theorem tw_1016 : (Cond.methodLinkNest RX1 11 yX7_init "KnotHouse") ∈ lw_tbl := tp_2 _ (List.mem_of_getElem? (i := 174) rfl)
theorem tw_1017 : (Cond.methodLinkNest RX10 20 yX5_init "KnotHouse") ∈ lw_tbl := tp_3 _ (List.mem_of_getElem? (i := 42) rfl)
theorem tw_1018 : (Cond.methodLinkNest RX13 113 yX12_init "KnotHouseModel") ∈ lw_tbl := tp_9 _ (List.mem_of_getElem? (i := 98) rfl)
theorem tw_1019 : (Cond.arrayOver (.array .int)) ∈ lw_tbl := tp_2 _ (List.mem_of_getElem? (i := 66) rfl)
theorem tw_1020 : (Cond.arrayOver (.array .long)) ∈ lw_tbl := tp_2 _ (List.mem_of_getElem? (i := 103) rfl)
theorem tw_1021 : (Cond.arrayOver (.object RX7)) ∈ lw_tbl := tp_2 _ (List.mem_of_getElem? (i := 64) rfl)
theorem tw_1022 : (Cond.arrayOver (.object RX12)) ∈ lw_tbl := tp_9 _ (List.mem_of_getElem? (i := 167) rfl)
theorem tw_1023 : (Cond.classLink RL 8 RX11) ∈ lw_tbl := tp_1 _ (List.mem_of_getElem? (i := 35) rfl)
theorem tw_1024 : (Cond.methodLink RL 127 yX11_init) ∈ lw_tbl := tp_1 _ (List.mem_of_getElem? (i := 37) rfl)
theorem tw_1025 : (Cond.instanceMethod yX11_init) ∈ lw_tbl := tp_1 _ (List.mem_of_getElem? (i := 38) rfl)
theorem tw_1026 : (Cond.classLink RL 128 RX13) ∈ lw_tbl := tp_9 _ (List.mem_of_getElem? (i := 90) rfl)
theorem tw_1027 : (Cond.methodLink RL 130 yX13_init) ∈ lw_tbl := tp_9 _ (List.mem_of_getElem? (i := 92) rfl)
theorem tw_1028 : (Cond.instanceMethod yX13_init) ∈ lw_tbl := tp_9 _ (List.mem_of_getElem? (i := 93) rfl)
theorem dL_law_0 : decode cL_law 0 = .ok (.new 8, 3) := by decide +kernel
theorem dL_law_3 : decode cL_law 3 = .ok (.dup, 1) := by decide +kernel
theorem dL_law_4 : decode cL_law 4 = .ok (.invokespecial 127, 3) := by decide +kernel
theorem dL_law_7 : decode cL_law 7 = .ok (.astore_n 1, 1) := by decide +kernel
theorem dL_law_8 : decode cL_law 8 = .ok (.new 128, 3) := by decide +kernel
theorem dL_law_11 : decode cL_law 11 = .ok (.dup, 1) := by decide +kernel
theorem dL_law_12 : decode cL_law 12 = .ok (.invokespecial 130, 3) := by decide +kernel
theorem dL_law_15 : decode cL_law 15 = .ok (.astore_n 2, 1) := by decide +kernel
theorem dL_law_16 : decode cL_law 16 = .ok (.iconst 1, 1) := by decide +kernel
theorem dL_law_17 : decode cL_law 17 = .ok (.newarray .long, 2) := by decide +kernel
theorem dL_law_19 : decode cL_law 19 = .ok (.astore_n 3, 1) := by decide +kernel
theorem dL_law_20 : decode cL_law 20 = .ok (.iconst 0, 1) := by decide +kernel
theorem dL_law_21 : decode cL_law 21 = .ok (.istore 4, 2) := by decide +kernel
set_option maxHeartbeats 4000000 in
set_option maxRecDepth 100000 in
theorem whole_start {p : Program} {e : Env} {s : State} {m : MethodId} {below : List Frame} {meth : Method} {c : Code} (l : Launch) (hlt : l.stackTraces = false) {b L : Nat} {xs : Nat → Int32} (hL : L ≤ 6) (C0 : lw_At p s m meth c b L xs) : W p l e room_1 s m #[Value.ref b] below meth c s.heap [] 0 0 (lw_Z below #[Value.ref b] s) (entryFrame m ([Value.ref b] : List Value).toArray 8) := by
  obtain ⟨hx, hb, hr, hml, hown, hts, hX, hbl, hlocks, hgv⟩ := id C0
  have hown : s.vm.findClass RL = some m.cls := hown
  have hA : ∀ q : Nat, s.heap.size ≤ q → (fun q : Nat => s.heap.size ≤ q) q := fun _ h => h
  have hbA : ¬ (fun q : Nat => s.heap.size ≤ q) b := Nat.not_le.mpr hbl
  obtain ⟨c0, i0, hk0⟩ := u_known (C := RJ0) (T := TJ0) (N := 4) (n := 4) hts in_wsJ00 (hts (.instantiable RJ0 4) tw_985)
  obtain ⟨c1, i1, hk1⟩ := u_known (C := RJ4) (T := TJ4) (N := 4) (n := 4) hts in_wsJ40 (hts (.instantiable RJ4 4) tw_986)
  obtain ⟨c2, i2, hk2⟩ := u_known (C := RJx00060) (T := TJx00060) (N := 6) (n := 6) hts in_wsJx000600 (hts (.instantiable RJx00060 6) tw_987)
  obtain ⟨c3, i3, hk3⟩ := u_known (C := RX0) (T := TX0) (N := 16) (n := 16) hts in_wsX00 (hts (.instantiable RX0 16) tw_37)
  obtain ⟨c4, i4, hk4⟩ := u_known (C := RX1) (T := TX1) (N := 20) (n := 20) hts in_wsX10 (hts (.instantiable RX1 20) tw_33)
  obtain ⟨c5, i5, hk5⟩ := u_known (C := RX2) (T := TX2) (N := 6) (n := 6) hts in_wsX20 (hts (.instantiable RX2 6) tw_5)
  obtain ⟨c6, i6, hk6⟩ := u_known (C := RX3) (T := TX3) (N := 5) (n := 5) hts in_wsX30 (hts (.instantiable RX3 5) tw_20)
  obtain ⟨c7, i7, hk7⟩ := u_known (C := RX4) (T := TX4) (N := 8) (n := 8) hts in_wsX40 (hts (.instantiable RX4 8) tw_9)
  obtain ⟨c8, i8, hk8⟩ := u_known (C := RX5) (T := TX5) (N := 6) (n := 6) hts in_wsX50 (hts (.instantiable RX5 6) tw_72)
  obtain ⟨c9, i9, hk9⟩ := u_known (C := RX6) (T := TX6) (N := 8) (n := 8) hts in_wsX60 (hts (.instantiable RX6 8) tw_45)
  obtain ⟨c10, i10, hk10⟩ := u_known (C := RX7) (T := TX7) (N := 11) (n := 11) hts in_wsX70 (hts (.instantiable RX7 11) tw_14)
  obtain ⟨c11, i11, hk11⟩ := u_known (C := RX8) (T := TX8) (N := 9) (n := 9) hts in_wsX80 (hts (.instantiable RX8 9) tw_41)
  obtain ⟨c12, i12, hk12⟩ := u_known (C := RX9) (T := TX9) (N := 6) (n := 6) hts in_wsX90 (hts (.instantiable RX9 6) tw_1)
  obtain ⟨c13, i13, hk13⟩ := u_known (C := RX10) (T := TX10) (N := 11) (n := 11) hts in_wsX100 (hts (.instantiable RX10 11) tw_67)
  obtain ⟨c14, i14, hk14⟩ := u_known (C := RX11) (T := TX11) (N := 19) (n := 19) hts in_wsX110 (hts (.instantiable RX11 19) tw_988)
  obtain ⟨c15, i15, hk15⟩ := u_known (C := RX12) (T := TX12) (N := 16) (n := 16) hts in_wsX120 (hts (.instantiable RX12 16) tw_213)
  obtain ⟨c16, i16, hk16⟩ := u_known (C := RX13) (T := TX13) (N := 120) (n := 120) hts in_wsX130 (hts (.instantiable RX13 120) tw_989)
  obtain ⟨dC, dI, hKc⟩ : ∃ (dC : Nat → ClassId) (dI : Nat → Nat → Nat), ∀ (k : Nat) (q : vw_C), vwCl[k]? = some q → u_Kn s q.1 q.2.1 q.2.2 (dC k) (dI k) := by
    refine ⟨fun k => ([c0, c1, c2, c3, c4, c5, c6, c7, c8, c9, c10, c11, c12, c13, c14, c15, c16] : List ClassId).getD k c0, fun k => ([i0, i1, i2, i3, i4, i5, i6, i7, i8, i9, i10, i11, i12, i13, i14, i15, i16] : List (Nat → Nat)).getD k i0, ?_⟩
    intro k q hq
    match k, hq with
    | 0, hq => cases hq; exact hk0
    | 1, hq => cases hq; exact hk1
    | 2, hq => cases hq; exact hk2
    | 3, hq => cases hq; exact hk3
    | 4, hq => cases hq; exact hk4
    | 5, hq => cases hq; exact hk5
    | 6, hq => cases hq; exact hk6
    | 7, hq => cases hq; exact hk7
    | 8, hq => cases hq; exact hk8
    | 9, hq => cases hq; exact hk9
    | 10, hq => cases hq; exact hk10
    | 11, hq => cases hq; exact hk11
    | 12, hq => cases hq; exact hk12
    | 13, hq => cases hq; exact hk13
    | 14, hq => cases hq; exact hk14
    | 15, hq => cases hq; exact hk15
    | 16, hq => cases hq; exact hk16
    | k + 17, hq => simp [vwCl] at hq
  obtain ⟨cI, ha_cI, hb_cI⟩ := ow_ary (ty := .int) (hts (.arrayClass .int) tw_28) (fun _ h => h)
  obtain ⟨cB, ha_cB, hb_cB⟩ := ow_ary (ty := .byte) (hts (.arrayClass .byte) tw_30) (fun _ h => h)
  obtain ⟨cJ, ha_cJ, hb_cJ⟩ := ow_ary (ty := .long) (hts (.arrayClass .long) tw_87) (fun _ h => h)
  obtain ⟨cZ, ha_cZ, hb_cZ⟩ := ow_ary (ty := .boolean) (hts (.arrayClass .boolean) tw_161) (fun _ h => h)
  have hK : va_K (dC, dI) vwCl [(cI, .int), (cB, .byte), (cJ, .long), (cZ, .boolean)] s := ⟨hKc, fun k q h => by
    match k, h with
    | 0, h => cases h; exact ⟨ha_cI, hb_cI⟩
    | 1, h => cases h; exact ⟨ha_cB, hb_cB⟩
    | 2, h => cases h; exact ⟨ha_cJ, hb_cJ⟩
    | 3, h => cases h; exact ⟨ha_cZ, hb_cZ⟩
    | k + 4, h => simp at h⟩
  have hfl := flat_of_before _ hgv
  obtain ⟨sa0, hs0⟩ := ow_str (own := RX11) (k := 166) (tx := "no such diagram") (hts (.stringRef RX11 166 "no such diagram") tw_990) (hfl (.exactly (.string "KnotHouse" 166) "java/lang/String") (by decide +kernel))
  obtain ⟨sa1, hs1⟩ := ow_str (own := RX11) (k := 172) (tx := "no such braid") (hts (.stringRef RX11 172 "no such braid") tw_991) (hfl (.exactly (.string "KnotHouse" 172) "java/lang/String") (by decide +kernel))
  obtain ⟨sa2, hs2⟩ := ow_str (own := RX11) (k := 294) (tx := "so many were not found") (hts (.stringRef RX11 294 "so many were not found") tw_992) (hfl (.exactly (.string "KnotHouse" 294) "java/lang/String") (by decide +kernel))
  obtain ⟨sa3, hs3⟩ := ow_str (own := RX11) (k := 130) (tx := "the tape has not so many bytes") (hts (.stringRef RX11 130 "the tape has not so many bytes") tw_993) (hfl (.exactly (.string "KnotHouse" 130) "java/lang/String") (by decide +kernel))
  obtain ⟨sa4, hs4⟩ := ow_str (own := RX11) (k := 149) (tx := "a braid has 2 to 5 strands") (hts (.stringRef RX11 149 "a braid has 2 to 5 strands") tw_994) (hfl (.exactly (.string "KnotHouse" 149) "java/lang/String") (by decide +kernel))
  have hz1 : vx_Zq Bundle.tN "UNASSIGNED_STACK" Bundle.steD (fun q : Nat => s.heap.size ≤ q) s s.heap := vx_Zqof (hts (.laysStatic "java/lang/Throwable" "UNASSIGNED_STACK" "[Ljava/lang/StackTraceElement;") tw_995) (hts (.initialized "java/lang/Throwable") tw_996) (hfl (.isRef (.static "java/lang/Throwable" "UNASSIGNED_STACK" "[Ljava/lang/StackTraceElement;")) (by decide +kernel)) (fun a ha => Nat.not_le.mpr ha)
  have hz2 : vx_Zq Bundle.tN "SUPPRESSED_SENTINEL" Bundle.listD (fun q : Nat => s.heap.size ≤ q) s s.heap := vx_Zqof (hts (.laysStatic "java/lang/Throwable" "SUPPRESSED_SENTINEL" "Ljava/util/List;") tw_997) (hts (.initialized "java/lang/Throwable") tw_996) (hfl (.isRef (.static "java/lang/Throwable" "SUPPRESSED_SENTINEL" "Ljava/util/List;")) (by decide +kernel)) (fun a ha => Nat.not_le.mpr ha)
  have hxs1 : ow_Xs "java/lang/IndexOutOfBoundsException" s := ⟨va_Nw.of rfl (hts (.declares (Bundle.initS "java/lang/RuntimeException")) twd_RuntimeException), va_Nw.of rfl (hts (.declares (Bundle.initS "java/lang/Exception")) twd_Exception), va_Nw.of rfl (hts (.declares (Bundle.initS Bundle.tN)) twd_Throwable), va_Nw.of rfl (hts (.castable "java/lang/IndexOutOfBoundsException" "java/lang/IndexOutOfBoundsException") tw_1001)⟩
  have hxs2 : ow_Xs "java/lang/IllegalArgumentException" s := ⟨va_Nw.of rfl (hts (.declares (Bundle.initS "java/lang/RuntimeException")) twd_RuntimeException), va_Nw.of rfl (hts (.declares (Bundle.initS "java/lang/Exception")) twd_Exception), va_Nw.of rfl (hts (.declares (Bundle.initS Bundle.tN)) twd_Throwable), va_Nw.of rfl (hts (.castable "java/lang/IllegalArgumentException" "java/lang/IllegalArgumentException") tw_1002)⟩
  have hG : ow_LG l s dC dI cI cB cJ cZ (fun k => ([sa0, sa1, sa2, sa3, sa4] : List Nat).getD k 0) := ⟨hlt, hK, ⟨va_Nw.of rfl (hts (.fieldLinkNest RX13 44 "KnotHouseModel$Net" "visits" "I" "KnotHouseModel") tw_1003), va_Nw.of rfl (hts (.fieldLinkNest RX13 78 "KnotHouseModel$Net" "parts" "I" "KnotHouseModel") tw_1004)⟩, ⟨hs0, hz1, hz2, hxs1⟩, ⟨hs1, hz1, hz2, hxs1⟩, ⟨hs2, hz1, hz2, hxs1⟩, ⟨hs3, hz1, hz2, hxs2⟩, ⟨hs4, hz1, hz2, hxs2⟩⟩
  have hN_X11_26 : va_Nw (.methodLinkNest RX11 26 yX7_init "KnotHouse") s := va_Nw.of rfl (hts (.methodLinkNest RX11 26 yX7_init "KnotHouse") tw_1005)
  have hN_X11_36 : va_Nw (.methodLinkNest RX11 36 yX4_init "KnotHouse") s := va_Nw.of rfl (hts (.methodLinkNest RX11 36 yX4_init "KnotHouse") tw_1006)
  have hN_X11_43 : va_Nw (.methodLinkNest RX11 43 yX2_init "KnotHouse") s := va_Nw.of rfl (hts (.methodLinkNest RX11 43 yX2_init "KnotHouse") tw_1007)
  have hN_X11_50 : va_Nw (.methodLinkNest RX11 50 yX9_init "KnotHouse") s := va_Nw.of rfl (hts (.methodLinkNest RX11 50 yX9_init "KnotHouse") tw_1008)
  have hN_X11_57 : va_Nw (.methodLinkNest RX11 57 yX6_init "KnotHouse") s := va_Nw.of rfl (hts (.methodLinkNest RX11 57 yX6_init "KnotHouse") tw_1009)
  have hN_X11_96 : va_Nw (.methodLinkNest RX11 96 yX5_init "KnotHouse") s := va_Nw.of rfl (hts (.methodLinkNest RX11 96 yX5_init "KnotHouse") tw_1010)
  have hN_X11_106 : va_Nw (.methodLinkNest RX11 106 yX10_init "KnotHouse") s := va_Nw.of rfl (hts (.methodLinkNest RX11 106 yX10_init "KnotHouse") tw_1011)
  have hN_X6_28 : va_Nw (.methodLinkNest RX6 28 yX7_init "KnotHouse") s := va_Nw.of rfl (hts (.methodLinkNest RX6 28 yX7_init "KnotHouse") tw_1012)
  have hN_X6_38 : va_Nw (.methodLinkNest RX6 38 yX4_init "KnotHouse") s := va_Nw.of rfl (hts (.methodLinkNest RX6 38 yX4_init "KnotHouse") tw_1013)
  have hN_X6_48 : va_Nw (.methodLinkNest RX6 48 yX2_init "KnotHouse") s := va_Nw.of rfl (hts (.methodLinkNest RX6 48 yX2_init "KnotHouse") tw_1014)
  have hN_X8_44 : va_Nw (.methodLinkNest RX8 44 yX7_init "KnotHouse") s := va_Nw.of rfl (hts (.methodLinkNest RX8 44 yX7_init "KnotHouse") tw_1015)
  have hN_X1_11 : va_Nw (.methodLinkNest RX1 11 yX7_init "KnotHouse") s := va_Nw.of rfl (hts (.methodLinkNest RX1 11 yX7_init "KnotHouse") tw_1016)
  have hN_X10_20 : va_Nw (.methodLinkNest RX10 20 yX5_init "KnotHouse") s := va_Nw.of rfl (hts (.methodLinkNest RX10 20 yX5_init "KnotHouse") tw_1017)
  have hN_X13_113 : va_Nw (.methodLinkNest RX13 113 yX12_init "KnotHouseModel") s := va_Nw.of rfl (hts (.methodLinkNest RX13 113 yX12_init "KnotHouseModel") tw_1018)
  have hOi : ow_AO .int s := ow_AO.of (hts (.arrayOver (.array .int)) tw_1019)
  have hOj : ow_AO .long s := ow_AO.of (hts (.arrayOver (.array .long)) tw_1020)
  have hAO7 : va_AO RX7 s := va_AO.of (hts (.arrayOver (.object RX7)) tw_1021)
  have hAO12 : va_AO RX12 s := va_AO.of (hts (.arrayOver (.object RX12)) tw_1022)
  have hS : va_S (fun q : Nat => s.heap.size ≤ q) s.heap s.heap [] := va_S.rf
  have hP : va_P (dC, dI) vwCl [] s.heap := fun k q h => by simp at h
  have hD : va_D (fun q : Nat => s.heap.size ≤ q) [] := ⟨fun i j p q h => by simp at h, fun k q h => by simp at h⟩
  have hl := lv_entry ([.ref b]) (n := 8) (Nat.le_of_ble_eq_true rfl)
  rw [lg_entry_eq]
  generalize (lg_sl ([.ref b]) ++ List.replicate (8 - (lg_sl ([.ref b])).length) Slot.unset).toArray = ls at hl ⊢
  have hl : lv_has ls 8 [(0, .ref b)] := hl
  refine va_new (ci := 14) (fs := [.null, .null, .null, .null, .null, .null, .null, .null, .null, .null, .null, .null, .null, .null, .null, .null, .null, .null, .null]) (C := RX11) (T := TX11) (N := 19) hx hb hts in_wsX110 tyX11 tyX11_ok hown (hts (.classLink RL 8 RX11) tw_1023) (hts (.instantiable RX11 19) tw_988) (hts (.initialized RX11) tw_362) hK hP hD hS hA rfl (by decide +kernel) (Nat.le_of_ble_eq_true rfl) (Nat.le_of_ble_eq_true rfl) dL_law_0 (fun x H hP hD hS => ?_)
  have hP : va_P (dC, dI) vwCl [(x, .inr (14, [.null, .null, .null, .null, .null, .null, .null, .null, .null, .null, .null, .null, .null, .null, .null, .null, .null, .null, .null]))] H := hP
  have hD : va_D (fun q : Nat => s.heap.size ≤ q) [(x, .inr (14, [.null, .null, .null, .null, .null, .null, .null, .null, .null, .null, .null, .null, .null, .null, .null, .null, .null, .null, .null]))] := hD
  refine W.widen (k := 1) (n := 19) (Nat.le_of_ble_eq_true rfl) (Nat.le_of_ble_eq_true rfl) ?_
  refine lv_dup hx hb dL_law_3 rfl ?_
  have hFc := va_free (wc := [(x, .inr (14, [.null, .null, .null, .null, .null, .null, .null, .null, .null, .null, .null, .null, .null, .null, .null, .null, .null, .null, .null]))]) hD hS hA [0] rfl
  refine va_callv (va_runI (As := []) (rest := [.ref x]) ⟨hx, hb, hml, hown, hts⟩ (k_X11_init l dC dI cI cB cJ cZ x H.size) (cwI 0 hts gw_X11_init rfl rfl rfl (hts (.initialized RX11) tw_362) (hts (.methodLink RL 127 yX11_init) tw_1024) (hts (.instanceMethod yX11_init) tw_1025) rfl (by decide +kernel) ⟨(Nat.le_of_ble_eq_true rfl), (Nat.le_of_ble_eq_true rfl)⟩) ⟨fun a U g mk q => by obtain ⟨q0, q1, qP, qK, qD, n0, n1, n2, n3, n4, n5, n6, n7, n8, n9, n10, n11, n12, m1, m2, m3⟩ := q; exact ⟨q0, q1, qP, va_K.moved (u := U) (U := U.calling g mk a) (Vm.Alike.refl U.vm) qK, qD, va_Nw.same rfl rfl n0, va_Nw.same rfl rfl n1, va_Nw.same rfl rfl n2, va_Nw.same rfl rfl n3, va_Nw.same rfl rfl n4, va_Nw.same rfl rfl n5, va_Nw.same rfl rfl n6, va_Nw.same rfl rfl n7, va_Nw.same rfl rfl n8, va_Nw.same rfl rfl n9, va_Nw.same rfl rfl n10, va_Nw.same rfl rfl n11, va_Nw.same rfl rfl n12, ow_AO.moved (u := U) (U := U.calling g mk a) (Vm.Alike.refl U.vm) m1, ow_AO.moved (u := U) (U := U.calling g mk a) (Vm.Alike.refl U.vm) m2, va_AO.moved (u := U) (U := U.calling g mk a) (Vm.Alike.refl U.vm) m3⟩, fun U hU hW => ⟨rfl, by rw [hU], by rw [hU]; exact hP, va_K.moved hW.alike hK, hD.weaken (fun _ _ _ _ => trivial), va_Nw.warmM hW hN_X11_26, va_Nw.warmM hW hN_X11_36, va_Nw.warmM hW hN_X11_43, va_Nw.warmM hW hN_X11_50, va_Nw.warmM hW hN_X11_57, va_Nw.warmM hW hN_X11_96, va_Nw.warmM hW hN_X11_106, va_Nw.warmM hW hN_X6_28, va_Nw.warmM hW hN_X6_38, va_Nw.warmM hW hN_X6_48, va_Nw.warmM hW hN_X8_44, va_Nw.warmM hW hN_X1_11, va_Nw.warmM hW hN_X10_20, ow_AO.moved hW.alike hOi, ow_AO.moved hW.alike hOj, va_AO.moved hW.alike hAO7⟩⟩ rfl rfl hl.1 rfl (lv_room (Nat.le_of_ble_eq_true rfl)) dL_law_4 ⟨(Nat.le_of_ble_eq_true rfl), (Nat.le_of_ble_eq_true rfl)⟩) hS (fun q _ h => hFc q h) hFc (fun u t H1 locs ht hvm hw hB hz1 hk1 hS => ?_)
  obtain ⟨hP1, hD1⟩ := hB
  rw [ht] at hP1
  obtain ⟨hP, hD⟩ := va_join (wr := []) (w1 := wd_X11_init cI cB cJ x u) hP hD [0] [] rfl rfl (by decide) (by decide) hk1 hFc hP1 hD1
  generalize H1 = H at hP hS ⊢
  have hP : va_P (dC, dI) vwCl (wd_X11_init cI cB cJ x u) H := hP
  have hD : va_D (fun q : Nat => s.heap.size ≤ q) (wd_X11_init cI cB cJ x u) := hD
  refine W.widen (k := 363) (n := 178502) (Nat.le_of_ble_eq_true rfl) (Nat.le_of_ble_eq_true rfl) ?_
  refine lv_astore_n (lv' := [(1, .ref x), (0, .ref b)]) hx hb dL_law_7 rfl hl (by decide) rfl (fun ls hl => ?_)
  refine va_new (ci := 16) (fs := [.int 0, .null, .int 0, .null, .null, .null, .null, .null, .null, .null, .int 0, .null, .null, .null, .null, .null, .null, .null, .null, .null, .null, .int 0, .null, .int 0, .null, .int 0, .null, .null, .int 0, .int 0, .null, .null, .null, .null, .null, .int 0, .null, .null, .null, .null, .null, .null, .null, .null, .null, .int 0, .null, .null, .null, .null, .null, .null, .null, .null, .null, .null, .null, .int 0, .null, .null, .null, .null, .null, .null, .null, .null, .int 0, .null, .null, .int 0, .int 0, .null, .null, .null, .null, .null, .null, .null, .int 0, .null, .null, .null, .null, .null, .null, .null, .null, .int 0, .null, .null, .null, .null, .int 0, .null, .null, .null, .null, .null, .null, .null, .null, .null, .null, .null, .null, .null, .null, .null, .int 0, .null, .int 0, .int 0, .int 0, .null, .null, .int 0, .null, .null, .null, .null]) (C := RX13) (T := TX13) (N := 120) hx hb hts in_wsX130 tyX13 tyX13_ok hown (hts (.classLink RL 128 RX13) tw_1026) (hts (.instantiable RX13 120) tw_989) (hts (.initialized RX13) tw_333) hK hP hD hS hA rfl (by decide +kernel) (Nat.le_of_ble_eq_true rfl) (Nat.le_of_ble_eq_true rfl) dL_law_8 (fun y H hP hD hS => ?_)
  have hP : va_P (dC, dI) vwCl (wd_X11_init cI cB cJ x u ++ [(y, .inr (16, [.int 0, .null, .int 0, .null, .null, .null, .null, .null, .null, .null, .int 0, .null, .null, .null, .null, .null, .null, .null, .null, .null, .null, .int 0, .null, .int 0, .null, .int 0, .null, .null, .int 0, .int 0, .null, .null, .null, .null, .null, .int 0, .null, .null, .null, .null, .null, .null, .null, .null, .null, .int 0, .null, .null, .null, .null, .null, .null, .null, .null, .null, .null, .null, .int 0, .null, .null, .null, .null, .null, .null, .null, .null, .int 0, .null, .null, .int 0, .int 0, .null, .null, .null, .null, .null, .null, .null, .int 0, .null, .null, .null, .null, .null, .null, .null, .null, .int 0, .null, .null, .null, .null, .int 0, .null, .null, .null, .null, .null, .null, .null, .null, .null, .null, .null, .null, .null, .null, .null, .int 0, .null, .int 0, .int 0, .int 0, .null, .null, .int 0, .null, .null, .null, .null]))]) H := hP
  have hD : va_D (fun q : Nat => s.heap.size ≤ q) (wd_X11_init cI cB cJ x u ++ [(y, .inr (16, [.int 0, .null, .int 0, .null, .null, .null, .null, .null, .null, .null, .int 0, .null, .null, .null, .null, .null, .null, .null, .null, .null, .null, .int 0, .null, .int 0, .null, .int 0, .null, .null, .int 0, .int 0, .null, .null, .null, .null, .null, .int 0, .null, .null, .null, .null, .null, .null, .null, .null, .null, .int 0, .null, .null, .null, .null, .null, .null, .null, .null, .null, .null, .null, .int 0, .null, .null, .null, .null, .null, .null, .null, .null, .int 0, .null, .null, .int 0, .int 0, .null, .null, .null, .null, .null, .null, .null, .int 0, .null, .null, .null, .null, .null, .null, .null, .null, .int 0, .null, .null, .null, .null, .int 0, .null, .null, .null, .null, .null, .null, .null, .null, .null, .null, .null, .null, .null, .null, .null, .int 0, .null, .int 0, .int 0, .int 0, .null, .null, .int 0, .null, .null, .null, .null]))]) := hD
  refine W.widen (k := 364) (n := 178622) (Nat.le_of_ble_eq_true rfl) (Nat.le_of_ble_eq_true rfl) ?_
  refine lv_dup hx hb dL_law_11 rfl ?_
  have hPc := hP.sub (ws' := [(y, .inr (16, [.int 0, .null, .int 0, .null, .null, .null, .null, .null, .null, .null, .int 0, .null, .null, .null, .null, .null, .null, .null, .null, .null, .null, .int 0, .null, .int 0, .null, .int 0, .null, .null, .int 0, .int 0, .null, .null, .null, .null, .null, .int 0, .null, .null, .null, .null, .null, .null, .null, .null, .null, .int 0, .null, .null, .null, .null, .null, .null, .null, .null, .null, .null, .null, .int 0, .null, .null, .null, .null, .null, .null, .null, .null, .int 0, .null, .null, .int 0, .int 0, .null, .null, .null, .null, .null, .null, .null, .int 0, .null, .null, .null, .null, .null, .null, .null, .null, .int 0, .null, .null, .null, .null, .int 0, .null, .null, .null, .null, .null, .null, .null, .null, .null, .null, .null, .null, .null, .null, .null, .int 0, .null, .int 0, .int 0, .int 0, .null, .null, .int 0, .null, .null, .null, .null]))]) [60] rfl
  have hDc := hD.sub (ws' := [(y, .inr (16, [.int 0, .null, .int 0, .null, .null, .null, .null, .null, .null, .null, .int 0, .null, .null, .null, .null, .null, .null, .null, .null, .null, .null, .int 0, .null, .int 0, .null, .int 0, .null, .null, .int 0, .int 0, .null, .null, .null, .null, .null, .int 0, .null, .null, .null, .null, .null, .null, .null, .null, .null, .int 0, .null, .null, .null, .null, .null, .null, .null, .null, .null, .null, .null, .int 0, .null, .null, .null, .null, .null, .null, .null, .null, .int 0, .null, .null, .int 0, .int 0, .null, .null, .null, .null, .null, .null, .null, .int 0, .null, .null, .null, .null, .null, .null, .null, .null, .int 0, .null, .null, .null, .null, .int 0, .null, .null, .null, .null, .null, .null, .null, .null, .null, .null, .null, .null, .null, .null, .null, .int 0, .null, .int 0, .int 0, .int 0, .null, .null, .int 0, .null, .null, .null, .null]))]) [60] (by decide) rfl
  have hFc := va_free (wc := [(y, .inr (16, [.int 0, .null, .int 0, .null, .null, .null, .null, .null, .null, .null, .int 0, .null, .null, .null, .null, .null, .null, .null, .null, .null, .null, .int 0, .null, .int 0, .null, .int 0, .null, .null, .int 0, .int 0, .null, .null, .null, .null, .null, .int 0, .null, .null, .null, .null, .null, .null, .null, .null, .null, .int 0, .null, .null, .null, .null, .null, .null, .null, .null, .null, .null, .null, .int 0, .null, .null, .null, .null, .null, .null, .null, .null, .int 0, .null, .null, .int 0, .int 0, .null, .null, .null, .null, .null, .null, .null, .int 0, .null, .null, .null, .null, .null, .null, .null, .null, .int 0, .null, .null, .null, .null, .int 0, .null, .null, .null, .null, .null, .null, .null, .null, .null, .null, .null, .null, .null, .null, .null, .int 0, .null, .int 0, .int 0, .int 0, .null, .null, .int 0, .null, .null, .null, .null]))]) hD hS hA [60] rfl
  refine va_callv (va_runI (As := []) (rest := [.ref y]) ⟨hx, hb, hml, hown, hts⟩ (kf_X13_init l dC dI cI cB cJ cZ y H.size) (cwI 0 hts gw_X13_init rfl rfl rfl (hts (.initialized RX13) tw_333) (hts (.methodLink RL 130 yX13_init) tw_1027) (hts (.instanceMethod yX13_init) tw_1028) rfl (by decide +kernel) ⟨(Nat.le_of_ble_eq_true rfl), (Nat.le_of_ble_eq_true rfl)⟩) ⟨fun a U g mk q => by obtain ⟨q0, q1, qP, qK, qD, n1, n2⟩ := q; exact ⟨q0, q1, qP, va_K.moved (u := U) (U := U.calling g mk a) (Vm.Alike.refl U.vm) qK, qD, va_Nw.same rfl rfl n1, va_AO.moved (u := U) (U := U.calling g mk a) (Vm.Alike.refl U.vm) n2⟩, fun U hU hW => ⟨rfl, by rw [hU], by rw [hU]; exact hPc, va_K.moved hW.alike hK, hDc.weaken (fun _ _ _ _ => trivial), va_Nw.warmM hW hN_X13_113, va_AO.moved hW.alike hAO12⟩⟩ rfl rfl hl.1 rfl (lv_room (Nat.le_of_ble_eq_true rfl)) dL_law_12 ⟨(Nat.le_of_ble_eq_true rfl), (Nat.le_of_ble_eq_true rfl)⟩) hS (fun q _ h => hFc q h) hFc (fun v t H1 locs ht hvm hv hB hz1 hk1 hS => ?_)
  obtain ⟨hP1, hD1⟩ := hB
  rw [ht] at hP1
  obtain ⟨hP, hD⟩ := va_join (wr := wd_X11_init cI cB cJ x u) (w1 := wd_X13_init cI cB y v) hP hD [60] [0, 1, 2, 3, 4, 5, 6, 7, 8, 9, 10, 11, 12, 13, 14, 15, 16, 17, 18, 19, 20, 21, 22, 23, 24, 25, 26, 27, 28, 29, 30, 31, 32, 33, 34, 35, 36, 37, 38, 39, 40, 41, 42, 43, 44, 45, 46, 47, 48, 49, 50, 51, 52, 53, 54, 55, 56, 57, 58, 59] rfl rfl (by decide) (by decide) hk1 hFc hP1 hD1
  generalize H1 = H at hP hS ⊢
  refine W.widen (k := 693) (n := 1334207) (Nat.le_of_ble_eq_true rfl) (Nat.le_of_ble_eq_true rfl) ?_
  refine lv_astore_n (lv' := [(2, .ref y), (1, .ref x), (0, .ref b)]) hx hb dL_law_15 rfl hl (by decide) rfl (fun ls hl => ?_)
  refine lv_iconst (v := 1) hx hb dL_law_16 (by decide) ?_
  refine ow_newa (N' := 1) (a0 := (1, .inr (.inl (fun _ => 0)))) (ty := .long) hx hb (hts (.arrayClass .long) tw_87) rfl hK hP hD hS hA 2 rfl (fun _ h => h) (fun _ => rfl) (by decide) (by decide) (by decide) (Nat.le_of_ble_eq_true rfl) (Nat.le_of_ble_eq_true rfl) dL_law_17 (fun qo H hP hD hS => ?_)
  have hP : va_P (dC, dI) vwCl (wd_X11_init cI cB cJ x u ++ (wd_X13_init cI cB y v ++ [(qo, .inl (cJ, 1, .inr (.inl (fun _ => 0))))])) H := by rw [← List.append_assoc]; exact hP
  have hD : va_D (fun q : Nat => s.heap.size ≤ q) (wd_X11_init cI cB cJ x u ++ (wd_X13_init cI cB y v ++ [(qo, .inl (cJ, 1, .inr (.inl (fun _ => 0))))])) := by rw [← List.append_assoc]; exact hD
  refine W.widen (k := 694) (n := 1334208) (Nat.le_of_ble_eq_true rfl) (Nat.le_of_ble_eq_true rfl) ?_
  refine lv_astore_n (lv' := [(3, .ref qo), (2, .ref y), (1, .ref x), (0, .ref b)]) hx hb dL_law_19 rfl hl (by decide) rfl (fun ls hl => ?_)
  refine lv_iconst (v := 0) hx hb dL_law_20 (by decide) ?_
  refine lv_istore (lv' := [(4, .int 0), (3, .ref qo), (2, .ref y), (1, .ref x), (0, .ref b)]) hx hb dL_law_21 hl (by decide) rfl (fun ls hl => ?_)
  refine lv_iload hx hb dL_law_23 (lv_at hl 0 rfl) ?_
  refine lv_aload_n hx hb dL_law_25 rfl (lv_at hl 4 rfl) ?_
  refine va_slen hx hb hX hbl hbA hS dL_law_26 ?_
  refine lv_bipush (v := 6) hx hb dL_law_27 (by decide) ?_
  refine lv_isub hx hb dL_law_29 ?_
  rcases Nat.lt_or_ge L 6 with h6 | h6
  · refine lv_icmp_gt (tgt := 2622) hx hb dL_law_30 (by decide) (fun _ => ?_) (fun c9 => absurd (pk_sneg (a := L) (b := 6) (by decide) h6) c9)
    refine lv_iconst (v := 1) hx hb dL_law_2622 (by decide) ?_
    refine va_forget (fun q hq => hS.2.2 q hq) ?_
    refine W.widen (k := 600002) (n := 7302232) (Nat.le_of_ble_eq_true rfl) (Nat.le_of_ble_eq_true rfl) ?_
    exact lw_ret hx hb hr hlocks dL_law_2623
  · obtain rfl : L = 6 := by omega
    refine lv_icmp_gt (tgt := 2622) hx hb dL_law_30 (by decide) (fun c9 => absurd c9 (by decide)) (fun _ => ?_)
    refine lv_aload_n hx hb dL_law_33 rfl (lv_at hl 4 rfl) ?_
    refine lv_iload hx hb dL_law_34 (lv_at hl 0 rfl) ?_
    refine va_sld hx hb hX hbl hbA hS (vp_in_nI (n := 0) (N := 6) (by decide) (by decide)) dL_law_36 ?_
    refine ow_topi (y := xs 0) (congrArg xs (by decide)) ?_
    refine lv_bipush (v := 63) hx hb dL_law_37 (by decide) ?_
    refine lv_iand hx hb dL_law_39 ?_
    obtain ⟨j, hj, ej⟩ := pk_andE (xs 0) (m := 63) 6 (by decide)
    refine ow_topi (y := nI j) ej ?_
    rcases Nat.lt_or_ge j 39 with q | q
    · rcases (show j = 0 ∨ j = 1 ∨ j = 2 ∨ j = 3 ∨ j = 4 ∨ j = 5 ∨ j = 6 ∨ j = 7 ∨ j = 8 ∨ j = 9 ∨ j = 10 ∨ j = 11 ∨ j = 12 ∨ j = 13 ∨ j = 14 ∨ j = 15 ∨ j = 16 ∨ j = 17 ∨ j = 18 ∨ j = 19 ∨ j = 20 ∨ j = 21 ∨ j = 22 ∨ j = 23 ∨ j = 24 ∨ j = 25 ∨ j = 26 ∨ j = 27 ∨ j = 28 ∨ j = 29 ∨ j = 30 ∨ j = 31 ∨ j = 32 ∨ j = 33 ∨ j = 34 ∨ j = 35 ∨ j = 36 ∨ j = 37 ∨ j = 38 by omega) with rfl | rfl | rfl | rfl | rfl | rfl | rfl | rfl | rfl | rfl | rfl | rfl | rfl | rfl | rfl | rfl | rfl | rfl | rfl | rfl | rfl | rfl | rfl | rfl | rfl | rfl | rfl | rfl | rfl | rfl | rfl | rfl | rfl | rfl | rfl | rfl | rfl | rfl | rfl
      · refine lv_tableIn (off := 172) (tgt := 212) hx hb dL_law_40 (by decide) (by decide) (by decide) (by decide) ?_
        exact lc_feed C0 hG hv hP hD hS (lv_sub hl [4, 3, 2, 1, 0] rfl)
      · refine lv_tableIn (off := 276) (tgt := 316) hx hb dL_law_40 (by decide) (by decide) (by decide) (by decide) ?_
        exact lc_end C0 hG hv hP hD hS (lv_sub hl [4, 3, 2, 1, 0] rfl)
      · refine lv_tableIn (off := 312) (tgt := 352) hx hb dL_law_40 (by decide) (by decide) (by decide) (by decide) ?_
        exact lc_diagram C0 hG hv hP hD hS (lv_sub hl [4, 3, 2, 1, 0] rfl)
      · refine lv_tableIn (off := 356) (tgt := 396) hx hb dL_law_40 (by decide) (by decide) (by decide) (by decide) ?_
        exact lc_braid C0 hG hv hP hD hS (lv_sub hl [4, 3, 2, 1, 0] rfl)
      · refine lv_tableIn (off := 412) (tgt := 452) hx hb dL_law_40 (by decide) (by decide) (by decide) (by decide) ?_
        exact lc_drop C0 hG hv hP hD hS (lv_sub hl [4, 3, 2, 1, 0] rfl)
      · refine lv_tableIn (off := 437) (tgt := 477) hx hb dL_law_40 (by decide) (by decide) (by decide) (by decide) ?_
        exact lc_dropBraid C0 hG hv hP hD hS (lv_sub hl [4, 3, 2, 1, 0] rfl)
      · refine lv_tableIn (off := 462) (tgt := 502) hx hb dL_law_40 (by decide) (by decide) (by decide) (by decide) ?_
        exact lc_figure C0 hG hv hP hD hS (lv_sub hl [4, 3, 2, 1, 0] rfl)
      · refine lv_tableIn (off := 530) (tgt := 570) hx hb dL_law_40 (by decide) (by decide) (by decide) (by decide) ?_
        exact lc_visit C0 hG hv hP hD hS (lv_sub hl [4, 3, 2, 1, 0] rfl)
      · refine lv_tableIn (off := 610) (tgt := 650) hx hb dL_law_40 (by decide) (by decide) (by decide) (by decide) ?_
        exact lc_linking C0 hG hv hP hD hS (lv_sub hl [4, 3, 2, 1, 0] rfl)
      · refine lv_tableIn (off := 690) (tgt := 730) hx hb dL_law_40 (by decide) (by decide) (by decide) (by decide) ?_
        exact lc_alike C0 hG hv hP hD hS (lv_sub hl [4, 3, 2, 1, 0] rfl)
      · refine lv_tableIn (off := 727) (tgt := 767) hx hb dL_law_40 (by decide) (by decide) (by decide) (by decide) ?_
        exact lc_mirror C0 hG hv hP hD hS (lv_sub hl [4, 3, 2, 1, 0] rfl)
      · refine lv_tableIn (off := 783) (tgt := 823) hx hb dL_law_40 (by decide) (by decide) (by decide) (by decide) ?_
        exact lc_reverse C0 hG hv hP hD hS (lv_sub hl [4, 3, 2, 1, 0] rfl)
      · refine lv_tableIn (off := 851) (tgt := 891) hx hb dL_law_40 (by decide) (by decide) (by decide) (by decide) ?_
        exact lc_change C0 hG hv hP hD hS (lv_sub hl [4, 3, 2, 1, 0] rfl)
      · refine lv_tableIn (off := 919) (tgt := 959) hx hb dL_law_40 (by decide) (by decide) (by decide) (by decide) ?_
        exact lc_smooth C0 hG hv hP hD hS (lv_sub hl [4, 3, 2, 1, 0] rfl)
      · refine lv_tableIn (off := 987) (tgt := 1027) hx hb dL_law_40 (by decide) (by decide) (by decide) (by decide) ?_
        exact lc_apart C0 hG hv hP hD hS (lv_sub hl [4, 3, 2, 1, 0] rfl)
      · refine lv_tableIn (off := 1055) (tgt := 1095) hx hb dL_law_40 (by decide) (by decide) (by decide) (by decide) ?_
        exact lc_join C0 hG hv hP hD hS (lv_sub hl [4, 3, 2, 1, 0] rfl)
      · refine lv_tableIn (off := 1147) (tgt := 1187) hx hb dL_law_40 (by decide) (by decide) (by decide) (by decide) ?_
        exact lc_moves C0 hG hv hP hD hS (lv_sub hl [4, 3, 2, 1, 0] rfl)
      · refine lv_tableIn (off := 1215) (tgt := 1255) hx hb dL_law_40 (by decide) (by decide) (by decide) (by decide) ?_
        exact lc_moved C0 hG hv hP hD hS (lv_sub hl [4, 3, 2, 1, 0] rfl)
      · refine lv_tableIn (off := 1271) (tgt := 1311) hx hb dL_law_40 (by decide) (by decide) (by decide) (by decide) ?_
        exact lc_simplify C0 hG hv hP hD hS (lv_sub hl [4, 3, 2, 1, 0] rfl)
      · refine lv_tableIn (off := 1327) (tgt := 1367) hx hb dL_law_40 (by decide) (by decide) (by decide) (by decide) ?_
        exact lc_way C0 hG hv hP hD hS (lv_sub hl [4, 3, 2, 1, 0] rfl)
      · refine lv_tableIn (off := 1395) (tgt := 1435) hx hb dL_law_40 (by decide) (by decide) (by decide) (by decide) ?_
        exact lc_summands C0 hG hv hP hD hS (lv_sub hl [4, 3, 2, 1, 0] rfl)
      · refine lv_tableIn (off := 1451) (tgt := 1491) hx hb dL_law_40 (by decide) (by decide) (by decide) (by decide) ?_
        exact lc_summand C0 hG hv hP hD hS (lv_sub hl [4, 3, 2, 1, 0] rfl)
      · refine lv_tableIn (off := 1507) (tgt := 1547) hx hb dL_law_40 (by decide) (by decide) (by decide) (by decide) ?_
        exact lc_conway C0 hG hv hP hD hS (lv_sub hl [4, 3, 2, 1, 0] rfl)
      · refine lv_tableIn (off := 1575) (tgt := 1615) hx hb dL_law_40 (by decide) (by decide) (by decide) (by decide) ?_
        exact lc_jones C0 hG hv hP hD hS (lv_sub hl [4, 3, 2, 1, 0] rfl)
      · refine lv_tableIn (off := 1643) (tgt := 1683) hx hb dL_law_40 (by decide) (by decide) (by decide) (by decide) ?_
        exact lc_signature C0 hG hv hP hD hS (lv_sub hl [4, 3, 2, 1, 0] rfl)
      · refine lv_tableIn (off := 1699) (tgt := 1739) hx hb dL_law_40 (by decide) (by decide) (by decide) (by decide) ?_
        exact lc_cover C0 hG hv hP hD hS (lv_sub hl [4, 3, 2, 1, 0] rfl)
      · refine lv_tableIn (off := 1767) (tgt := 1807) hx hb dL_law_40 (by decide) (by decide) (by decide) (by decide) ?_
        exact lc_colours C0 hG hv hP hD hS (lv_sub hl [4, 3, 2, 1, 0] rfl)
      · refine lv_tableIn (off := 1834) (tgt := 1874) hx hb dL_law_40 (by decide) (by decide) (by decide) (by decide) ?_
        exact lc_maps C0 hG hv hP hD hS (lv_sub hl [4, 3, 2, 1, 0] rfl)
      · refine lv_tableIn (off := 1902) (tgt := 1942) hx hb dL_law_40 (by decide) (by decide) (by decide) (by decide) ?_
        exact lc_chain C0 hG hv hP hD hS (lv_sub hl [4, 3, 2, 1, 0] rfl)
      · refine lv_tableIn (off := 1970) (tgt := 2010) hx hb dL_law_40 (by decide) (by decide) (by decide) (by decide) ?_
        exact lc_rank C0 hG hv hP hD hS (lv_sub hl [4, 3, 2, 1, 0] rfl)
      · refine lv_tableIn (off := 2007) (tgt := 2047) hx hb dL_law_40 (by decide) (by decide) (by decide) (by decide) ?_
        exact lc_closure C0 hG hv hP hD hS (lv_sub hl [4, 3, 2, 1, 0] rfl)
      · refine lv_tableIn (off := 2063) (tgt := 2103) hx hb dL_law_40 (by decide) (by decide) (by decide) (by decide) ?_
        exact lc_product C0 hG hv hP hD hS (lv_sub hl [4, 3, 2, 1, 0] rfl)
      · refine lv_tableIn (off := 2131) (tgt := 2171) hx hb dL_law_40 (by decide) (by decide) (by decide) (by decide) ?_
        exact lc_inverse C0 hG hv hP hD hS (lv_sub hl [4, 3, 2, 1, 0] rfl)
      · refine lv_tableIn (off := 2187) (tgt := 2227) hx hb dL_law_40 (by decide) (by decide) (by decide) (by decide) ?_
        exact lc_normal C0 hG hv hP hD hS (lv_sub hl [4, 3, 2, 1, 0] rfl)
      · refine lv_tableIn (off := 2255) (tgt := 2295) hx hb dL_law_40 (by decide) (by decide) (by decide) (by decide) ?_
        exact lc_factor C0 hG hv hP hD hS (lv_sub hl [4, 3, 2, 1, 0] rfl)
      · refine lv_tableIn (off := 2335) (tgt := 2375) hx hb dL_law_40 (by decide) (by decide) (by decide) (by decide) ?_
        exact lc_equal C0 hG hv hP hD hS (lv_sub hl [4, 3, 2, 1, 0] rfl)
      · refine lv_tableIn (off := 2372) (tgt := 2412) hx hb dL_law_40 (by decide) (by decide) (by decide) (by decide) ?_
        exact lc_summit C0 hG hv hP hD hS (lv_sub hl [4, 3, 2, 1, 0] rfl)
      · refine lv_tableIn (off := 2428) (tgt := 2468) hx hb dL_law_40 (by decide) (by decide) (by decide) (by decide) ?_
        exact lc_conjugate C0 hG hv hP hD hS (lv_sub hl [4, 3, 2, 1, 0] rfl)
      · refine lv_tableIn (off := 2496) (tgt := 2536) hx hb dL_law_40 (by decide) (by decide) (by decide) (by decide) ?_
        exact lc_two C0 hG hv hP hD hS (lv_sub hl [4, 3, 2, 1, 0] rfl)
    · refine lv_tableOut (tgt := 2616) hx hb dL_law_40 (Or.inr (by rw [nI_toInt (by omega)]; omega)) (by decide) ?_
      exact lc_fin C0 hS (lv_sub hl [4, 0] rfl) (Nat.le_of_ble_eq_true rfl) (Nat.le_of_ble_eq_true rfl)
set_option maxHeartbeats 4000000 in
theorem lw_walk (l : Launch) (hlt : l.stackTraces = false) (b : Addr) (xs : List Int32) : MetFree l x (headSpec (Jvm.Cond.code x code maxLocals ret :: tables_1) room_1) (lw_P b xs) (fun _ _ _ _ _ => True) lw_Q := by
  refine MetFree.of_bodyS (code := code) (maxLocals := maxLocals) (ret := ret) (by decide) ?_ ?_
  · intro args s m h hn
    obtain ⟨meth, c, h1, h2, h3, h4, h5, h6, -, -⟩ := Cond.code_spec hn (atoms_spec (ws := Jvm.Cond.code x code maxLocals ret :: tables_1) h _ List.mem_cons_self)
    exact ⟨meth, c, h1, h2, h3, h4, h5, h6⟩
  · intro p e s m args below meth c s₁ B hml0 hP _
    obtain ⟨rfl, hx, hbd, hgv⟩ := hP
    obtain ⟨scr, harrAt, hlist, hof, hsmall⟩ := hx
    obtain ⟨hcb, hkn, -, -⟩ := State.arrayAt?_spec harrAt
    have hown : s.vm.findClass R_law = some m.cls := findClass_of_methodNamed B.named
    have hts0 : ∀ c ∈ (Jvm.Cond.code x code maxLocals ret :: tables_1), c.before #[Value.ref b] s = true := atoms_spec (ws := Jvm.Cond.code x code maxLocals ret :: tables_1) B.pre
    have hts : ∀ w ∈ lw_tbl, w.before #[Value.ref b] s = true := k2_hts_sels lw_privs (fun w hw => hts0 w (List.mem_cons_of_mem _ hw)) lw_privs_ok
    have hml : c.maxLocals = 8 := B.maxLocals_eq (hts0 _ List.mem_cons_self)
    have X₀ : Stand p l e room_1 s m #[Value.ref b] below meth c s₁ [] 0 0 := Stand.of_body B
    have hh0 : s₁.heap = s.heap := by rw [B.state]; rfl
    have hsz : scr.slots.size = xs.length := by rw [← Array.length_toList, hlist, List.length_map]
    have hval : ∀ j : Nat, j < xs.length → scr.slots[j]? = some (.int (xs.getD j 0)) := fun j hj => by
      rw [← Array.getElem?_toList, hlist]
      simp [hj]
    have hbl : b < s.heap.size := (Array.getElem?_eq_some_iff.mp hcb).1
    have hX : va_X b xs.length (fun j => xs.getD j 0) s s.heap := ⟨scr, hcb, hof, hkn, hsz, hval⟩
    have K : W p l e room_1 s m #[Value.ref b] below meth c s₁.heap [] 0 0 (lw_Z below #[Value.ref b] s) (entryFrame m ([Value.ref b] : List Value).toArray 8) := by
      rw [hh0]
      exact whole_start l hlt hbd ⟨B.exec, B.bytes, B.returns, hml, hown, hts, hX, hbl, B.notSynchronized, hgv⟩
    obtain ⟨t, a1, o, b1, b2, b3⟩ := K s₁ rfl X₀
    exact ⟨t, o, a1, b1, b2, b3⟩
theorem lw_pre_spec {args : Array Value} {s : State} (h : (Jvm.Cond.and given_1 narrow_1).before args s = true) (hr : rest_1_c.before args s = true) : ∃ (b : Addr) (xs : List Int32), lw_P b xs args s := by
  have hs := flat_of_before _ h
  have hq := flat_of_before _ hr
  have hc : (Cond.count 1).before args s = true := hs _ (by decide +kernel)
  have harr : (Cond.arrayOf (.arg 0) .int).before args s = true := hs _ (by decide +kernel)
  have hle : (Cond.le (.length (.arg 0)) (.int 6)).before args s = true := hs _ (by decide +kernel)
  have hlen : (Cond.isInt (.length (.arg 0))).before args s = true := hq _ (by decide +kernel)
  have hall : (Cond.all (.arg 0) (.isInt (.elem (.arg 0) (.index 0)))).before args s = true := hq _ (by decide +kernel)
  obtain ⟨b, xs, hb, hx⟩ := State.ints_of_pre rfl harr hlen hall
  have hsm : xs.length < 2 ^ 31 := hx.choose_spec.2.2.2
  have hev : (Term.length (.arg 0)).eval args s none [] s = some (.int xs.length.toInt32) := hx.length_eval hb
  have hv := Cond.le_ints hev (show (Term.int 6).eval args s none [] s = some (.int 6) from rfl)
  have hd : xs.length.toInt32 ≤ 6 := by
    simpa [Cond.before, Cond.holds, hv] using hle
  have hN : xs.length ≤ 6 := (Int32.ofNat_le_ofNat hsm (by decide)).mp (show Int32.ofNat xs.length ≤ Int32.ofNat 6 from hd)
  exact ⟨b, xs, Cond.one_arg hc (show args[0]? = some (.ref b) from hb), hx, hN, h⟩
theorem lw_comes (l : Launch) (hlt : l.stackTraces = false) : Comes l x (Jvm.Cond.code x code maxLocals ret :: tables_1) room_1 (fun tb e args s => Calls_1 tb e args s ∧ rest_1 tb e args s ∧ Pre_1 tb e args s)
    (fun _ _ args s o t => lw_Q args s o t) := by
  intro p e ha hc hk s m args below hf hfit hheap happ hpre
  obtain ⟨b, xs, hP⟩ := lw_pre_spec hpre.2.2 hpre.2.1
  obtain ⟨k, o, h1, h2, h3, hQ⟩ := lw_walk l hlt b xs p e ha hc hk s m args below hf ((Spec.applies_iff_loose hf).mp happ).1 hP trivial
  exact ⟨k, o, h1, h2, h3, hQ⟩
theorem lw_frame {s t : State} {o : Outcome} {args : Array Value} (h : Framed s o t [] 600002 7302232) :
    Framed s o t (fieldLocs frame_1_writes args s ++ arrayLocs frame_1_arrays args s ++ staticLocs frame_1_statics s) 600002 7302232 := h
theorem lw_limb (L : Cond) (hL : ∀ (args : Array Value) (s t : State), L.after args s (.returned (some (.int 1))) t = true) :
    ArmFor flags0 classFile x code maxLocals ret World_1 tables_1 room_1 Calls_1 rest_1 Pre_1
      (fun tb e a s o t => postC L tb e a s o t ∧ Framed s o t (fieldLocs frame_1_writes a s ++ arrayLocs frame_1_arrays a s ++ staticLocs frame_1_statics s) 600002 7302232) := by
  intro l hfl _ _ p e ha hc hk s m args below hf hfit hheap happ hpre
  have hlt : l.stackTraces = false := by
    show (!l.flags.contains noTraceFlag) = false
    rw [hfl]
    decide +kernel
  obtain ⟨k, o, h1, h2, h3, rfl, hF⟩ := lw_comes l hlt p e ha hc hk s m args below hf hfit hheap happ hpre
  exact ⟨k, _, h1, h2, h3, hL args s _, lw_frame hF⟩
theorem i_vc : Claimed_1_1 ∧ Claimed_1_2 := ⟨lw_limb limb_1_1 (fun args s t => by simp [limb_1_1, Cond.after, Cond.holds, Cond.value]), lw_limb limb_1_2 (fun args s t => Cond.after_iff.mpr (by
  first | (rw [show limb_1_2 = Cond.eq .result (.int 1) from rfl, Cond.eq_ints (x := 1) (y := 1) rfl rfl]; simp; done) | (simp [limb_1_2, Cond.value, Term.eval]; done)))⟩
