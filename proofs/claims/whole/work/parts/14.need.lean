theorem dX11_needDiagram_0 : decode cX11_needDiagram 0 = .ok (.aload_n 0, 1) := by decide +kernel
theorem dX11_needDiagram_1 : decode cX11_needDiagram 1 = .ok (.iload_n 1, 1) := by decide +kernel
theorem dX11_needDiagram_2 : decode cX11_needDiagram 2 = .ok (.invokevirtual 160, 3) := by decide +kernel
theorem dX11_needDiagram_5 : decode cX11_needDiagram 5 = .ok (.ifCond .ne 13, 3) := by decide +kernel
theorem dX11_needDiagram_8 : decode cX11_needDiagram 8 = .ok (.new 164, 3) := by decide +kernel
theorem dX11_needDiagram_11 : decode cX11_needDiagram 11 = .ok (.dup, 1) := by decide +kernel
theorem dX11_needDiagram_12 : decode cX11_needDiagram 12 = .ok (.ldc 166, 2) := by decide +kernel
theorem dX11_needDiagram_14 : decode cX11_needDiagram 14 = .ok (.invokespecial 168, 3) := by decide +kernel
theorem dX11_needDiagram_17 : decode cX11_needDiagram 17 = .ok (.athrow, 1) := by decide +kernel
theorem dX11_needDiagram_18 : decode cX11_needDiagram 18 = .ok (.return_, 1) := by decide +kernel
def wf_needDiagram : List Cond := .code yX11_needDiagram cX11_needDiagram 2 none :: ((.classLink RX11 164 "java/lang/IndexOutOfBoundsException" :: .initialized "java/lang/IndexOutOfBoundsException" :: wsV RX11 160 RX11 yX11_hasDiagram wf_hasDiagram) ++ (vx_atS RX11 168 "java/lang/IndexOutOfBoundsException" ["java/lang/RuntimeException", "java/lang/Exception"]).filter goodWord)
theorem gf_X11_needDiagram : GoodIn wf_needDiagram (wsV RX11 160 RX11 yX11_hasDiagram wf_hasDiagram) := goodIn_sub (fun _ h => List.mem_cons_of_mem _ (List.mem_append_left _ (List.mem_cons_of_mem _ (List.mem_cons_of_mem _ h)))) (by decide +kernel)
set_option maxHeartbeats 4000000 in
set_option maxRecDepth 100000 in
theorem kf_X11_needDiagram (l : Launch) (dC : Nat → ClassId) (dI : Nat → Nat → Nat) (cI cB cJ cZ : ClassId) (hlt : l.stackTraces = false) (h0 sa : Nat) (u : Nat → Nat) (d : Int32) : vx_Met l yX11_needDiagram wf_needDiagram (({ frames := 6, cells := 1, slots := 6, locals := 90 } : Room)) (va_Pc [.ref h0, .int d] (fun U => va_P (dC, dI) vwCl [(h0, .inr (14, [.ref (u 0), .ref (u 1), .ref (u 2), .ref (u 3), .ref (u 4), .ref (u 5), .ref (u 6), .ref (u 7), .ref (u 8), .ref (u 9), .ref (u 10), .ref (u 11), .ref (u 12), .ref (u 13), .ref (u 14), .ref (u 15), .ref (u 16), .ref (u 17), .ref (u 18)])), ((u 0), .inr (6, [.ref (u 19), .ref (u 20), .ref (u 21), .ref (u 22), .int 0])), ((u 20), .inl (cB, 40, .inl (fun _ => 0)))] U.heap ∧ va_K (dC, dI) vwCl [(cI, .int), (cB, .byte), (cJ, .long), (cZ, .boolean)] U ∧ ow_Th (fun _ => False) RX11 166 "no such diagram" sa "java/lang/IndexOutOfBoundsException" U)) (va_Qv (fun _ : Unit => False) (fun _ _ => True) (fun _ => False)) (vx_X (fun _ : Unit => True) (fun E _ _ => E = "java/lang/IndexOutOfBoundsException") (fun _ => False)) 1 6 (fun _ => False) := by
  refine vx_ofW (cc := cX11_needDiagram) (maxL := 2) (ret := none) (by decide) rfl ?_
  intro p e s m args below meth c s₁ B hml hex hv
  obtain ⟨rfl, hP, hK, hTh⟩ := hv
  have hx := B.exec
  have hb := B.bytes
  have hr := B.returns
  have hts := atoms_spec (ws := wf_needDiagram) B.pre
  have hown : s.vm.findClass RX11 = some m.cls := findClass_of_methodNamed B.named
  have hlocks := B.notSynchronized
  have hS : va_S (fun _ => False) s.heap s.heap [] := va_S.rf
  have hl := lv_entry ([.ref h0, .int d]) (n := 2) (Nat.le_of_ble_eq_true rfl)
  rw [lg_entry_eq]
  generalize (lg_sl ([.ref h0, .int d]) ++ List.replicate (2 - (lg_sl ([.ref h0, .int d])).length) Slot.unset).toArray = ls at hl ⊢
  have hl : lv_has ls 2 [(0, .ref h0), (1, .int d)] := hl
  refine ow_named (fun QQ hQQ => ?_)
  refine lv_aload_n hx hb dX11_needDiagram_0 rfl (lv_at hl 0 rfl) ?_
  refine lv_iload_n hx hb dX11_needDiagram_1 rfl (lv_at hl 1 rfl) ?_
  refine va_calli (va_runV (As := [.int d]) (rest := []) ⟨hx, hb, hml, hown, hts⟩ (kf_X11_hasDiagram l dC dI cI cB cJ cZ h0 u d) (cwV 1 hts gf_X11_needDiagram rfl rfl rfl (by decide +kernel) ⟨(Nat.le_of_ble_eq_true rfl), (Nat.le_of_ble_eq_true rfl)⟩) ⟨fun a U g mk q => by obtain ⟨q0, qP, qK⟩ := q; exact ⟨q0, qP, va_K.moved (u := U) (U := U.calling g mk a) (Vm.Alike.refl U.vm) qK⟩, va_recv hK hP (ci := 14) (q0 := 0) rfl rfl, fun U hU hW => ⟨rfl, by rw [hU]; exact hP, va_K.moved hW.alike hK⟩⟩ rfl rfl hl.1 rfl (lv_room (Nat.le_of_ble_eq_true rfl)) dX11_needDiagram_2 ⟨(Nat.le_of_ble_eq_true rfl), (Nat.le_of_ble_eq_true rfl)⟩) hS (fun q _ h => h.elim) (fun q h => h.elim) (fun r9 un t H1 locs ht hvm hw hB hz1 hk1 hS => ?_)
  obtain rfl : r9 = 0 := hw
  refine lv_if_ne (tgt := 18) hx hb dX11_needDiagram_5 (by decide) (fun c9 => absurd c9 (by decide)) (fun _ => ?_)
  rw [hQQ]
  exact vx_throwS (own := RX11) (cls := "java/lang/IndexOutOfBoundsException") (text := "no such diagram") (names := ["java/lang/RuntimeException", "java/lang/Exception"]) (A := (fun _ => False)) hx hb hlt hown (by decide +kernel) (by decide +kernel) (hts (.classLink RX11 164 "java/lang/IndexOutOfBoundsException") (by decide +kernel)) (hts (.initialized "java/lang/IndexOutOfBoundsException") (by decide +kernel)) hTh.1 (vx_hat (fun w h => hts w (List.mem_cons_of_mem _ (List.mem_append_right _ h))) (B := [.declares (Bundle.initS "java/lang/RuntimeException"), .declares (Bundle.initS "java/lang/Exception"), .declares (Bundle.initS Bundle.tN), .castable "java/lang/IndexOutOfBoundsException" "java/lang/IndexOutOfBoundsException"]) (by decide +kernel) (vx_c (va_Nw.use rfl hTh.2.2.2.1) (vx_c (va_Nw.use rfl hTh.2.2.2.2.1) (vx_c (va_Nw.use rfl hTh.2.2.2.2.2.1) (vx_c (va_Nw.use rfl hTh.2.2.2.2.2.2) vx_n))))) (by decide +kernel) hTh.2.1 hTh.2.2.1 hS (by rw [hml]; exact hl.1) dX11_needDiagram_8 dX11_needDiagram_11 dX11_needDiagram_12 dX11_needDiagram_14 dX11_needDiagram_17 (fun x h => (hex x h).elim) (Nat.le_of_ble_eq_true rfl) (Nat.le_of_ble_eq_true rfl) (Nat.le_of_ble_eq_true rfl) (Nat.le_of_ble_eq_true rfl) hlocks (fun t h1 h2 h3 => ⟨(), trivial, rfl, Nat.le_trans hS.1 h2, fun q h4 h5 => (h3 q (Nat.lt_of_lt_of_le h4 hS.1)).trans (hS.2.1 q h4 h5)⟩) hS.2.2 (Nat.le_of_ble_eq_true rfl) (Nat.le_of_ble_eq_true rfl)
theorem dX11_needBraid_0 : decode cX11_needBraid 0 = .ok (.aload_n 0, 1) := by decide +kernel
theorem dX11_needBraid_1 : decode cX11_needBraid 1 = .ok (.iload_n 1, 1) := by decide +kernel
theorem dX11_needBraid_2 : decode cX11_needBraid 2 = .ok (.invokevirtual 169, 3) := by decide +kernel
theorem dX11_needBraid_5 : decode cX11_needBraid 5 = .ok (.ifCond .ne 13, 3) := by decide +kernel
theorem dX11_needBraid_8 : decode cX11_needBraid 8 = .ok (.new 164, 3) := by decide +kernel
theorem dX11_needBraid_11 : decode cX11_needBraid 11 = .ok (.dup, 1) := by decide +kernel
theorem dX11_needBraid_12 : decode cX11_needBraid 12 = .ok (.ldc 172, 2) := by decide +kernel
theorem dX11_needBraid_14 : decode cX11_needBraid 14 = .ok (.invokespecial 168, 3) := by decide +kernel
theorem dX11_needBraid_17 : decode cX11_needBraid 17 = .ok (.athrow, 1) := by decide +kernel
theorem dX11_needBraid_18 : decode cX11_needBraid 18 = .ok (.return_, 1) := by decide +kernel
def wf_needBraid : List Cond := .code yX11_needBraid cX11_needBraid 2 none :: ((.classLink RX11 164 "java/lang/IndexOutOfBoundsException" :: .initialized "java/lang/IndexOutOfBoundsException" :: wsV RX11 169 RX11 yX11_hasBraid wf_hasBraid) ++ (vx_atS RX11 168 "java/lang/IndexOutOfBoundsException" ["java/lang/RuntimeException", "java/lang/Exception"]).filter goodWord)
theorem gf_X11_needBraid : GoodIn wf_needBraid (wsV RX11 169 RX11 yX11_hasBraid wf_hasBraid) := goodIn_sub (fun _ h => List.mem_cons_of_mem _ (List.mem_append_left _ (List.mem_cons_of_mem _ (List.mem_cons_of_mem _ h)))) (by decide +kernel)
set_option maxHeartbeats 4000000 in
set_option maxRecDepth 100000 in
theorem kf_X11_needBraid (l : Launch) (dC : Nat → ClassId) (dI : Nat → Nat → Nat) (cI cB cJ cZ : ClassId) (hlt : l.stackTraces = false) (h0 sa : Nat) (u : Nat → Nat) (d : Int32) : vx_Met l yX11_needBraid wf_needBraid (({ frames := 6, cells := 1, slots := 6, locals := 90 } : Room)) (va_Pc [.ref h0, .int d] (fun U => va_P (dC, dI) vwCl [(h0, .inr (14, [.ref (u 0), .ref (u 1), .ref (u 2), .ref (u 3), .ref (u 4), .ref (u 5), .ref (u 6), .ref (u 7), .ref (u 8), .ref (u 9), .ref (u 10), .ref (u 11), .ref (u 12), .ref (u 13), .ref (u 14), .ref (u 15), .ref (u 16), .ref (u 17), .ref (u 18)])), ((u 14), .inl (cI, 20, .inl (fun _ => 0)))] U.heap ∧ va_K (dC, dI) vwCl [(cI, .int), (cB, .byte), (cJ, .long), (cZ, .boolean)] U ∧ ow_Th (fun _ => False) RX11 172 "no such braid" sa "java/lang/IndexOutOfBoundsException" U)) (va_Qv (fun _ : Unit => False) (fun _ _ => True) (fun _ => False)) (vx_X (fun _ : Unit => True) (fun E _ _ => E = "java/lang/IndexOutOfBoundsException") (fun _ => False)) 1 6 (fun _ => False) := by
  refine vx_ofW (cc := cX11_needBraid) (maxL := 2) (ret := none) (by decide) rfl ?_
  intro p e s m args below meth c s₁ B hml hex hv
  obtain ⟨rfl, hP, hK, hTh⟩ := hv
  have hx := B.exec
  have hb := B.bytes
  have hr := B.returns
  have hts := atoms_spec (ws := wf_needBraid) B.pre
  have hown : s.vm.findClass RX11 = some m.cls := findClass_of_methodNamed B.named
  have hlocks := B.notSynchronized
  have hS : va_S (fun _ => False) s.heap s.heap [] := va_S.rf
  have hl := lv_entry ([.ref h0, .int d]) (n := 2) (Nat.le_of_ble_eq_true rfl)
  rw [lg_entry_eq]
  generalize (lg_sl ([.ref h0, .int d]) ++ List.replicate (2 - (lg_sl ([.ref h0, .int d])).length) Slot.unset).toArray = ls at hl ⊢
  have hl : lv_has ls 2 [(0, .ref h0), (1, .int d)] := hl
  refine ow_named (fun QQ hQQ => ?_)
  refine lv_aload_n hx hb dX11_needBraid_0 rfl (lv_at hl 0 rfl) ?_
  refine lv_iload_n hx hb dX11_needBraid_1 rfl (lv_at hl 1 rfl) ?_
  refine va_calli (va_runV (As := [.int d]) (rest := []) ⟨hx, hb, hml, hown, hts⟩ (kf_X11_hasBraid l dC dI cI cB cJ cZ h0 u d) (cwV 1 hts gf_X11_needBraid rfl rfl rfl (by decide +kernel) ⟨(Nat.le_of_ble_eq_true rfl), (Nat.le_of_ble_eq_true rfl)⟩) ⟨fun a U g mk q => by obtain ⟨q0, qP, qK⟩ := q; exact ⟨q0, qP, va_K.moved (u := U) (U := U.calling g mk a) (Vm.Alike.refl U.vm) qK⟩, va_recv hK hP (ci := 14) (q0 := 0) rfl rfl, fun U hU hW => ⟨rfl, by rw [hU]; exact hP, va_K.moved hW.alike hK⟩⟩ rfl rfl hl.1 rfl (lv_room (Nat.le_of_ble_eq_true rfl)) dX11_needBraid_2 ⟨(Nat.le_of_ble_eq_true rfl), (Nat.le_of_ble_eq_true rfl)⟩) hS (fun q _ h => h.elim) (fun q h => h.elim) (fun r9 un t H1 locs ht hvm hw hB hz1 hk1 hS => ?_)
  obtain rfl : r9 = 0 := hw
  refine lv_if_ne (tgt := 18) hx hb dX11_needBraid_5 (by decide) (fun c9 => absurd c9 (by decide)) (fun _ => ?_)
  rw [hQQ]
  exact vx_throwS (own := RX11) (cls := "java/lang/IndexOutOfBoundsException") (text := "no such braid") (names := ["java/lang/RuntimeException", "java/lang/Exception"]) (A := (fun _ => False)) hx hb hlt hown (by decide +kernel) (by decide +kernel) (hts (.classLink RX11 164 "java/lang/IndexOutOfBoundsException") (by decide +kernel)) (hts (.initialized "java/lang/IndexOutOfBoundsException") (by decide +kernel)) hTh.1 (vx_hat (fun w h => hts w (List.mem_cons_of_mem _ (List.mem_append_right _ h))) (B := [.declares (Bundle.initS "java/lang/RuntimeException"), .declares (Bundle.initS "java/lang/Exception"), .declares (Bundle.initS Bundle.tN), .castable "java/lang/IndexOutOfBoundsException" "java/lang/IndexOutOfBoundsException"]) (by decide +kernel) (vx_c (va_Nw.use rfl hTh.2.2.2.1) (vx_c (va_Nw.use rfl hTh.2.2.2.2.1) (vx_c (va_Nw.use rfl hTh.2.2.2.2.2.1) (vx_c (va_Nw.use rfl hTh.2.2.2.2.2.2) vx_n))))) (by decide +kernel) hTh.2.1 hTh.2.2.1 hS (by rw [hml]; exact hl.1) dX11_needBraid_8 dX11_needBraid_11 dX11_needBraid_12 dX11_needBraid_14 dX11_needBraid_17 (fun x h => (hex x h).elim) (Nat.le_of_ble_eq_true rfl) (Nat.le_of_ble_eq_true rfl) (Nat.le_of_ble_eq_true rfl) (Nat.le_of_ble_eq_true rfl) hlocks (fun t h1 h2 h3 => ⟨(), trivial, rfl, Nat.le_trans hS.1 h2, fun q h4 h5 => (h3 q (Nat.lt_of_lt_of_le h4 hS.1)).trans (hS.2.1 q h4 h5)⟩) hS.2.2 (Nat.le_of_ble_eq_true rfl) (Nat.le_of_ble_eq_true rfl)
