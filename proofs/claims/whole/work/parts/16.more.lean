theorem dX11_copyOut_0 : decode cX11_copyOut 0 = .ok (.iload_n 2, 1) := by decide +kernel
theorem dX11_copyOut_1 : decode cX11_copyOut 1 = .ok (.ifCond .lt 11, 3) := by decide +kernel
theorem dX11_copyOut_4 : decode cX11_copyOut 4 = .ok (.iload_n 2, 1) := by decide +kernel
theorem dX11_copyOut_5 : decode cX11_copyOut 5 = .ok (.aload_n 1, 1) := by decide +kernel
theorem dX11_copyOut_6 : decode cX11_copyOut 6 = .ok (.getfield 283, 3) := by decide +kernel
theorem dX11_copyOut_9 : decode cX11_copyOut 9 = .ok (.if_icmp .lt 14, 3) := by decide +kernel
theorem dX11_copyOut_12 : decode cX11_copyOut 12 = .ok (.new 164, 3) := by decide +kernel
theorem dX11_copyOut_15 : decode cX11_copyOut 15 = .ok (.dup, 1) := by decide +kernel
theorem dX11_copyOut_16 : decode cX11_copyOut 16 = .ok (.ldc_w 294, 3) := by decide +kernel
theorem dX11_copyOut_19 : decode cX11_copyOut 19 = .ok (.invokespecial 168, 3) := by decide +kernel
theorem dX11_copyOut_22 : decode cX11_copyOut 22 = .ok (.athrow, 1) := by decide +kernel
def wf_copyOut : List Cond := .code yX11_copyOut cX11_copyOut 4 (some .int) :: ((.classLink RX11 164 "java/lang/IndexOutOfBoundsException" :: .initialized "java/lang/IndexOutOfBoundsException" :: .fieldLink RX11 283 "KnotHouse$Codes" "size" "I" :: wsX30) ++ (vx_atS RX11 168 "java/lang/IndexOutOfBoundsException" ["java/lang/RuntimeException", "java/lang/Exception"]).filter goodWord)
set_option maxHeartbeats 4000000 in
set_option maxRecDepth 100000 in
theorem kf_X11_copyOutL (l : Launch) (dC : Nat → ClassId) (dI : Nat → Nat → Nat) (cI cB cJ cZ : ClassId) (hlt : l.stackTraces = false) (h0 sa : Nat) (u : Nat → Nat) (k : Int32) : vx_Met l yX11_copyOut wf_copyOut (({ frames := 6, cells := 1, slots := 6, locals := 90 } : Room)) (va_Pc [.ref h0, .ref (u 1), .int k] (fun U => va_P (dC, dI) vwCl [(h0, .inr (14, [.ref (u 0), .ref (u 1), .ref (u 2), .ref (u 3), .ref (u 4), .ref (u 5), .ref (u 6), .ref (u 7), .ref (u 8), .ref (u 9), .ref (u 10), .ref (u 11), .ref (u 12), .ref (u 13), .ref (u 14), .ref (u 15), .ref (u 16), .ref (u 17), .ref (u 18)])), ((u 1), .inr (6, [.ref (u 23), .ref (u 24), .ref (u 25), .ref (u 26), .int 0]))] U.heap ∧ va_K (dC, dI) vwCl [(cI, .int), (cB, .byte), (cJ, .long), (cZ, .boolean)] U ∧ ow_Th (fun _ => False) RX11 294 "so many were not found" sa "java/lang/IndexOutOfBoundsException" U)) (va_Qi (fun _ (_ : Unit) => False) (fun _ _ => True) (fun _ => False)) (vx_X (fun _ : Unit => True) (fun E _ _ => E = "java/lang/IndexOutOfBoundsException") (fun _ => False)) 1 6 (fun _ => False) := by
  refine vx_ofW (cc := cX11_copyOut) (maxL := 4) (ret := (some .int)) (by decide) rfl ?_
  intro p e s m args below meth c s₁ B hml hex hv
  obtain ⟨rfl, hP, hK, hTh⟩ := hv
  have hx := B.exec
  have hb := B.bytes
  have hr := B.returns
  have hts := atoms_spec (ws := wf_copyOut) B.pre
  have hown : s.vm.findClass RX11 = some m.cls := findClass_of_methodNamed B.named
  have hlocks := B.notSynchronized
  have hS : va_S (fun _ => False) s.heap s.heap [] := va_S.rf
  have hl := lv_entry ([.ref h0, .ref (u 1), .int k]) (n := 4) (Nat.le_of_ble_eq_true rfl)
  rw [lg_entry_eq]
  generalize (lg_sl ([.ref h0, .ref (u 1), .int k]) ++ List.replicate (4 - (lg_sl ([.ref h0, .ref (u 1), .int k])).length) Slot.unset).toArray = ls at hl ⊢
  have hl : lv_has ls 4 [(0, .ref h0), (1, .ref (u 1)), (2, .int k)] := hl
  refine ow_named (fun QQ hQQ => ?_)
  refine lv_iload_n hx hb dX11_copyOut_0 rfl (lv_at hl 2 rfl) ?_
  refine lv_if_lt (tgt := 12) hx hb dX11_copyOut_1 (by decide) (fun c1 => ?_) (fun c1 => ?_)
  · rw [hQQ]
    exact vx_throwSW (own := RX11) (cls := "java/lang/IndexOutOfBoundsException") (text := "so many were not found") (names := ["java/lang/RuntimeException", "java/lang/Exception"]) (A := (fun _ => False)) hx hb hlt hown (by decide +kernel) (by decide +kernel) (hts (.classLink RX11 164 "java/lang/IndexOutOfBoundsException") (by decide +kernel)) (hts (.initialized "java/lang/IndexOutOfBoundsException") (by decide +kernel)) hTh.1 (vx_hat (fun w h => hts w (List.mem_cons_of_mem _ (List.mem_append_right _ h))) (B := [.declares (Bundle.initS "java/lang/RuntimeException"), .declares (Bundle.initS "java/lang/Exception"), .declares (Bundle.initS Bundle.tN), .castable "java/lang/IndexOutOfBoundsException" "java/lang/IndexOutOfBoundsException"]) (by decide +kernel) (vx_c (va_Nw.use rfl hTh.2.2.2.1) (vx_c (va_Nw.use rfl hTh.2.2.2.2.1) (vx_c (va_Nw.use rfl hTh.2.2.2.2.2.1) (vx_c (va_Nw.use rfl hTh.2.2.2.2.2.2) vx_n))))) (by decide +kernel) hTh.2.1 hTh.2.2.1 hS (by rw [hml]; exact hl.1) dX11_copyOut_12 dX11_copyOut_15 dX11_copyOut_16 dX11_copyOut_19 dX11_copyOut_22 (fun x h => (hex x h).elim) (Nat.le_of_ble_eq_true rfl) (Nat.le_of_ble_eq_true rfl) (Nat.le_of_ble_eq_true rfl) (Nat.le_of_ble_eq_true rfl) hlocks (fun t h1 h2 h3 => ⟨(), trivial, rfl, Nat.le_trans hS.1 h2, fun q h4 h5 => (h3 q (Nat.lt_of_lt_of_le h4 hS.1)).trans (hS.2.1 q h4 h5)⟩) hS.2.2 (Nat.le_of_ble_eq_true rfl) (Nat.le_of_ble_eq_true rfl)
  · refine lv_iload_n hx hb dX11_copyOut_4 rfl (lv_at hl 2 rfl) ?_
    refine lv_aload_n hx hb dX11_copyOut_5 rfl (lv_at hl 1 rfl) ?_
    refine va_get (D := (dC, dI)) (ci := 6) (v := .int 0) (C := RX3) (T := TX3) (N := 5) hx hb hts (by decide +kernel) hown hK hP 1 rfl rfl 4 (by decide) (hts (.fieldLink RX11 283 "KnotHouse$Codes" "size" "I") (by decide +kernel)) (fun _ h9 => h9) rfl dX11_copyOut_6 ?_
    refine lv_icmp_lt (tgt := 23) hx hb dX11_copyOut_9 (by decide) (fun c9 => absurd c9 (c1)) (fun _ => ?_)
    rw [hQQ]
    exact vx_throwSW (own := RX11) (cls := "java/lang/IndexOutOfBoundsException") (text := "so many were not found") (names := ["java/lang/RuntimeException", "java/lang/Exception"]) (A := (fun _ => False)) hx hb hlt hown (by decide +kernel) (by decide +kernel) (hts (.classLink RX11 164 "java/lang/IndexOutOfBoundsException") (by decide +kernel)) (hts (.initialized "java/lang/IndexOutOfBoundsException") (by decide +kernel)) hTh.1 (vx_hat (fun w h => hts w (List.mem_cons_of_mem _ (List.mem_append_right _ h))) (B := [.declares (Bundle.initS "java/lang/RuntimeException"), .declares (Bundle.initS "java/lang/Exception"), .declares (Bundle.initS Bundle.tN), .castable "java/lang/IndexOutOfBoundsException" "java/lang/IndexOutOfBoundsException"]) (by decide +kernel) (vx_c (va_Nw.use rfl hTh.2.2.2.1) (vx_c (va_Nw.use rfl hTh.2.2.2.2.1) (vx_c (va_Nw.use rfl hTh.2.2.2.2.2.1) (vx_c (va_Nw.use rfl hTh.2.2.2.2.2.2) vx_n))))) (by decide +kernel) hTh.2.1 hTh.2.2.1 hS (by rw [hml]; exact hl.1) dX11_copyOut_12 dX11_copyOut_15 dX11_copyOut_16 dX11_copyOut_19 dX11_copyOut_22 (fun x h => (hex x h).elim) (Nat.le_of_ble_eq_true rfl) (Nat.le_of_ble_eq_true rfl) (Nat.le_of_ble_eq_true rfl) (Nat.le_of_ble_eq_true rfl) hlocks (fun t h1 h2 h3 => ⟨(), trivial, rfl, Nat.le_trans hS.1 h2, fun q h4 h5 => (h3 q (Nat.lt_of_lt_of_le h4 hS.1)).trans (hS.2.1 q h4 h5)⟩) hS.2.2 (Nat.le_of_ble_eq_true rfl) (Nat.le_of_ble_eq_true rfl)
set_option maxHeartbeats 4000000 in
set_option maxRecDepth 100000 in
theorem kf_X11_copyOutF (l : Launch) (dC : Nat → ClassId) (dI : Nat → Nat → Nat) (cI cB cJ cZ : ClassId) (hlt : l.stackTraces = false) (h0 sa : Nat) (u : Nat → Nat) (k : Int32) : vx_Met l yX11_copyOut wf_copyOut (({ frames := 6, cells := 1, slots := 6, locals := 90 } : Room)) (va_Pc [.ref h0, .ref (u 2), .int k] (fun U => va_P (dC, dI) vwCl [(h0, .inr (14, [.ref (u 0), .ref (u 1), .ref (u 2), .ref (u 3), .ref (u 4), .ref (u 5), .ref (u 6), .ref (u 7), .ref (u 8), .ref (u 9), .ref (u 10), .ref (u 11), .ref (u 12), .ref (u 13), .ref (u 14), .ref (u 15), .ref (u 16), .ref (u 17), .ref (u 18)])), ((u 2), .inr (6, [.ref (u 27), .ref (u 28), .ref (u 29), .ref (u 30), .int 0]))] U.heap ∧ va_K (dC, dI) vwCl [(cI, .int), (cB, .byte), (cJ, .long), (cZ, .boolean)] U ∧ ow_Th (fun _ => False) RX11 294 "so many were not found" sa "java/lang/IndexOutOfBoundsException" U)) (va_Qi (fun _ (_ : Unit) => False) (fun _ _ => True) (fun _ => False)) (vx_X (fun _ : Unit => True) (fun E _ _ => E = "java/lang/IndexOutOfBoundsException") (fun _ => False)) 1 6 (fun _ => False) := by
  refine vx_ofW (cc := cX11_copyOut) (maxL := 4) (ret := (some .int)) (by decide) rfl ?_
  intro p e s m args below meth c s₁ B hml hex hv
  obtain ⟨rfl, hP, hK, hTh⟩ := hv
  have hx := B.exec
  have hb := B.bytes
  have hr := B.returns
  have hts := atoms_spec (ws := wf_copyOut) B.pre
  have hown : s.vm.findClass RX11 = some m.cls := findClass_of_methodNamed B.named
  have hlocks := B.notSynchronized
  have hS : va_S (fun _ => False) s.heap s.heap [] := va_S.rf
  have hl := lv_entry ([.ref h0, .ref (u 2), .int k]) (n := 4) (Nat.le_of_ble_eq_true rfl)
  rw [lg_entry_eq]
  generalize (lg_sl ([.ref h0, .ref (u 2), .int k]) ++ List.replicate (4 - (lg_sl ([.ref h0, .ref (u 2), .int k])).length) Slot.unset).toArray = ls at hl ⊢
  have hl : lv_has ls 4 [(0, .ref h0), (1, .ref (u 2)), (2, .int k)] := hl
  refine ow_named (fun QQ hQQ => ?_)
  refine lv_iload_n hx hb dX11_copyOut_0 rfl (lv_at hl 2 rfl) ?_
  refine lv_if_lt (tgt := 12) hx hb dX11_copyOut_1 (by decide) (fun c1 => ?_) (fun c1 => ?_)
  · rw [hQQ]
    exact vx_throwSW (own := RX11) (cls := "java/lang/IndexOutOfBoundsException") (text := "so many were not found") (names := ["java/lang/RuntimeException", "java/lang/Exception"]) (A := (fun _ => False)) hx hb hlt hown (by decide +kernel) (by decide +kernel) (hts (.classLink RX11 164 "java/lang/IndexOutOfBoundsException") (by decide +kernel)) (hts (.initialized "java/lang/IndexOutOfBoundsException") (by decide +kernel)) hTh.1 (vx_hat (fun w h => hts w (List.mem_cons_of_mem _ (List.mem_append_right _ h))) (B := [.declares (Bundle.initS "java/lang/RuntimeException"), .declares (Bundle.initS "java/lang/Exception"), .declares (Bundle.initS Bundle.tN), .castable "java/lang/IndexOutOfBoundsException" "java/lang/IndexOutOfBoundsException"]) (by decide +kernel) (vx_c (va_Nw.use rfl hTh.2.2.2.1) (vx_c (va_Nw.use rfl hTh.2.2.2.2.1) (vx_c (va_Nw.use rfl hTh.2.2.2.2.2.1) (vx_c (va_Nw.use rfl hTh.2.2.2.2.2.2) vx_n))))) (by decide +kernel) hTh.2.1 hTh.2.2.1 hS (by rw [hml]; exact hl.1) dX11_copyOut_12 dX11_copyOut_15 dX11_copyOut_16 dX11_copyOut_19 dX11_copyOut_22 (fun x h => (hex x h).elim) (Nat.le_of_ble_eq_true rfl) (Nat.le_of_ble_eq_true rfl) (Nat.le_of_ble_eq_true rfl) (Nat.le_of_ble_eq_true rfl) hlocks (fun t h1 h2 h3 => ⟨(), trivial, rfl, Nat.le_trans hS.1 h2, fun q h4 h5 => (h3 q (Nat.lt_of_lt_of_le h4 hS.1)).trans (hS.2.1 q h4 h5)⟩) hS.2.2 (Nat.le_of_ble_eq_true rfl) (Nat.le_of_ble_eq_true rfl)
  · refine lv_iload_n hx hb dX11_copyOut_4 rfl (lv_at hl 2 rfl) ?_
    refine lv_aload_n hx hb dX11_copyOut_5 rfl (lv_at hl 1 rfl) ?_
    refine va_get (D := (dC, dI)) (ci := 6) (v := .int 0) (C := RX3) (T := TX3) (N := 5) hx hb hts (by decide +kernel) hown hK hP 1 rfl rfl 4 (by decide) (hts (.fieldLink RX11 283 "KnotHouse$Codes" "size" "I") (by decide +kernel)) (fun _ h9 => h9) rfl dX11_copyOut_6 ?_
    refine lv_icmp_lt (tgt := 23) hx hb dX11_copyOut_9 (by decide) (fun c9 => absurd c9 (c1)) (fun _ => ?_)
    rw [hQQ]
    exact vx_throwSW (own := RX11) (cls := "java/lang/IndexOutOfBoundsException") (text := "so many were not found") (names := ["java/lang/RuntimeException", "java/lang/Exception"]) (A := (fun _ => False)) hx hb hlt hown (by decide +kernel) (by decide +kernel) (hts (.classLink RX11 164 "java/lang/IndexOutOfBoundsException") (by decide +kernel)) (hts (.initialized "java/lang/IndexOutOfBoundsException") (by decide +kernel)) hTh.1 (vx_hat (fun w h => hts w (List.mem_cons_of_mem _ (List.mem_append_right _ h))) (B := [.declares (Bundle.initS "java/lang/RuntimeException"), .declares (Bundle.initS "java/lang/Exception"), .declares (Bundle.initS Bundle.tN), .castable "java/lang/IndexOutOfBoundsException" "java/lang/IndexOutOfBoundsException"]) (by decide +kernel) (vx_c (va_Nw.use rfl hTh.2.2.2.1) (vx_c (va_Nw.use rfl hTh.2.2.2.2.1) (vx_c (va_Nw.use rfl hTh.2.2.2.2.2.1) (vx_c (va_Nw.use rfl hTh.2.2.2.2.2.2) vx_n))))) (by decide +kernel) hTh.2.1 hTh.2.2.1 hS (by rw [hml]; exact hl.1) dX11_copyOut_12 dX11_copyOut_15 dX11_copyOut_16 dX11_copyOut_19 dX11_copyOut_22 (fun x h => (hex x h).elim) (Nat.le_of_ble_eq_true rfl) (Nat.le_of_ble_eq_true rfl) (Nat.le_of_ble_eq_true rfl) (Nat.le_of_ble_eq_true rfl) hlocks (fun t h1 h2 h3 => ⟨(), trivial, rfl, Nat.le_trans hS.1 h2, fun q h4 h5 => (h3 q (Nat.lt_of_lt_of_le h4 hS.1)).trans (hS.2.1 q h4 h5)⟩) hS.2.2 (Nat.le_of_ble_eq_true rfl) (Nat.le_of_ble_eq_true rfl)
theorem dX11_moved_0 : decode cX11_moved 0 = .ok (.aload_n 0, 1) := by decide +kernel
theorem dX11_moved_1 : decode cX11_moved 1 = .ok (.aload_n 0, 1) := by decide +kernel
theorem dX11_moved_2 : decode cX11_moved 2 = .ok (.getfield 18, 3) := by decide +kernel
theorem dX11_moved_5 : decode cX11_moved 5 = .ok (.iload_n 1, 1) := by decide +kernel
theorem dX11_moved_6 : decode cX11_moved 6 = .ok (.invokevirtual 290, 3) := by decide +kernel
theorem dX11_moved_9 : decode cX11_moved 9 = .ok (.ireturn, 1) := by decide +kernel
def wf_moved : List Cond := .code yX11_moved cX11_moved 2 (some .int) :: ((.fieldLink RX11 18 "KnotHouse" "list" "LKnotHouse$Codes;" :: wsX110) ++ wsV RX11 290 RX11 yX11_copyOut wf_copyOut)
theorem gf_X11_moved : GoodIn wf_moved (wsV RX11 290 RX11 yX11_copyOut wf_copyOut) := goodIn_sub (fun _ h => List.mem_cons_of_mem _ (List.mem_append_right _ h)) (by decide +kernel)
set_option maxHeartbeats 4000000 in
set_option maxRecDepth 100000 in
theorem kf_X11_moved (l : Launch) (dC : Nat → ClassId) (dI : Nat → Nat → Nat) (cI cB cJ cZ : ClassId) (hlt : l.stackTraces = false) (h0 sa : Nat) (u : Nat → Nat) (k : Int32) : vx_Met l yX11_moved wf_moved (({ frames := 7, cells := 1, slots := 6, locals := 115 } : Room)) (va_Pc [.ref h0, .int k] (fun U => va_P (dC, dI) vwCl [(h0, .inr (14, [.ref (u 0), .ref (u 1), .ref (u 2), .ref (u 3), .ref (u 4), .ref (u 5), .ref (u 6), .ref (u 7), .ref (u 8), .ref (u 9), .ref (u 10), .ref (u 11), .ref (u 12), .ref (u 13), .ref (u 14), .ref (u 15), .ref (u 16), .ref (u 17), .ref (u 18)])), ((u 1), .inr (6, [.ref (u 23), .ref (u 24), .ref (u 25), .ref (u 26), .int 0]))] U.heap ∧ va_K (dC, dI) vwCl [(cI, .int), (cB, .byte), (cJ, .long), (cZ, .boolean)] U ∧ ow_Th (fun _ => False) RX11 294 "so many were not found" sa "java/lang/IndexOutOfBoundsException" U)) (va_Qi (fun _ (_ : Unit) => False) (fun _ _ => True) (fun _ => False)) (vx_X (fun _ : Unit => True) (fun E _ _ => E = "java/lang/IndexOutOfBoundsException") (fun _ => False)) 1 6 (fun _ => False) := by
  refine vx_ofW (cc := cX11_moved) (maxL := 2) (ret := (some .int)) (by decide) rfl ?_
  intro p e s m args below meth c s₁ B hml hex hv
  obtain ⟨rfl, hP, hK, hTh⟩ := hv
  have hx := B.exec
  have hb := B.bytes
  have hr := B.returns
  have hts := atoms_spec (ws := wf_moved) B.pre
  have hown : s.vm.findClass RX11 = some m.cls := findClass_of_methodNamed B.named
  have hlocks := B.notSynchronized
  have hS : va_S (fun _ => False) s.heap s.heap [] := va_S.rf
  have hl := lv_entry ([.ref h0, .int k]) (n := 2) (Nat.le_of_ble_eq_true rfl)
  rw [lg_entry_eq]
  generalize (lg_sl ([.ref h0, .int k]) ++ List.replicate (2 - (lg_sl ([.ref h0, .int k])).length) Slot.unset).toArray = ls at hl ⊢
  have hl : lv_has ls 2 [(0, .ref h0), (1, .int k)] := hl
  refine ow_named (fun QQ hQQ => ?_)
  refine lv_aload_n hx hb dX11_moved_0 rfl (lv_at hl 0 rfl) ?_
  refine lv_aload_n hx hb dX11_moved_1 rfl (lv_at hl 0 rfl) ?_
  refine va_get (D := (dC, dI)) (ci := 14) (v := .ref (u 1)) (C := RX11) (T := TX11) (N := 19) hx hb hts (by decide +kernel) hown hK hP 0 rfl rfl 1 (by decide) (hts (.fieldLink RX11 18 "KnotHouse" "list" "LKnotHouse$Codes;") (by decide +kernel)) (fun _ h9 => h9) rfl dX11_moved_2 ?_
  refine lv_iload_n hx hb dX11_moved_5 rfl (lv_at hl 1 rfl) ?_
  refine vx_calli (vx_runV (As := [.ref (u 1), .int k]) (rest := []) ⟨hx, hb, hml, hown, hts⟩ (kf_X11_copyOutL l dC dI cI cB cJ cZ hlt h0 sa u k) (cwV 2 hts gf_X11_moved rfl rfl rfl (by decide +kernel) ⟨(Nat.le_of_ble_eq_true rfl), (Nat.le_of_ble_eq_true rfl)⟩) ⟨fun a U g mk q => by obtain ⟨q0, qP, qK, qT⟩ := q; exact ⟨q0, qP, va_K.moved (u := U) (U := U.calling g mk a) (Vm.Alike.refl U.vm) qK, ow_Th.same (u := U) (U := U.calling g mk a) rfl rfl qT⟩, va_recv hK hP (ci := 14) (q0 := 0) rfl rfl, fun U hU hW => ⟨rfl, by rw [hU]; exact hP, va_K.moved hW.alike hK, ow_Th.to hTh hS hW hU (fun q h => h)⟩⟩ rfl rfl hl.1 rfl (lv_room (Nat.le_of_ble_eq_true rfl)) dX11_moved_6 ⟨(Nat.le_of_ble_eq_true rfl), (Nat.le_of_ble_eq_true rfl)⟩) hS (fun q _ h => h.elim) (fun q h => h.elim) (fun q _ h => h.elim) (fun E ce q9 u9 t H1 locs ht hvm hpx hBX hz1 hk1 hS hce hcv hcl => ?_) (fun r9 u9 t H1 locs ht hvm hw hB hz1 hk1 hS => absurd hw (fun h => h))
  rw [hQQ]
  exact vx_out (fun x h => (hex x h).elim) hlocks hce hcv hcl (fun t9 ht9 hal => ⟨(), trivial, hBX, hS.F ht9⟩) hS.2.2 (Nat.le_of_ble_eq_true rfl) (Nat.le_of_ble_eq_true rfl)
theorem dX11_summand_0 : decode cX11_summand 0 = .ok (.aload_n 0, 1) := by decide +kernel
theorem dX11_summand_1 : decode cX11_summand 1 = .ok (.aload_n 0, 1) := by decide +kernel
theorem dX11_summand_2 : decode cX11_summand 2 = .ok (.getfield 21, 3) := by decide +kernel
theorem dX11_summand_5 : decode cX11_summand 5 = .ok (.iload_n 1, 1) := by decide +kernel
theorem dX11_summand_6 : decode cX11_summand 6 = .ok (.invokevirtual 290, 3) := by decide +kernel
theorem dX11_summand_9 : decode cX11_summand 9 = .ok (.ireturn, 1) := by decide +kernel
def wf_summand : List Cond := .code yX11_summand cX11_summand 2 (some .int) :: ((.fieldLink RX11 21 "KnotHouse" "found" "LKnotHouse$Codes;" :: wsX110) ++ wsV RX11 290 RX11 yX11_copyOut wf_copyOut)
theorem gf_X11_summand : GoodIn wf_summand (wsV RX11 290 RX11 yX11_copyOut wf_copyOut) := goodIn_sub (fun _ h => List.mem_cons_of_mem _ (List.mem_append_right _ h)) (by decide +kernel)
set_option maxHeartbeats 4000000 in
set_option maxRecDepth 100000 in
theorem kf_X11_summand (l : Launch) (dC : Nat → ClassId) (dI : Nat → Nat → Nat) (cI cB cJ cZ : ClassId) (hlt : l.stackTraces = false) (h0 sa : Nat) (u : Nat → Nat) (k : Int32) : vx_Met l yX11_summand wf_summand (({ frames := 7, cells := 1, slots := 6, locals := 115 } : Room)) (va_Pc [.ref h0, .int k] (fun U => va_P (dC, dI) vwCl [(h0, .inr (14, [.ref (u 0), .ref (u 1), .ref (u 2), .ref (u 3), .ref (u 4), .ref (u 5), .ref (u 6), .ref (u 7), .ref (u 8), .ref (u 9), .ref (u 10), .ref (u 11), .ref (u 12), .ref (u 13), .ref (u 14), .ref (u 15), .ref (u 16), .ref (u 17), .ref (u 18)])), ((u 2), .inr (6, [.ref (u 27), .ref (u 28), .ref (u 29), .ref (u 30), .int 0]))] U.heap ∧ va_K (dC, dI) vwCl [(cI, .int), (cB, .byte), (cJ, .long), (cZ, .boolean)] U ∧ ow_Th (fun _ => False) RX11 294 "so many were not found" sa "java/lang/IndexOutOfBoundsException" U)) (va_Qi (fun _ (_ : Unit) => False) (fun _ _ => True) (fun _ => False)) (vx_X (fun _ : Unit => True) (fun E _ _ => E = "java/lang/IndexOutOfBoundsException") (fun _ => False)) 1 6 (fun _ => False) := by
  refine vx_ofW (cc := cX11_summand) (maxL := 2) (ret := (some .int)) (by decide) rfl ?_
  intro p e s m args below meth c s₁ B hml hex hv
  obtain ⟨rfl, hP, hK, hTh⟩ := hv
  have hx := B.exec
  have hb := B.bytes
  have hr := B.returns
  have hts := atoms_spec (ws := wf_summand) B.pre
  have hown : s.vm.findClass RX11 = some m.cls := findClass_of_methodNamed B.named
  have hlocks := B.notSynchronized
  have hS : va_S (fun _ => False) s.heap s.heap [] := va_S.rf
  have hl := lv_entry ([.ref h0, .int k]) (n := 2) (Nat.le_of_ble_eq_true rfl)
  rw [lg_entry_eq]
  generalize (lg_sl ([.ref h0, .int k]) ++ List.replicate (2 - (lg_sl ([.ref h0, .int k])).length) Slot.unset).toArray = ls at hl ⊢
  have hl : lv_has ls 2 [(0, .ref h0), (1, .int k)] := hl
  refine ow_named (fun QQ hQQ => ?_)
  refine lv_aload_n hx hb dX11_summand_0 rfl (lv_at hl 0 rfl) ?_
  refine lv_aload_n hx hb dX11_summand_1 rfl (lv_at hl 0 rfl) ?_
  refine va_get (D := (dC, dI)) (ci := 14) (v := .ref (u 2)) (C := RX11) (T := TX11) (N := 19) hx hb hts (by decide +kernel) hown hK hP 0 rfl rfl 2 (by decide) (hts (.fieldLink RX11 21 "KnotHouse" "found" "LKnotHouse$Codes;") (by decide +kernel)) (fun _ h9 => h9) rfl dX11_summand_2 ?_
  refine lv_iload_n hx hb dX11_summand_5 rfl (lv_at hl 1 rfl) ?_
  refine vx_calli (vx_runV (As := [.ref (u 2), .int k]) (rest := []) ⟨hx, hb, hml, hown, hts⟩ (kf_X11_copyOutF l dC dI cI cB cJ cZ hlt h0 sa u k) (cwV 2 hts gf_X11_summand rfl rfl rfl (by decide +kernel) ⟨(Nat.le_of_ble_eq_true rfl), (Nat.le_of_ble_eq_true rfl)⟩) ⟨fun a U g mk q => by obtain ⟨q0, qP, qK, qT⟩ := q; exact ⟨q0, qP, va_K.moved (u := U) (U := U.calling g mk a) (Vm.Alike.refl U.vm) qK, ow_Th.same (u := U) (U := U.calling g mk a) rfl rfl qT⟩, va_recv hK hP (ci := 14) (q0 := 0) rfl rfl, fun U hU hW => ⟨rfl, by rw [hU]; exact hP, va_K.moved hW.alike hK, ow_Th.to hTh hS hW hU (fun q h => h)⟩⟩ rfl rfl hl.1 rfl (lv_room (Nat.le_of_ble_eq_true rfl)) dX11_summand_6 ⟨(Nat.le_of_ble_eq_true rfl), (Nat.le_of_ble_eq_true rfl)⟩) hS (fun q _ h => h.elim) (fun q h => h.elim) (fun q _ h => h.elim) (fun E ce q9 u9 t H1 locs ht hvm hpx hBX hz1 hk1 hS hce hcv hcl => ?_) (fun r9 u9 t H1 locs ht hvm hw hB hz1 hk1 hS => absurd hw (fun h => h))
  rw [hQQ]
  exact vx_out (fun x h => (hex x h).elim) hlocks hce hcv hcl (fun t9 ht9 hal => ⟨(), trivial, hBX, hS.F ht9⟩) hS.2.2 (Nat.le_of_ble_eq_true rfl) (Nat.le_of_ble_eq_true rfl)
theorem dX11_drop_0 : decode cX11_drop 0 = .ok (.aload_n 0, 1) := by decide +kernel
theorem dX11_drop_1 : decode cX11_drop 1 = .ok (.iload_n 1, 1) := by decide +kernel
theorem dX11_drop_2 : decode cX11_drop 2 = .ok (.invokevirtual 160, 3) := by decide +kernel
theorem dX11_drop_5 : decode cX11_drop 5 = .ok (.ifCond .ne 5, 3) := by decide +kernel
theorem dX11_drop_8 : decode cX11_drop 8 = .ok (.iconst 0, 1) := by decide +kernel
theorem dX11_drop_9 : decode cX11_drop 9 = .ok (.ireturn, 1) := by decide +kernel
theorem dX11_drop_10 : decode cX11_drop 10 = .ok (.aload_n 0, 1) := by decide +kernel
theorem dX11_drop_11 : decode cX11_drop 11 = .ok (.getfield 14, 3) := by decide +kernel
theorem dX11_drop_14 : decode cX11_drop 14 = .ok (.getfield 158, 3) := by decide +kernel
theorem dX11_drop_17 : decode cX11_drop 17 = .ok (.iload_n 1, 1) := by decide +kernel
theorem dX11_drop_18 : decode cX11_drop 18 = .ok (.iconst 0, 1) := by decide +kernel
theorem dX11_drop_19 : decode cX11_drop 19 = .ok (.bastore, 1) := by decide +kernel
theorem dX11_drop_20 : decode cX11_drop 20 = .ok (.iconst 1, 1) := by decide +kernel
theorem dX11_drop_21 : decode cX11_drop 21 = .ok (.ireturn, 1) := by decide +kernel
def wf_drop : List Cond := .code yX11_drop cX11_drop 2 (some .boolean) :: wsV RX11 160 RX11 yX11_hasDiagram wf_hasDiagram
theorem gf_X11_drop : GoodIn wf_drop (wsV RX11 160 RX11 yX11_hasDiagram wf_hasDiagram) := goodIn_sub (fun _ h => List.mem_cons_of_mem _ h) (by decide +kernel)
set_option maxHeartbeats 4000000 in
set_option maxRecDepth 100000 in
theorem kf_X11_drop (l : Launch) (dC : Nat → ClassId) (dI : Nat → Nat → Nat) (cI cB cJ cZ : ClassId) (h0 : Nat) (u : Nat → Nat) (p0 : Int32) : Met l yX11_drop wf_drop (({ frames := 1, cells := 0, slots := 0, locals := 21 } : Room)) (va_Pc [.ref h0, .int p0] (fun U => va_P (dC, dI) vwCl [(h0, .inr (14, [.ref (u 0), .ref (u 1), .ref (u 2), .ref (u 3), .ref (u 4), .ref (u 5), .ref (u 6), .ref (u 7), .ref (u 8), .ref (u 9), .ref (u 10), .ref (u 11), .ref (u 12), .ref (u 13), .ref (u 14), .ref (u 15), .ref (u 16), .ref (u 17), .ref (u 18)])), ((u 0), .inr (6, [.ref (u 19), .ref (u 20), .ref (u 21), .ref (u 22), .int 0])), ((u 20), .inl (cB, 40, .inl (fun _ => 0)))] U.heap ∧ va_K (dC, dI) vwCl [(cI, .int), (cB, .byte), (cJ, .long), (cZ, .boolean)] U)) (va_Qi (fun r (_ : Unit) => r = 0) (fun _ _ => True) (fun _ => False)) 0 0 (fun _ => False) := by
  refine Met.ofW (cc := cX11_drop) (maxL := 2) (ret := (some .boolean)) (by decide) rfl ?_
  intro p e s m args below meth c s₁ B hml hv
  obtain ⟨rfl, hP, hK⟩ := hv
  have hx := B.exec
  have hb := B.bytes
  have hr := B.returns
  have hts := atoms_spec (ws := wf_drop) B.pre
  have hown : s.vm.findClass RX11 = some m.cls := findClass_of_methodNamed B.named
  have hlocks := B.notSynchronized
  have hS : va_S (fun _ => False) s.heap s.heap [] := va_S.rf
  have hP : va_P (dC, dI) vwCl [(h0, .inr (14, [.ref (u 0), .ref (u 1), .ref (u 2), .ref (u 3), .ref (u 4), .ref (u 5), .ref (u 6), .ref (u 7), .ref (u 8), .ref (u 9), .ref (u 10), .ref (u 11), .ref (u 12), .ref (u 13), .ref (u 14), .ref (u 15), .ref (u 16), .ref (u 17), .ref (u 18)])), ((u 0), .inr (6, [.ref (u 19), .ref (u 20), .ref (u 21), .ref (u 22), .int 0])), ((u 20), .inl (cB, 40, .inl (fun _ => 0)))] s.heap := hP
  have hl := lv_entry ([.ref h0, .int p0]) (n := 2) (Nat.le_of_ble_eq_true rfl)
  rw [lg_entry_eq]
  generalize (lg_sl ([.ref h0, .int p0]) ++ List.replicate (2 - (lg_sl ([.ref h0, .int p0])).length) Slot.unset).toArray = ls at hl ⊢
  have hl : lv_has ls 2 [(0, .ref h0), (1, .int p0)] := hl
  refine ow_named (fun QQ hQQ => ?_)
  refine lv_aload_n hx hb dX11_drop_0 rfl (lv_at hl 0 rfl) ?_
  refine lv_iload_n hx hb dX11_drop_1 rfl (lv_at hl 1 rfl) ?_
  refine va_calli (va_runV (As := [.int p0]) (rest := []) ⟨hx, hb, hml, hown, hts⟩ (kf_X11_hasDiagram l dC dI cI cB cJ cZ h0 u p0) (cwV 1 hts gf_X11_drop rfl rfl rfl (by decide +kernel) ⟨(Nat.le_of_ble_eq_true rfl), (Nat.le_of_ble_eq_true rfl)⟩) ⟨fun a U g mk q => by obtain ⟨q0, qP, qK⟩ := q; exact ⟨q0, qP, va_K.moved (u := U) (U := U.calling g mk a) (Vm.Alike.refl U.vm) qK⟩, va_recv hK hP (ci := 14) (q0 := 0) rfl rfl, fun U hU hW => ⟨rfl, by rw [hU]; exact hP, va_K.moved hW.alike hK⟩⟩ rfl rfl hl.1 rfl (lv_room (Nat.le_of_ble_eq_true rfl)) dX11_drop_2 ⟨(Nat.le_of_ble_eq_true rfl), (Nat.le_of_ble_eq_true rfl)⟩) hS (fun q _ h => h.elim) (fun q h => h.elim) (fun r9 un t H1 locs ht hvm hw hB hz1 hk1 hS => ?_)
  obtain rfl : r9 = 0 := hw
  have hP := hP.kept (fun k9 x9 h9 => hk1 x9.1 ((hP k9 x9 h9).lt) id)
  generalize H1 = H at hP hS ⊢
  refine lv_if_ne (tgt := 10) hx hb dX11_drop_5 (by decide) (fun c9 => absurd c9 (by decide)) (fun _ => ?_)
  refine lv_iconst (v := 0) hx hb dX11_drop_8 (by decide) ?_
  rw [hQQ]
  exact W.zret (v := 0) (ty := .boolean) hx hb hr rfl (fun t ht hW => ⟨⟨0, (), rfl, rfl, trivial⟩, hS.F ht⟩) hS.2.2 dX11_drop_9
theorem dX11_dropBraid_0 : decode cX11_dropBraid 0 = .ok (.aload_n 0, 1) := by decide +kernel
theorem dX11_dropBraid_1 : decode cX11_dropBraid 1 = .ok (.iload_n 1, 1) := by decide +kernel
theorem dX11_dropBraid_2 : decode cX11_dropBraid 2 = .ok (.invokevirtual 169, 3) := by decide +kernel
theorem dX11_dropBraid_5 : decode cX11_dropBraid 5 = .ok (.ifCond .ne 5, 3) := by decide +kernel
theorem dX11_dropBraid_8 : decode cX11_dropBraid 8 = .ok (.iconst 0, 1) := by decide +kernel
theorem dX11_dropBraid_9 : decode cX11_dropBraid 9 = .ok (.ireturn, 1) := by decide +kernel
theorem dX11_dropBraid_10 : decode cX11_dropBraid 10 = .ok (.aload_n 0, 1) := by decide +kernel
theorem dX11_dropBraid_11 : decode cX11_dropBraid 11 = .ok (.getfield 91, 3) := by decide +kernel
theorem dX11_dropBraid_14 : decode cX11_dropBraid 14 = .ok (.iload_n 1, 1) := by decide +kernel
theorem dX11_dropBraid_15 : decode cX11_dropBraid 15 = .ok (.iconst 0, 1) := by decide +kernel
theorem dX11_dropBraid_16 : decode cX11_dropBraid 16 = .ok (.iastore, 1) := by decide +kernel
theorem dX11_dropBraid_17 : decode cX11_dropBraid 17 = .ok (.iconst 1, 1) := by decide +kernel
theorem dX11_dropBraid_18 : decode cX11_dropBraid 18 = .ok (.ireturn, 1) := by decide +kernel
def wf_dropBraid : List Cond := .code yX11_dropBraid cX11_dropBraid 2 (some .boolean) :: wsV RX11 169 RX11 yX11_hasBraid wf_hasBraid
theorem gf_X11_dropBraid : GoodIn wf_dropBraid (wsV RX11 169 RX11 yX11_hasBraid wf_hasBraid) := goodIn_sub (fun _ h => List.mem_cons_of_mem _ h) (by decide +kernel)
set_option maxHeartbeats 4000000 in
set_option maxRecDepth 100000 in
theorem kf_X11_dropBraid (l : Launch) (dC : Nat → ClassId) (dI : Nat → Nat → Nat) (cI cB cJ cZ : ClassId) (h0 : Nat) (u : Nat → Nat) (p0 : Int32) : Met l yX11_dropBraid wf_dropBraid (({ frames := 1, cells := 0, slots := 0, locals := 21 } : Room)) (va_Pc [.ref h0, .int p0] (fun U => va_P (dC, dI) vwCl [(h0, .inr (14, [.ref (u 0), .ref (u 1), .ref (u 2), .ref (u 3), .ref (u 4), .ref (u 5), .ref (u 6), .ref (u 7), .ref (u 8), .ref (u 9), .ref (u 10), .ref (u 11), .ref (u 12), .ref (u 13), .ref (u 14), .ref (u 15), .ref (u 16), .ref (u 17), .ref (u 18)])), ((u 14), .inl (cI, 20, .inl (fun _ => 0)))] U.heap ∧ va_K (dC, dI) vwCl [(cI, .int), (cB, .byte), (cJ, .long), (cZ, .boolean)] U)) (va_Qi (fun r (_ : Unit) => r = 0) (fun _ _ => True) (fun _ => False)) 0 0 (fun _ => False) := by
  refine Met.ofW (cc := cX11_dropBraid) (maxL := 2) (ret := (some .boolean)) (by decide) rfl ?_
  intro p e s m args below meth c s₁ B hml hv
  obtain ⟨rfl, hP, hK⟩ := hv
  have hx := B.exec
  have hb := B.bytes
  have hr := B.returns
  have hts := atoms_spec (ws := wf_dropBraid) B.pre
  have hown : s.vm.findClass RX11 = some m.cls := findClass_of_methodNamed B.named
  have hlocks := B.notSynchronized
  have hS : va_S (fun _ => False) s.heap s.heap [] := va_S.rf
  have hP : va_P (dC, dI) vwCl [(h0, .inr (14, [.ref (u 0), .ref (u 1), .ref (u 2), .ref (u 3), .ref (u 4), .ref (u 5), .ref (u 6), .ref (u 7), .ref (u 8), .ref (u 9), .ref (u 10), .ref (u 11), .ref (u 12), .ref (u 13), .ref (u 14), .ref (u 15), .ref (u 16), .ref (u 17), .ref (u 18)])), ((u 14), .inl (cI, 20, .inl (fun _ => 0)))] s.heap := hP
  have hl := lv_entry ([.ref h0, .int p0]) (n := 2) (Nat.le_of_ble_eq_true rfl)
  rw [lg_entry_eq]
  generalize (lg_sl ([.ref h0, .int p0]) ++ List.replicate (2 - (lg_sl ([.ref h0, .int p0])).length) Slot.unset).toArray = ls at hl ⊢
  have hl : lv_has ls 2 [(0, .ref h0), (1, .int p0)] := hl
  refine ow_named (fun QQ hQQ => ?_)
  refine lv_aload_n hx hb dX11_dropBraid_0 rfl (lv_at hl 0 rfl) ?_
  refine lv_iload_n hx hb dX11_dropBraid_1 rfl (lv_at hl 1 rfl) ?_
  refine va_calli (va_runV (As := [.int p0]) (rest := []) ⟨hx, hb, hml, hown, hts⟩ (kf_X11_hasBraid l dC dI cI cB cJ cZ h0 u p0) (cwV 1 hts gf_X11_dropBraid rfl rfl rfl (by decide +kernel) ⟨(Nat.le_of_ble_eq_true rfl), (Nat.le_of_ble_eq_true rfl)⟩) ⟨fun a U g mk q => by obtain ⟨q0, qP, qK⟩ := q; exact ⟨q0, qP, va_K.moved (u := U) (U := U.calling g mk a) (Vm.Alike.refl U.vm) qK⟩, va_recv hK hP (ci := 14) (q0 := 0) rfl rfl, fun U hU hW => ⟨rfl, by rw [hU]; exact hP, va_K.moved hW.alike hK⟩⟩ rfl rfl hl.1 rfl (lv_room (Nat.le_of_ble_eq_true rfl)) dX11_dropBraid_2 ⟨(Nat.le_of_ble_eq_true rfl), (Nat.le_of_ble_eq_true rfl)⟩) hS (fun q _ h => h.elim) (fun q h => h.elim) (fun r9 un t H1 locs ht hvm hw hB hz1 hk1 hS => ?_)
  obtain rfl : r9 = 0 := hw
  have hP := hP.kept (fun k9 x9 h9 => hk1 x9.1 ((hP k9 x9 h9).lt) id)
  generalize H1 = H at hP hS ⊢
  refine lv_if_ne (tgt := 10) hx hb dX11_dropBraid_5 (by decide) (fun c9 => absurd c9 (by decide)) (fun _ => ?_)
  refine lv_iconst (v := 0) hx hb dX11_dropBraid_8 (by decide) ?_
  rw [hQQ]
  exact W.zret (v := 0) (ty := .boolean) hx hb hr rfl (fun t ht hW => ⟨⟨0, (), rfl, rfl, trivial⟩, hS.F ht⟩) hS.2.2 dX11_dropBraid_9
theorem dX11_alike_0 : decode cX11_alike 0 = .ok (.aload_n 0, 1) := by decide +kernel
theorem dX11_alike_1 : decode cX11_alike 1 = .ok (.iload_n 1, 1) := by decide +kernel
theorem dX11_alike_2 : decode cX11_alike 2 = .ok (.invokevirtual 160, 3) := by decide +kernel
theorem dX11_alike_5 : decode cX11_alike 5 = .ok (.ifCond .eq 31, 3) := by decide +kernel
theorem dX11_alike_8 : decode cX11_alike 8 = .ok (.aload_n 0, 1) := by decide +kernel
theorem dX11_alike_9 : decode cX11_alike 9 = .ok (.iload_n 2, 1) := by decide +kernel
theorem dX11_alike_10 : decode cX11_alike 10 = .ok (.invokevirtual 160, 3) := by decide +kernel
theorem dX11_alike_13 : decode cX11_alike 13 = .ok (.ifCond .eq 23, 3) := by decide +kernel
theorem dX11_alike_16 : decode cX11_alike 16 = .ok (.aload_n 0, 1) := by decide +kernel
theorem dX11_alike_17 : decode cX11_alike 17 = .ok (.getfield 14, 3) := by decide +kernel
theorem dX11_alike_20 : decode cX11_alike 20 = .ok (.iload_n 1, 1) := by decide +kernel
theorem dX11_alike_21 : decode cX11_alike 21 = .ok (.aload_n 0, 1) := by decide +kernel
theorem dX11_alike_22 : decode cX11_alike 22 = .ok (.getfield 14, 3) := by decide +kernel
theorem dX11_alike_25 : decode cX11_alike 25 = .ok (.iload_n 2, 1) := by decide +kernel
theorem dX11_alike_26 : decode cX11_alike 26 = .ok (.invokevirtual 244, 3) := by decide +kernel
theorem dX11_alike_29 : decode cX11_alike 29 = .ok (.ifCond .ne 7, 3) := by decide +kernel
theorem dX11_alike_32 : decode cX11_alike 32 = .ok (.iconst 1, 1) := by decide +kernel
theorem dX11_alike_33 : decode cX11_alike 33 = .ok (.goto 4, 3) := by decide +kernel
theorem dX11_alike_36 : decode cX11_alike 36 = .ok (.iconst 0, 1) := by decide +kernel
theorem dX11_alike_37 : decode cX11_alike 37 = .ok (.ireturn, 1) := by decide +kernel
def wf_alike : List Cond := .code yX11_alike cX11_alike 3 (some .boolean) :: wsV RX11 160 RX11 yX11_hasDiagram wf_hasDiagram
theorem gf_X11_alike : GoodIn wf_alike (wsV RX11 160 RX11 yX11_hasDiagram wf_hasDiagram) := goodIn_sub (fun _ h => List.mem_cons_of_mem _ h) (by decide +kernel)
set_option maxHeartbeats 4000000 in
set_option maxRecDepth 100000 in
theorem kf_X11_alike (l : Launch) (dC : Nat → ClassId) (dI : Nat → Nat → Nat) (cI cB cJ cZ : ClassId) (h0 : Nat) (u : Nat → Nat) (p0 p1 : Int32) : Met l yX11_alike wf_alike (({ frames := 1, cells := 0, slots := 0, locals := 21 } : Room)) (va_Pc [.ref h0, .int p0, .int p1] (fun U => va_P (dC, dI) vwCl [(h0, .inr (14, [.ref (u 0), .ref (u 1), .ref (u 2), .ref (u 3), .ref (u 4), .ref (u 5), .ref (u 6), .ref (u 7), .ref (u 8), .ref (u 9), .ref (u 10), .ref (u 11), .ref (u 12), .ref (u 13), .ref (u 14), .ref (u 15), .ref (u 16), .ref (u 17), .ref (u 18)])), ((u 0), .inr (6, [.ref (u 19), .ref (u 20), .ref (u 21), .ref (u 22), .int 0])), ((u 20), .inl (cB, 40, .inl (fun _ => 0)))] U.heap ∧ va_K (dC, dI) vwCl [(cI, .int), (cB, .byte), (cJ, .long), (cZ, .boolean)] U)) (va_Qi (fun r (_ : Unit) => r = 0) (fun _ _ => True) (fun _ => False)) 0 0 (fun _ => False) := by
  refine Met.ofW (cc := cX11_alike) (maxL := 3) (ret := (some .boolean)) (by decide) rfl ?_
  intro p e s m args below meth c s₁ B hml hv
  obtain ⟨rfl, hP, hK⟩ := hv
  have hx := B.exec
  have hb := B.bytes
  have hr := B.returns
  have hts := atoms_spec (ws := wf_alike) B.pre
  have hown : s.vm.findClass RX11 = some m.cls := findClass_of_methodNamed B.named
  have hlocks := B.notSynchronized
  have hS : va_S (fun _ => False) s.heap s.heap [] := va_S.rf
  have hP : va_P (dC, dI) vwCl [(h0, .inr (14, [.ref (u 0), .ref (u 1), .ref (u 2), .ref (u 3), .ref (u 4), .ref (u 5), .ref (u 6), .ref (u 7), .ref (u 8), .ref (u 9), .ref (u 10), .ref (u 11), .ref (u 12), .ref (u 13), .ref (u 14), .ref (u 15), .ref (u 16), .ref (u 17), .ref (u 18)])), ((u 0), .inr (6, [.ref (u 19), .ref (u 20), .ref (u 21), .ref (u 22), .int 0])), ((u 20), .inl (cB, 40, .inl (fun _ => 0)))] s.heap := hP
  have hl := lv_entry ([.ref h0, .int p0, .int p1]) (n := 3) (Nat.le_of_ble_eq_true rfl)
  rw [lg_entry_eq]
  generalize (lg_sl ([.ref h0, .int p0, .int p1]) ++ List.replicate (3 - (lg_sl ([.ref h0, .int p0, .int p1])).length) Slot.unset).toArray = ls at hl ⊢
  have hl : lv_has ls 3 [(0, .ref h0), (1, .int p0), (2, .int p1)] := hl
  refine ow_named (fun QQ hQQ => ?_)
  refine lv_aload_n hx hb dX11_alike_0 rfl (lv_at hl 0 rfl) ?_
  refine lv_iload_n hx hb dX11_alike_1 rfl (lv_at hl 1 rfl) ?_
  refine va_calli (va_runV (As := [.int p0]) (rest := []) ⟨hx, hb, hml, hown, hts⟩ (kf_X11_hasDiagram l dC dI cI cB cJ cZ h0 u p0) (cwV 1 hts gf_X11_alike rfl rfl rfl (by decide +kernel) ⟨(Nat.le_of_ble_eq_true rfl), (Nat.le_of_ble_eq_true rfl)⟩) ⟨fun a U g mk q => by obtain ⟨q0, qP, qK⟩ := q; exact ⟨q0, qP, va_K.moved (u := U) (U := U.calling g mk a) (Vm.Alike.refl U.vm) qK⟩, va_recv hK hP (ci := 14) (q0 := 0) rfl rfl, fun U hU hW => ⟨rfl, by rw [hU]; exact hP, va_K.moved hW.alike hK⟩⟩ rfl rfl hl.1 rfl (lv_room (Nat.le_of_ble_eq_true rfl)) dX11_alike_2 ⟨(Nat.le_of_ble_eq_true rfl), (Nat.le_of_ble_eq_true rfl)⟩) hS (fun q _ h => h.elim) (fun q h => h.elim) (fun r9 un t H1 locs ht hvm hw hB hz1 hk1 hS => ?_)
  obtain rfl : r9 = 0 := hw
  have hP := hP.kept (fun k9 x9 h9 => hk1 x9.1 ((hP k9 x9 h9).lt) id)
  generalize H1 = H at hP hS ⊢
  refine lv_if_eq (tgt := 36) hx hb dX11_alike_5 (by decide) (fun _ => ?_) (fun c9 => absurd (by decide) c9)
  refine lv_iconst (v := 0) hx hb dX11_alike_36 (by decide) ?_
  rw [hQQ]
  exact W.zret (v := 0) (ty := .boolean) hx hb hr rfl (fun t ht hW => ⟨⟨0, (), rfl, rfl, trivial⟩, hS.F ht⟩) hS.2.2 dX11_alike_37
theorem dX11_equal_0 : decode cX11_equal 0 = .ok (.aload_n 0, 1) := by decide +kernel
theorem dX11_equal_1 : decode cX11_equal 1 = .ok (.iload_n 1, 1) := by decide +kernel
theorem dX11_equal_2 : decode cX11_equal 2 = .ok (.invokevirtual 169, 3) := by decide +kernel
theorem dX11_equal_5 : decode cX11_equal 5 = .ok (.ifCond .eq 26, 3) := by decide +kernel
theorem dX11_equal_8 : decode cX11_equal 8 = .ok (.aload_n 0, 1) := by decide +kernel
theorem dX11_equal_9 : decode cX11_equal 9 = .ok (.iload_n 2, 1) := by decide +kernel
theorem dX11_equal_10 : decode cX11_equal 10 = .ok (.invokevirtual 169, 3) := by decide +kernel
theorem dX11_equal_13 : decode cX11_equal 13 = .ok (.ifCond .eq 18, 3) := by decide +kernel
theorem dX11_equal_16 : decode cX11_equal 16 = .ok (.aload_n 0, 1) := by decide +kernel
theorem dX11_equal_17 : decode cX11_equal 17 = .ok (.getfield 91, 3) := by decide +kernel
theorem dX11_equal_20 : decode cX11_equal 20 = .ok (.iload_n 1, 1) := by decide +kernel
theorem dX11_equal_21 : decode cX11_equal 21 = .ok (.iaload, 1) := by decide +kernel
theorem dX11_equal_22 : decode cX11_equal 22 = .ok (.aload_n 0, 1) := by decide +kernel
theorem dX11_equal_23 : decode cX11_equal 23 = .ok (.getfield 91, 3) := by decide +kernel
theorem dX11_equal_26 : decode cX11_equal 26 = .ok (.iload_n 2, 1) := by decide +kernel
theorem dX11_equal_27 : decode cX11_equal 27 = .ok (.iaload, 1) := by decide +kernel
theorem dX11_equal_28 : decode cX11_equal 28 = .ok (.if_icmp .eq 5, 3) := by decide +kernel
theorem dX11_equal_31 : decode cX11_equal 31 = .ok (.iconst 0, 1) := by decide +kernel
theorem dX11_equal_32 : decode cX11_equal 32 = .ok (.ireturn, 1) := by decide +kernel
theorem dX11_equal_33 : decode cX11_equal 33 = .ok (.aload_n 0, 1) := by decide +kernel
theorem dX11_equal_34 : decode cX11_equal 34 = .ok (.aload_n 0, 1) := by decide +kernel
theorem dX11_equal_35 : decode cX11_equal 35 = .ok (.getfield 97, 3) := by decide +kernel
theorem dX11_equal_38 : decode cX11_equal 38 = .ok (.iload_n 1, 1) := by decide +kernel
theorem dX11_equal_39 : decode cX11_equal 39 = .ok (.invokevirtual 406, 3) := by decide +kernel
theorem dX11_equal_42 : decode cX11_equal 42 = .ok (.aload_n 0, 1) := by decide +kernel
theorem dX11_equal_43 : decode cX11_equal 43 = .ok (.aload_n 0, 1) := by decide +kernel
theorem dX11_equal_44 : decode cX11_equal 44 = .ok (.getfield 101, 3) := by decide +kernel
theorem dX11_equal_47 : decode cX11_equal 47 = .ok (.iload_n 2, 1) := by decide +kernel
theorem dX11_equal_48 : decode cX11_equal 48 = .ok (.invokevirtual 406, 3) := by decide +kernel
theorem dX11_equal_51 : decode cX11_equal 51 = .ok (.aload_n 0, 1) := by decide +kernel
theorem dX11_equal_52 : decode cX11_equal 52 = .ok (.getfield 97, 3) := by decide +kernel
theorem dX11_equal_55 : decode cX11_equal 55 = .ok (.aload_n 0, 1) := by decide +kernel
theorem dX11_equal_56 : decode cX11_equal 56 = .ok (.getfield 101, 3) := by decide +kernel
theorem dX11_equal_59 : decode cX11_equal 59 = .ok (.invokevirtual 419, 3) := by decide +kernel
theorem dX11_equal_62 : decode cX11_equal 62 = .ok (.ireturn, 1) := by decide +kernel
def wf_equal : List Cond := .code yX11_equal cX11_equal 3 (some .boolean) :: wsV RX11 169 RX11 yX11_hasBraid wf_hasBraid
theorem gf_X11_equal : GoodIn wf_equal (wsV RX11 169 RX11 yX11_hasBraid wf_hasBraid) := goodIn_sub (fun _ h => List.mem_cons_of_mem _ h) (by decide +kernel)
set_option maxHeartbeats 4000000 in
set_option maxRecDepth 100000 in
theorem kf_X11_equal (l : Launch) (dC : Nat → ClassId) (dI : Nat → Nat → Nat) (cI cB cJ cZ : ClassId) (h0 : Nat) (u : Nat → Nat) (p0 p1 : Int32) : Met l yX11_equal wf_equal (({ frames := 1, cells := 0, slots := 0, locals := 21 } : Room)) (va_Pc [.ref h0, .int p0, .int p1] (fun U => va_P (dC, dI) vwCl [(h0, .inr (14, [.ref (u 0), .ref (u 1), .ref (u 2), .ref (u 3), .ref (u 4), .ref (u 5), .ref (u 6), .ref (u 7), .ref (u 8), .ref (u 9), .ref (u 10), .ref (u 11), .ref (u 12), .ref (u 13), .ref (u 14), .ref (u 15), .ref (u 16), .ref (u 17), .ref (u 18)])), ((u 14), .inl (cI, 20, .inl (fun _ => 0)))] U.heap ∧ va_K (dC, dI) vwCl [(cI, .int), (cB, .byte), (cJ, .long), (cZ, .boolean)] U)) (va_Qi (fun r (_ : Unit) => r = 0) (fun _ _ => True) (fun _ => False)) 0 0 (fun _ => False) := by
  refine Met.ofW (cc := cX11_equal) (maxL := 3) (ret := (some .boolean)) (by decide) rfl ?_
  intro p e s m args below meth c s₁ B hml hv
  obtain ⟨rfl, hP, hK⟩ := hv
  have hx := B.exec
  have hb := B.bytes
  have hr := B.returns
  have hts := atoms_spec (ws := wf_equal) B.pre
  have hown : s.vm.findClass RX11 = some m.cls := findClass_of_methodNamed B.named
  have hlocks := B.notSynchronized
  have hS : va_S (fun _ => False) s.heap s.heap [] := va_S.rf
  have hP : va_P (dC, dI) vwCl [(h0, .inr (14, [.ref (u 0), .ref (u 1), .ref (u 2), .ref (u 3), .ref (u 4), .ref (u 5), .ref (u 6), .ref (u 7), .ref (u 8), .ref (u 9), .ref (u 10), .ref (u 11), .ref (u 12), .ref (u 13), .ref (u 14), .ref (u 15), .ref (u 16), .ref (u 17), .ref (u 18)])), ((u 14), .inl (cI, 20, .inl (fun _ => 0)))] s.heap := hP
  have hl := lv_entry ([.ref h0, .int p0, .int p1]) (n := 3) (Nat.le_of_ble_eq_true rfl)
  rw [lg_entry_eq]
  generalize (lg_sl ([.ref h0, .int p0, .int p1]) ++ List.replicate (3 - (lg_sl ([.ref h0, .int p0, .int p1])).length) Slot.unset).toArray = ls at hl ⊢
  have hl : lv_has ls 3 [(0, .ref h0), (1, .int p0), (2, .int p1)] := hl
  refine ow_named (fun QQ hQQ => ?_)
  refine lv_aload_n hx hb dX11_equal_0 rfl (lv_at hl 0 rfl) ?_
  refine lv_iload_n hx hb dX11_equal_1 rfl (lv_at hl 1 rfl) ?_
  refine va_calli (va_runV (As := [.int p0]) (rest := []) ⟨hx, hb, hml, hown, hts⟩ (kf_X11_hasBraid l dC dI cI cB cJ cZ h0 u p0) (cwV 1 hts gf_X11_equal rfl rfl rfl (by decide +kernel) ⟨(Nat.le_of_ble_eq_true rfl), (Nat.le_of_ble_eq_true rfl)⟩) ⟨fun a U g mk q => by obtain ⟨q0, qP, qK⟩ := q; exact ⟨q0, qP, va_K.moved (u := U) (U := U.calling g mk a) (Vm.Alike.refl U.vm) qK⟩, va_recv hK hP (ci := 14) (q0 := 0) rfl rfl, fun U hU hW => ⟨rfl, by rw [hU]; exact hP, va_K.moved hW.alike hK⟩⟩ rfl rfl hl.1 rfl (lv_room (Nat.le_of_ble_eq_true rfl)) dX11_equal_2 ⟨(Nat.le_of_ble_eq_true rfl), (Nat.le_of_ble_eq_true rfl)⟩) hS (fun q _ h => h.elim) (fun q h => h.elim) (fun r9 un t H1 locs ht hvm hw hB hz1 hk1 hS => ?_)
  obtain rfl : r9 = 0 := hw
  have hP := hP.kept (fun k9 x9 h9 => hk1 x9.1 ((hP k9 x9 h9).lt) id)
  generalize H1 = H at hP hS ⊢
  refine lv_if_eq (tgt := 31) hx hb dX11_equal_5 (by decide) (fun _ => ?_) (fun c9 => absurd (by decide) c9)
  refine lv_iconst (v := 0) hx hb dX11_equal_31 (by decide) ?_
  rw [hQQ]
  exact W.zret (v := 0) (ty := .boolean) hx hb hr rfl (fun t ht hW => ⟨⟨0, (), rfl, rfl, trivial⟩, hS.F ht⟩) hS.2.2 dX11_equal_32
theorem dX11_end_0 : decode cX11_end 0 = .ok (.iload_n 1, 1) := by decide +kernel
theorem dX11_end_1 : decode cX11_end 1 = .ok (.ifCond .lt 14, 3) := by decide +kernel
theorem dX11_end_4 : decode cX11_end 4 = .ok (.iload_n 1, 1) := by decide +kernel
theorem dX11_end_5 : decode cX11_end 5 = .ok (.aload_n 0, 1) := by decide +kernel
theorem dX11_end_6 : decode cX11_end 6 = .ok (.getfield 51, 3) := by decide +kernel
theorem dX11_end_9 : decode cX11_end 9 = .ok (.getfield 114, 3) := by decide +kernel
theorem dX11_end_12 : decode cX11_end 12 = .ok (.if_icmp .le 13, 3) := by decide +kernel
theorem dX11_end_15 : decode cX11_end 15 = .ok (.new 128, 3) := by decide +kernel
theorem dX11_end_18 : decode cX11_end 18 = .ok (.dup, 1) := by decide +kernel
theorem dX11_end_19 : decode cX11_end 19 = .ok (.ldc 130, 2) := by decide +kernel
theorem dX11_end_21 : decode cX11_end 21 = .ok (.invokespecial 132, 3) := by decide +kernel
theorem dX11_end_24 : decode cX11_end 24 = .ok (.athrow, 1) := by decide +kernel
theorem dX11_end_25 : decode cX11_end 25 = .ok (.aload_n 0, 1) := by decide +kernel
theorem dX11_end_26 : decode cX11_end 26 = .ok (.getfield 51, 3) := by decide +kernel
theorem dX11_end_29 : decode cX11_end 29 = .ok (.iload_n 1, 1) := by decide +kernel
theorem dX11_end_30 : decode cX11_end 30 = .ok (.putfield 114, 3) := by decide +kernel
theorem dX11_end_33 : decode cX11_end 33 = .ok (.return_, 1) := by decide +kernel
def wf_end : List Cond := .code yX11_end cX11_end 2 none :: ((.classLink RX11 128 "java/lang/IllegalArgumentException" :: .initialized "java/lang/IllegalArgumentException" :: .fieldLink RX11 51 "KnotHouse" "reader" "LKnotHouse$Reader;" :: .fieldLink RX11 114 "KnotHouse$Reader" "length" "I" :: (wsX110 ++ wsX90)) ++ (vx_atS RX11 132 "java/lang/IllegalArgumentException" ["java/lang/RuntimeException", "java/lang/Exception"]).filter goodWord)
set_option maxHeartbeats 4000000 in
set_option maxRecDepth 100000 in
theorem kf_X11_end (l : Launch) (dC : Nat → ClassId) (dI : Nat → Nat → Nat) (cI cB cJ cZ : ClassId) (hlt : l.stackTraces = false) (h0 sa sz : Nat) (u : Nat → Nat) (k : Int32) : vx_Met l yX11_end wf_end (({ frames := 6, cells := 1, slots := 6, locals := 90 } : Room)) (va_Pc [.ref h0, .int k] (fun U => U.heap.size = sz ∧ va_P (dC, dI) vwCl [(h0, .inr (14, [.ref (u 0), .ref (u 1), .ref (u 2), .ref (u 3), .ref (u 4), .ref (u 5), .ref (u 6), .ref (u 7), .ref (u 8), .ref (u 9), .ref (u 10), .ref (u 11), .ref (u 12), .ref (u 13), .ref (u 14), .ref (u 15), .ref (u 16), .ref (u 17), .ref (u 18)])), ((u 7), .inr (12, [.int 0, .ref (u 63), .ref (u 64), .ref (u 65), .int 0, .int 0]))] U.heap ∧ va_K (dC, dI) vwCl [(cI, .int), (cB, .byte), (cJ, .long), (cZ, .boolean)] U ∧ va_D (fun _ => True) [(h0, .inr (14, [.ref (u 0), .ref (u 1), .ref (u 2), .ref (u 3), .ref (u 4), .ref (u 5), .ref (u 6), .ref (u 7), .ref (u 8), .ref (u 9), .ref (u 10), .ref (u 11), .ref (u 12), .ref (u 13), .ref (u 14), .ref (u 15), .ref (u 16), .ref (u 17), .ref (u 18)])), ((u 7), .inr (12, [.int 0, .ref (u 63), .ref (u 64), .ref (u 65), .int 0, .int 0]))] ∧ ow_Th (va_A [(h0, .inr (14, [.ref (u 0), .ref (u 1), .ref (u 2), .ref (u 3), .ref (u 4), .ref (u 5), .ref (u 6), .ref (u 7), .ref (u 8), .ref (u 9), .ref (u 10), .ref (u 11), .ref (u 12), .ref (u 13), .ref (u 14), .ref (u 15), .ref (u 16), .ref (u 17), .ref (u 18)])), ((u 7), .inr (12, [.int 0, .ref (u 63), .ref (u 64), .ref (u 65), .int 0, .int 0]))] sz) RX11 130 "the tape has not so many bytes" sa "java/lang/IllegalArgumentException" U)) (va_Qv (fun _ : Unit => k = 0) (fun _ _ => True) (va_A [(h0, .inr (14, [.ref (u 0), .ref (u 1), .ref (u 2), .ref (u 3), .ref (u 4), .ref (u 5), .ref (u 6), .ref (u 7), .ref (u 8), .ref (u 9), .ref (u 10), .ref (u 11), .ref (u 12), .ref (u 13), .ref (u 14), .ref (u 15), .ref (u 16), .ref (u 17), .ref (u 18)])), ((u 7), .inr (12, [.int 0, .ref (u 63), .ref (u 64), .ref (u 65), .int 0, .int 0]))] sz)) (vx_X (fun _ : Unit => ¬ k = 0) (fun E _ _ => E = "java/lang/IllegalArgumentException") (va_A [(h0, .inr (14, [.ref (u 0), .ref (u 1), .ref (u 2), .ref (u 3), .ref (u 4), .ref (u 5), .ref (u 6), .ref (u 7), .ref (u 8), .ref (u 9), .ref (u 10), .ref (u 11), .ref (u 12), .ref (u 13), .ref (u 14), .ref (u 15), .ref (u 16), .ref (u 17), .ref (u 18)])), ((u 7), .inr (12, [.int 0, .ref (u 63), .ref (u 64), .ref (u 65), .int 0, .int 0]))] sz)) 1 6 (va_A [(h0, .inr (14, [.ref (u 0), .ref (u 1), .ref (u 2), .ref (u 3), .ref (u 4), .ref (u 5), .ref (u 6), .ref (u 7), .ref (u 8), .ref (u 9), .ref (u 10), .ref (u 11), .ref (u 12), .ref (u 13), .ref (u 14), .ref (u 15), .ref (u 16), .ref (u 17), .ref (u 18)])), ((u 7), .inr (12, [.int 0, .ref (u 63), .ref (u 64), .ref (u 65), .int 0, .int 0]))] sz) := by
  refine vx_ofW (cc := cX11_end) (maxL := 2) (ret := none) (by decide) rfl ?_
  intro p e s m args below meth c s₁ B hml hex hv
  obtain ⟨rfl, hsz, hP, hK, hD0, hTh⟩ := hv
  have hx := B.exec
  have hb := B.bytes
  have hr := B.returns
  have hts := atoms_spec (ws := wf_end) B.pre
  have hown : s.vm.findClass RX11 = some m.cls := findClass_of_methodNamed B.named
  have hlocks := B.notSynchronized
  subst hsz
  have hD := hD0.self (sz := s.heap.size)
  generalize hAe : va_A [(h0, .inr (14, [.ref (u 0), .ref (u 1), .ref (u 2), .ref (u 3), .ref (u 4), .ref (u 5), .ref (u 6), .ref (u 7), .ref (u 8), .ref (u 9), .ref (u 10), .ref (u 11), .ref (u 12), .ref (u 13), .ref (u 14), .ref (u 15), .ref (u 16), .ref (u 17), .ref (u 18)])), ((u 7), .inr (12, [.int 0, .ref (u 63), .ref (u 64), .ref (u 65), .int 0, .int 0]))] s.heap.size = A at hD hTh ⊢
  have hS : va_S A s.heap s.heap [] := va_S.rf
  have hl := lv_entry ([.ref h0, .int k]) (n := 2) (Nat.le_of_ble_eq_true rfl)
  rw [lg_entry_eq]
  generalize (lg_sl ([.ref h0, .int k]) ++ List.replicate (2 - (lg_sl ([.ref h0, .int k])).length) Slot.unset).toArray = ls at hl ⊢
  have hl : lv_has ls 2 [(0, .ref h0), (1, .int k)] := hl
  refine ow_named (fun QQ hQQ => ?_)
  refine lv_iload_n hx hb dX11_end_0 rfl (lv_at hl 1 rfl) ?_
  refine lv_if_lt (tgt := 15) hx hb dX11_end_1 (by decide) (fun c1 => ?_) (fun c1 => ?_)
  · rw [hQQ]
    exact vx_throwS (own := RX11) (cls := "java/lang/IllegalArgumentException") (text := "the tape has not so many bytes") (names := ["java/lang/RuntimeException", "java/lang/Exception"]) (A := A) hx hb hlt hown (by decide +kernel) (by decide +kernel) (hts (.classLink RX11 128 "java/lang/IllegalArgumentException") (by decide +kernel)) (hts (.initialized "java/lang/IllegalArgumentException") (by decide +kernel)) hTh.1 (vx_hat (fun w h => hts w (List.mem_cons_of_mem _ (List.mem_append_right _ h))) (B := [.declares (Bundle.initS "java/lang/RuntimeException"), .declares (Bundle.initS "java/lang/Exception"), .declares (Bundle.initS Bundle.tN), .castable "java/lang/IllegalArgumentException" "java/lang/IllegalArgumentException"]) (by decide +kernel) (vx_c (va_Nw.use rfl hTh.2.2.2.1) (vx_c (va_Nw.use rfl hTh.2.2.2.2.1) (vx_c (va_Nw.use rfl hTh.2.2.2.2.2.1) (vx_c (va_Nw.use rfl hTh.2.2.2.2.2.2) vx_n))))) (by decide +kernel) hTh.2.1 hTh.2.2.1 hS (by rw [hml]; exact hl.1) dX11_end_15 dX11_end_18 dX11_end_19 dX11_end_21 dX11_end_24 (fun x h => (hex x h).elim) (Nat.le_of_ble_eq_true rfl) (Nat.le_of_ble_eq_true rfl) (Nat.le_of_ble_eq_true rfl) (Nat.le_of_ble_eq_true rfl) hlocks (fun t h1 h2 h3 => ⟨(), fun h9 => absurd (h9 ▸ c1) (by decide), rfl, Nat.le_trans hS.1 h2, fun q h4 h5 => (h3 q (Nat.lt_of_lt_of_le h4 hS.1)).trans (hS.2.1 q h4 h5)⟩) hS.2.2 (Nat.le_of_ble_eq_true rfl) (Nat.le_of_ble_eq_true rfl)
  · refine lv_iload_n hx hb dX11_end_4 rfl (lv_at hl 1 rfl) ?_
    refine lv_aload_n hx hb dX11_end_5 rfl (lv_at hl 0 rfl) ?_
    refine va_get (D := (dC, dI)) (ci := 14) (v := .ref (u 7)) (C := RX11) (T := TX11) (N := 19) hx hb hts (by decide +kernel) hown hK hP 0 rfl rfl 7 (by decide) (hts (.fieldLink RX11 51 "KnotHouse" "reader" "LKnotHouse$Reader;") (by decide +kernel)) (fun _ h9 => h9) rfl dX11_end_6 ?_
    refine va_get (D := (dC, dI)) (ci := 12) (v := .int 0) (C := RX9) (T := TX9) (N := 6) hx hb hts (by decide +kernel) hown hK hP 1 rfl rfl 0 (by decide) (hts (.fieldLink RX11 114 "KnotHouse$Reader" "length" "I") (by decide +kernel)) (fun _ h9 => h9) rfl dX11_end_9 ?_
    refine lv_icmp_le (tgt := 25) hx hb dX11_end_12 (by decide) (fun c2 => ?_) (fun c2 => ?_)
    · have hk0 : k = 0 := Int32.le_antisymm c2 (Int32.not_lt.mp c1)
      refine lv_aload_n hx hb dX11_end_25 rfl (lv_at hl 0 rfl) ?_
      refine va_get (D := (dC, dI)) (ci := 14) (v := .ref (u 7)) (C := RX11) (T := TX11) (N := 19) hx hb hts (by decide +kernel) hown hK hP 0 rfl rfl 7 (by decide) (hts (.fieldLink RX11 51 "KnotHouse" "reader" "LKnotHouse$Reader;") (by decide +kernel)) (fun _ h9 => h9) rfl dX11_end_26 ?_
      refine lv_iload_n hx hb dX11_end_29 rfl (lv_at hl 1 rfl) ?_
      refine va_put (D := (dC, dI)) (ci := 12) (v := .int k) (ty := .int) (C := RX9) (T := TX9) (N := 6) hx hb hts (by decide +kernel) tyX9 tyX9_ok nmX9 hown hK hP hD hS 1 rfl rfl 0 (by decide) (hts (.fieldLink RX11 114 "KnotHouse$Reader" "length" "I") (by decide +kernel)) (fun _ h9 => h9) rfl (by decide +kernel) rfl rfl (Nat.le_of_ble_eq_true rfl) dX11_end_30 (fun H locs hP hD hS => ?_)
      have hP : va_P (dC, dI) vwCl [(h0, .inr (14, [.ref (u 0), .ref (u 1), .ref (u 2), .ref (u 3), .ref (u 4), .ref (u 5), .ref (u 6), .ref (u 7), .ref (u 8), .ref (u 9), .ref (u 10), .ref (u 11), .ref (u 12), .ref (u 13), .ref (u 14), .ref (u 15), .ref (u 16), .ref (u 17), .ref (u 18)])), ((u 7), .inr (12, [.int k, .ref (u 63), .ref (u 64), .ref (u 65), .int 0, .int 0]))] H := hP
      have hD : va_D A [(h0, .inr (14, [.ref (u 0), .ref (u 1), .ref (u 2), .ref (u 3), .ref (u 4), .ref (u 5), .ref (u 6), .ref (u 7), .ref (u 8), .ref (u 9), .ref (u 10), .ref (u 11), .ref (u 12), .ref (u 13), .ref (u 14), .ref (u 15), .ref (u 16), .ref (u 17), .ref (u 18)])), ((u 7), .inr (12, [.int k, .ref (u 63), .ref (u 64), .ref (u 65), .int 0, .int 0]))] := hD
      refine W.widen (k := 1) (n := 6) (Nat.le_of_ble_eq_true rfl) (Nat.le_of_ble_eq_true rfl) ?_
      rw [hQQ]
      exact vx_ret (W.vret hx hb hr (fun t ht hW => ⟨⟨(), rfl, hk0, trivial⟩, hS.F ht⟩) hS.2.2 dX11_end_33)
    · rw [hQQ]
      exact vx_throwS (own := RX11) (cls := "java/lang/IllegalArgumentException") (text := "the tape has not so many bytes") (names := ["java/lang/RuntimeException", "java/lang/Exception"]) (A := A) hx hb hlt hown (by decide +kernel) (by decide +kernel) (hts (.classLink RX11 128 "java/lang/IllegalArgumentException") (by decide +kernel)) (hts (.initialized "java/lang/IllegalArgumentException") (by decide +kernel)) hTh.1 (vx_hat (fun w h => hts w (List.mem_cons_of_mem _ (List.mem_append_right _ h))) (B := [.declares (Bundle.initS "java/lang/RuntimeException"), .declares (Bundle.initS "java/lang/Exception"), .declares (Bundle.initS Bundle.tN), .castable "java/lang/IllegalArgumentException" "java/lang/IllegalArgumentException"]) (by decide +kernel) (vx_c (va_Nw.use rfl hTh.2.2.2.1) (vx_c (va_Nw.use rfl hTh.2.2.2.2.1) (vx_c (va_Nw.use rfl hTh.2.2.2.2.2.1) (vx_c (va_Nw.use rfl hTh.2.2.2.2.2.2) vx_n))))) (by decide +kernel) hTh.2.1 hTh.2.2.1 hS (by rw [hml]; exact hl.1) dX11_end_15 dX11_end_18 dX11_end_19 dX11_end_21 dX11_end_24 (fun x h => (hex x h).elim) (Nat.le_of_ble_eq_true rfl) (Nat.le_of_ble_eq_true rfl) (Nat.le_of_ble_eq_true rfl) (Nat.le_of_ble_eq_true rfl) hlocks (fun t h1 h2 h3 => ⟨(), fun h9 => c2 (by rw [h9]; decide), rfl, Nat.le_trans hS.1 h2, fun q h4 h5 => (h3 q (Nat.lt_of_lt_of_le h4 hS.1)).trans (hS.2.1 q h4 h5)⟩) hS.2.2 (Nat.le_of_ble_eq_true rfl) (Nat.le_of_ble_eq_true rfl)
