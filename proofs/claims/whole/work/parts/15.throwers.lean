theorem dX11_figure_0 : decode cX11_figure 0 = .ok (.aload_n 0, 1) := by decide +kernel
theorem dX11_figure_1 : decode cX11_figure 1 = .ok (.iload_n 1, 1) := by decide +kernel
theorem dX11_figure_2 : decode cX11_figure 2 = .ok (.invokevirtual 189, 3) := by decide +kernel
def wf_figure : List Cond := .code yX11_figure cX11_figure 3 (some .int) :: wsV RX11 189 RX11 yX11_needDiagram wf_needDiagram
theorem gf_X11_figure : GoodIn wf_figure (wsV RX11 189 RX11 yX11_needDiagram wf_needDiagram) := goodIn_sub (fun _ h => List.mem_cons_of_mem _ h) (by decide +kernel)
set_option maxHeartbeats 4000000 in
set_option maxRecDepth 100000 in
theorem kf_X11_figure (l : Launch) (dC : Nat → ClassId) (dI : Nat → Nat → Nat) (cI cB cJ cZ : ClassId) (hlt : l.stackTraces = false) (h0 sa : Nat) (u : Nat → Nat) (p0 p1 : Int32) : vx_Met l yX11_figure wf_figure (({ frames := 7, cells := 1, slots := 6, locals := 111 } : Room)) (va_Pc [.ref h0, .int p0, .int p1] (fun U => va_P (dC, dI) vwCl [(h0, .inr (14, [.ref (u 0), .ref (u 1), .ref (u 2), .ref (u 3), .ref (u 4), .ref (u 5), .ref (u 6), .ref (u 7), .ref (u 8), .ref (u 9), .ref (u 10), .ref (u 11), .ref (u 12), .ref (u 13), .ref (u 14), .ref (u 15), .ref (u 16), .ref (u 17), .ref (u 18)])), ((u 0), .inr (6, [.ref (u 19), .ref (u 20), .ref (u 21), .ref (u 22), .int 0])), ((u 20), .inl (cB, 40, .inl (fun _ => 0)))] U.heap ∧ va_K (dC, dI) vwCl [(cI, .int), (cB, .byte), (cJ, .long), (cZ, .boolean)] U ∧ ow_Th (fun _ => False) RX11 166 "no such diagram" sa "java/lang/IndexOutOfBoundsException" U)) (va_Qi (fun _ (_ : Unit) => False) (fun _ _ => True) (fun _ => False)) (vx_X (fun _ : Unit => True) (fun E _ _ => E = "java/lang/IndexOutOfBoundsException") (fun _ => False)) 1 6 (fun _ => False) := by
  refine vx_ofW (cc := cX11_figure) (maxL := 3) (ret := (some .int)) (by decide) rfl ?_
  intro p e s m args below meth c s₁ B hml hex hv
  obtain ⟨rfl, hP, hK, hTh⟩ := hv
  have hx := B.exec
  have hb := B.bytes
  have hr := B.returns
  have hts := atoms_spec (ws := wf_figure) B.pre
  have hown : s.vm.findClass RX11 = some m.cls := findClass_of_methodNamed B.named
  have hlocks := B.notSynchronized
  have hS : va_S (fun _ => False) s.heap s.heap [] := va_S.rf
  have hl := lv_entry ([.ref h0, .int p0, .int p1]) (n := 3) (Nat.le_of_ble_eq_true rfl)
  rw [lg_entry_eq]
  generalize (lg_sl ([.ref h0, .int p0, .int p1]) ++ List.replicate (3 - (lg_sl ([.ref h0, .int p0, .int p1])).length) Slot.unset).toArray = ls at hl ⊢
  have hl : lv_has ls 3 [(0, .ref h0), (1, .int p0), (2, .int p1)] := hl
  refine ow_named (fun QQ hQQ => ?_)
  refine lv_aload_n hx hb dX11_figure_0 rfl (lv_at hl 0 rfl) ?_
  refine lv_iload_n hx hb dX11_figure_1 rfl (lv_at hl 1 rfl) ?_
  refine vx_callv (vx_runV (As := [.int p0]) (rest := []) ⟨hx, hb, hml, hown, hts⟩ (kf_X11_needDiagram l dC dI cI cB cJ cZ hlt h0 sa u p0) (cwV 1 hts gf_X11_figure rfl rfl rfl (by decide +kernel) ⟨(Nat.le_of_ble_eq_true rfl), (Nat.le_of_ble_eq_true rfl)⟩) ⟨fun a U g mk q => by obtain ⟨q0, qP, qK, qT⟩ := q; exact ⟨q0, qP, va_K.moved (u := U) (U := U.calling g mk a) (Vm.Alike.refl U.vm) qK, ow_Th.same (u := U) (U := U.calling g mk a) rfl rfl qT⟩, va_recv hK hP (ci := 14) (q0 := 0) rfl rfl, fun U hU hW => ⟨rfl, by rw [hU]; exact hP, va_K.moved hW.alike hK, ow_Th.to hTh hS hW hU (fun q h => h)⟩⟩ rfl rfl hl.1 rfl (lv_room (Nat.le_of_ble_eq_true rfl)) dX11_figure_2 ⟨(Nat.le_of_ble_eq_true rfl), (Nat.le_of_ble_eq_true rfl)⟩) hS (fun q _ h => h.elim) (fun q h => h.elim) (fun q _ h => h.elim) (fun E ce q9 u9 t H1 locs ht hvm hpx hBX hz1 hk1 hS hce hcv hcl => ?_) (fun u9 t H1 locs ht hvm hw hB hz1 hk1 hS => absurd hw (fun h => h))
  rw [hQQ]
  exact vx_out (fun x h => (hex x h).elim) hlocks hce hcv hcl (fun t9 ht9 hal => ⟨(), trivial, hBX, hS.F ht9⟩) hS.2.2 (Nat.le_of_ble_eq_true rfl) (Nat.le_of_ble_eq_true rfl)
theorem dX11_visit_0 : decode cX11_visit 0 = .ok (.aload_n 0, 1) := by decide +kernel
theorem dX11_visit_1 : decode cX11_visit 1 = .ok (.iload_n 1, 1) := by decide +kernel
theorem dX11_visit_2 : decode cX11_visit 2 = .ok (.invokevirtual 189, 3) := by decide +kernel
def wf_visit : List Cond := .code yX11_visit cX11_visit 5 (some .int) :: wsV RX11 189 RX11 yX11_needDiagram wf_needDiagram
theorem gf_X11_visit : GoodIn wf_visit (wsV RX11 189 RX11 yX11_needDiagram wf_needDiagram) := goodIn_sub (fun _ h => List.mem_cons_of_mem _ h) (by decide +kernel)
set_option maxHeartbeats 4000000 in
set_option maxRecDepth 100000 in
theorem kf_X11_visit (l : Launch) (dC : Nat → ClassId) (dI : Nat → Nat → Nat) (cI cB cJ cZ : ClassId) (hlt : l.stackTraces = false) (h0 sa : Nat) (u : Nat → Nat) (p0 p1 p2 : Int32) : vx_Met l yX11_visit wf_visit (({ frames := 7, cells := 1, slots := 6, locals := 111 } : Room)) (va_Pc [.ref h0, .int p0, .int p1, .int p2] (fun U => va_P (dC, dI) vwCl [(h0, .inr (14, [.ref (u 0), .ref (u 1), .ref (u 2), .ref (u 3), .ref (u 4), .ref (u 5), .ref (u 6), .ref (u 7), .ref (u 8), .ref (u 9), .ref (u 10), .ref (u 11), .ref (u 12), .ref (u 13), .ref (u 14), .ref (u 15), .ref (u 16), .ref (u 17), .ref (u 18)])), ((u 0), .inr (6, [.ref (u 19), .ref (u 20), .ref (u 21), .ref (u 22), .int 0])), ((u 20), .inl (cB, 40, .inl (fun _ => 0)))] U.heap ∧ va_K (dC, dI) vwCl [(cI, .int), (cB, .byte), (cJ, .long), (cZ, .boolean)] U ∧ ow_Th (fun _ => False) RX11 166 "no such diagram" sa "java/lang/IndexOutOfBoundsException" U)) (va_Qi (fun _ (_ : Unit) => False) (fun _ _ => True) (fun _ => False)) (vx_X (fun _ : Unit => True) (fun E _ _ => E = "java/lang/IndexOutOfBoundsException") (fun _ => False)) 1 6 (fun _ => False) := by
  refine vx_ofW (cc := cX11_visit) (maxL := 5) (ret := (some .int)) (by decide) rfl ?_
  intro p e s m args below meth c s₁ B hml hex hv
  obtain ⟨rfl, hP, hK, hTh⟩ := hv
  have hx := B.exec
  have hb := B.bytes
  have hr := B.returns
  have hts := atoms_spec (ws := wf_visit) B.pre
  have hown : s.vm.findClass RX11 = some m.cls := findClass_of_methodNamed B.named
  have hlocks := B.notSynchronized
  have hS : va_S (fun _ => False) s.heap s.heap [] := va_S.rf
  have hl := lv_entry ([.ref h0, .int p0, .int p1, .int p2]) (n := 5) (Nat.le_of_ble_eq_true rfl)
  rw [lg_entry_eq]
  generalize (lg_sl ([.ref h0, .int p0, .int p1, .int p2]) ++ List.replicate (5 - (lg_sl ([.ref h0, .int p0, .int p1, .int p2])).length) Slot.unset).toArray = ls at hl ⊢
  have hl : lv_has ls 5 [(0, .ref h0), (1, .int p0), (2, .int p1), (3, .int p2)] := hl
  refine ow_named (fun QQ hQQ => ?_)
  refine lv_aload_n hx hb dX11_visit_0 rfl (lv_at hl 0 rfl) ?_
  refine lv_iload_n hx hb dX11_visit_1 rfl (lv_at hl 1 rfl) ?_
  refine vx_callv (vx_runV (As := [.int p0]) (rest := []) ⟨hx, hb, hml, hown, hts⟩ (kf_X11_needDiagram l dC dI cI cB cJ cZ hlt h0 sa u p0) (cwV 1 hts gf_X11_visit rfl rfl rfl (by decide +kernel) ⟨(Nat.le_of_ble_eq_true rfl), (Nat.le_of_ble_eq_true rfl)⟩) ⟨fun a U g mk q => by obtain ⟨q0, qP, qK, qT⟩ := q; exact ⟨q0, qP, va_K.moved (u := U) (U := U.calling g mk a) (Vm.Alike.refl U.vm) qK, ow_Th.same (u := U) (U := U.calling g mk a) rfl rfl qT⟩, va_recv hK hP (ci := 14) (q0 := 0) rfl rfl, fun U hU hW => ⟨rfl, by rw [hU]; exact hP, va_K.moved hW.alike hK, ow_Th.to hTh hS hW hU (fun q h => h)⟩⟩ rfl rfl hl.1 rfl (lv_room (Nat.le_of_ble_eq_true rfl)) dX11_visit_2 ⟨(Nat.le_of_ble_eq_true rfl), (Nat.le_of_ble_eq_true rfl)⟩) hS (fun q _ h => h.elim) (fun q h => h.elim) (fun q _ h => h.elim) (fun E ce q9 u9 t H1 locs ht hvm hpx hBX hz1 hk1 hS hce hcv hcl => ?_) (fun u9 t H1 locs ht hvm hw hB hz1 hk1 hS => absurd hw (fun h => h))
  rw [hQQ]
  exact vx_out (fun x h => (hex x h).elim) hlocks hce hcv hcl (fun t9 ht9 hal => ⟨(), trivial, hBX, hS.F ht9⟩) hS.2.2 (Nat.le_of_ble_eq_true rfl) (Nat.le_of_ble_eq_true rfl)
theorem dX11_linking_0 : decode cX11_linking 0 = .ok (.aload_n 0, 1) := by decide +kernel
theorem dX11_linking_1 : decode cX11_linking 1 = .ok (.iload_n 1, 1) := by decide +kernel
theorem dX11_linking_2 : decode cX11_linking 2 = .ok (.invokevirtual 189, 3) := by decide +kernel
def wf_linking : List Cond := .code yX11_linking cX11_linking 8 (some .int) :: wsV RX11 189 RX11 yX11_needDiagram wf_needDiagram
theorem gf_X11_linking : GoodIn wf_linking (wsV RX11 189 RX11 yX11_needDiagram wf_needDiagram) := goodIn_sub (fun _ h => List.mem_cons_of_mem _ h) (by decide +kernel)
set_option maxHeartbeats 4000000 in
set_option maxRecDepth 100000 in
theorem kf_X11_linking (l : Launch) (dC : Nat → ClassId) (dI : Nat → Nat → Nat) (cI cB cJ cZ : ClassId) (hlt : l.stackTraces = false) (h0 sa : Nat) (u : Nat → Nat) (p0 p1 p2 : Int32) : vx_Met l yX11_linking wf_linking (({ frames := 7, cells := 1, slots := 6, locals := 111 } : Room)) (va_Pc [.ref h0, .int p0, .int p1, .int p2] (fun U => va_P (dC, dI) vwCl [(h0, .inr (14, [.ref (u 0), .ref (u 1), .ref (u 2), .ref (u 3), .ref (u 4), .ref (u 5), .ref (u 6), .ref (u 7), .ref (u 8), .ref (u 9), .ref (u 10), .ref (u 11), .ref (u 12), .ref (u 13), .ref (u 14), .ref (u 15), .ref (u 16), .ref (u 17), .ref (u 18)])), ((u 0), .inr (6, [.ref (u 19), .ref (u 20), .ref (u 21), .ref (u 22), .int 0])), ((u 20), .inl (cB, 40, .inl (fun _ => 0)))] U.heap ∧ va_K (dC, dI) vwCl [(cI, .int), (cB, .byte), (cJ, .long), (cZ, .boolean)] U ∧ ow_Th (fun _ => False) RX11 166 "no such diagram" sa "java/lang/IndexOutOfBoundsException" U)) (va_Qi (fun _ (_ : Unit) => False) (fun _ _ => True) (fun _ => False)) (vx_X (fun _ : Unit => True) (fun E _ _ => E = "java/lang/IndexOutOfBoundsException") (fun _ => False)) 1 6 (fun _ => False) := by
  refine vx_ofW (cc := cX11_linking) (maxL := 8) (ret := (some .int)) (by decide) rfl ?_
  intro p e s m args below meth c s₁ B hml hex hv
  obtain ⟨rfl, hP, hK, hTh⟩ := hv
  have hx := B.exec
  have hb := B.bytes
  have hr := B.returns
  have hts := atoms_spec (ws := wf_linking) B.pre
  have hown : s.vm.findClass RX11 = some m.cls := findClass_of_methodNamed B.named
  have hlocks := B.notSynchronized
  have hS : va_S (fun _ => False) s.heap s.heap [] := va_S.rf
  have hl := lv_entry ([.ref h0, .int p0, .int p1, .int p2]) (n := 8) (Nat.le_of_ble_eq_true rfl)
  rw [lg_entry_eq]
  generalize (lg_sl ([.ref h0, .int p0, .int p1, .int p2]) ++ List.replicate (8 - (lg_sl ([.ref h0, .int p0, .int p1, .int p2])).length) Slot.unset).toArray = ls at hl ⊢
  have hl : lv_has ls 8 [(0, .ref h0), (1, .int p0), (2, .int p1), (3, .int p2)] := hl
  refine ow_named (fun QQ hQQ => ?_)
  refine lv_aload_n hx hb dX11_linking_0 rfl (lv_at hl 0 rfl) ?_
  refine lv_iload_n hx hb dX11_linking_1 rfl (lv_at hl 1 rfl) ?_
  refine vx_callv (vx_runV (As := [.int p0]) (rest := []) ⟨hx, hb, hml, hown, hts⟩ (kf_X11_needDiagram l dC dI cI cB cJ cZ hlt h0 sa u p0) (cwV 1 hts gf_X11_linking rfl rfl rfl (by decide +kernel) ⟨(Nat.le_of_ble_eq_true rfl), (Nat.le_of_ble_eq_true rfl)⟩) ⟨fun a U g mk q => by obtain ⟨q0, qP, qK, qT⟩ := q; exact ⟨q0, qP, va_K.moved (u := U) (U := U.calling g mk a) (Vm.Alike.refl U.vm) qK, ow_Th.same (u := U) (U := U.calling g mk a) rfl rfl qT⟩, va_recv hK hP (ci := 14) (q0 := 0) rfl rfl, fun U hU hW => ⟨rfl, by rw [hU]; exact hP, va_K.moved hW.alike hK, ow_Th.to hTh hS hW hU (fun q h => h)⟩⟩ rfl rfl hl.1 rfl (lv_room (Nat.le_of_ble_eq_true rfl)) dX11_linking_2 ⟨(Nat.le_of_ble_eq_true rfl), (Nat.le_of_ble_eq_true rfl)⟩) hS (fun q _ h => h.elim) (fun q h => h.elim) (fun q _ h => h.elim) (fun E ce q9 u9 t H1 locs ht hvm hpx hBX hz1 hk1 hS hce hcv hcl => ?_) (fun u9 t H1 locs ht hvm hw hB hz1 hk1 hS => absurd hw (fun h => h))
  rw [hQQ]
  exact vx_out (fun x h => (hex x h).elim) hlocks hce hcv hcl (fun t9 ht9 hal => ⟨(), trivial, hBX, hS.F ht9⟩) hS.2.2 (Nat.le_of_ble_eq_true rfl) (Nat.le_of_ble_eq_true rfl)
theorem dX11_mirror_0 : decode cX11_mirror 0 = .ok (.aload_n 0, 1) := by decide +kernel
theorem dX11_mirror_1 : decode cX11_mirror 1 = .ok (.iload_n 1, 1) := by decide +kernel
theorem dX11_mirror_2 : decode cX11_mirror 2 = .ok (.invokevirtual 189, 3) := by decide +kernel
def wf_mirror : List Cond := .code yX11_mirror cX11_mirror 4 (some .int) :: wsV RX11 189 RX11 yX11_needDiagram wf_needDiagram
theorem gf_X11_mirror : GoodIn wf_mirror (wsV RX11 189 RX11 yX11_needDiagram wf_needDiagram) := goodIn_sub (fun _ h => List.mem_cons_of_mem _ h) (by decide +kernel)
set_option maxHeartbeats 4000000 in
set_option maxRecDepth 100000 in
theorem kf_X11_mirror (l : Launch) (dC : Nat → ClassId) (dI : Nat → Nat → Nat) (cI cB cJ cZ : ClassId) (hlt : l.stackTraces = false) (h0 sa : Nat) (u : Nat → Nat) (p0 : Int32) : vx_Met l yX11_mirror wf_mirror (({ frames := 7, cells := 1, slots := 6, locals := 111 } : Room)) (va_Pc [.ref h0, .int p0] (fun U => va_P (dC, dI) vwCl [(h0, .inr (14, [.ref (u 0), .ref (u 1), .ref (u 2), .ref (u 3), .ref (u 4), .ref (u 5), .ref (u 6), .ref (u 7), .ref (u 8), .ref (u 9), .ref (u 10), .ref (u 11), .ref (u 12), .ref (u 13), .ref (u 14), .ref (u 15), .ref (u 16), .ref (u 17), .ref (u 18)])), ((u 0), .inr (6, [.ref (u 19), .ref (u 20), .ref (u 21), .ref (u 22), .int 0])), ((u 20), .inl (cB, 40, .inl (fun _ => 0)))] U.heap ∧ va_K (dC, dI) vwCl [(cI, .int), (cB, .byte), (cJ, .long), (cZ, .boolean)] U ∧ ow_Th (fun _ => False) RX11 166 "no such diagram" sa "java/lang/IndexOutOfBoundsException" U)) (va_Qi (fun _ (_ : Unit) => False) (fun _ _ => True) (fun _ => False)) (vx_X (fun _ : Unit => True) (fun E _ _ => E = "java/lang/IndexOutOfBoundsException") (fun _ => False)) 1 6 (fun _ => False) := by
  refine vx_ofW (cc := cX11_mirror) (maxL := 4) (ret := (some .int)) (by decide) rfl ?_
  intro p e s m args below meth c s₁ B hml hex hv
  obtain ⟨rfl, hP, hK, hTh⟩ := hv
  have hx := B.exec
  have hb := B.bytes
  have hr := B.returns
  have hts := atoms_spec (ws := wf_mirror) B.pre
  have hown : s.vm.findClass RX11 = some m.cls := findClass_of_methodNamed B.named
  have hlocks := B.notSynchronized
  have hS : va_S (fun _ => False) s.heap s.heap [] := va_S.rf
  have hl := lv_entry ([.ref h0, .int p0]) (n := 4) (Nat.le_of_ble_eq_true rfl)
  rw [lg_entry_eq]
  generalize (lg_sl ([.ref h0, .int p0]) ++ List.replicate (4 - (lg_sl ([.ref h0, .int p0])).length) Slot.unset).toArray = ls at hl ⊢
  have hl : lv_has ls 4 [(0, .ref h0), (1, .int p0)] := hl
  refine ow_named (fun QQ hQQ => ?_)
  refine lv_aload_n hx hb dX11_mirror_0 rfl (lv_at hl 0 rfl) ?_
  refine lv_iload_n hx hb dX11_mirror_1 rfl (lv_at hl 1 rfl) ?_
  refine vx_callv (vx_runV (As := [.int p0]) (rest := []) ⟨hx, hb, hml, hown, hts⟩ (kf_X11_needDiagram l dC dI cI cB cJ cZ hlt h0 sa u p0) (cwV 1 hts gf_X11_mirror rfl rfl rfl (by decide +kernel) ⟨(Nat.le_of_ble_eq_true rfl), (Nat.le_of_ble_eq_true rfl)⟩) ⟨fun a U g mk q => by obtain ⟨q0, qP, qK, qT⟩ := q; exact ⟨q0, qP, va_K.moved (u := U) (U := U.calling g mk a) (Vm.Alike.refl U.vm) qK, ow_Th.same (u := U) (U := U.calling g mk a) rfl rfl qT⟩, va_recv hK hP (ci := 14) (q0 := 0) rfl rfl, fun U hU hW => ⟨rfl, by rw [hU]; exact hP, va_K.moved hW.alike hK, ow_Th.to hTh hS hW hU (fun q h => h)⟩⟩ rfl rfl hl.1 rfl (lv_room (Nat.le_of_ble_eq_true rfl)) dX11_mirror_2 ⟨(Nat.le_of_ble_eq_true rfl), (Nat.le_of_ble_eq_true rfl)⟩) hS (fun q _ h => h.elim) (fun q h => h.elim) (fun q _ h => h.elim) (fun E ce q9 u9 t H1 locs ht hvm hpx hBX hz1 hk1 hS hce hcv hcl => ?_) (fun u9 t H1 locs ht hvm hw hB hz1 hk1 hS => absurd hw (fun h => h))
  rw [hQQ]
  exact vx_out (fun x h => (hex x h).elim) hlocks hce hcv hcl (fun t9 ht9 hal => ⟨(), trivial, hBX, hS.F ht9⟩) hS.2.2 (Nat.le_of_ble_eq_true rfl) (Nat.le_of_ble_eq_true rfl)
theorem dX11_reverse_0 : decode cX11_reverse 0 = .ok (.aload_n 0, 1) := by decide +kernel
theorem dX11_reverse_1 : decode cX11_reverse 1 = .ok (.iload_n 1, 1) := by decide +kernel
theorem dX11_reverse_2 : decode cX11_reverse 2 = .ok (.invokevirtual 189, 3) := by decide +kernel
def wf_reverse : List Cond := .code yX11_reverse cX11_reverse 4 (some .int) :: wsV RX11 189 RX11 yX11_needDiagram wf_needDiagram
theorem gf_X11_reverse : GoodIn wf_reverse (wsV RX11 189 RX11 yX11_needDiagram wf_needDiagram) := goodIn_sub (fun _ h => List.mem_cons_of_mem _ h) (by decide +kernel)
set_option maxHeartbeats 4000000 in
set_option maxRecDepth 100000 in
theorem kf_X11_reverse (l : Launch) (dC : Nat → ClassId) (dI : Nat → Nat → Nat) (cI cB cJ cZ : ClassId) (hlt : l.stackTraces = false) (h0 sa : Nat) (u : Nat → Nat) (p0 p1 : Int32) : vx_Met l yX11_reverse wf_reverse (({ frames := 7, cells := 1, slots := 6, locals := 111 } : Room)) (va_Pc [.ref h0, .int p0, .int p1] (fun U => va_P (dC, dI) vwCl [(h0, .inr (14, [.ref (u 0), .ref (u 1), .ref (u 2), .ref (u 3), .ref (u 4), .ref (u 5), .ref (u 6), .ref (u 7), .ref (u 8), .ref (u 9), .ref (u 10), .ref (u 11), .ref (u 12), .ref (u 13), .ref (u 14), .ref (u 15), .ref (u 16), .ref (u 17), .ref (u 18)])), ((u 0), .inr (6, [.ref (u 19), .ref (u 20), .ref (u 21), .ref (u 22), .int 0])), ((u 20), .inl (cB, 40, .inl (fun _ => 0)))] U.heap ∧ va_K (dC, dI) vwCl [(cI, .int), (cB, .byte), (cJ, .long), (cZ, .boolean)] U ∧ ow_Th (fun _ => False) RX11 166 "no such diagram" sa "java/lang/IndexOutOfBoundsException" U)) (va_Qi (fun _ (_ : Unit) => False) (fun _ _ => True) (fun _ => False)) (vx_X (fun _ : Unit => True) (fun E _ _ => E = "java/lang/IndexOutOfBoundsException") (fun _ => False)) 1 6 (fun _ => False) := by
  refine vx_ofW (cc := cX11_reverse) (maxL := 4) (ret := (some .int)) (by decide) rfl ?_
  intro p e s m args below meth c s₁ B hml hex hv
  obtain ⟨rfl, hP, hK, hTh⟩ := hv
  have hx := B.exec
  have hb := B.bytes
  have hr := B.returns
  have hts := atoms_spec (ws := wf_reverse) B.pre
  have hown : s.vm.findClass RX11 = some m.cls := findClass_of_methodNamed B.named
  have hlocks := B.notSynchronized
  have hS : va_S (fun _ => False) s.heap s.heap [] := va_S.rf
  have hl := lv_entry ([.ref h0, .int p0, .int p1]) (n := 4) (Nat.le_of_ble_eq_true rfl)
  rw [lg_entry_eq]
  generalize (lg_sl ([.ref h0, .int p0, .int p1]) ++ List.replicate (4 - (lg_sl ([.ref h0, .int p0, .int p1])).length) Slot.unset).toArray = ls at hl ⊢
  have hl : lv_has ls 4 [(0, .ref h0), (1, .int p0), (2, .int p1)] := hl
  refine ow_named (fun QQ hQQ => ?_)
  refine lv_aload_n hx hb dX11_reverse_0 rfl (lv_at hl 0 rfl) ?_
  refine lv_iload_n hx hb dX11_reverse_1 rfl (lv_at hl 1 rfl) ?_
  refine vx_callv (vx_runV (As := [.int p0]) (rest := []) ⟨hx, hb, hml, hown, hts⟩ (kf_X11_needDiagram l dC dI cI cB cJ cZ hlt h0 sa u p0) (cwV 1 hts gf_X11_reverse rfl rfl rfl (by decide +kernel) ⟨(Nat.le_of_ble_eq_true rfl), (Nat.le_of_ble_eq_true rfl)⟩) ⟨fun a U g mk q => by obtain ⟨q0, qP, qK, qT⟩ := q; exact ⟨q0, qP, va_K.moved (u := U) (U := U.calling g mk a) (Vm.Alike.refl U.vm) qK, ow_Th.same (u := U) (U := U.calling g mk a) rfl rfl qT⟩, va_recv hK hP (ci := 14) (q0 := 0) rfl rfl, fun U hU hW => ⟨rfl, by rw [hU]; exact hP, va_K.moved hW.alike hK, ow_Th.to hTh hS hW hU (fun q h => h)⟩⟩ rfl rfl hl.1 rfl (lv_room (Nat.le_of_ble_eq_true rfl)) dX11_reverse_2 ⟨(Nat.le_of_ble_eq_true rfl), (Nat.le_of_ble_eq_true rfl)⟩) hS (fun q _ h => h.elim) (fun q h => h.elim) (fun q _ h => h.elim) (fun E ce q9 u9 t H1 locs ht hvm hpx hBX hz1 hk1 hS hce hcv hcl => ?_) (fun u9 t H1 locs ht hvm hw hB hz1 hk1 hS => absurd hw (fun h => h))
  rw [hQQ]
  exact vx_out (fun x h => (hex x h).elim) hlocks hce hcv hcl (fun t9 ht9 hal => ⟨(), trivial, hBX, hS.F ht9⟩) hS.2.2 (Nat.le_of_ble_eq_true rfl) (Nat.le_of_ble_eq_true rfl)
theorem dX11_change_0 : decode cX11_change 0 = .ok (.aload_n 0, 1) := by decide +kernel
theorem dX11_change_1 : decode cX11_change 1 = .ok (.iload_n 1, 1) := by decide +kernel
theorem dX11_change_2 : decode cX11_change 2 = .ok (.invokevirtual 189, 3) := by decide +kernel
def wf_change : List Cond := .code yX11_change cX11_change 4 (some .int) :: wsV RX11 189 RX11 yX11_needDiagram wf_needDiagram
theorem gf_X11_change : GoodIn wf_change (wsV RX11 189 RX11 yX11_needDiagram wf_needDiagram) := goodIn_sub (fun _ h => List.mem_cons_of_mem _ h) (by decide +kernel)
set_option maxHeartbeats 4000000 in
set_option maxRecDepth 100000 in
theorem kf_X11_change (l : Launch) (dC : Nat → ClassId) (dI : Nat → Nat → Nat) (cI cB cJ cZ : ClassId) (hlt : l.stackTraces = false) (h0 sa : Nat) (u : Nat → Nat) (p0 p1 : Int32) : vx_Met l yX11_change wf_change (({ frames := 7, cells := 1, slots := 6, locals := 111 } : Room)) (va_Pc [.ref h0, .int p0, .int p1] (fun U => va_P (dC, dI) vwCl [(h0, .inr (14, [.ref (u 0), .ref (u 1), .ref (u 2), .ref (u 3), .ref (u 4), .ref (u 5), .ref (u 6), .ref (u 7), .ref (u 8), .ref (u 9), .ref (u 10), .ref (u 11), .ref (u 12), .ref (u 13), .ref (u 14), .ref (u 15), .ref (u 16), .ref (u 17), .ref (u 18)])), ((u 0), .inr (6, [.ref (u 19), .ref (u 20), .ref (u 21), .ref (u 22), .int 0])), ((u 20), .inl (cB, 40, .inl (fun _ => 0)))] U.heap ∧ va_K (dC, dI) vwCl [(cI, .int), (cB, .byte), (cJ, .long), (cZ, .boolean)] U ∧ ow_Th (fun _ => False) RX11 166 "no such diagram" sa "java/lang/IndexOutOfBoundsException" U)) (va_Qi (fun _ (_ : Unit) => False) (fun _ _ => True) (fun _ => False)) (vx_X (fun _ : Unit => True) (fun E _ _ => E = "java/lang/IndexOutOfBoundsException") (fun _ => False)) 1 6 (fun _ => False) := by
  refine vx_ofW (cc := cX11_change) (maxL := 4) (ret := (some .int)) (by decide) rfl ?_
  intro p e s m args below meth c s₁ B hml hex hv
  obtain ⟨rfl, hP, hK, hTh⟩ := hv
  have hx := B.exec
  have hb := B.bytes
  have hr := B.returns
  have hts := atoms_spec (ws := wf_change) B.pre
  have hown : s.vm.findClass RX11 = some m.cls := findClass_of_methodNamed B.named
  have hlocks := B.notSynchronized
  have hS : va_S (fun _ => False) s.heap s.heap [] := va_S.rf
  have hl := lv_entry ([.ref h0, .int p0, .int p1]) (n := 4) (Nat.le_of_ble_eq_true rfl)
  rw [lg_entry_eq]
  generalize (lg_sl ([.ref h0, .int p0, .int p1]) ++ List.replicate (4 - (lg_sl ([.ref h0, .int p0, .int p1])).length) Slot.unset).toArray = ls at hl ⊢
  have hl : lv_has ls 4 [(0, .ref h0), (1, .int p0), (2, .int p1)] := hl
  refine ow_named (fun QQ hQQ => ?_)
  refine lv_aload_n hx hb dX11_change_0 rfl (lv_at hl 0 rfl) ?_
  refine lv_iload_n hx hb dX11_change_1 rfl (lv_at hl 1 rfl) ?_
  refine vx_callv (vx_runV (As := [.int p0]) (rest := []) ⟨hx, hb, hml, hown, hts⟩ (kf_X11_needDiagram l dC dI cI cB cJ cZ hlt h0 sa u p0) (cwV 1 hts gf_X11_change rfl rfl rfl (by decide +kernel) ⟨(Nat.le_of_ble_eq_true rfl), (Nat.le_of_ble_eq_true rfl)⟩) ⟨fun a U g mk q => by obtain ⟨q0, qP, qK, qT⟩ := q; exact ⟨q0, qP, va_K.moved (u := U) (U := U.calling g mk a) (Vm.Alike.refl U.vm) qK, ow_Th.same (u := U) (U := U.calling g mk a) rfl rfl qT⟩, va_recv hK hP (ci := 14) (q0 := 0) rfl rfl, fun U hU hW => ⟨rfl, by rw [hU]; exact hP, va_K.moved hW.alike hK, ow_Th.to hTh hS hW hU (fun q h => h)⟩⟩ rfl rfl hl.1 rfl (lv_room (Nat.le_of_ble_eq_true rfl)) dX11_change_2 ⟨(Nat.le_of_ble_eq_true rfl), (Nat.le_of_ble_eq_true rfl)⟩) hS (fun q _ h => h.elim) (fun q h => h.elim) (fun q _ h => h.elim) (fun E ce q9 u9 t H1 locs ht hvm hpx hBX hz1 hk1 hS hce hcv hcl => ?_) (fun u9 t H1 locs ht hvm hw hB hz1 hk1 hS => absurd hw (fun h => h))
  rw [hQQ]
  exact vx_out (fun x h => (hex x h).elim) hlocks hce hcv hcl (fun t9 ht9 hal => ⟨(), trivial, hBX, hS.F ht9⟩) hS.2.2 (Nat.le_of_ble_eq_true rfl) (Nat.le_of_ble_eq_true rfl)
theorem dX11_smooth_0 : decode cX11_smooth 0 = .ok (.aload_n 0, 1) := by decide +kernel
theorem dX11_smooth_1 : decode cX11_smooth 1 = .ok (.iload_n 1, 1) := by decide +kernel
theorem dX11_smooth_2 : decode cX11_smooth 2 = .ok (.invokevirtual 189, 3) := by decide +kernel
def wf_smooth : List Cond := .code yX11_smooth cX11_smooth 3 (some .int) :: wsV RX11 189 RX11 yX11_needDiagram wf_needDiagram
theorem gf_X11_smooth : GoodIn wf_smooth (wsV RX11 189 RX11 yX11_needDiagram wf_needDiagram) := goodIn_sub (fun _ h => List.mem_cons_of_mem _ h) (by decide +kernel)
set_option maxHeartbeats 4000000 in
set_option maxRecDepth 100000 in
theorem kf_X11_smooth (l : Launch) (dC : Nat → ClassId) (dI : Nat → Nat → Nat) (cI cB cJ cZ : ClassId) (hlt : l.stackTraces = false) (h0 sa : Nat) (u : Nat → Nat) (p0 p1 : Int32) : vx_Met l yX11_smooth wf_smooth (({ frames := 7, cells := 1, slots := 6, locals := 111 } : Room)) (va_Pc [.ref h0, .int p0, .int p1] (fun U => va_P (dC, dI) vwCl [(h0, .inr (14, [.ref (u 0), .ref (u 1), .ref (u 2), .ref (u 3), .ref (u 4), .ref (u 5), .ref (u 6), .ref (u 7), .ref (u 8), .ref (u 9), .ref (u 10), .ref (u 11), .ref (u 12), .ref (u 13), .ref (u 14), .ref (u 15), .ref (u 16), .ref (u 17), .ref (u 18)])), ((u 0), .inr (6, [.ref (u 19), .ref (u 20), .ref (u 21), .ref (u 22), .int 0])), ((u 20), .inl (cB, 40, .inl (fun _ => 0)))] U.heap ∧ va_K (dC, dI) vwCl [(cI, .int), (cB, .byte), (cJ, .long), (cZ, .boolean)] U ∧ ow_Th (fun _ => False) RX11 166 "no such diagram" sa "java/lang/IndexOutOfBoundsException" U)) (va_Qi (fun _ (_ : Unit) => False) (fun _ _ => True) (fun _ => False)) (vx_X (fun _ : Unit => True) (fun E _ _ => E = "java/lang/IndexOutOfBoundsException") (fun _ => False)) 1 6 (fun _ => False) := by
  refine vx_ofW (cc := cX11_smooth) (maxL := 3) (ret := (some .int)) (by decide) rfl ?_
  intro p e s m args below meth c s₁ B hml hex hv
  obtain ⟨rfl, hP, hK, hTh⟩ := hv
  have hx := B.exec
  have hb := B.bytes
  have hr := B.returns
  have hts := atoms_spec (ws := wf_smooth) B.pre
  have hown : s.vm.findClass RX11 = some m.cls := findClass_of_methodNamed B.named
  have hlocks := B.notSynchronized
  have hS : va_S (fun _ => False) s.heap s.heap [] := va_S.rf
  have hl := lv_entry ([.ref h0, .int p0, .int p1]) (n := 3) (Nat.le_of_ble_eq_true rfl)
  rw [lg_entry_eq]
  generalize (lg_sl ([.ref h0, .int p0, .int p1]) ++ List.replicate (3 - (lg_sl ([.ref h0, .int p0, .int p1])).length) Slot.unset).toArray = ls at hl ⊢
  have hl : lv_has ls 3 [(0, .ref h0), (1, .int p0), (2, .int p1)] := hl
  refine ow_named (fun QQ hQQ => ?_)
  refine lv_aload_n hx hb dX11_smooth_0 rfl (lv_at hl 0 rfl) ?_
  refine lv_iload_n hx hb dX11_smooth_1 rfl (lv_at hl 1 rfl) ?_
  refine vx_callv (vx_runV (As := [.int p0]) (rest := []) ⟨hx, hb, hml, hown, hts⟩ (kf_X11_needDiagram l dC dI cI cB cJ cZ hlt h0 sa u p0) (cwV 1 hts gf_X11_smooth rfl rfl rfl (by decide +kernel) ⟨(Nat.le_of_ble_eq_true rfl), (Nat.le_of_ble_eq_true rfl)⟩) ⟨fun a U g mk q => by obtain ⟨q0, qP, qK, qT⟩ := q; exact ⟨q0, qP, va_K.moved (u := U) (U := U.calling g mk a) (Vm.Alike.refl U.vm) qK, ow_Th.same (u := U) (U := U.calling g mk a) rfl rfl qT⟩, va_recv hK hP (ci := 14) (q0 := 0) rfl rfl, fun U hU hW => ⟨rfl, by rw [hU]; exact hP, va_K.moved hW.alike hK, ow_Th.to hTh hS hW hU (fun q h => h)⟩⟩ rfl rfl hl.1 rfl (lv_room (Nat.le_of_ble_eq_true rfl)) dX11_smooth_2 ⟨(Nat.le_of_ble_eq_true rfl), (Nat.le_of_ble_eq_true rfl)⟩) hS (fun q _ h => h.elim) (fun q h => h.elim) (fun q _ h => h.elim) (fun E ce q9 u9 t H1 locs ht hvm hpx hBX hz1 hk1 hS hce hcv hcl => ?_) (fun u9 t H1 locs ht hvm hw hB hz1 hk1 hS => absurd hw (fun h => h))
  rw [hQQ]
  exact vx_out (fun x h => (hex x h).elim) hlocks hce hcv hcl (fun t9 ht9 hal => ⟨(), trivial, hBX, hS.F ht9⟩) hS.2.2 (Nat.le_of_ble_eq_true rfl) (Nat.le_of_ble_eq_true rfl)
theorem dX11_apart_0 : decode cX11_apart 0 = .ok (.aload_n 0, 1) := by decide +kernel
theorem dX11_apart_1 : decode cX11_apart 1 = .ok (.iload_n 1, 1) := by decide +kernel
theorem dX11_apart_2 : decode cX11_apart 2 = .ok (.invokevirtual 189, 3) := by decide +kernel
def wf_apart : List Cond := .code yX11_apart cX11_apart 4 (some .int) :: wsV RX11 189 RX11 yX11_needDiagram wf_needDiagram
theorem gf_X11_apart : GoodIn wf_apart (wsV RX11 189 RX11 yX11_needDiagram wf_needDiagram) := goodIn_sub (fun _ h => List.mem_cons_of_mem _ h) (by decide +kernel)
set_option maxHeartbeats 4000000 in
set_option maxRecDepth 100000 in
theorem kf_X11_apart (l : Launch) (dC : Nat → ClassId) (dI : Nat → Nat → Nat) (cI cB cJ cZ : ClassId) (hlt : l.stackTraces = false) (h0 sa : Nat) (u : Nat → Nat) (p0 p1 : Int32) : vx_Met l yX11_apart wf_apart (({ frames := 7, cells := 1, slots := 6, locals := 111 } : Room)) (va_Pc [.ref h0, .int p0, .int p1] (fun U => va_P (dC, dI) vwCl [(h0, .inr (14, [.ref (u 0), .ref (u 1), .ref (u 2), .ref (u 3), .ref (u 4), .ref (u 5), .ref (u 6), .ref (u 7), .ref (u 8), .ref (u 9), .ref (u 10), .ref (u 11), .ref (u 12), .ref (u 13), .ref (u 14), .ref (u 15), .ref (u 16), .ref (u 17), .ref (u 18)])), ((u 0), .inr (6, [.ref (u 19), .ref (u 20), .ref (u 21), .ref (u 22), .int 0])), ((u 20), .inl (cB, 40, .inl (fun _ => 0)))] U.heap ∧ va_K (dC, dI) vwCl [(cI, .int), (cB, .byte), (cJ, .long), (cZ, .boolean)] U ∧ ow_Th (fun _ => False) RX11 166 "no such diagram" sa "java/lang/IndexOutOfBoundsException" U)) (va_Qi (fun _ (_ : Unit) => False) (fun _ _ => True) (fun _ => False)) (vx_X (fun _ : Unit => True) (fun E _ _ => E = "java/lang/IndexOutOfBoundsException") (fun _ => False)) 1 6 (fun _ => False) := by
  refine vx_ofW (cc := cX11_apart) (maxL := 4) (ret := (some .int)) (by decide) rfl ?_
  intro p e s m args below meth c s₁ B hml hex hv
  obtain ⟨rfl, hP, hK, hTh⟩ := hv
  have hx := B.exec
  have hb := B.bytes
  have hr := B.returns
  have hts := atoms_spec (ws := wf_apart) B.pre
  have hown : s.vm.findClass RX11 = some m.cls := findClass_of_methodNamed B.named
  have hlocks := B.notSynchronized
  have hS : va_S (fun _ => False) s.heap s.heap [] := va_S.rf
  have hl := lv_entry ([.ref h0, .int p0, .int p1]) (n := 4) (Nat.le_of_ble_eq_true rfl)
  rw [lg_entry_eq]
  generalize (lg_sl ([.ref h0, .int p0, .int p1]) ++ List.replicate (4 - (lg_sl ([.ref h0, .int p0, .int p1])).length) Slot.unset).toArray = ls at hl ⊢
  have hl : lv_has ls 4 [(0, .ref h0), (1, .int p0), (2, .int p1)] := hl
  refine ow_named (fun QQ hQQ => ?_)
  refine lv_aload_n hx hb dX11_apart_0 rfl (lv_at hl 0 rfl) ?_
  refine lv_iload_n hx hb dX11_apart_1 rfl (lv_at hl 1 rfl) ?_
  refine vx_callv (vx_runV (As := [.int p0]) (rest := []) ⟨hx, hb, hml, hown, hts⟩ (kf_X11_needDiagram l dC dI cI cB cJ cZ hlt h0 sa u p0) (cwV 1 hts gf_X11_apart rfl rfl rfl (by decide +kernel) ⟨(Nat.le_of_ble_eq_true rfl), (Nat.le_of_ble_eq_true rfl)⟩) ⟨fun a U g mk q => by obtain ⟨q0, qP, qK, qT⟩ := q; exact ⟨q0, qP, va_K.moved (u := U) (U := U.calling g mk a) (Vm.Alike.refl U.vm) qK, ow_Th.same (u := U) (U := U.calling g mk a) rfl rfl qT⟩, va_recv hK hP (ci := 14) (q0 := 0) rfl rfl, fun U hU hW => ⟨rfl, by rw [hU]; exact hP, va_K.moved hW.alike hK, ow_Th.to hTh hS hW hU (fun q h => h)⟩⟩ rfl rfl hl.1 rfl (lv_room (Nat.le_of_ble_eq_true rfl)) dX11_apart_2 ⟨(Nat.le_of_ble_eq_true rfl), (Nat.le_of_ble_eq_true rfl)⟩) hS (fun q _ h => h.elim) (fun q h => h.elim) (fun q _ h => h.elim) (fun E ce q9 u9 t H1 locs ht hvm hpx hBX hz1 hk1 hS hce hcv hcl => ?_) (fun u9 t H1 locs ht hvm hw hB hz1 hk1 hS => absurd hw (fun h => h))
  rw [hQQ]
  exact vx_out (fun x h => (hex x h).elim) hlocks hce hcv hcl (fun t9 ht9 hal => ⟨(), trivial, hBX, hS.F ht9⟩) hS.2.2 (Nat.le_of_ble_eq_true rfl) (Nat.le_of_ble_eq_true rfl)
theorem dX11_join_0 : decode cX11_join 0 = .ok (.aload_n 0, 1) := by decide +kernel
theorem dX11_join_1 : decode cX11_join 1 = .ok (.iload_n 1, 1) := by decide +kernel
theorem dX11_join_2 : decode cX11_join 2 = .ok (.invokevirtual 189, 3) := by decide +kernel
def wf_join : List Cond := .code yX11_join cX11_join 8 (some .int) :: wsV RX11 189 RX11 yX11_needDiagram wf_needDiagram
theorem gf_X11_join : GoodIn wf_join (wsV RX11 189 RX11 yX11_needDiagram wf_needDiagram) := goodIn_sub (fun _ h => List.mem_cons_of_mem _ h) (by decide +kernel)
set_option maxHeartbeats 4000000 in
set_option maxRecDepth 100000 in
theorem kf_X11_join (l : Launch) (dC : Nat → ClassId) (dI : Nat → Nat → Nat) (cI cB cJ cZ : ClassId) (hlt : l.stackTraces = false) (h0 sa : Nat) (u : Nat → Nat) (p0 p1 p2 p3 : Int32) : vx_Met l yX11_join wf_join (({ frames := 7, cells := 1, slots := 6, locals := 111 } : Room)) (va_Pc [.ref h0, .int p0, .int p1, .int p2, .int p3] (fun U => va_P (dC, dI) vwCl [(h0, .inr (14, [.ref (u 0), .ref (u 1), .ref (u 2), .ref (u 3), .ref (u 4), .ref (u 5), .ref (u 6), .ref (u 7), .ref (u 8), .ref (u 9), .ref (u 10), .ref (u 11), .ref (u 12), .ref (u 13), .ref (u 14), .ref (u 15), .ref (u 16), .ref (u 17), .ref (u 18)])), ((u 0), .inr (6, [.ref (u 19), .ref (u 20), .ref (u 21), .ref (u 22), .int 0])), ((u 20), .inl (cB, 40, .inl (fun _ => 0)))] U.heap ∧ va_K (dC, dI) vwCl [(cI, .int), (cB, .byte), (cJ, .long), (cZ, .boolean)] U ∧ ow_Th (fun _ => False) RX11 166 "no such diagram" sa "java/lang/IndexOutOfBoundsException" U)) (va_Qi (fun _ (_ : Unit) => False) (fun _ _ => True) (fun _ => False)) (vx_X (fun _ : Unit => True) (fun E _ _ => E = "java/lang/IndexOutOfBoundsException") (fun _ => False)) 1 6 (fun _ => False) := by
  refine vx_ofW (cc := cX11_join) (maxL := 8) (ret := (some .int)) (by decide) rfl ?_
  intro p e s m args below meth c s₁ B hml hex hv
  obtain ⟨rfl, hP, hK, hTh⟩ := hv
  have hx := B.exec
  have hb := B.bytes
  have hr := B.returns
  have hts := atoms_spec (ws := wf_join) B.pre
  have hown : s.vm.findClass RX11 = some m.cls := findClass_of_methodNamed B.named
  have hlocks := B.notSynchronized
  have hS : va_S (fun _ => False) s.heap s.heap [] := va_S.rf
  have hl := lv_entry ([.ref h0, .int p0, .int p1, .int p2, .int p3]) (n := 8) (Nat.le_of_ble_eq_true rfl)
  rw [lg_entry_eq]
  generalize (lg_sl ([.ref h0, .int p0, .int p1, .int p2, .int p3]) ++ List.replicate (8 - (lg_sl ([.ref h0, .int p0, .int p1, .int p2, .int p3])).length) Slot.unset).toArray = ls at hl ⊢
  have hl : lv_has ls 8 [(0, .ref h0), (1, .int p0), (2, .int p1), (3, .int p2), (4, .int p3)] := hl
  refine ow_named (fun QQ hQQ => ?_)
  refine lv_aload_n hx hb dX11_join_0 rfl (lv_at hl 0 rfl) ?_
  refine lv_iload_n hx hb dX11_join_1 rfl (lv_at hl 1 rfl) ?_
  refine vx_callv (vx_runV (As := [.int p0]) (rest := []) ⟨hx, hb, hml, hown, hts⟩ (kf_X11_needDiagram l dC dI cI cB cJ cZ hlt h0 sa u p0) (cwV 1 hts gf_X11_join rfl rfl rfl (by decide +kernel) ⟨(Nat.le_of_ble_eq_true rfl), (Nat.le_of_ble_eq_true rfl)⟩) ⟨fun a U g mk q => by obtain ⟨q0, qP, qK, qT⟩ := q; exact ⟨q0, qP, va_K.moved (u := U) (U := U.calling g mk a) (Vm.Alike.refl U.vm) qK, ow_Th.same (u := U) (U := U.calling g mk a) rfl rfl qT⟩, va_recv hK hP (ci := 14) (q0 := 0) rfl rfl, fun U hU hW => ⟨rfl, by rw [hU]; exact hP, va_K.moved hW.alike hK, ow_Th.to hTh hS hW hU (fun q h => h)⟩⟩ rfl rfl hl.1 rfl (lv_room (Nat.le_of_ble_eq_true rfl)) dX11_join_2 ⟨(Nat.le_of_ble_eq_true rfl), (Nat.le_of_ble_eq_true rfl)⟩) hS (fun q _ h => h.elim) (fun q h => h.elim) (fun q _ h => h.elim) (fun E ce q9 u9 t H1 locs ht hvm hpx hBX hz1 hk1 hS hce hcv hcl => ?_) (fun u9 t H1 locs ht hvm hw hB hz1 hk1 hS => absurd hw (fun h => h))
  rw [hQQ]
  exact vx_out (fun x h => (hex x h).elim) hlocks hce hcv hcl (fun t9 ht9 hal => ⟨(), trivial, hBX, hS.F ht9⟩) hS.2.2 (Nat.le_of_ble_eq_true rfl) (Nat.le_of_ble_eq_true rfl)
theorem dX11_moves_0 : decode cX11_moves 0 = .ok (.aload_n 0, 1) := by decide +kernel
theorem dX11_moves_1 : decode cX11_moves 1 = .ok (.iload_n 1, 1) := by decide +kernel
theorem dX11_moves_2 : decode cX11_moves 2 = .ok (.invokevirtual 189, 3) := by decide +kernel
def wf_moves : List Cond := .code yX11_moves cX11_moves 3 (some .int) :: wsV RX11 189 RX11 yX11_needDiagram wf_needDiagram
theorem gf_X11_moves : GoodIn wf_moves (wsV RX11 189 RX11 yX11_needDiagram wf_needDiagram) := goodIn_sub (fun _ h => List.mem_cons_of_mem _ h) (by decide +kernel)
set_option maxHeartbeats 4000000 in
set_option maxRecDepth 100000 in
theorem kf_X11_moves (l : Launch) (dC : Nat → ClassId) (dI : Nat → Nat → Nat) (cI cB cJ cZ : ClassId) (hlt : l.stackTraces = false) (h0 sa : Nat) (u : Nat → Nat) (p0 p1 : Int32) : vx_Met l yX11_moves wf_moves (({ frames := 7, cells := 1, slots := 6, locals := 111 } : Room)) (va_Pc [.ref h0, .int p0, .int p1] (fun U => va_P (dC, dI) vwCl [(h0, .inr (14, [.ref (u 0), .ref (u 1), .ref (u 2), .ref (u 3), .ref (u 4), .ref (u 5), .ref (u 6), .ref (u 7), .ref (u 8), .ref (u 9), .ref (u 10), .ref (u 11), .ref (u 12), .ref (u 13), .ref (u 14), .ref (u 15), .ref (u 16), .ref (u 17), .ref (u 18)])), ((u 0), .inr (6, [.ref (u 19), .ref (u 20), .ref (u 21), .ref (u 22), .int 0])), ((u 20), .inl (cB, 40, .inl (fun _ => 0)))] U.heap ∧ va_K (dC, dI) vwCl [(cI, .int), (cB, .byte), (cJ, .long), (cZ, .boolean)] U ∧ ow_Th (fun _ => False) RX11 166 "no such diagram" sa "java/lang/IndexOutOfBoundsException" U)) (va_Qi (fun _ (_ : Unit) => False) (fun _ _ => True) (fun _ => False)) (vx_X (fun _ : Unit => True) (fun E _ _ => E = "java/lang/IndexOutOfBoundsException") (fun _ => False)) 1 6 (fun _ => False) := by
  refine vx_ofW (cc := cX11_moves) (maxL := 3) (ret := (some .int)) (by decide) rfl ?_
  intro p e s m args below meth c s₁ B hml hex hv
  obtain ⟨rfl, hP, hK, hTh⟩ := hv
  have hx := B.exec
  have hb := B.bytes
  have hr := B.returns
  have hts := atoms_spec (ws := wf_moves) B.pre
  have hown : s.vm.findClass RX11 = some m.cls := findClass_of_methodNamed B.named
  have hlocks := B.notSynchronized
  have hS : va_S (fun _ => False) s.heap s.heap [] := va_S.rf
  have hl := lv_entry ([.ref h0, .int p0, .int p1]) (n := 3) (Nat.le_of_ble_eq_true rfl)
  rw [lg_entry_eq]
  generalize (lg_sl ([.ref h0, .int p0, .int p1]) ++ List.replicate (3 - (lg_sl ([.ref h0, .int p0, .int p1])).length) Slot.unset).toArray = ls at hl ⊢
  have hl : lv_has ls 3 [(0, .ref h0), (1, .int p0), (2, .int p1)] := hl
  refine ow_named (fun QQ hQQ => ?_)
  refine lv_aload_n hx hb dX11_moves_0 rfl (lv_at hl 0 rfl) ?_
  refine lv_iload_n hx hb dX11_moves_1 rfl (lv_at hl 1 rfl) ?_
  refine vx_callv (vx_runV (As := [.int p0]) (rest := []) ⟨hx, hb, hml, hown, hts⟩ (kf_X11_needDiagram l dC dI cI cB cJ cZ hlt h0 sa u p0) (cwV 1 hts gf_X11_moves rfl rfl rfl (by decide +kernel) ⟨(Nat.le_of_ble_eq_true rfl), (Nat.le_of_ble_eq_true rfl)⟩) ⟨fun a U g mk q => by obtain ⟨q0, qP, qK, qT⟩ := q; exact ⟨q0, qP, va_K.moved (u := U) (U := U.calling g mk a) (Vm.Alike.refl U.vm) qK, ow_Th.same (u := U) (U := U.calling g mk a) rfl rfl qT⟩, va_recv hK hP (ci := 14) (q0 := 0) rfl rfl, fun U hU hW => ⟨rfl, by rw [hU]; exact hP, va_K.moved hW.alike hK, ow_Th.to hTh hS hW hU (fun q h => h)⟩⟩ rfl rfl hl.1 rfl (lv_room (Nat.le_of_ble_eq_true rfl)) dX11_moves_2 ⟨(Nat.le_of_ble_eq_true rfl), (Nat.le_of_ble_eq_true rfl)⟩) hS (fun q _ h => h.elim) (fun q h => h.elim) (fun q _ h => h.elim) (fun E ce q9 u9 t H1 locs ht hvm hpx hBX hz1 hk1 hS hce hcv hcl => ?_) (fun u9 t H1 locs ht hvm hw hB hz1 hk1 hS => absurd hw (fun h => h))
  rw [hQQ]
  exact vx_out (fun x h => (hex x h).elim) hlocks hce hcv hcl (fun t9 ht9 hal => ⟨(), trivial, hBX, hS.F ht9⟩) hS.2.2 (Nat.le_of_ble_eq_true rfl) (Nat.le_of_ble_eq_true rfl)
theorem dX11_simplify_0 : decode cX11_simplify 0 = .ok (.aload_n 0, 1) := by decide +kernel
theorem dX11_simplify_1 : decode cX11_simplify 1 = .ok (.iload_n 1, 1) := by decide +kernel
theorem dX11_simplify_2 : decode cX11_simplify 2 = .ok (.invokevirtual 189, 3) := by decide +kernel
def wf_simplify : List Cond := .code yX11_simplify cX11_simplify 4 (some .int) :: wsV RX11 189 RX11 yX11_needDiagram wf_needDiagram
theorem gf_X11_simplify : GoodIn wf_simplify (wsV RX11 189 RX11 yX11_needDiagram wf_needDiagram) := goodIn_sub (fun _ h => List.mem_cons_of_mem _ h) (by decide +kernel)
set_option maxHeartbeats 4000000 in
set_option maxRecDepth 100000 in
theorem kf_X11_simplify (l : Launch) (dC : Nat → ClassId) (dI : Nat → Nat → Nat) (cI cB cJ cZ : ClassId) (hlt : l.stackTraces = false) (h0 sa : Nat) (u : Nat → Nat) (p0 : Int32) : vx_Met l yX11_simplify wf_simplify (({ frames := 7, cells := 1, slots := 6, locals := 111 } : Room)) (va_Pc [.ref h0, .int p0] (fun U => va_P (dC, dI) vwCl [(h0, .inr (14, [.ref (u 0), .ref (u 1), .ref (u 2), .ref (u 3), .ref (u 4), .ref (u 5), .ref (u 6), .ref (u 7), .ref (u 8), .ref (u 9), .ref (u 10), .ref (u 11), .ref (u 12), .ref (u 13), .ref (u 14), .ref (u 15), .ref (u 16), .ref (u 17), .ref (u 18)])), ((u 0), .inr (6, [.ref (u 19), .ref (u 20), .ref (u 21), .ref (u 22), .int 0])), ((u 20), .inl (cB, 40, .inl (fun _ => 0)))] U.heap ∧ va_K (dC, dI) vwCl [(cI, .int), (cB, .byte), (cJ, .long), (cZ, .boolean)] U ∧ ow_Th (fun _ => False) RX11 166 "no such diagram" sa "java/lang/IndexOutOfBoundsException" U)) (va_Qi (fun _ (_ : Unit) => False) (fun _ _ => True) (fun _ => False)) (vx_X (fun _ : Unit => True) (fun E _ _ => E = "java/lang/IndexOutOfBoundsException") (fun _ => False)) 1 6 (fun _ => False) := by
  refine vx_ofW (cc := cX11_simplify) (maxL := 4) (ret := (some .int)) (by decide) rfl ?_
  intro p e s m args below meth c s₁ B hml hex hv
  obtain ⟨rfl, hP, hK, hTh⟩ := hv
  have hx := B.exec
  have hb := B.bytes
  have hr := B.returns
  have hts := atoms_spec (ws := wf_simplify) B.pre
  have hown : s.vm.findClass RX11 = some m.cls := findClass_of_methodNamed B.named
  have hlocks := B.notSynchronized
  have hS : va_S (fun _ => False) s.heap s.heap [] := va_S.rf
  have hl := lv_entry ([.ref h0, .int p0]) (n := 4) (Nat.le_of_ble_eq_true rfl)
  rw [lg_entry_eq]
  generalize (lg_sl ([.ref h0, .int p0]) ++ List.replicate (4 - (lg_sl ([.ref h0, .int p0])).length) Slot.unset).toArray = ls at hl ⊢
  have hl : lv_has ls 4 [(0, .ref h0), (1, .int p0)] := hl
  refine ow_named (fun QQ hQQ => ?_)
  refine lv_aload_n hx hb dX11_simplify_0 rfl (lv_at hl 0 rfl) ?_
  refine lv_iload_n hx hb dX11_simplify_1 rfl (lv_at hl 1 rfl) ?_
  refine vx_callv (vx_runV (As := [.int p0]) (rest := []) ⟨hx, hb, hml, hown, hts⟩ (kf_X11_needDiagram l dC dI cI cB cJ cZ hlt h0 sa u p0) (cwV 1 hts gf_X11_simplify rfl rfl rfl (by decide +kernel) ⟨(Nat.le_of_ble_eq_true rfl), (Nat.le_of_ble_eq_true rfl)⟩) ⟨fun a U g mk q => by obtain ⟨q0, qP, qK, qT⟩ := q; exact ⟨q0, qP, va_K.moved (u := U) (U := U.calling g mk a) (Vm.Alike.refl U.vm) qK, ow_Th.same (u := U) (U := U.calling g mk a) rfl rfl qT⟩, va_recv hK hP (ci := 14) (q0 := 0) rfl rfl, fun U hU hW => ⟨rfl, by rw [hU]; exact hP, va_K.moved hW.alike hK, ow_Th.to hTh hS hW hU (fun q h => h)⟩⟩ rfl rfl hl.1 rfl (lv_room (Nat.le_of_ble_eq_true rfl)) dX11_simplify_2 ⟨(Nat.le_of_ble_eq_true rfl), (Nat.le_of_ble_eq_true rfl)⟩) hS (fun q _ h => h.elim) (fun q h => h.elim) (fun q _ h => h.elim) (fun E ce q9 u9 t H1 locs ht hvm hpx hBX hz1 hk1 hS hce hcv hcl => ?_) (fun u9 t H1 locs ht hvm hw hB hz1 hk1 hS => absurd hw (fun h => h))
  rw [hQQ]
  exact vx_out (fun x h => (hex x h).elim) hlocks hce hcv hcl (fun t9 ht9 hal => ⟨(), trivial, hBX, hS.F ht9⟩) hS.2.2 (Nat.le_of_ble_eq_true rfl) (Nat.le_of_ble_eq_true rfl)
theorem dX11_way_0 : decode cX11_way 0 = .ok (.aload_n 0, 1) := by decide +kernel
theorem dX11_way_1 : decode cX11_way 1 = .ok (.iload_n 1, 1) := by decide +kernel
theorem dX11_way_2 : decode cX11_way 2 = .ok (.invokevirtual 189, 3) := by decide +kernel
def wf_way : List Cond := .code yX11_way cX11_way 3 (some .int) :: wsV RX11 189 RX11 yX11_needDiagram wf_needDiagram
theorem gf_X11_way : GoodIn wf_way (wsV RX11 189 RX11 yX11_needDiagram wf_needDiagram) := goodIn_sub (fun _ h => List.mem_cons_of_mem _ h) (by decide +kernel)
set_option maxHeartbeats 4000000 in
set_option maxRecDepth 100000 in
theorem kf_X11_way (l : Launch) (dC : Nat → ClassId) (dI : Nat → Nat → Nat) (cI cB cJ cZ : ClassId) (hlt : l.stackTraces = false) (h0 sa : Nat) (u : Nat → Nat) (p0 p1 : Int32) : vx_Met l yX11_way wf_way (({ frames := 7, cells := 1, slots := 6, locals := 111 } : Room)) (va_Pc [.ref h0, .int p0, .int p1] (fun U => va_P (dC, dI) vwCl [(h0, .inr (14, [.ref (u 0), .ref (u 1), .ref (u 2), .ref (u 3), .ref (u 4), .ref (u 5), .ref (u 6), .ref (u 7), .ref (u 8), .ref (u 9), .ref (u 10), .ref (u 11), .ref (u 12), .ref (u 13), .ref (u 14), .ref (u 15), .ref (u 16), .ref (u 17), .ref (u 18)])), ((u 0), .inr (6, [.ref (u 19), .ref (u 20), .ref (u 21), .ref (u 22), .int 0])), ((u 20), .inl (cB, 40, .inl (fun _ => 0)))] U.heap ∧ va_K (dC, dI) vwCl [(cI, .int), (cB, .byte), (cJ, .long), (cZ, .boolean)] U ∧ ow_Th (fun _ => False) RX11 166 "no such diagram" sa "java/lang/IndexOutOfBoundsException" U)) (va_Qi (fun _ (_ : Unit) => False) (fun _ _ => True) (fun _ => False)) (vx_X (fun _ : Unit => True) (fun E _ _ => E = "java/lang/IndexOutOfBoundsException") (fun _ => False)) 1 6 (fun _ => False) := by
  refine vx_ofW (cc := cX11_way) (maxL := 3) (ret := (some .int)) (by decide) rfl ?_
  intro p e s m args below meth c s₁ B hml hex hv
  obtain ⟨rfl, hP, hK, hTh⟩ := hv
  have hx := B.exec
  have hb := B.bytes
  have hr := B.returns
  have hts := atoms_spec (ws := wf_way) B.pre
  have hown : s.vm.findClass RX11 = some m.cls := findClass_of_methodNamed B.named
  have hlocks := B.notSynchronized
  have hS : va_S (fun _ => False) s.heap s.heap [] := va_S.rf
  have hl := lv_entry ([.ref h0, .int p0, .int p1]) (n := 3) (Nat.le_of_ble_eq_true rfl)
  rw [lg_entry_eq]
  generalize (lg_sl ([.ref h0, .int p0, .int p1]) ++ List.replicate (3 - (lg_sl ([.ref h0, .int p0, .int p1])).length) Slot.unset).toArray = ls at hl ⊢
  have hl : lv_has ls 3 [(0, .ref h0), (1, .int p0), (2, .int p1)] := hl
  refine ow_named (fun QQ hQQ => ?_)
  refine lv_aload_n hx hb dX11_way_0 rfl (lv_at hl 0 rfl) ?_
  refine lv_iload_n hx hb dX11_way_1 rfl (lv_at hl 1 rfl) ?_
  refine vx_callv (vx_runV (As := [.int p0]) (rest := []) ⟨hx, hb, hml, hown, hts⟩ (kf_X11_needDiagram l dC dI cI cB cJ cZ hlt h0 sa u p0) (cwV 1 hts gf_X11_way rfl rfl rfl (by decide +kernel) ⟨(Nat.le_of_ble_eq_true rfl), (Nat.le_of_ble_eq_true rfl)⟩) ⟨fun a U g mk q => by obtain ⟨q0, qP, qK, qT⟩ := q; exact ⟨q0, qP, va_K.moved (u := U) (U := U.calling g mk a) (Vm.Alike.refl U.vm) qK, ow_Th.same (u := U) (U := U.calling g mk a) rfl rfl qT⟩, va_recv hK hP (ci := 14) (q0 := 0) rfl rfl, fun U hU hW => ⟨rfl, by rw [hU]; exact hP, va_K.moved hW.alike hK, ow_Th.to hTh hS hW hU (fun q h => h)⟩⟩ rfl rfl hl.1 rfl (lv_room (Nat.le_of_ble_eq_true rfl)) dX11_way_2 ⟨(Nat.le_of_ble_eq_true rfl), (Nat.le_of_ble_eq_true rfl)⟩) hS (fun q _ h => h.elim) (fun q h => h.elim) (fun q _ h => h.elim) (fun E ce q9 u9 t H1 locs ht hvm hpx hBX hz1 hk1 hS hce hcv hcl => ?_) (fun u9 t H1 locs ht hvm hw hB hz1 hk1 hS => absurd hw (fun h => h))
  rw [hQQ]
  exact vx_out (fun x h => (hex x h).elim) hlocks hce hcv hcl (fun t9 ht9 hal => ⟨(), trivial, hBX, hS.F ht9⟩) hS.2.2 (Nat.le_of_ble_eq_true rfl) (Nat.le_of_ble_eq_true rfl)
theorem dX11_summands_0 : decode cX11_summands 0 = .ok (.aload_n 0, 1) := by decide +kernel
theorem dX11_summands_1 : decode cX11_summands 1 = .ok (.iload_n 1, 1) := by decide +kernel
theorem dX11_summands_2 : decode cX11_summands 2 = .ok (.invokevirtual 189, 3) := by decide +kernel
def wf_summands : List Cond := .code yX11_summands cX11_summands 2 (some .int) :: wsV RX11 189 RX11 yX11_needDiagram wf_needDiagram
theorem gf_X11_summands : GoodIn wf_summands (wsV RX11 189 RX11 yX11_needDiagram wf_needDiagram) := goodIn_sub (fun _ h => List.mem_cons_of_mem _ h) (by decide +kernel)
set_option maxHeartbeats 4000000 in
set_option maxRecDepth 100000 in
theorem kf_X11_summands (l : Launch) (dC : Nat → ClassId) (dI : Nat → Nat → Nat) (cI cB cJ cZ : ClassId) (hlt : l.stackTraces = false) (h0 sa : Nat) (u : Nat → Nat) (p0 : Int32) : vx_Met l yX11_summands wf_summands (({ frames := 7, cells := 1, slots := 6, locals := 111 } : Room)) (va_Pc [.ref h0, .int p0] (fun U => va_P (dC, dI) vwCl [(h0, .inr (14, [.ref (u 0), .ref (u 1), .ref (u 2), .ref (u 3), .ref (u 4), .ref (u 5), .ref (u 6), .ref (u 7), .ref (u 8), .ref (u 9), .ref (u 10), .ref (u 11), .ref (u 12), .ref (u 13), .ref (u 14), .ref (u 15), .ref (u 16), .ref (u 17), .ref (u 18)])), ((u 0), .inr (6, [.ref (u 19), .ref (u 20), .ref (u 21), .ref (u 22), .int 0])), ((u 20), .inl (cB, 40, .inl (fun _ => 0)))] U.heap ∧ va_K (dC, dI) vwCl [(cI, .int), (cB, .byte), (cJ, .long), (cZ, .boolean)] U ∧ ow_Th (fun _ => False) RX11 166 "no such diagram" sa "java/lang/IndexOutOfBoundsException" U)) (va_Qi (fun _ (_ : Unit) => False) (fun _ _ => True) (fun _ => False)) (vx_X (fun _ : Unit => True) (fun E _ _ => E = "java/lang/IndexOutOfBoundsException") (fun _ => False)) 1 6 (fun _ => False) := by
  refine vx_ofW (cc := cX11_summands) (maxL := 2) (ret := (some .int)) (by decide) rfl ?_
  intro p e s m args below meth c s₁ B hml hex hv
  obtain ⟨rfl, hP, hK, hTh⟩ := hv
  have hx := B.exec
  have hb := B.bytes
  have hr := B.returns
  have hts := atoms_spec (ws := wf_summands) B.pre
  have hown : s.vm.findClass RX11 = some m.cls := findClass_of_methodNamed B.named
  have hlocks := B.notSynchronized
  have hS : va_S (fun _ => False) s.heap s.heap [] := va_S.rf
  have hl := lv_entry ([.ref h0, .int p0]) (n := 2) (Nat.le_of_ble_eq_true rfl)
  rw [lg_entry_eq]
  generalize (lg_sl ([.ref h0, .int p0]) ++ List.replicate (2 - (lg_sl ([.ref h0, .int p0])).length) Slot.unset).toArray = ls at hl ⊢
  have hl : lv_has ls 2 [(0, .ref h0), (1, .int p0)] := hl
  refine ow_named (fun QQ hQQ => ?_)
  refine lv_aload_n hx hb dX11_summands_0 rfl (lv_at hl 0 rfl) ?_
  refine lv_iload_n hx hb dX11_summands_1 rfl (lv_at hl 1 rfl) ?_
  refine vx_callv (vx_runV (As := [.int p0]) (rest := []) ⟨hx, hb, hml, hown, hts⟩ (kf_X11_needDiagram l dC dI cI cB cJ cZ hlt h0 sa u p0) (cwV 1 hts gf_X11_summands rfl rfl rfl (by decide +kernel) ⟨(Nat.le_of_ble_eq_true rfl), (Nat.le_of_ble_eq_true rfl)⟩) ⟨fun a U g mk q => by obtain ⟨q0, qP, qK, qT⟩ := q; exact ⟨q0, qP, va_K.moved (u := U) (U := U.calling g mk a) (Vm.Alike.refl U.vm) qK, ow_Th.same (u := U) (U := U.calling g mk a) rfl rfl qT⟩, va_recv hK hP (ci := 14) (q0 := 0) rfl rfl, fun U hU hW => ⟨rfl, by rw [hU]; exact hP, va_K.moved hW.alike hK, ow_Th.to hTh hS hW hU (fun q h => h)⟩⟩ rfl rfl hl.1 rfl (lv_room (Nat.le_of_ble_eq_true rfl)) dX11_summands_2 ⟨(Nat.le_of_ble_eq_true rfl), (Nat.le_of_ble_eq_true rfl)⟩) hS (fun q _ h => h.elim) (fun q h => h.elim) (fun q _ h => h.elim) (fun E ce q9 u9 t H1 locs ht hvm hpx hBX hz1 hk1 hS hce hcv hcl => ?_) (fun u9 t H1 locs ht hvm hw hB hz1 hk1 hS => absurd hw (fun h => h))
  rw [hQQ]
  exact vx_out (fun x h => (hex x h).elim) hlocks hce hcv hcl (fun t9 ht9 hal => ⟨(), trivial, hBX, hS.F ht9⟩) hS.2.2 (Nat.le_of_ble_eq_true rfl) (Nat.le_of_ble_eq_true rfl)
theorem dX11_conway_0 : decode cX11_conway 0 = .ok (.aload_n 0, 1) := by decide +kernel
theorem dX11_conway_1 : decode cX11_conway 1 = .ok (.iload_n 1, 1) := by decide +kernel
theorem dX11_conway_2 : decode cX11_conway 2 = .ok (.invokevirtual 189, 3) := by decide +kernel
def wf_conway : List Cond := .code yX11_conway cX11_conway 3 (some .int) :: wsV RX11 189 RX11 yX11_needDiagram wf_needDiagram
theorem gf_X11_conway : GoodIn wf_conway (wsV RX11 189 RX11 yX11_needDiagram wf_needDiagram) := goodIn_sub (fun _ h => List.mem_cons_of_mem _ h) (by decide +kernel)
set_option maxHeartbeats 4000000 in
set_option maxRecDepth 100000 in
theorem kf_X11_conway (l : Launch) (dC : Nat → ClassId) (dI : Nat → Nat → Nat) (cI cB cJ cZ : ClassId) (hlt : l.stackTraces = false) (h0 sa : Nat) (u : Nat → Nat) (p0 p1 : Int32) : vx_Met l yX11_conway wf_conway (({ frames := 7, cells := 1, slots := 6, locals := 111 } : Room)) (va_Pc [.ref h0, .int p0, .int p1] (fun U => va_P (dC, dI) vwCl [(h0, .inr (14, [.ref (u 0), .ref (u 1), .ref (u 2), .ref (u 3), .ref (u 4), .ref (u 5), .ref (u 6), .ref (u 7), .ref (u 8), .ref (u 9), .ref (u 10), .ref (u 11), .ref (u 12), .ref (u 13), .ref (u 14), .ref (u 15), .ref (u 16), .ref (u 17), .ref (u 18)])), ((u 0), .inr (6, [.ref (u 19), .ref (u 20), .ref (u 21), .ref (u 22), .int 0])), ((u 20), .inl (cB, 40, .inl (fun _ => 0)))] U.heap ∧ va_K (dC, dI) vwCl [(cI, .int), (cB, .byte), (cJ, .long), (cZ, .boolean)] U ∧ ow_Th (fun _ => False) RX11 166 "no such diagram" sa "java/lang/IndexOutOfBoundsException" U)) (va_Qi (fun _ (_ : Unit) => False) (fun _ _ => True) (fun _ => False)) (vx_X (fun _ : Unit => True) (fun E _ _ => E = "java/lang/IndexOutOfBoundsException") (fun _ => False)) 1 6 (fun _ => False) := by
  refine vx_ofW (cc := cX11_conway) (maxL := 3) (ret := (some .int)) (by decide) rfl ?_
  intro p e s m args below meth c s₁ B hml hex hv
  obtain ⟨rfl, hP, hK, hTh⟩ := hv
  have hx := B.exec
  have hb := B.bytes
  have hr := B.returns
  have hts := atoms_spec (ws := wf_conway) B.pre
  have hown : s.vm.findClass RX11 = some m.cls := findClass_of_methodNamed B.named
  have hlocks := B.notSynchronized
  have hS : va_S (fun _ => False) s.heap s.heap [] := va_S.rf
  have hl := lv_entry ([.ref h0, .int p0, .int p1]) (n := 3) (Nat.le_of_ble_eq_true rfl)
  rw [lg_entry_eq]
  generalize (lg_sl ([.ref h0, .int p0, .int p1]) ++ List.replicate (3 - (lg_sl ([.ref h0, .int p0, .int p1])).length) Slot.unset).toArray = ls at hl ⊢
  have hl : lv_has ls 3 [(0, .ref h0), (1, .int p0), (2, .int p1)] := hl
  refine ow_named (fun QQ hQQ => ?_)
  refine lv_aload_n hx hb dX11_conway_0 rfl (lv_at hl 0 rfl) ?_
  refine lv_iload_n hx hb dX11_conway_1 rfl (lv_at hl 1 rfl) ?_
  refine vx_callv (vx_runV (As := [.int p0]) (rest := []) ⟨hx, hb, hml, hown, hts⟩ (kf_X11_needDiagram l dC dI cI cB cJ cZ hlt h0 sa u p0) (cwV 1 hts gf_X11_conway rfl rfl rfl (by decide +kernel) ⟨(Nat.le_of_ble_eq_true rfl), (Nat.le_of_ble_eq_true rfl)⟩) ⟨fun a U g mk q => by obtain ⟨q0, qP, qK, qT⟩ := q; exact ⟨q0, qP, va_K.moved (u := U) (U := U.calling g mk a) (Vm.Alike.refl U.vm) qK, ow_Th.same (u := U) (U := U.calling g mk a) rfl rfl qT⟩, va_recv hK hP (ci := 14) (q0 := 0) rfl rfl, fun U hU hW => ⟨rfl, by rw [hU]; exact hP, va_K.moved hW.alike hK, ow_Th.to hTh hS hW hU (fun q h => h)⟩⟩ rfl rfl hl.1 rfl (lv_room (Nat.le_of_ble_eq_true rfl)) dX11_conway_2 ⟨(Nat.le_of_ble_eq_true rfl), (Nat.le_of_ble_eq_true rfl)⟩) hS (fun q _ h => h.elim) (fun q h => h.elim) (fun q _ h => h.elim) (fun E ce q9 u9 t H1 locs ht hvm hpx hBX hz1 hk1 hS hce hcv hcl => ?_) (fun u9 t H1 locs ht hvm hw hB hz1 hk1 hS => absurd hw (fun h => h))
  rw [hQQ]
  exact vx_out (fun x h => (hex x h).elim) hlocks hce hcv hcl (fun t9 ht9 hal => ⟨(), trivial, hBX, hS.F ht9⟩) hS.2.2 (Nat.le_of_ble_eq_true rfl) (Nat.le_of_ble_eq_true rfl)
theorem dX11_jones_0 : decode cX11_jones 0 = .ok (.aload_n 0, 1) := by decide +kernel
theorem dX11_jones_1 : decode cX11_jones 1 = .ok (.iload_n 1, 1) := by decide +kernel
theorem dX11_jones_2 : decode cX11_jones 2 = .ok (.invokevirtual 189, 3) := by decide +kernel
def wf_jones : List Cond := .code yX11_jones cX11_jones 3 (some .int) :: wsV RX11 189 RX11 yX11_needDiagram wf_needDiagram
theorem gf_X11_jones : GoodIn wf_jones (wsV RX11 189 RX11 yX11_needDiagram wf_needDiagram) := goodIn_sub (fun _ h => List.mem_cons_of_mem _ h) (by decide +kernel)
set_option maxHeartbeats 4000000 in
set_option maxRecDepth 100000 in
theorem kf_X11_jones (l : Launch) (dC : Nat → ClassId) (dI : Nat → Nat → Nat) (cI cB cJ cZ : ClassId) (hlt : l.stackTraces = false) (h0 sa : Nat) (u : Nat → Nat) (p0 p1 : Int32) : vx_Met l yX11_jones wf_jones (({ frames := 7, cells := 1, slots := 6, locals := 111 } : Room)) (va_Pc [.ref h0, .int p0, .int p1] (fun U => va_P (dC, dI) vwCl [(h0, .inr (14, [.ref (u 0), .ref (u 1), .ref (u 2), .ref (u 3), .ref (u 4), .ref (u 5), .ref (u 6), .ref (u 7), .ref (u 8), .ref (u 9), .ref (u 10), .ref (u 11), .ref (u 12), .ref (u 13), .ref (u 14), .ref (u 15), .ref (u 16), .ref (u 17), .ref (u 18)])), ((u 0), .inr (6, [.ref (u 19), .ref (u 20), .ref (u 21), .ref (u 22), .int 0])), ((u 20), .inl (cB, 40, .inl (fun _ => 0)))] U.heap ∧ va_K (dC, dI) vwCl [(cI, .int), (cB, .byte), (cJ, .long), (cZ, .boolean)] U ∧ ow_Th (fun _ => False) RX11 166 "no such diagram" sa "java/lang/IndexOutOfBoundsException" U)) (va_Qi (fun _ (_ : Unit) => False) (fun _ _ => True) (fun _ => False)) (vx_X (fun _ : Unit => True) (fun E _ _ => E = "java/lang/IndexOutOfBoundsException") (fun _ => False)) 1 6 (fun _ => False) := by
  refine vx_ofW (cc := cX11_jones) (maxL := 3) (ret := (some .int)) (by decide) rfl ?_
  intro p e s m args below meth c s₁ B hml hex hv
  obtain ⟨rfl, hP, hK, hTh⟩ := hv
  have hx := B.exec
  have hb := B.bytes
  have hr := B.returns
  have hts := atoms_spec (ws := wf_jones) B.pre
  have hown : s.vm.findClass RX11 = some m.cls := findClass_of_methodNamed B.named
  have hlocks := B.notSynchronized
  have hS : va_S (fun _ => False) s.heap s.heap [] := va_S.rf
  have hl := lv_entry ([.ref h0, .int p0, .int p1]) (n := 3) (Nat.le_of_ble_eq_true rfl)
  rw [lg_entry_eq]
  generalize (lg_sl ([.ref h0, .int p0, .int p1]) ++ List.replicate (3 - (lg_sl ([.ref h0, .int p0, .int p1])).length) Slot.unset).toArray = ls at hl ⊢
  have hl : lv_has ls 3 [(0, .ref h0), (1, .int p0), (2, .int p1)] := hl
  refine ow_named (fun QQ hQQ => ?_)
  refine lv_aload_n hx hb dX11_jones_0 rfl (lv_at hl 0 rfl) ?_
  refine lv_iload_n hx hb dX11_jones_1 rfl (lv_at hl 1 rfl) ?_
  refine vx_callv (vx_runV (As := [.int p0]) (rest := []) ⟨hx, hb, hml, hown, hts⟩ (kf_X11_needDiagram l dC dI cI cB cJ cZ hlt h0 sa u p0) (cwV 1 hts gf_X11_jones rfl rfl rfl (by decide +kernel) ⟨(Nat.le_of_ble_eq_true rfl), (Nat.le_of_ble_eq_true rfl)⟩) ⟨fun a U g mk q => by obtain ⟨q0, qP, qK, qT⟩ := q; exact ⟨q0, qP, va_K.moved (u := U) (U := U.calling g mk a) (Vm.Alike.refl U.vm) qK, ow_Th.same (u := U) (U := U.calling g mk a) rfl rfl qT⟩, va_recv hK hP (ci := 14) (q0 := 0) rfl rfl, fun U hU hW => ⟨rfl, by rw [hU]; exact hP, va_K.moved hW.alike hK, ow_Th.to hTh hS hW hU (fun q h => h)⟩⟩ rfl rfl hl.1 rfl (lv_room (Nat.le_of_ble_eq_true rfl)) dX11_jones_2 ⟨(Nat.le_of_ble_eq_true rfl), (Nat.le_of_ble_eq_true rfl)⟩) hS (fun q _ h => h.elim) (fun q h => h.elim) (fun q _ h => h.elim) (fun E ce q9 u9 t H1 locs ht hvm hpx hBX hz1 hk1 hS hce hcv hcl => ?_) (fun u9 t H1 locs ht hvm hw hB hz1 hk1 hS => absurd hw (fun h => h))
  rw [hQQ]
  exact vx_out (fun x h => (hex x h).elim) hlocks hce hcv hcl (fun t9 ht9 hal => ⟨(), trivial, hBX, hS.F ht9⟩) hS.2.2 (Nat.le_of_ble_eq_true rfl) (Nat.le_of_ble_eq_true rfl)
theorem dX11_signature_0 : decode cX11_signature 0 = .ok (.aload_n 0, 1) := by decide +kernel
theorem dX11_signature_1 : decode cX11_signature 1 = .ok (.iload_n 1, 1) := by decide +kernel
theorem dX11_signature_2 : decode cX11_signature 2 = .ok (.invokevirtual 189, 3) := by decide +kernel
def wf_signature : List Cond := .code yX11_signature cX11_signature 2 (some .int) :: wsV RX11 189 RX11 yX11_needDiagram wf_needDiagram
theorem gf_X11_signature : GoodIn wf_signature (wsV RX11 189 RX11 yX11_needDiagram wf_needDiagram) := goodIn_sub (fun _ h => List.mem_cons_of_mem _ h) (by decide +kernel)
set_option maxHeartbeats 4000000 in
set_option maxRecDepth 100000 in
theorem kf_X11_signature (l : Launch) (dC : Nat → ClassId) (dI : Nat → Nat → Nat) (cI cB cJ cZ : ClassId) (hlt : l.stackTraces = false) (h0 sa : Nat) (u : Nat → Nat) (p0 : Int32) : vx_Met l yX11_signature wf_signature (({ frames := 7, cells := 1, slots := 6, locals := 111 } : Room)) (va_Pc [.ref h0, .int p0] (fun U => va_P (dC, dI) vwCl [(h0, .inr (14, [.ref (u 0), .ref (u 1), .ref (u 2), .ref (u 3), .ref (u 4), .ref (u 5), .ref (u 6), .ref (u 7), .ref (u 8), .ref (u 9), .ref (u 10), .ref (u 11), .ref (u 12), .ref (u 13), .ref (u 14), .ref (u 15), .ref (u 16), .ref (u 17), .ref (u 18)])), ((u 0), .inr (6, [.ref (u 19), .ref (u 20), .ref (u 21), .ref (u 22), .int 0])), ((u 20), .inl (cB, 40, .inl (fun _ => 0)))] U.heap ∧ va_K (dC, dI) vwCl [(cI, .int), (cB, .byte), (cJ, .long), (cZ, .boolean)] U ∧ ow_Th (fun _ => False) RX11 166 "no such diagram" sa "java/lang/IndexOutOfBoundsException" U)) (va_Qi (fun _ (_ : Unit) => False) (fun _ _ => True) (fun _ => False)) (vx_X (fun _ : Unit => True) (fun E _ _ => E = "java/lang/IndexOutOfBoundsException") (fun _ => False)) 1 6 (fun _ => False) := by
  refine vx_ofW (cc := cX11_signature) (maxL := 2) (ret := (some .int)) (by decide) rfl ?_
  intro p e s m args below meth c s₁ B hml hex hv
  obtain ⟨rfl, hP, hK, hTh⟩ := hv
  have hx := B.exec
  have hb := B.bytes
  have hr := B.returns
  have hts := atoms_spec (ws := wf_signature) B.pre
  have hown : s.vm.findClass RX11 = some m.cls := findClass_of_methodNamed B.named
  have hlocks := B.notSynchronized
  have hS : va_S (fun _ => False) s.heap s.heap [] := va_S.rf
  have hl := lv_entry ([.ref h0, .int p0]) (n := 2) (Nat.le_of_ble_eq_true rfl)
  rw [lg_entry_eq]
  generalize (lg_sl ([.ref h0, .int p0]) ++ List.replicate (2 - (lg_sl ([.ref h0, .int p0])).length) Slot.unset).toArray = ls at hl ⊢
  have hl : lv_has ls 2 [(0, .ref h0), (1, .int p0)] := hl
  refine ow_named (fun QQ hQQ => ?_)
  refine lv_aload_n hx hb dX11_signature_0 rfl (lv_at hl 0 rfl) ?_
  refine lv_iload_n hx hb dX11_signature_1 rfl (lv_at hl 1 rfl) ?_
  refine vx_callv (vx_runV (As := [.int p0]) (rest := []) ⟨hx, hb, hml, hown, hts⟩ (kf_X11_needDiagram l dC dI cI cB cJ cZ hlt h0 sa u p0) (cwV 1 hts gf_X11_signature rfl rfl rfl (by decide +kernel) ⟨(Nat.le_of_ble_eq_true rfl), (Nat.le_of_ble_eq_true rfl)⟩) ⟨fun a U g mk q => by obtain ⟨q0, qP, qK, qT⟩ := q; exact ⟨q0, qP, va_K.moved (u := U) (U := U.calling g mk a) (Vm.Alike.refl U.vm) qK, ow_Th.same (u := U) (U := U.calling g mk a) rfl rfl qT⟩, va_recv hK hP (ci := 14) (q0 := 0) rfl rfl, fun U hU hW => ⟨rfl, by rw [hU]; exact hP, va_K.moved hW.alike hK, ow_Th.to hTh hS hW hU (fun q h => h)⟩⟩ rfl rfl hl.1 rfl (lv_room (Nat.le_of_ble_eq_true rfl)) dX11_signature_2 ⟨(Nat.le_of_ble_eq_true rfl), (Nat.le_of_ble_eq_true rfl)⟩) hS (fun q _ h => h.elim) (fun q h => h.elim) (fun q _ h => h.elim) (fun E ce q9 u9 t H1 locs ht hvm hpx hBX hz1 hk1 hS hce hcv hcl => ?_) (fun u9 t H1 locs ht hvm hw hB hz1 hk1 hS => absurd hw (fun h => h))
  rw [hQQ]
  exact vx_out (fun x h => (hex x h).elim) hlocks hce hcv hcl (fun t9 ht9 hal => ⟨(), trivial, hBX, hS.F ht9⟩) hS.2.2 (Nat.le_of_ble_eq_true rfl) (Nat.le_of_ble_eq_true rfl)
theorem dX11_cover_0 : decode cX11_cover 0 = .ok (.aload_n 0, 1) := by decide +kernel
theorem dX11_cover_1 : decode cX11_cover 1 = .ok (.iload_n 1, 1) := by decide +kernel
theorem dX11_cover_2 : decode cX11_cover 2 = .ok (.invokevirtual 189, 3) := by decide +kernel
def wf_cover : List Cond := .code yX11_cover cX11_cover 3 (some .int) :: wsV RX11 189 RX11 yX11_needDiagram wf_needDiagram
theorem gf_X11_cover : GoodIn wf_cover (wsV RX11 189 RX11 yX11_needDiagram wf_needDiagram) := goodIn_sub (fun _ h => List.mem_cons_of_mem _ h) (by decide +kernel)
set_option maxHeartbeats 4000000 in
set_option maxRecDepth 100000 in
theorem kf_X11_cover (l : Launch) (dC : Nat → ClassId) (dI : Nat → Nat → Nat) (cI cB cJ cZ : ClassId) (hlt : l.stackTraces = false) (h0 sa : Nat) (u : Nat → Nat) (p0 p1 : Int32) : vx_Met l yX11_cover wf_cover (({ frames := 7, cells := 1, slots := 6, locals := 111 } : Room)) (va_Pc [.ref h0, .int p0, .int p1] (fun U => va_P (dC, dI) vwCl [(h0, .inr (14, [.ref (u 0), .ref (u 1), .ref (u 2), .ref (u 3), .ref (u 4), .ref (u 5), .ref (u 6), .ref (u 7), .ref (u 8), .ref (u 9), .ref (u 10), .ref (u 11), .ref (u 12), .ref (u 13), .ref (u 14), .ref (u 15), .ref (u 16), .ref (u 17), .ref (u 18)])), ((u 0), .inr (6, [.ref (u 19), .ref (u 20), .ref (u 21), .ref (u 22), .int 0])), ((u 20), .inl (cB, 40, .inl (fun _ => 0)))] U.heap ∧ va_K (dC, dI) vwCl [(cI, .int), (cB, .byte), (cJ, .long), (cZ, .boolean)] U ∧ ow_Th (fun _ => False) RX11 166 "no such diagram" sa "java/lang/IndexOutOfBoundsException" U)) (va_Qi (fun _ (_ : Unit) => False) (fun _ _ => True) (fun _ => False)) (vx_X (fun _ : Unit => True) (fun E _ _ => E = "java/lang/IndexOutOfBoundsException") (fun _ => False)) 1 6 (fun _ => False) := by
  refine vx_ofW (cc := cX11_cover) (maxL := 3) (ret := (some .int)) (by decide) rfl ?_
  intro p e s m args below meth c s₁ B hml hex hv
  obtain ⟨rfl, hP, hK, hTh⟩ := hv
  have hx := B.exec
  have hb := B.bytes
  have hr := B.returns
  have hts := atoms_spec (ws := wf_cover) B.pre
  have hown : s.vm.findClass RX11 = some m.cls := findClass_of_methodNamed B.named
  have hlocks := B.notSynchronized
  have hS : va_S (fun _ => False) s.heap s.heap [] := va_S.rf
  have hl := lv_entry ([.ref h0, .int p0, .int p1]) (n := 3) (Nat.le_of_ble_eq_true rfl)
  rw [lg_entry_eq]
  generalize (lg_sl ([.ref h0, .int p0, .int p1]) ++ List.replicate (3 - (lg_sl ([.ref h0, .int p0, .int p1])).length) Slot.unset).toArray = ls at hl ⊢
  have hl : lv_has ls 3 [(0, .ref h0), (1, .int p0), (2, .int p1)] := hl
  refine ow_named (fun QQ hQQ => ?_)
  refine lv_aload_n hx hb dX11_cover_0 rfl (lv_at hl 0 rfl) ?_
  refine lv_iload_n hx hb dX11_cover_1 rfl (lv_at hl 1 rfl) ?_
  refine vx_callv (vx_runV (As := [.int p0]) (rest := []) ⟨hx, hb, hml, hown, hts⟩ (kf_X11_needDiagram l dC dI cI cB cJ cZ hlt h0 sa u p0) (cwV 1 hts gf_X11_cover rfl rfl rfl (by decide +kernel) ⟨(Nat.le_of_ble_eq_true rfl), (Nat.le_of_ble_eq_true rfl)⟩) ⟨fun a U g mk q => by obtain ⟨q0, qP, qK, qT⟩ := q; exact ⟨q0, qP, va_K.moved (u := U) (U := U.calling g mk a) (Vm.Alike.refl U.vm) qK, ow_Th.same (u := U) (U := U.calling g mk a) rfl rfl qT⟩, va_recv hK hP (ci := 14) (q0 := 0) rfl rfl, fun U hU hW => ⟨rfl, by rw [hU]; exact hP, va_K.moved hW.alike hK, ow_Th.to hTh hS hW hU (fun q h => h)⟩⟩ rfl rfl hl.1 rfl (lv_room (Nat.le_of_ble_eq_true rfl)) dX11_cover_2 ⟨(Nat.le_of_ble_eq_true rfl), (Nat.le_of_ble_eq_true rfl)⟩) hS (fun q _ h => h.elim) (fun q h => h.elim) (fun q _ h => h.elim) (fun E ce q9 u9 t H1 locs ht hvm hpx hBX hz1 hk1 hS hce hcv hcl => ?_) (fun u9 t H1 locs ht hvm hw hB hz1 hk1 hS => absurd hw (fun h => h))
  rw [hQQ]
  exact vx_out (fun x h => (hex x h).elim) hlocks hce hcv hcl (fun t9 ht9 hal => ⟨(), trivial, hBX, hS.F ht9⟩) hS.2.2 (Nat.le_of_ble_eq_true rfl) (Nat.le_of_ble_eq_true rfl)
theorem dX11_colours_0 : decode cX11_colours 0 = .ok (.aload_n 0, 1) := by decide +kernel
theorem dX11_colours_1 : decode cX11_colours 1 = .ok (.iload_n 1, 1) := by decide +kernel
theorem dX11_colours_2 : decode cX11_colours 2 = .ok (.invokevirtual 189, 3) := by decide +kernel
def wf_colours : List Cond := .code yX11_colours cX11_colours 3 (some .long) :: wsV RX11 189 RX11 yX11_needDiagram wf_needDiagram
theorem gf_X11_colours : GoodIn wf_colours (wsV RX11 189 RX11 yX11_needDiagram wf_needDiagram) := goodIn_sub (fun _ h => List.mem_cons_of_mem _ h) (by decide +kernel)
set_option maxHeartbeats 4000000 in
set_option maxRecDepth 100000 in
theorem kf_X11_colours (l : Launch) (dC : Nat → ClassId) (dI : Nat → Nat → Nat) (cI cB cJ cZ : ClassId) (hlt : l.stackTraces = false) (h0 sa : Nat) (u : Nat → Nat) (p0 p1 : Int32) : vx_Met l yX11_colours wf_colours (({ frames := 7, cells := 1, slots := 6, locals := 111 } : Room)) (va_Pc [.ref h0, .int p0, .int p1] (fun U => va_P (dC, dI) vwCl [(h0, .inr (14, [.ref (u 0), .ref (u 1), .ref (u 2), .ref (u 3), .ref (u 4), .ref (u 5), .ref (u 6), .ref (u 7), .ref (u 8), .ref (u 9), .ref (u 10), .ref (u 11), .ref (u 12), .ref (u 13), .ref (u 14), .ref (u 15), .ref (u 16), .ref (u 17), .ref (u 18)])), ((u 0), .inr (6, [.ref (u 19), .ref (u 20), .ref (u 21), .ref (u 22), .int 0])), ((u 20), .inl (cB, 40, .inl (fun _ => 0)))] U.heap ∧ va_K (dC, dI) vwCl [(cI, .int), (cB, .byte), (cJ, .long), (cZ, .boolean)] U ∧ ow_Th (fun _ => False) RX11 166 "no such diagram" sa "java/lang/IndexOutOfBoundsException" U)) (va_Ql (fun _ (_ : Unit) => False) (fun _ _ => True) (fun _ => False)) (vx_X (fun _ : Unit => True) (fun E _ _ => E = "java/lang/IndexOutOfBoundsException") (fun _ => False)) 1 6 (fun _ => False) := by
  refine vx_ofW (cc := cX11_colours) (maxL := 3) (ret := (some .long)) (by decide) rfl ?_
  intro p e s m args below meth c s₁ B hml hex hv
  obtain ⟨rfl, hP, hK, hTh⟩ := hv
  have hx := B.exec
  have hb := B.bytes
  have hr := B.returns
  have hts := atoms_spec (ws := wf_colours) B.pre
  have hown : s.vm.findClass RX11 = some m.cls := findClass_of_methodNamed B.named
  have hlocks := B.notSynchronized
  have hS : va_S (fun _ => False) s.heap s.heap [] := va_S.rf
  have hl := lv_entry ([.ref h0, .int p0, .int p1]) (n := 3) (Nat.le_of_ble_eq_true rfl)
  rw [lg_entry_eq]
  generalize (lg_sl ([.ref h0, .int p0, .int p1]) ++ List.replicate (3 - (lg_sl ([.ref h0, .int p0, .int p1])).length) Slot.unset).toArray = ls at hl ⊢
  have hl : lv_has ls 3 [(0, .ref h0), (1, .int p0), (2, .int p1)] := hl
  refine ow_named (fun QQ hQQ => ?_)
  refine lv_aload_n hx hb dX11_colours_0 rfl (lv_at hl 0 rfl) ?_
  refine lv_iload_n hx hb dX11_colours_1 rfl (lv_at hl 1 rfl) ?_
  refine vx_callv (vx_runV (As := [.int p0]) (rest := []) ⟨hx, hb, hml, hown, hts⟩ (kf_X11_needDiagram l dC dI cI cB cJ cZ hlt h0 sa u p0) (cwV 1 hts gf_X11_colours rfl rfl rfl (by decide +kernel) ⟨(Nat.le_of_ble_eq_true rfl), (Nat.le_of_ble_eq_true rfl)⟩) ⟨fun a U g mk q => by obtain ⟨q0, qP, qK, qT⟩ := q; exact ⟨q0, qP, va_K.moved (u := U) (U := U.calling g mk a) (Vm.Alike.refl U.vm) qK, ow_Th.same (u := U) (U := U.calling g mk a) rfl rfl qT⟩, va_recv hK hP (ci := 14) (q0 := 0) rfl rfl, fun U hU hW => ⟨rfl, by rw [hU]; exact hP, va_K.moved hW.alike hK, ow_Th.to hTh hS hW hU (fun q h => h)⟩⟩ rfl rfl hl.1 rfl (lv_room (Nat.le_of_ble_eq_true rfl)) dX11_colours_2 ⟨(Nat.le_of_ble_eq_true rfl), (Nat.le_of_ble_eq_true rfl)⟩) hS (fun q _ h => h.elim) (fun q h => h.elim) (fun q _ h => h.elim) (fun E ce q9 u9 t H1 locs ht hvm hpx hBX hz1 hk1 hS hce hcv hcl => ?_) (fun u9 t H1 locs ht hvm hw hB hz1 hk1 hS => absurd hw (fun h => h))
  rw [hQQ]
  exact vx_out (fun x h => (hex x h).elim) hlocks hce hcv hcl (fun t9 ht9 hal => ⟨(), trivial, hBX, hS.F ht9⟩) hS.2.2 (Nat.le_of_ble_eq_true rfl) (Nat.le_of_ble_eq_true rfl)
theorem dX11_maps_0 : decode cX11_maps 0 = .ok (.aload_n 0, 1) := by decide +kernel
theorem dX11_maps_1 : decode cX11_maps 1 = .ok (.iload_n 1, 1) := by decide +kernel
theorem dX11_maps_2 : decode cX11_maps 2 = .ok (.invokevirtual 189, 3) := by decide +kernel
def wf_maps : List Cond := .code yX11_maps cX11_maps 3 (some .int) :: wsV RX11 189 RX11 yX11_needDiagram wf_needDiagram
theorem gf_X11_maps : GoodIn wf_maps (wsV RX11 189 RX11 yX11_needDiagram wf_needDiagram) := goodIn_sub (fun _ h => List.mem_cons_of_mem _ h) (by decide +kernel)
set_option maxHeartbeats 4000000 in
set_option maxRecDepth 100000 in
theorem kf_X11_maps (l : Launch) (dC : Nat → ClassId) (dI : Nat → Nat → Nat) (cI cB cJ cZ : ClassId) (hlt : l.stackTraces = false) (h0 sa : Nat) (u : Nat → Nat) (p0 p1 : Int32) : vx_Met l yX11_maps wf_maps (({ frames := 7, cells := 1, slots := 6, locals := 111 } : Room)) (va_Pc [.ref h0, .int p0, .int p1] (fun U => va_P (dC, dI) vwCl [(h0, .inr (14, [.ref (u 0), .ref (u 1), .ref (u 2), .ref (u 3), .ref (u 4), .ref (u 5), .ref (u 6), .ref (u 7), .ref (u 8), .ref (u 9), .ref (u 10), .ref (u 11), .ref (u 12), .ref (u 13), .ref (u 14), .ref (u 15), .ref (u 16), .ref (u 17), .ref (u 18)])), ((u 0), .inr (6, [.ref (u 19), .ref (u 20), .ref (u 21), .ref (u 22), .int 0])), ((u 20), .inl (cB, 40, .inl (fun _ => 0)))] U.heap ∧ va_K (dC, dI) vwCl [(cI, .int), (cB, .byte), (cJ, .long), (cZ, .boolean)] U ∧ ow_Th (fun _ => False) RX11 166 "no such diagram" sa "java/lang/IndexOutOfBoundsException" U)) (va_Qi (fun _ (_ : Unit) => False) (fun _ _ => True) (fun _ => False)) (vx_X (fun _ : Unit => True) (fun E _ _ => E = "java/lang/IndexOutOfBoundsException") (fun _ => False)) 1 6 (fun _ => False) := by
  refine vx_ofW (cc := cX11_maps) (maxL := 3) (ret := (some .int)) (by decide) rfl ?_
  intro p e s m args below meth c s₁ B hml hex hv
  obtain ⟨rfl, hP, hK, hTh⟩ := hv
  have hx := B.exec
  have hb := B.bytes
  have hr := B.returns
  have hts := atoms_spec (ws := wf_maps) B.pre
  have hown : s.vm.findClass RX11 = some m.cls := findClass_of_methodNamed B.named
  have hlocks := B.notSynchronized
  have hS : va_S (fun _ => False) s.heap s.heap [] := va_S.rf
  have hl := lv_entry ([.ref h0, .int p0, .int p1]) (n := 3) (Nat.le_of_ble_eq_true rfl)
  rw [lg_entry_eq]
  generalize (lg_sl ([.ref h0, .int p0, .int p1]) ++ List.replicate (3 - (lg_sl ([.ref h0, .int p0, .int p1])).length) Slot.unset).toArray = ls at hl ⊢
  have hl : lv_has ls 3 [(0, .ref h0), (1, .int p0), (2, .int p1)] := hl
  refine ow_named (fun QQ hQQ => ?_)
  refine lv_aload_n hx hb dX11_maps_0 rfl (lv_at hl 0 rfl) ?_
  refine lv_iload_n hx hb dX11_maps_1 rfl (lv_at hl 1 rfl) ?_
  refine vx_callv (vx_runV (As := [.int p0]) (rest := []) ⟨hx, hb, hml, hown, hts⟩ (kf_X11_needDiagram l dC dI cI cB cJ cZ hlt h0 sa u p0) (cwV 1 hts gf_X11_maps rfl rfl rfl (by decide +kernel) ⟨(Nat.le_of_ble_eq_true rfl), (Nat.le_of_ble_eq_true rfl)⟩) ⟨fun a U g mk q => by obtain ⟨q0, qP, qK, qT⟩ := q; exact ⟨q0, qP, va_K.moved (u := U) (U := U.calling g mk a) (Vm.Alike.refl U.vm) qK, ow_Th.same (u := U) (U := U.calling g mk a) rfl rfl qT⟩, va_recv hK hP (ci := 14) (q0 := 0) rfl rfl, fun U hU hW => ⟨rfl, by rw [hU]; exact hP, va_K.moved hW.alike hK, ow_Th.to hTh hS hW hU (fun q h => h)⟩⟩ rfl rfl hl.1 rfl (lv_room (Nat.le_of_ble_eq_true rfl)) dX11_maps_2 ⟨(Nat.le_of_ble_eq_true rfl), (Nat.le_of_ble_eq_true rfl)⟩) hS (fun q _ h => h.elim) (fun q h => h.elim) (fun q _ h => h.elim) (fun E ce q9 u9 t H1 locs ht hvm hpx hBX hz1 hk1 hS hce hcv hcl => ?_) (fun u9 t H1 locs ht hvm hw hB hz1 hk1 hS => absurd hw (fun h => h))
  rw [hQQ]
  exact vx_out (fun x h => (hex x h).elim) hlocks hce hcv hcl (fun t9 ht9 hal => ⟨(), trivial, hBX, hS.F ht9⟩) hS.2.2 (Nat.le_of_ble_eq_true rfl) (Nat.le_of_ble_eq_true rfl)
theorem dX11_chain_0 : decode cX11_chain 0 = .ok (.aload_n 0, 1) := by decide +kernel
theorem dX11_chain_1 : decode cX11_chain 1 = .ok (.iload_n 1, 1) := by decide +kernel
theorem dX11_chain_2 : decode cX11_chain 2 = .ok (.invokevirtual 189, 3) := by decide +kernel
def wf_chain : List Cond := .code yX11_chain cX11_chain 3 (some .int) :: wsV RX11 189 RX11 yX11_needDiagram wf_needDiagram
theorem gf_X11_chain : GoodIn wf_chain (wsV RX11 189 RX11 yX11_needDiagram wf_needDiagram) := goodIn_sub (fun _ h => List.mem_cons_of_mem _ h) (by decide +kernel)
set_option maxHeartbeats 4000000 in
set_option maxRecDepth 100000 in
theorem kf_X11_chain (l : Launch) (dC : Nat → ClassId) (dI : Nat → Nat → Nat) (cI cB cJ cZ : ClassId) (hlt : l.stackTraces = false) (h0 sa : Nat) (u : Nat → Nat) (p0 p1 : Int32) : vx_Met l yX11_chain wf_chain (({ frames := 7, cells := 1, slots := 6, locals := 111 } : Room)) (va_Pc [.ref h0, .int p0, .int p1] (fun U => va_P (dC, dI) vwCl [(h0, .inr (14, [.ref (u 0), .ref (u 1), .ref (u 2), .ref (u 3), .ref (u 4), .ref (u 5), .ref (u 6), .ref (u 7), .ref (u 8), .ref (u 9), .ref (u 10), .ref (u 11), .ref (u 12), .ref (u 13), .ref (u 14), .ref (u 15), .ref (u 16), .ref (u 17), .ref (u 18)])), ((u 0), .inr (6, [.ref (u 19), .ref (u 20), .ref (u 21), .ref (u 22), .int 0])), ((u 20), .inl (cB, 40, .inl (fun _ => 0)))] U.heap ∧ va_K (dC, dI) vwCl [(cI, .int), (cB, .byte), (cJ, .long), (cZ, .boolean)] U ∧ ow_Th (fun _ => False) RX11 166 "no such diagram" sa "java/lang/IndexOutOfBoundsException" U)) (va_Qi (fun _ (_ : Unit) => False) (fun _ _ => True) (fun _ => False)) (vx_X (fun _ : Unit => True) (fun E _ _ => E = "java/lang/IndexOutOfBoundsException") (fun _ => False)) 1 6 (fun _ => False) := by
  refine vx_ofW (cc := cX11_chain) (maxL := 3) (ret := (some .int)) (by decide) rfl ?_
  intro p e s m args below meth c s₁ B hml hex hv
  obtain ⟨rfl, hP, hK, hTh⟩ := hv
  have hx := B.exec
  have hb := B.bytes
  have hr := B.returns
  have hts := atoms_spec (ws := wf_chain) B.pre
  have hown : s.vm.findClass RX11 = some m.cls := findClass_of_methodNamed B.named
  have hlocks := B.notSynchronized
  have hS : va_S (fun _ => False) s.heap s.heap [] := va_S.rf
  have hl := lv_entry ([.ref h0, .int p0, .int p1]) (n := 3) (Nat.le_of_ble_eq_true rfl)
  rw [lg_entry_eq]
  generalize (lg_sl ([.ref h0, .int p0, .int p1]) ++ List.replicate (3 - (lg_sl ([.ref h0, .int p0, .int p1])).length) Slot.unset).toArray = ls at hl ⊢
  have hl : lv_has ls 3 [(0, .ref h0), (1, .int p0), (2, .int p1)] := hl
  refine ow_named (fun QQ hQQ => ?_)
  refine lv_aload_n hx hb dX11_chain_0 rfl (lv_at hl 0 rfl) ?_
  refine lv_iload_n hx hb dX11_chain_1 rfl (lv_at hl 1 rfl) ?_
  refine vx_callv (vx_runV (As := [.int p0]) (rest := []) ⟨hx, hb, hml, hown, hts⟩ (kf_X11_needDiagram l dC dI cI cB cJ cZ hlt h0 sa u p0) (cwV 1 hts gf_X11_chain rfl rfl rfl (by decide +kernel) ⟨(Nat.le_of_ble_eq_true rfl), (Nat.le_of_ble_eq_true rfl)⟩) ⟨fun a U g mk q => by obtain ⟨q0, qP, qK, qT⟩ := q; exact ⟨q0, qP, va_K.moved (u := U) (U := U.calling g mk a) (Vm.Alike.refl U.vm) qK, ow_Th.same (u := U) (U := U.calling g mk a) rfl rfl qT⟩, va_recv hK hP (ci := 14) (q0 := 0) rfl rfl, fun U hU hW => ⟨rfl, by rw [hU]; exact hP, va_K.moved hW.alike hK, ow_Th.to hTh hS hW hU (fun q h => h)⟩⟩ rfl rfl hl.1 rfl (lv_room (Nat.le_of_ble_eq_true rfl)) dX11_chain_2 ⟨(Nat.le_of_ble_eq_true rfl), (Nat.le_of_ble_eq_true rfl)⟩) hS (fun q _ h => h.elim) (fun q h => h.elim) (fun q _ h => h.elim) (fun E ce q9 u9 t H1 locs ht hvm hpx hBX hz1 hk1 hS hce hcv hcl => ?_) (fun u9 t H1 locs ht hvm hw hB hz1 hk1 hS => absurd hw (fun h => h))
  rw [hQQ]
  exact vx_out (fun x h => (hex x h).elim) hlocks hce hcv hcl (fun t9 ht9 hal => ⟨(), trivial, hBX, hS.F ht9⟩) hS.2.2 (Nat.le_of_ble_eq_true rfl) (Nat.le_of_ble_eq_true rfl)
theorem dX11_closure_0 : decode cX11_closure 0 = .ok (.aload_n 0, 1) := by decide +kernel
theorem dX11_closure_1 : decode cX11_closure 1 = .ok (.iload_n 1, 1) := by decide +kernel
theorem dX11_closure_2 : decode cX11_closure 2 = .ok (.invokevirtual 379, 3) := by decide +kernel
def wf_closure : List Cond := .code yX11_closure cX11_closure 3 (some .int) :: wsV RX11 379 RX11 yX11_needBraid wf_needBraid
theorem gf_X11_closure : GoodIn wf_closure (wsV RX11 379 RX11 yX11_needBraid wf_needBraid) := goodIn_sub (fun _ h => List.mem_cons_of_mem _ h) (by decide +kernel)
set_option maxHeartbeats 4000000 in
set_option maxRecDepth 100000 in
theorem kf_X11_closure (l : Launch) (dC : Nat → ClassId) (dI : Nat → Nat → Nat) (cI cB cJ cZ : ClassId) (hlt : l.stackTraces = false) (h0 sa : Nat) (u : Nat → Nat) (p0 : Int32) : vx_Met l yX11_closure wf_closure (({ frames := 7, cells := 1, slots := 6, locals := 111 } : Room)) (va_Pc [.ref h0, .int p0] (fun U => va_P (dC, dI) vwCl [(h0, .inr (14, [.ref (u 0), .ref (u 1), .ref (u 2), .ref (u 3), .ref (u 4), .ref (u 5), .ref (u 6), .ref (u 7), .ref (u 8), .ref (u 9), .ref (u 10), .ref (u 11), .ref (u 12), .ref (u 13), .ref (u 14), .ref (u 15), .ref (u 16), .ref (u 17), .ref (u 18)])), ((u 14), .inl (cI, 20, .inl (fun _ => 0)))] U.heap ∧ va_K (dC, dI) vwCl [(cI, .int), (cB, .byte), (cJ, .long), (cZ, .boolean)] U ∧ ow_Th (fun _ => False) RX11 172 "no such braid" sa "java/lang/IndexOutOfBoundsException" U)) (va_Qi (fun _ (_ : Unit) => False) (fun _ _ => True) (fun _ => False)) (vx_X (fun _ : Unit => True) (fun E _ _ => E = "java/lang/IndexOutOfBoundsException") (fun _ => False)) 1 6 (fun _ => False) := by
  refine vx_ofW (cc := cX11_closure) (maxL := 3) (ret := (some .int)) (by decide) rfl ?_
  intro p e s m args below meth c s₁ B hml hex hv
  obtain ⟨rfl, hP, hK, hTh⟩ := hv
  have hx := B.exec
  have hb := B.bytes
  have hr := B.returns
  have hts := atoms_spec (ws := wf_closure) B.pre
  have hown : s.vm.findClass RX11 = some m.cls := findClass_of_methodNamed B.named
  have hlocks := B.notSynchronized
  have hS : va_S (fun _ => False) s.heap s.heap [] := va_S.rf
  have hl := lv_entry ([.ref h0, .int p0]) (n := 3) (Nat.le_of_ble_eq_true rfl)
  rw [lg_entry_eq]
  generalize (lg_sl ([.ref h0, .int p0]) ++ List.replicate (3 - (lg_sl ([.ref h0, .int p0])).length) Slot.unset).toArray = ls at hl ⊢
  have hl : lv_has ls 3 [(0, .ref h0), (1, .int p0)] := hl
  refine ow_named (fun QQ hQQ => ?_)
  refine lv_aload_n hx hb dX11_closure_0 rfl (lv_at hl 0 rfl) ?_
  refine lv_iload_n hx hb dX11_closure_1 rfl (lv_at hl 1 rfl) ?_
  refine vx_callv (vx_runV (As := [.int p0]) (rest := []) ⟨hx, hb, hml, hown, hts⟩ (kf_X11_needBraid l dC dI cI cB cJ cZ hlt h0 sa u p0) (cwV 1 hts gf_X11_closure rfl rfl rfl (by decide +kernel) ⟨(Nat.le_of_ble_eq_true rfl), (Nat.le_of_ble_eq_true rfl)⟩) ⟨fun a U g mk q => by obtain ⟨q0, qP, qK, qT⟩ := q; exact ⟨q0, qP, va_K.moved (u := U) (U := U.calling g mk a) (Vm.Alike.refl U.vm) qK, ow_Th.same (u := U) (U := U.calling g mk a) rfl rfl qT⟩, va_recv hK hP (ci := 14) (q0 := 0) rfl rfl, fun U hU hW => ⟨rfl, by rw [hU]; exact hP, va_K.moved hW.alike hK, ow_Th.to hTh hS hW hU (fun q h => h)⟩⟩ rfl rfl hl.1 rfl (lv_room (Nat.le_of_ble_eq_true rfl)) dX11_closure_2 ⟨(Nat.le_of_ble_eq_true rfl), (Nat.le_of_ble_eq_true rfl)⟩) hS (fun q _ h => h.elim) (fun q h => h.elim) (fun q _ h => h.elim) (fun E ce q9 u9 t H1 locs ht hvm hpx hBX hz1 hk1 hS hce hcv hcl => ?_) (fun u9 t H1 locs ht hvm hw hB hz1 hk1 hS => absurd hw (fun h => h))
  rw [hQQ]
  exact vx_out (fun x h => (hex x h).elim) hlocks hce hcv hcl (fun t9 ht9 hal => ⟨(), trivial, hBX, hS.F ht9⟩) hS.2.2 (Nat.le_of_ble_eq_true rfl) (Nat.le_of_ble_eq_true rfl)
theorem dX11_product_0 : decode cX11_product 0 = .ok (.aload_n 0, 1) := by decide +kernel
theorem dX11_product_1 : decode cX11_product 1 = .ok (.iload_n 1, 1) := by decide +kernel
theorem dX11_product_2 : decode cX11_product 2 = .ok (.invokevirtual 379, 3) := by decide +kernel
def wf_product : List Cond := .code yX11_product cX11_product 5 (some .int) :: wsV RX11 379 RX11 yX11_needBraid wf_needBraid
theorem gf_X11_product : GoodIn wf_product (wsV RX11 379 RX11 yX11_needBraid wf_needBraid) := goodIn_sub (fun _ h => List.mem_cons_of_mem _ h) (by decide +kernel)
set_option maxHeartbeats 4000000 in
set_option maxRecDepth 100000 in
theorem kf_X11_product (l : Launch) (dC : Nat → ClassId) (dI : Nat → Nat → Nat) (cI cB cJ cZ : ClassId) (hlt : l.stackTraces = false) (h0 sa : Nat) (u : Nat → Nat) (p0 p1 : Int32) : vx_Met l yX11_product wf_product (({ frames := 7, cells := 1, slots := 6, locals := 111 } : Room)) (va_Pc [.ref h0, .int p0, .int p1] (fun U => va_P (dC, dI) vwCl [(h0, .inr (14, [.ref (u 0), .ref (u 1), .ref (u 2), .ref (u 3), .ref (u 4), .ref (u 5), .ref (u 6), .ref (u 7), .ref (u 8), .ref (u 9), .ref (u 10), .ref (u 11), .ref (u 12), .ref (u 13), .ref (u 14), .ref (u 15), .ref (u 16), .ref (u 17), .ref (u 18)])), ((u 14), .inl (cI, 20, .inl (fun _ => 0)))] U.heap ∧ va_K (dC, dI) vwCl [(cI, .int), (cB, .byte), (cJ, .long), (cZ, .boolean)] U ∧ ow_Th (fun _ => False) RX11 172 "no such braid" sa "java/lang/IndexOutOfBoundsException" U)) (va_Qi (fun _ (_ : Unit) => False) (fun _ _ => True) (fun _ => False)) (vx_X (fun _ : Unit => True) (fun E _ _ => E = "java/lang/IndexOutOfBoundsException") (fun _ => False)) 1 6 (fun _ => False) := by
  refine vx_ofW (cc := cX11_product) (maxL := 5) (ret := (some .int)) (by decide) rfl ?_
  intro p e s m args below meth c s₁ B hml hex hv
  obtain ⟨rfl, hP, hK, hTh⟩ := hv
  have hx := B.exec
  have hb := B.bytes
  have hr := B.returns
  have hts := atoms_spec (ws := wf_product) B.pre
  have hown : s.vm.findClass RX11 = some m.cls := findClass_of_methodNamed B.named
  have hlocks := B.notSynchronized
  have hS : va_S (fun _ => False) s.heap s.heap [] := va_S.rf
  have hl := lv_entry ([.ref h0, .int p0, .int p1]) (n := 5) (Nat.le_of_ble_eq_true rfl)
  rw [lg_entry_eq]
  generalize (lg_sl ([.ref h0, .int p0, .int p1]) ++ List.replicate (5 - (lg_sl ([.ref h0, .int p0, .int p1])).length) Slot.unset).toArray = ls at hl ⊢
  have hl : lv_has ls 5 [(0, .ref h0), (1, .int p0), (2, .int p1)] := hl
  refine ow_named (fun QQ hQQ => ?_)
  refine lv_aload_n hx hb dX11_product_0 rfl (lv_at hl 0 rfl) ?_
  refine lv_iload_n hx hb dX11_product_1 rfl (lv_at hl 1 rfl) ?_
  refine vx_callv (vx_runV (As := [.int p0]) (rest := []) ⟨hx, hb, hml, hown, hts⟩ (kf_X11_needBraid l dC dI cI cB cJ cZ hlt h0 sa u p0) (cwV 1 hts gf_X11_product rfl rfl rfl (by decide +kernel) ⟨(Nat.le_of_ble_eq_true rfl), (Nat.le_of_ble_eq_true rfl)⟩) ⟨fun a U g mk q => by obtain ⟨q0, qP, qK, qT⟩ := q; exact ⟨q0, qP, va_K.moved (u := U) (U := U.calling g mk a) (Vm.Alike.refl U.vm) qK, ow_Th.same (u := U) (U := U.calling g mk a) rfl rfl qT⟩, va_recv hK hP (ci := 14) (q0 := 0) rfl rfl, fun U hU hW => ⟨rfl, by rw [hU]; exact hP, va_K.moved hW.alike hK, ow_Th.to hTh hS hW hU (fun q h => h)⟩⟩ rfl rfl hl.1 rfl (lv_room (Nat.le_of_ble_eq_true rfl)) dX11_product_2 ⟨(Nat.le_of_ble_eq_true rfl), (Nat.le_of_ble_eq_true rfl)⟩) hS (fun q _ h => h.elim) (fun q h => h.elim) (fun q _ h => h.elim) (fun E ce q9 u9 t H1 locs ht hvm hpx hBX hz1 hk1 hS hce hcv hcl => ?_) (fun u9 t H1 locs ht hvm hw hB hz1 hk1 hS => absurd hw (fun h => h))
  rw [hQQ]
  exact vx_out (fun x h => (hex x h).elim) hlocks hce hcv hcl (fun t9 ht9 hal => ⟨(), trivial, hBX, hS.F ht9⟩) hS.2.2 (Nat.le_of_ble_eq_true rfl) (Nat.le_of_ble_eq_true rfl)
theorem dX11_inverse_0 : decode cX11_inverse 0 = .ok (.aload_n 0, 1) := by decide +kernel
theorem dX11_inverse_1 : decode cX11_inverse 1 = .ok (.iload_n 1, 1) := by decide +kernel
theorem dX11_inverse_2 : decode cX11_inverse 2 = .ok (.invokevirtual 379, 3) := by decide +kernel
def wf_inverse : List Cond := .code yX11_inverse cX11_inverse 5 (some .int) :: wsV RX11 379 RX11 yX11_needBraid wf_needBraid
theorem gf_X11_inverse : GoodIn wf_inverse (wsV RX11 379 RX11 yX11_needBraid wf_needBraid) := goodIn_sub (fun _ h => List.mem_cons_of_mem _ h) (by decide +kernel)
set_option maxHeartbeats 4000000 in
set_option maxRecDepth 100000 in
theorem kf_X11_inverse (l : Launch) (dC : Nat → ClassId) (dI : Nat → Nat → Nat) (cI cB cJ cZ : ClassId) (hlt : l.stackTraces = false) (h0 sa : Nat) (u : Nat → Nat) (p0 : Int32) : vx_Met l yX11_inverse wf_inverse (({ frames := 7, cells := 1, slots := 6, locals := 111 } : Room)) (va_Pc [.ref h0, .int p0] (fun U => va_P (dC, dI) vwCl [(h0, .inr (14, [.ref (u 0), .ref (u 1), .ref (u 2), .ref (u 3), .ref (u 4), .ref (u 5), .ref (u 6), .ref (u 7), .ref (u 8), .ref (u 9), .ref (u 10), .ref (u 11), .ref (u 12), .ref (u 13), .ref (u 14), .ref (u 15), .ref (u 16), .ref (u 17), .ref (u 18)])), ((u 14), .inl (cI, 20, .inl (fun _ => 0)))] U.heap ∧ va_K (dC, dI) vwCl [(cI, .int), (cB, .byte), (cJ, .long), (cZ, .boolean)] U ∧ ow_Th (fun _ => False) RX11 172 "no such braid" sa "java/lang/IndexOutOfBoundsException" U)) (va_Qi (fun _ (_ : Unit) => False) (fun _ _ => True) (fun _ => False)) (vx_X (fun _ : Unit => True) (fun E _ _ => E = "java/lang/IndexOutOfBoundsException") (fun _ => False)) 1 6 (fun _ => False) := by
  refine vx_ofW (cc := cX11_inverse) (maxL := 5) (ret := (some .int)) (by decide) rfl ?_
  intro p e s m args below meth c s₁ B hml hex hv
  obtain ⟨rfl, hP, hK, hTh⟩ := hv
  have hx := B.exec
  have hb := B.bytes
  have hr := B.returns
  have hts := atoms_spec (ws := wf_inverse) B.pre
  have hown : s.vm.findClass RX11 = some m.cls := findClass_of_methodNamed B.named
  have hlocks := B.notSynchronized
  have hS : va_S (fun _ => False) s.heap s.heap [] := va_S.rf
  have hl := lv_entry ([.ref h0, .int p0]) (n := 5) (Nat.le_of_ble_eq_true rfl)
  rw [lg_entry_eq]
  generalize (lg_sl ([.ref h0, .int p0]) ++ List.replicate (5 - (lg_sl ([.ref h0, .int p0])).length) Slot.unset).toArray = ls at hl ⊢
  have hl : lv_has ls 5 [(0, .ref h0), (1, .int p0)] := hl
  refine ow_named (fun QQ hQQ => ?_)
  refine lv_aload_n hx hb dX11_inverse_0 rfl (lv_at hl 0 rfl) ?_
  refine lv_iload_n hx hb dX11_inverse_1 rfl (lv_at hl 1 rfl) ?_
  refine vx_callv (vx_runV (As := [.int p0]) (rest := []) ⟨hx, hb, hml, hown, hts⟩ (kf_X11_needBraid l dC dI cI cB cJ cZ hlt h0 sa u p0) (cwV 1 hts gf_X11_inverse rfl rfl rfl (by decide +kernel) ⟨(Nat.le_of_ble_eq_true rfl), (Nat.le_of_ble_eq_true rfl)⟩) ⟨fun a U g mk q => by obtain ⟨q0, qP, qK, qT⟩ := q; exact ⟨q0, qP, va_K.moved (u := U) (U := U.calling g mk a) (Vm.Alike.refl U.vm) qK, ow_Th.same (u := U) (U := U.calling g mk a) rfl rfl qT⟩, va_recv hK hP (ci := 14) (q0 := 0) rfl rfl, fun U hU hW => ⟨rfl, by rw [hU]; exact hP, va_K.moved hW.alike hK, ow_Th.to hTh hS hW hU (fun q h => h)⟩⟩ rfl rfl hl.1 rfl (lv_room (Nat.le_of_ble_eq_true rfl)) dX11_inverse_2 ⟨(Nat.le_of_ble_eq_true rfl), (Nat.le_of_ble_eq_true rfl)⟩) hS (fun q _ h => h.elim) (fun q h => h.elim) (fun q _ h => h.elim) (fun E ce q9 u9 t H1 locs ht hvm hpx hBX hz1 hk1 hS hce hcv hcl => ?_) (fun u9 t H1 locs ht hvm hw hB hz1 hk1 hS => absurd hw (fun h => h))
  rw [hQQ]
  exact vx_out (fun x h => (hex x h).elim) hlocks hce hcv hcl (fun t9 ht9 hal => ⟨(), trivial, hBX, hS.F ht9⟩) hS.2.2 (Nat.le_of_ble_eq_true rfl) (Nat.le_of_ble_eq_true rfl)
theorem dX11_normal_0 : decode cX11_normal 0 = .ok (.aload_n 0, 1) := by decide +kernel
theorem dX11_normal_1 : decode cX11_normal 1 = .ok (.iload_n 1, 1) := by decide +kernel
theorem dX11_normal_2 : decode cX11_normal 2 = .ok (.invokevirtual 379, 3) := by decide +kernel
def wf_normal : List Cond := .code yX11_normal cX11_normal 3 (some .int) :: wsV RX11 379 RX11 yX11_needBraid wf_needBraid
theorem gf_X11_normal : GoodIn wf_normal (wsV RX11 379 RX11 yX11_needBraid wf_needBraid) := goodIn_sub (fun _ h => List.mem_cons_of_mem _ h) (by decide +kernel)
set_option maxHeartbeats 4000000 in
set_option maxRecDepth 100000 in
theorem kf_X11_normal (l : Launch) (dC : Nat → ClassId) (dI : Nat → Nat → Nat) (cI cB cJ cZ : ClassId) (hlt : l.stackTraces = false) (h0 sa : Nat) (u : Nat → Nat) (p0 p1 : Int32) : vx_Met l yX11_normal wf_normal (({ frames := 7, cells := 1, slots := 6, locals := 111 } : Room)) (va_Pc [.ref h0, .int p0, .int p1] (fun U => va_P (dC, dI) vwCl [(h0, .inr (14, [.ref (u 0), .ref (u 1), .ref (u 2), .ref (u 3), .ref (u 4), .ref (u 5), .ref (u 6), .ref (u 7), .ref (u 8), .ref (u 9), .ref (u 10), .ref (u 11), .ref (u 12), .ref (u 13), .ref (u 14), .ref (u 15), .ref (u 16), .ref (u 17), .ref (u 18)])), ((u 14), .inl (cI, 20, .inl (fun _ => 0)))] U.heap ∧ va_K (dC, dI) vwCl [(cI, .int), (cB, .byte), (cJ, .long), (cZ, .boolean)] U ∧ ow_Th (fun _ => False) RX11 172 "no such braid" sa "java/lang/IndexOutOfBoundsException" U)) (va_Qi (fun _ (_ : Unit) => False) (fun _ _ => True) (fun _ => False)) (vx_X (fun _ : Unit => True) (fun E _ _ => E = "java/lang/IndexOutOfBoundsException") (fun _ => False)) 1 6 (fun _ => False) := by
  refine vx_ofW (cc := cX11_normal) (maxL := 3) (ret := (some .int)) (by decide) rfl ?_
  intro p e s m args below meth c s₁ B hml hex hv
  obtain ⟨rfl, hP, hK, hTh⟩ := hv
  have hx := B.exec
  have hb := B.bytes
  have hr := B.returns
  have hts := atoms_spec (ws := wf_normal) B.pre
  have hown : s.vm.findClass RX11 = some m.cls := findClass_of_methodNamed B.named
  have hlocks := B.notSynchronized
  have hS : va_S (fun _ => False) s.heap s.heap [] := va_S.rf
  have hl := lv_entry ([.ref h0, .int p0, .int p1]) (n := 3) (Nat.le_of_ble_eq_true rfl)
  rw [lg_entry_eq]
  generalize (lg_sl ([.ref h0, .int p0, .int p1]) ++ List.replicate (3 - (lg_sl ([.ref h0, .int p0, .int p1])).length) Slot.unset).toArray = ls at hl ⊢
  have hl : lv_has ls 3 [(0, .ref h0), (1, .int p0), (2, .int p1)] := hl
  refine ow_named (fun QQ hQQ => ?_)
  refine lv_aload_n hx hb dX11_normal_0 rfl (lv_at hl 0 rfl) ?_
  refine lv_iload_n hx hb dX11_normal_1 rfl (lv_at hl 1 rfl) ?_
  refine vx_callv (vx_runV (As := [.int p0]) (rest := []) ⟨hx, hb, hml, hown, hts⟩ (kf_X11_needBraid l dC dI cI cB cJ cZ hlt h0 sa u p0) (cwV 1 hts gf_X11_normal rfl rfl rfl (by decide +kernel) ⟨(Nat.le_of_ble_eq_true rfl), (Nat.le_of_ble_eq_true rfl)⟩) ⟨fun a U g mk q => by obtain ⟨q0, qP, qK, qT⟩ := q; exact ⟨q0, qP, va_K.moved (u := U) (U := U.calling g mk a) (Vm.Alike.refl U.vm) qK, ow_Th.same (u := U) (U := U.calling g mk a) rfl rfl qT⟩, va_recv hK hP (ci := 14) (q0 := 0) rfl rfl, fun U hU hW => ⟨rfl, by rw [hU]; exact hP, va_K.moved hW.alike hK, ow_Th.to hTh hS hW hU (fun q h => h)⟩⟩ rfl rfl hl.1 rfl (lv_room (Nat.le_of_ble_eq_true rfl)) dX11_normal_2 ⟨(Nat.le_of_ble_eq_true rfl), (Nat.le_of_ble_eq_true rfl)⟩) hS (fun q _ h => h.elim) (fun q h => h.elim) (fun q _ h => h.elim) (fun E ce q9 u9 t H1 locs ht hvm hpx hBX hz1 hk1 hS hce hcv hcl => ?_) (fun u9 t H1 locs ht hvm hw hB hz1 hk1 hS => absurd hw (fun h => h))
  rw [hQQ]
  exact vx_out (fun x h => (hex x h).elim) hlocks hce hcv hcl (fun t9 ht9 hal => ⟨(), trivial, hBX, hS.F ht9⟩) hS.2.2 (Nat.le_of_ble_eq_true rfl) (Nat.le_of_ble_eq_true rfl)
theorem dX11_factor_0 : decode cX11_factor 0 = .ok (.aload_n 0, 1) := by decide +kernel
theorem dX11_factor_1 : decode cX11_factor 1 = .ok (.iload_n 1, 1) := by decide +kernel
theorem dX11_factor_2 : decode cX11_factor 2 = .ok (.invokevirtual 379, 3) := by decide +kernel
def wf_factor : List Cond := .code yX11_factor cX11_factor 4 (some .int) :: wsV RX11 379 RX11 yX11_needBraid wf_needBraid
theorem gf_X11_factor : GoodIn wf_factor (wsV RX11 379 RX11 yX11_needBraid wf_needBraid) := goodIn_sub (fun _ h => List.mem_cons_of_mem _ h) (by decide +kernel)
set_option maxHeartbeats 4000000 in
set_option maxRecDepth 100000 in
theorem kf_X11_factor (l : Launch) (dC : Nat → ClassId) (dI : Nat → Nat → Nat) (cI cB cJ cZ : ClassId) (hlt : l.stackTraces = false) (h0 sa : Nat) (u : Nat → Nat) (p0 p1 p2 : Int32) : vx_Met l yX11_factor wf_factor (({ frames := 7, cells := 1, slots := 6, locals := 111 } : Room)) (va_Pc [.ref h0, .int p0, .int p1, .int p2] (fun U => va_P (dC, dI) vwCl [(h0, .inr (14, [.ref (u 0), .ref (u 1), .ref (u 2), .ref (u 3), .ref (u 4), .ref (u 5), .ref (u 6), .ref (u 7), .ref (u 8), .ref (u 9), .ref (u 10), .ref (u 11), .ref (u 12), .ref (u 13), .ref (u 14), .ref (u 15), .ref (u 16), .ref (u 17), .ref (u 18)])), ((u 14), .inl (cI, 20, .inl (fun _ => 0)))] U.heap ∧ va_K (dC, dI) vwCl [(cI, .int), (cB, .byte), (cJ, .long), (cZ, .boolean)] U ∧ ow_Th (fun _ => False) RX11 172 "no such braid" sa "java/lang/IndexOutOfBoundsException" U)) (va_Qi (fun _ (_ : Unit) => False) (fun _ _ => True) (fun _ => False)) (vx_X (fun _ : Unit => True) (fun E _ _ => E = "java/lang/IndexOutOfBoundsException") (fun _ => False)) 1 6 (fun _ => False) := by
  refine vx_ofW (cc := cX11_factor) (maxL := 4) (ret := (some .int)) (by decide) rfl ?_
  intro p e s m args below meth c s₁ B hml hex hv
  obtain ⟨rfl, hP, hK, hTh⟩ := hv
  have hx := B.exec
  have hb := B.bytes
  have hr := B.returns
  have hts := atoms_spec (ws := wf_factor) B.pre
  have hown : s.vm.findClass RX11 = some m.cls := findClass_of_methodNamed B.named
  have hlocks := B.notSynchronized
  have hS : va_S (fun _ => False) s.heap s.heap [] := va_S.rf
  have hl := lv_entry ([.ref h0, .int p0, .int p1, .int p2]) (n := 4) (Nat.le_of_ble_eq_true rfl)
  rw [lg_entry_eq]
  generalize (lg_sl ([.ref h0, .int p0, .int p1, .int p2]) ++ List.replicate (4 - (lg_sl ([.ref h0, .int p0, .int p1, .int p2])).length) Slot.unset).toArray = ls at hl ⊢
  have hl : lv_has ls 4 [(0, .ref h0), (1, .int p0), (2, .int p1), (3, .int p2)] := hl
  refine ow_named (fun QQ hQQ => ?_)
  refine lv_aload_n hx hb dX11_factor_0 rfl (lv_at hl 0 rfl) ?_
  refine lv_iload_n hx hb dX11_factor_1 rfl (lv_at hl 1 rfl) ?_
  refine vx_callv (vx_runV (As := [.int p0]) (rest := []) ⟨hx, hb, hml, hown, hts⟩ (kf_X11_needBraid l dC dI cI cB cJ cZ hlt h0 sa u p0) (cwV 1 hts gf_X11_factor rfl rfl rfl (by decide +kernel) ⟨(Nat.le_of_ble_eq_true rfl), (Nat.le_of_ble_eq_true rfl)⟩) ⟨fun a U g mk q => by obtain ⟨q0, qP, qK, qT⟩ := q; exact ⟨q0, qP, va_K.moved (u := U) (U := U.calling g mk a) (Vm.Alike.refl U.vm) qK, ow_Th.same (u := U) (U := U.calling g mk a) rfl rfl qT⟩, va_recv hK hP (ci := 14) (q0 := 0) rfl rfl, fun U hU hW => ⟨rfl, by rw [hU]; exact hP, va_K.moved hW.alike hK, ow_Th.to hTh hS hW hU (fun q h => h)⟩⟩ rfl rfl hl.1 rfl (lv_room (Nat.le_of_ble_eq_true rfl)) dX11_factor_2 ⟨(Nat.le_of_ble_eq_true rfl), (Nat.le_of_ble_eq_true rfl)⟩) hS (fun q _ h => h.elim) (fun q h => h.elim) (fun q _ h => h.elim) (fun E ce q9 u9 t H1 locs ht hvm hpx hBX hz1 hk1 hS hce hcv hcl => ?_) (fun u9 t H1 locs ht hvm hw hB hz1 hk1 hS => absurd hw (fun h => h))
  rw [hQQ]
  exact vx_out (fun x h => (hex x h).elim) hlocks hce hcv hcl (fun t9 ht9 hal => ⟨(), trivial, hBX, hS.F ht9⟩) hS.2.2 (Nat.le_of_ble_eq_true rfl) (Nat.le_of_ble_eq_true rfl)
theorem dX11_summit_0 : decode cX11_summit 0 = .ok (.aload_n 0, 1) := by decide +kernel
theorem dX11_summit_1 : decode cX11_summit 1 = .ok (.iload_n 1, 1) := by decide +kernel
theorem dX11_summit_2 : decode cX11_summit 2 = .ok (.invokevirtual 379, 3) := by decide +kernel
def wf_summit : List Cond := .code yX11_summit cX11_summit 2 (some .int) :: wsV RX11 379 RX11 yX11_needBraid wf_needBraid
theorem gf_X11_summit : GoodIn wf_summit (wsV RX11 379 RX11 yX11_needBraid wf_needBraid) := goodIn_sub (fun _ h => List.mem_cons_of_mem _ h) (by decide +kernel)
set_option maxHeartbeats 4000000 in
set_option maxRecDepth 100000 in
theorem kf_X11_summit (l : Launch) (dC : Nat → ClassId) (dI : Nat → Nat → Nat) (cI cB cJ cZ : ClassId) (hlt : l.stackTraces = false) (h0 sa : Nat) (u : Nat → Nat) (p0 : Int32) : vx_Met l yX11_summit wf_summit (({ frames := 7, cells := 1, slots := 6, locals := 111 } : Room)) (va_Pc [.ref h0, .int p0] (fun U => va_P (dC, dI) vwCl [(h0, .inr (14, [.ref (u 0), .ref (u 1), .ref (u 2), .ref (u 3), .ref (u 4), .ref (u 5), .ref (u 6), .ref (u 7), .ref (u 8), .ref (u 9), .ref (u 10), .ref (u 11), .ref (u 12), .ref (u 13), .ref (u 14), .ref (u 15), .ref (u 16), .ref (u 17), .ref (u 18)])), ((u 14), .inl (cI, 20, .inl (fun _ => 0)))] U.heap ∧ va_K (dC, dI) vwCl [(cI, .int), (cB, .byte), (cJ, .long), (cZ, .boolean)] U ∧ ow_Th (fun _ => False) RX11 172 "no such braid" sa "java/lang/IndexOutOfBoundsException" U)) (va_Qi (fun _ (_ : Unit) => False) (fun _ _ => True) (fun _ => False)) (vx_X (fun _ : Unit => True) (fun E _ _ => E = "java/lang/IndexOutOfBoundsException") (fun _ => False)) 1 6 (fun _ => False) := by
  refine vx_ofW (cc := cX11_summit) (maxL := 2) (ret := (some .int)) (by decide) rfl ?_
  intro p e s m args below meth c s₁ B hml hex hv
  obtain ⟨rfl, hP, hK, hTh⟩ := hv
  have hx := B.exec
  have hb := B.bytes
  have hr := B.returns
  have hts := atoms_spec (ws := wf_summit) B.pre
  have hown : s.vm.findClass RX11 = some m.cls := findClass_of_methodNamed B.named
  have hlocks := B.notSynchronized
  have hS : va_S (fun _ => False) s.heap s.heap [] := va_S.rf
  have hl := lv_entry ([.ref h0, .int p0]) (n := 2) (Nat.le_of_ble_eq_true rfl)
  rw [lg_entry_eq]
  generalize (lg_sl ([.ref h0, .int p0]) ++ List.replicate (2 - (lg_sl ([.ref h0, .int p0])).length) Slot.unset).toArray = ls at hl ⊢
  have hl : lv_has ls 2 [(0, .ref h0), (1, .int p0)] := hl
  refine ow_named (fun QQ hQQ => ?_)
  refine lv_aload_n hx hb dX11_summit_0 rfl (lv_at hl 0 rfl) ?_
  refine lv_iload_n hx hb dX11_summit_1 rfl (lv_at hl 1 rfl) ?_
  refine vx_callv (vx_runV (As := [.int p0]) (rest := []) ⟨hx, hb, hml, hown, hts⟩ (kf_X11_needBraid l dC dI cI cB cJ cZ hlt h0 sa u p0) (cwV 1 hts gf_X11_summit rfl rfl rfl (by decide +kernel) ⟨(Nat.le_of_ble_eq_true rfl), (Nat.le_of_ble_eq_true rfl)⟩) ⟨fun a U g mk q => by obtain ⟨q0, qP, qK, qT⟩ := q; exact ⟨q0, qP, va_K.moved (u := U) (U := U.calling g mk a) (Vm.Alike.refl U.vm) qK, ow_Th.same (u := U) (U := U.calling g mk a) rfl rfl qT⟩, va_recv hK hP (ci := 14) (q0 := 0) rfl rfl, fun U hU hW => ⟨rfl, by rw [hU]; exact hP, va_K.moved hW.alike hK, ow_Th.to hTh hS hW hU (fun q h => h)⟩⟩ rfl rfl hl.1 rfl (lv_room (Nat.le_of_ble_eq_true rfl)) dX11_summit_2 ⟨(Nat.le_of_ble_eq_true rfl), (Nat.le_of_ble_eq_true rfl)⟩) hS (fun q _ h => h.elim) (fun q h => h.elim) (fun q _ h => h.elim) (fun E ce q9 u9 t H1 locs ht hvm hpx hBX hz1 hk1 hS hce hcv hcl => ?_) (fun u9 t H1 locs ht hvm hw hB hz1 hk1 hS => absurd hw (fun h => h))
  rw [hQQ]
  exact vx_out (fun x h => (hex x h).elim) hlocks hce hcv hcl (fun t9 ht9 hal => ⟨(), trivial, hBX, hS.F ht9⟩) hS.2.2 (Nat.le_of_ble_eq_true rfl) (Nat.le_of_ble_eq_true rfl)
theorem dX11_conjugate_0 : decode cX11_conjugate 0 = .ok (.aload_n 0, 1) := by decide +kernel
theorem dX11_conjugate_1 : decode cX11_conjugate 1 = .ok (.iload_n 1, 1) := by decide +kernel
theorem dX11_conjugate_2 : decode cX11_conjugate 2 = .ok (.invokevirtual 379, 3) := by decide +kernel
def wf_conjugate : List Cond := .code yX11_conjugate cX11_conjugate 5 (some .int) :: wsV RX11 379 RX11 yX11_needBraid wf_needBraid
theorem gf_X11_conjugate : GoodIn wf_conjugate (wsV RX11 379 RX11 yX11_needBraid wf_needBraid) := goodIn_sub (fun _ h => List.mem_cons_of_mem _ h) (by decide +kernel)
set_option maxHeartbeats 4000000 in
set_option maxRecDepth 100000 in
theorem kf_X11_conjugate (l : Launch) (dC : Nat → ClassId) (dI : Nat → Nat → Nat) (cI cB cJ cZ : ClassId) (hlt : l.stackTraces = false) (h0 sa : Nat) (u : Nat → Nat) (p0 p1 : Int32) : vx_Met l yX11_conjugate wf_conjugate (({ frames := 7, cells := 1, slots := 6, locals := 111 } : Room)) (va_Pc [.ref h0, .int p0, .int p1] (fun U => va_P (dC, dI) vwCl [(h0, .inr (14, [.ref (u 0), .ref (u 1), .ref (u 2), .ref (u 3), .ref (u 4), .ref (u 5), .ref (u 6), .ref (u 7), .ref (u 8), .ref (u 9), .ref (u 10), .ref (u 11), .ref (u 12), .ref (u 13), .ref (u 14), .ref (u 15), .ref (u 16), .ref (u 17), .ref (u 18)])), ((u 14), .inl (cI, 20, .inl (fun _ => 0)))] U.heap ∧ va_K (dC, dI) vwCl [(cI, .int), (cB, .byte), (cJ, .long), (cZ, .boolean)] U ∧ ow_Th (fun _ => False) RX11 172 "no such braid" sa "java/lang/IndexOutOfBoundsException" U)) (va_Qi (fun _ (_ : Unit) => False) (fun _ _ => True) (fun _ => False)) (vx_X (fun _ : Unit => True) (fun E _ _ => E = "java/lang/IndexOutOfBoundsException") (fun _ => False)) 1 6 (fun _ => False) := by
  refine vx_ofW (cc := cX11_conjugate) (maxL := 5) (ret := (some .int)) (by decide) rfl ?_
  intro p e s m args below meth c s₁ B hml hex hv
  obtain ⟨rfl, hP, hK, hTh⟩ := hv
  have hx := B.exec
  have hb := B.bytes
  have hr := B.returns
  have hts := atoms_spec (ws := wf_conjugate) B.pre
  have hown : s.vm.findClass RX11 = some m.cls := findClass_of_methodNamed B.named
  have hlocks := B.notSynchronized
  have hS : va_S (fun _ => False) s.heap s.heap [] := va_S.rf
  have hl := lv_entry ([.ref h0, .int p0, .int p1]) (n := 5) (Nat.le_of_ble_eq_true rfl)
  rw [lg_entry_eq]
  generalize (lg_sl ([.ref h0, .int p0, .int p1]) ++ List.replicate (5 - (lg_sl ([.ref h0, .int p0, .int p1])).length) Slot.unset).toArray = ls at hl ⊢
  have hl : lv_has ls 5 [(0, .ref h0), (1, .int p0), (2, .int p1)] := hl
  refine ow_named (fun QQ hQQ => ?_)
  refine lv_aload_n hx hb dX11_conjugate_0 rfl (lv_at hl 0 rfl) ?_
  refine lv_iload_n hx hb dX11_conjugate_1 rfl (lv_at hl 1 rfl) ?_
  refine vx_callv (vx_runV (As := [.int p0]) (rest := []) ⟨hx, hb, hml, hown, hts⟩ (kf_X11_needBraid l dC dI cI cB cJ cZ hlt h0 sa u p0) (cwV 1 hts gf_X11_conjugate rfl rfl rfl (by decide +kernel) ⟨(Nat.le_of_ble_eq_true rfl), (Nat.le_of_ble_eq_true rfl)⟩) ⟨fun a U g mk q => by obtain ⟨q0, qP, qK, qT⟩ := q; exact ⟨q0, qP, va_K.moved (u := U) (U := U.calling g mk a) (Vm.Alike.refl U.vm) qK, ow_Th.same (u := U) (U := U.calling g mk a) rfl rfl qT⟩, va_recv hK hP (ci := 14) (q0 := 0) rfl rfl, fun U hU hW => ⟨rfl, by rw [hU]; exact hP, va_K.moved hW.alike hK, ow_Th.to hTh hS hW hU (fun q h => h)⟩⟩ rfl rfl hl.1 rfl (lv_room (Nat.le_of_ble_eq_true rfl)) dX11_conjugate_2 ⟨(Nat.le_of_ble_eq_true rfl), (Nat.le_of_ble_eq_true rfl)⟩) hS (fun q _ h => h.elim) (fun q h => h.elim) (fun q _ h => h.elim) (fun E ce q9 u9 t H1 locs ht hvm hpx hBX hz1 hk1 hS hce hcv hcl => ?_) (fun u9 t H1 locs ht hvm hw hB hz1 hk1 hS => absurd hw (fun h => h))
  rw [hQQ]
  exact vx_out (fun x h => (hex x h).elim) hlocks hce hcv hcl (fun t9 ht9 hal => ⟨(), trivial, hBX, hS.F ht9⟩) hS.2.2 (Nat.le_of_ble_eq_true rfl) (Nat.le_of_ble_eq_true rfl)
theorem dX11_two_0 : decode cX11_two 0 = .ok (.aload_n 0, 1) := by decide +kernel
theorem dX11_two_1 : decode cX11_two 1 = .ok (.iload_n 1, 1) := by decide +kernel
theorem dX11_two_2 : decode cX11_two 2 = .ok (.invokevirtual 379, 3) := by decide +kernel
def wf_two : List Cond := .code yX11_two cX11_two 4 (some .int) :: wsV RX11 379 RX11 yX11_needBraid wf_needBraid
theorem gf_X11_two : GoodIn wf_two (wsV RX11 379 RX11 yX11_needBraid wf_needBraid) := goodIn_sub (fun _ h => List.mem_cons_of_mem _ h) (by decide +kernel)
set_option maxHeartbeats 4000000 in
set_option maxRecDepth 100000 in
theorem kf_X11_two (l : Launch) (dC : Nat → ClassId) (dI : Nat → Nat → Nat) (cI cB cJ cZ : ClassId) (hlt : l.stackTraces = false) (h0 sa : Nat) (u : Nat → Nat) (p0 p1 p2 : Int32) : vx_Met l yX11_two wf_two (({ frames := 7, cells := 1, slots := 6, locals := 111 } : Room)) (va_Pc [.ref h0, .int p0, .int p1, .int p2] (fun U => va_P (dC, dI) vwCl [(h0, .inr (14, [.ref (u 0), .ref (u 1), .ref (u 2), .ref (u 3), .ref (u 4), .ref (u 5), .ref (u 6), .ref (u 7), .ref (u 8), .ref (u 9), .ref (u 10), .ref (u 11), .ref (u 12), .ref (u 13), .ref (u 14), .ref (u 15), .ref (u 16), .ref (u 17), .ref (u 18)])), ((u 14), .inl (cI, 20, .inl (fun _ => 0)))] U.heap ∧ va_K (dC, dI) vwCl [(cI, .int), (cB, .byte), (cJ, .long), (cZ, .boolean)] U ∧ ow_Th (fun _ => False) RX11 172 "no such braid" sa "java/lang/IndexOutOfBoundsException" U)) (va_Qi (fun _ (_ : Unit) => False) (fun _ _ => True) (fun _ => False)) (vx_X (fun _ : Unit => True) (fun E _ _ => E = "java/lang/IndexOutOfBoundsException") (fun _ => False)) 1 6 (fun _ => False) := by
  refine vx_ofW (cc := cX11_two) (maxL := 4) (ret := (some .int)) (by decide) rfl ?_
  intro p e s m args below meth c s₁ B hml hex hv
  obtain ⟨rfl, hP, hK, hTh⟩ := hv
  have hx := B.exec
  have hb := B.bytes
  have hr := B.returns
  have hts := atoms_spec (ws := wf_two) B.pre
  have hown : s.vm.findClass RX11 = some m.cls := findClass_of_methodNamed B.named
  have hlocks := B.notSynchronized
  have hS : va_S (fun _ => False) s.heap s.heap [] := va_S.rf
  have hl := lv_entry ([.ref h0, .int p0, .int p1, .int p2]) (n := 4) (Nat.le_of_ble_eq_true rfl)
  rw [lg_entry_eq]
  generalize (lg_sl ([.ref h0, .int p0, .int p1, .int p2]) ++ List.replicate (4 - (lg_sl ([.ref h0, .int p0, .int p1, .int p2])).length) Slot.unset).toArray = ls at hl ⊢
  have hl : lv_has ls 4 [(0, .ref h0), (1, .int p0), (2, .int p1), (3, .int p2)] := hl
  refine ow_named (fun QQ hQQ => ?_)
  refine lv_aload_n hx hb dX11_two_0 rfl (lv_at hl 0 rfl) ?_
  refine lv_iload_n hx hb dX11_two_1 rfl (lv_at hl 1 rfl) ?_
  refine vx_callv (vx_runV (As := [.int p0]) (rest := []) ⟨hx, hb, hml, hown, hts⟩ (kf_X11_needBraid l dC dI cI cB cJ cZ hlt h0 sa u p0) (cwV 1 hts gf_X11_two rfl rfl rfl (by decide +kernel) ⟨(Nat.le_of_ble_eq_true rfl), (Nat.le_of_ble_eq_true rfl)⟩) ⟨fun a U g mk q => by obtain ⟨q0, qP, qK, qT⟩ := q; exact ⟨q0, qP, va_K.moved (u := U) (U := U.calling g mk a) (Vm.Alike.refl U.vm) qK, ow_Th.same (u := U) (U := U.calling g mk a) rfl rfl qT⟩, va_recv hK hP (ci := 14) (q0 := 0) rfl rfl, fun U hU hW => ⟨rfl, by rw [hU]; exact hP, va_K.moved hW.alike hK, ow_Th.to hTh hS hW hU (fun q h => h)⟩⟩ rfl rfl hl.1 rfl (lv_room (Nat.le_of_ble_eq_true rfl)) dX11_two_2 ⟨(Nat.le_of_ble_eq_true rfl), (Nat.le_of_ble_eq_true rfl)⟩) hS (fun q _ h => h.elim) (fun q h => h.elim) (fun q _ h => h.elim) (fun E ce q9 u9 t H1 locs ht hvm hpx hBX hz1 hk1 hS hce hcv hcl => ?_) (fun u9 t H1 locs ht hvm hw hB hz1 hk1 hS => absurd hw (fun h => h))
  rw [hQQ]
  exact vx_out (fun x h => (hex x h).elim) hlocks hce hcv hcl (fun t9 ht9 hal => ⟨(), trivial, hBX, hS.F ht9⟩) hS.2.2 (Nat.le_of_ble_eq_true rfl) (Nat.le_of_ble_eq_true rfl)
