theorem dL_figure_0 : decode cL_figure 0 = .ok (.aload_n 3, 1) := by decide +kernel
theorem dL_figure_1 : decode cL_figure 1 = .ok (.iconst 0, 1) := by decide +kernel
theorem dL_figure_2 : decode cL_figure 2 = .ok (.aload_n 0, 1) := by decide +kernel
theorem dL_figure_3 : decode cL_figure 3 = .ok (.iload_n 1, 1) := by decide +kernel
theorem dL_figure_4 : decode cL_figure 4 = .ok (.iload_n 2, 1) := by decide +kernel
theorem dL_figure_5 : decode cL_figure 5 = .ok (.invokevirtual 29, 3) := by decide +kernel
theorem dL_figure_13 : decode cL_figure 13 = .ok (.astore 4, 2) := by decide +kernel
theorem dL_figure_15 : decode cL_figure 15 = .ok (.iconst 1, 1) := by decide +kernel
theorem dL_figure_16 : decode cL_figure 16 = .ok (.ireturn, 1) := by decide +kernel
def wf_L_figure : List Cond := .codeWith yL_figure cL_figure 5 (some .int) [(0, 10, 13, 33), (0, 10, 17, 19)] :: (.classLink RL 33 "java/lang/IndexOutOfBoundsException" :: wsV RL 29 RX11 yX11_figure wf_figure)
theorem gf_L_figure : GoodIn wf_L_figure (wsV RL 29 RX11 yX11_figure wf_figure) := goodIn_sub (fun _ h => List.mem_cons_of_mem _ (List.mem_cons_of_mem _ h)) (by decide +kernel)
set_option maxHeartbeats 4000000 in
set_option maxRecDepth 100000 in
theorem kf_L_figure (l : Launch) (dC : Nat → ClassId) (dI : Nat → Nat → Nat) (cI cB cJ cZ : ClassId) (hlt : l.stackTraces = false) (h0 sa qo : Nat) (u : Nat → Nat) (p0 p1 : Int32) : vx_Met l yL_figure wf_L_figure (({ frames := 8, cells := 1, slots := 6, locals := 133 } : Room)) (va_Pc [.ref h0, .int p0, .int p1, .ref qo] (fun U => va_P (dC, dI) vwCl [(h0, .inr (14, [.ref (u 0), .ref (u 1), .ref (u 2), .ref (u 3), .ref (u 4), .ref (u 5), .ref (u 6), .ref (u 7), .ref (u 8), .ref (u 9), .ref (u 10), .ref (u 11), .ref (u 12), .ref (u 13), .ref (u 14), .ref (u 15), .ref (u 16), .ref (u 17), .ref (u 18)])), ((u 0), .inr (6, [.ref (u 19), .ref (u 20), .ref (u 21), .ref (u 22), .int 0])), ((u 20), .inl (cB, 40, .inl (fun _ => 0)))] U.heap ∧ va_K (dC, dI) vwCl [(cI, .int), (cB, .byte), (cJ, .long), (cZ, .boolean)] U ∧ ow_Th (fun _ => False) RX11 166 "no such diagram" sa "java/lang/IndexOutOfBoundsException" U)) (va_Qi (fun r (_ : Unit) => r = 1) (fun _ _ => True) (fun _ => False)) (vx_X (fun _ : Unit => False) (fun _ _ _ => True) (fun _ => False)) 1 6 (fun _ => False) := by
  refine vx_ofWH (cc := cL_figure) (maxL := 5) (ret := (some .int)) (hh := [(0, 10, 13, 33), (0, 10, 17, 19)]) (by decide) rfl ?_
  intro p e s m args below meth c s₁ B hml hv
  obtain ⟨rfl, hP, hK, hTh⟩ := hv
  have hx := B.exec
  have hb := B.bytes
  have hr := B.returns
  have hts := atoms_spec (ws := wf_L_figure) B.pre
  have htab := vx_table (x := yL_figure) B (hts _ List.mem_cons_self)
  have hown : s.vm.findClass RL = some m.cls := findClass_of_methodNamed B.named
  have hlocks := B.notSynchronized
  have hS : va_S (fun _ => False) s.heap s.heap [] := va_S.rf
  have hl := lv_entry ([.ref h0, .int p0, .int p1, .ref qo]) (n := 5) (Nat.le_of_ble_eq_true rfl)
  rw [lg_entry_eq]
  generalize (lg_sl ([.ref h0, .int p0, .int p1, .ref qo]) ++ List.replicate (5 - (lg_sl ([.ref h0, .int p0, .int p1, .ref qo])).length) Slot.unset).toArray = ls at hl ⊢
  have hl : lv_has ls 5 [(0, .ref h0), (1, .int p0), (2, .int p1), (3, .ref qo)] := hl
  refine ow_named (fun QQ hQQ => ?_)
  refine lv_aload_n hx hb dL_figure_0 rfl (lv_at hl 3 rfl) ?_
  refine lv_iconst (v := 0) hx hb dL_figure_1 (by decide) ?_
  refine lv_aload_n hx hb dL_figure_2 rfl (lv_at hl 0 rfl) ?_
  refine lv_iload_n hx hb dL_figure_3 rfl (lv_at hl 1 rfl) ?_
  refine lv_iload_n hx hb dL_figure_4 rfl (lv_at hl 2 rfl) ?_
  refine vx_calli (vx_runV (As := [.int p0, .int p1]) (rest := [.int 0, .ref qo]) ⟨hx, hb, hml, hown, hts⟩ (kf_X11_figure l dC dI cI cB cJ cZ hlt h0 sa u p0 p1) (cwV 2 hts gf_L_figure rfl rfl rfl (by decide +kernel) ⟨(Nat.le_of_ble_eq_true rfl), (Nat.le_of_ble_eq_true rfl)⟩) ⟨fun a U g mk q => by obtain ⟨q0, qP, qK, qT⟩ := q; exact ⟨q0, qP, va_K.moved (u := U) (U := U.calling g mk a) (Vm.Alike.refl U.vm) qK, ow_Th.same (u := U) (U := U.calling g mk a) rfl rfl qT⟩, va_recv hK hP (ci := 14) (q0 := 0) rfl rfl, fun U hU hW => ⟨rfl, by rw [hU]; exact hP, va_K.moved hW.alike hK, ow_Th.to hTh hS hW hU (fun q h => h)⟩⟩ rfl rfl hl.1 rfl (lv_room (Nat.le_of_ble_eq_true rfl)) dL_figure_5 ⟨(Nat.le_of_ble_eq_true rfl), (Nat.le_of_ble_eq_true rfl)⟩) hS (fun q _ h => h.elim) (fun q h => h.elim) (fun q _ h => h.elim) (fun E ce q9 u9 t H1 locs ht hvm hpx hBX hz1 hk1 hS hce hcv hcl => ?_) (fun r9 u9 t H1 locs ht hvm hw hB hz1 hk1 hS => absurd hw (fun h => h))
  subst hBX
  refine vx_catch (name := "java/lang/IndexOutOfBoundsException") hown [] ⟨0, 10, 13, 33⟩ [⟨0, 10, 17, 19⟩] htab (fun z hz => by cases hz) (by decide) (by decide) (hts (.classLink RL 33 "java/lang/IndexOutOfBoundsException") (by decide +kernel)) (va_Nw.use rfl hTh.2.2.2.2.2.2) hce hcv hcl ?_
  refine lv_astore (lv' := [(4, .ref q9), (0, .ref h0), (1, .int p0), (2, .int p1), (3, .ref qo)]) hx hb dL_figure_13 hl (by decide) rfl (fun ls hl => ?_)
  refine lv_iconst (v := 1) hx hb dL_figure_15 (by decide) ?_
  refine W.widen (k := 1) (n := 6) (Nat.le_of_ble_eq_true rfl) (Nat.le_of_ble_eq_true rfl) ?_
  rw [hQQ]
  exact vx_ret (W.iret (v := 1) hx hb hr (fun t ht hW => ⟨⟨1, (), rfl, rfl, trivial⟩, hS.F ht⟩) hS.2.2 dL_figure_16)
theorem dL_visit_0 : decode cL_visit 0 = .ok (.aload 4, 2) := by decide +kernel
theorem dL_visit_2 : decode cL_visit 2 = .ok (.iconst 0, 1) := by decide +kernel
theorem dL_visit_3 : decode cL_visit 3 = .ok (.aload_n 0, 1) := by decide +kernel
theorem dL_visit_4 : decode cL_visit 4 = .ok (.iload_n 1, 1) := by decide +kernel
theorem dL_visit_5 : decode cL_visit 5 = .ok (.iload_n 2, 1) := by decide +kernel
theorem dL_visit_6 : decode cL_visit 6 = .ok (.iload_n 3, 1) := by decide +kernel
theorem dL_visit_7 : decode cL_visit 7 = .ok (.invokevirtual 35, 3) := by decide +kernel
theorem dL_visit_15 : decode cL_visit 15 = .ok (.astore 5, 2) := by decide +kernel
theorem dL_visit_17 : decode cL_visit 17 = .ok (.iconst 1, 1) := by decide +kernel
theorem dL_visit_18 : decode cL_visit 18 = .ok (.ireturn, 1) := by decide +kernel
def wf_L_visit : List Cond := .codeWith yL_visit cL_visit 6 (some .int) [(0, 12, 15, 33), (0, 12, 19, 19)] :: (.classLink RL 33 "java/lang/IndexOutOfBoundsException" :: wsV RL 35 RX11 yX11_visit wf_visit)
theorem gf_L_visit : GoodIn wf_L_visit (wsV RL 35 RX11 yX11_visit wf_visit) := goodIn_sub (fun _ h => List.mem_cons_of_mem _ (List.mem_cons_of_mem _ h)) (by decide +kernel)
set_option maxHeartbeats 4000000 in
set_option maxRecDepth 100000 in
theorem kf_L_visit (l : Launch) (dC : Nat → ClassId) (dI : Nat → Nat → Nat) (cI cB cJ cZ : ClassId) (hlt : l.stackTraces = false) (h0 sa qo : Nat) (u : Nat → Nat) (p0 p1 p2 : Int32) : vx_Met l yL_visit wf_L_visit (({ frames := 8, cells := 1, slots := 6, locals := 135 } : Room)) (va_Pc [.ref h0, .int p0, .int p1, .int p2, .ref qo] (fun U => va_P (dC, dI) vwCl [(h0, .inr (14, [.ref (u 0), .ref (u 1), .ref (u 2), .ref (u 3), .ref (u 4), .ref (u 5), .ref (u 6), .ref (u 7), .ref (u 8), .ref (u 9), .ref (u 10), .ref (u 11), .ref (u 12), .ref (u 13), .ref (u 14), .ref (u 15), .ref (u 16), .ref (u 17), .ref (u 18)])), ((u 0), .inr (6, [.ref (u 19), .ref (u 20), .ref (u 21), .ref (u 22), .int 0])), ((u 20), .inl (cB, 40, .inl (fun _ => 0)))] U.heap ∧ va_K (dC, dI) vwCl [(cI, .int), (cB, .byte), (cJ, .long), (cZ, .boolean)] U ∧ ow_Th (fun _ => False) RX11 166 "no such diagram" sa "java/lang/IndexOutOfBoundsException" U)) (va_Qi (fun r (_ : Unit) => r = 1) (fun _ _ => True) (fun _ => False)) (vx_X (fun _ : Unit => False) (fun _ _ _ => True) (fun _ => False)) 1 6 (fun _ => False) := by
  refine vx_ofWH (cc := cL_visit) (maxL := 6) (ret := (some .int)) (hh := [(0, 12, 15, 33), (0, 12, 19, 19)]) (by decide) rfl ?_
  intro p e s m args below meth c s₁ B hml hv
  obtain ⟨rfl, hP, hK, hTh⟩ := hv
  have hx := B.exec
  have hb := B.bytes
  have hr := B.returns
  have hts := atoms_spec (ws := wf_L_visit) B.pre
  have htab := vx_table (x := yL_visit) B (hts _ List.mem_cons_self)
  have hown : s.vm.findClass RL = some m.cls := findClass_of_methodNamed B.named
  have hlocks := B.notSynchronized
  have hS : va_S (fun _ => False) s.heap s.heap [] := va_S.rf
  have hl := lv_entry ([.ref h0, .int p0, .int p1, .int p2, .ref qo]) (n := 6) (Nat.le_of_ble_eq_true rfl)
  rw [lg_entry_eq]
  generalize (lg_sl ([.ref h0, .int p0, .int p1, .int p2, .ref qo]) ++ List.replicate (6 - (lg_sl ([.ref h0, .int p0, .int p1, .int p2, .ref qo])).length) Slot.unset).toArray = ls at hl ⊢
  have hl : lv_has ls 6 [(0, .ref h0), (1, .int p0), (2, .int p1), (3, .int p2), (4, .ref qo)] := hl
  refine ow_named (fun QQ hQQ => ?_)
  refine lv_aload hx hb dL_visit_0 (lv_at hl 4 rfl) ?_
  refine lv_iconst (v := 0) hx hb dL_visit_2 (by decide) ?_
  refine lv_aload_n hx hb dL_visit_3 rfl (lv_at hl 0 rfl) ?_
  refine lv_iload_n hx hb dL_visit_4 rfl (lv_at hl 1 rfl) ?_
  refine lv_iload_n hx hb dL_visit_5 rfl (lv_at hl 2 rfl) ?_
  refine lv_iload_n hx hb dL_visit_6 rfl (lv_at hl 3 rfl) ?_
  refine vx_calli (vx_runV (As := [.int p0, .int p1, .int p2]) (rest := [.int 0, .ref qo]) ⟨hx, hb, hml, hown, hts⟩ (kf_X11_visit l dC dI cI cB cJ cZ hlt h0 sa u p0 p1 p2) (cwV 3 hts gf_L_visit rfl rfl rfl (by decide +kernel) ⟨(Nat.le_of_ble_eq_true rfl), (Nat.le_of_ble_eq_true rfl)⟩) ⟨fun a U g mk q => by obtain ⟨q0, qP, qK, qT⟩ := q; exact ⟨q0, qP, va_K.moved (u := U) (U := U.calling g mk a) (Vm.Alike.refl U.vm) qK, ow_Th.same (u := U) (U := U.calling g mk a) rfl rfl qT⟩, va_recv hK hP (ci := 14) (q0 := 0) rfl rfl, fun U hU hW => ⟨rfl, by rw [hU]; exact hP, va_K.moved hW.alike hK, ow_Th.to hTh hS hW hU (fun q h => h)⟩⟩ rfl rfl hl.1 rfl (lv_room (Nat.le_of_ble_eq_true rfl)) dL_visit_7 ⟨(Nat.le_of_ble_eq_true rfl), (Nat.le_of_ble_eq_true rfl)⟩) hS (fun q _ h => h.elim) (fun q h => h.elim) (fun q _ h => h.elim) (fun E ce q9 u9 t H1 locs ht hvm hpx hBX hz1 hk1 hS hce hcv hcl => ?_) (fun r9 u9 t H1 locs ht hvm hw hB hz1 hk1 hS => absurd hw (fun h => h))
  subst hBX
  refine vx_catch (name := "java/lang/IndexOutOfBoundsException") hown [] ⟨0, 12, 15, 33⟩ [⟨0, 12, 19, 19⟩] htab (fun z hz => by cases hz) (by decide) (by decide) (hts (.classLink RL 33 "java/lang/IndexOutOfBoundsException") (by decide +kernel)) (va_Nw.use rfl hTh.2.2.2.2.2.2) hce hcv hcl ?_
  refine lv_astore (lv' := [(5, .ref q9), (0, .ref h0), (1, .int p0), (2, .int p1), (3, .int p2), (4, .ref qo)]) hx hb dL_visit_15 hl (by decide) rfl (fun ls hl => ?_)
  refine lv_iconst (v := 1) hx hb dL_visit_17 (by decide) ?_
  refine W.widen (k := 1) (n := 6) (Nat.le_of_ble_eq_true rfl) (Nat.le_of_ble_eq_true rfl) ?_
  rw [hQQ]
  exact vx_ret (W.iret (v := 1) hx hb hr (fun t ht hW => ⟨⟨1, (), rfl, rfl, trivial⟩, hS.F ht⟩) hS.2.2 dL_visit_18)
theorem dL_linking_0 : decode cL_linking 0 = .ok (.aload 4, 2) := by decide +kernel
theorem dL_linking_2 : decode cL_linking 2 = .ok (.iconst 0, 1) := by decide +kernel
theorem dL_linking_3 : decode cL_linking 3 = .ok (.aload_n 0, 1) := by decide +kernel
theorem dL_linking_4 : decode cL_linking 4 = .ok (.iload_n 1, 1) := by decide +kernel
theorem dL_linking_5 : decode cL_linking 5 = .ok (.iload_n 2, 1) := by decide +kernel
theorem dL_linking_6 : decode cL_linking 6 = .ok (.iload_n 3, 1) := by decide +kernel
theorem dL_linking_7 : decode cL_linking 7 = .ok (.invokevirtual 39, 3) := by decide +kernel
theorem dL_linking_15 : decode cL_linking 15 = .ok (.astore 5, 2) := by decide +kernel
theorem dL_linking_17 : decode cL_linking 17 = .ok (.iconst 1, 1) := by decide +kernel
theorem dL_linking_18 : decode cL_linking 18 = .ok (.ireturn, 1) := by decide +kernel
def wf_L_linking : List Cond := .codeWith yL_linking cL_linking 6 (some .int) [(0, 12, 15, 33), (0, 12, 19, 19)] :: (.classLink RL 33 "java/lang/IndexOutOfBoundsException" :: wsV RL 39 RX11 yX11_linking wf_linking)
theorem gf_L_linking : GoodIn wf_L_linking (wsV RL 39 RX11 yX11_linking wf_linking) := goodIn_sub (fun _ h => List.mem_cons_of_mem _ (List.mem_cons_of_mem _ h)) (by decide +kernel)
set_option maxHeartbeats 4000000 in
set_option maxRecDepth 100000 in
theorem kf_L_linking (l : Launch) (dC : Nat → ClassId) (dI : Nat → Nat → Nat) (cI cB cJ cZ : ClassId) (hlt : l.stackTraces = false) (h0 sa qo : Nat) (u : Nat → Nat) (p0 p1 p2 : Int32) : vx_Met l yL_linking wf_L_linking (({ frames := 8, cells := 1, slots := 6, locals := 138 } : Room)) (va_Pc [.ref h0, .int p0, .int p1, .int p2, .ref qo] (fun U => va_P (dC, dI) vwCl [(h0, .inr (14, [.ref (u 0), .ref (u 1), .ref (u 2), .ref (u 3), .ref (u 4), .ref (u 5), .ref (u 6), .ref (u 7), .ref (u 8), .ref (u 9), .ref (u 10), .ref (u 11), .ref (u 12), .ref (u 13), .ref (u 14), .ref (u 15), .ref (u 16), .ref (u 17), .ref (u 18)])), ((u 0), .inr (6, [.ref (u 19), .ref (u 20), .ref (u 21), .ref (u 22), .int 0])), ((u 20), .inl (cB, 40, .inl (fun _ => 0)))] U.heap ∧ va_K (dC, dI) vwCl [(cI, .int), (cB, .byte), (cJ, .long), (cZ, .boolean)] U ∧ ow_Th (fun _ => False) RX11 166 "no such diagram" sa "java/lang/IndexOutOfBoundsException" U)) (va_Qi (fun r (_ : Unit) => r = 1) (fun _ _ => True) (fun _ => False)) (vx_X (fun _ : Unit => False) (fun _ _ _ => True) (fun _ => False)) 1 6 (fun _ => False) := by
  refine vx_ofWH (cc := cL_linking) (maxL := 6) (ret := (some .int)) (hh := [(0, 12, 15, 33), (0, 12, 19, 19)]) (by decide) rfl ?_
  intro p e s m args below meth c s₁ B hml hv
  obtain ⟨rfl, hP, hK, hTh⟩ := hv
  have hx := B.exec
  have hb := B.bytes
  have hr := B.returns
  have hts := atoms_spec (ws := wf_L_linking) B.pre
  have htab := vx_table (x := yL_linking) B (hts _ List.mem_cons_self)
  have hown : s.vm.findClass RL = some m.cls := findClass_of_methodNamed B.named
  have hlocks := B.notSynchronized
  have hS : va_S (fun _ => False) s.heap s.heap [] := va_S.rf
  have hl := lv_entry ([.ref h0, .int p0, .int p1, .int p2, .ref qo]) (n := 6) (Nat.le_of_ble_eq_true rfl)
  rw [lg_entry_eq]
  generalize (lg_sl ([.ref h0, .int p0, .int p1, .int p2, .ref qo]) ++ List.replicate (6 - (lg_sl ([.ref h0, .int p0, .int p1, .int p2, .ref qo])).length) Slot.unset).toArray = ls at hl ⊢
  have hl : lv_has ls 6 [(0, .ref h0), (1, .int p0), (2, .int p1), (3, .int p2), (4, .ref qo)] := hl
  refine ow_named (fun QQ hQQ => ?_)
  refine lv_aload hx hb dL_linking_0 (lv_at hl 4 rfl) ?_
  refine lv_iconst (v := 0) hx hb dL_linking_2 (by decide) ?_
  refine lv_aload_n hx hb dL_linking_3 rfl (lv_at hl 0 rfl) ?_
  refine lv_iload_n hx hb dL_linking_4 rfl (lv_at hl 1 rfl) ?_
  refine lv_iload_n hx hb dL_linking_5 rfl (lv_at hl 2 rfl) ?_
  refine lv_iload_n hx hb dL_linking_6 rfl (lv_at hl 3 rfl) ?_
  refine vx_calli (vx_runV (As := [.int p0, .int p1, .int p2]) (rest := [.int 0, .ref qo]) ⟨hx, hb, hml, hown, hts⟩ (kf_X11_linking l dC dI cI cB cJ cZ hlt h0 sa u p0 p1 p2) (cwV 3 hts gf_L_linking rfl rfl rfl (by decide +kernel) ⟨(Nat.le_of_ble_eq_true rfl), (Nat.le_of_ble_eq_true rfl)⟩) ⟨fun a U g mk q => by obtain ⟨q0, qP, qK, qT⟩ := q; exact ⟨q0, qP, va_K.moved (u := U) (U := U.calling g mk a) (Vm.Alike.refl U.vm) qK, ow_Th.same (u := U) (U := U.calling g mk a) rfl rfl qT⟩, va_recv hK hP (ci := 14) (q0 := 0) rfl rfl, fun U hU hW => ⟨rfl, by rw [hU]; exact hP, va_K.moved hW.alike hK, ow_Th.to hTh hS hW hU (fun q h => h)⟩⟩ rfl rfl hl.1 rfl (lv_room (Nat.le_of_ble_eq_true rfl)) dL_linking_7 ⟨(Nat.le_of_ble_eq_true rfl), (Nat.le_of_ble_eq_true rfl)⟩) hS (fun q _ h => h.elim) (fun q h => h.elim) (fun q _ h => h.elim) (fun E ce q9 u9 t H1 locs ht hvm hpx hBX hz1 hk1 hS hce hcv hcl => ?_) (fun r9 u9 t H1 locs ht hvm hw hB hz1 hk1 hS => absurd hw (fun h => h))
  subst hBX
  refine vx_catch (name := "java/lang/IndexOutOfBoundsException") hown [] ⟨0, 12, 15, 33⟩ [⟨0, 12, 19, 19⟩] htab (fun z hz => by cases hz) (by decide) (by decide) (hts (.classLink RL 33 "java/lang/IndexOutOfBoundsException") (by decide +kernel)) (va_Nw.use rfl hTh.2.2.2.2.2.2) hce hcv hcl ?_
  refine lv_astore (lv' := [(5, .ref q9), (0, .ref h0), (1, .int p0), (2, .int p1), (3, .int p2), (4, .ref qo)]) hx hb dL_linking_15 hl (by decide) rfl (fun ls hl => ?_)
  refine lv_iconst (v := 1) hx hb dL_linking_17 (by decide) ?_
  refine W.widen (k := 1) (n := 6) (Nat.le_of_ble_eq_true rfl) (Nat.le_of_ble_eq_true rfl) ?_
  rw [hQQ]
  exact vx_ret (W.iret (v := 1) hx hb hr (fun t ht hW => ⟨⟨1, (), rfl, rfl, trivial⟩, hS.F ht⟩) hS.2.2 dL_linking_18)
theorem dL_mirror_0 : decode cL_mirror 0 = .ok (.aload_n 2, 1) := by decide +kernel
theorem dL_mirror_1 : decode cL_mirror 1 = .ok (.iconst 0, 1) := by decide +kernel
theorem dL_mirror_2 : decode cL_mirror 2 = .ok (.aload_n 0, 1) := by decide +kernel
theorem dL_mirror_3 : decode cL_mirror 3 = .ok (.iload_n 1, 1) := by decide +kernel
theorem dL_mirror_4 : decode cL_mirror 4 = .ok (.invokevirtual 42, 3) := by decide +kernel
theorem dL_mirror_12 : decode cL_mirror 12 = .ok (.astore_n 3, 1) := by decide +kernel
theorem dL_mirror_13 : decode cL_mirror 13 = .ok (.iconst 1, 1) := by decide +kernel
theorem dL_mirror_14 : decode cL_mirror 14 = .ok (.ireturn, 1) := by decide +kernel
theorem dL_mirror_15 : decode cL_mirror 15 = .ok (.astore_n 3, 1) := by decide +kernel
def wf_L_mirror : List Cond := .codeWith yL_mirror cL_mirror 4 (some .int) [(0, 9, 12, 33), (0, 9, 15, 13)] :: (.classLink RL 33 "java/lang/IndexOutOfBoundsException" :: wsV RL 42 RX11 yX11_mirror wf_mirror)
theorem gf_L_mirror : GoodIn wf_L_mirror (wsV RL 42 RX11 yX11_mirror wf_mirror) := goodIn_sub (fun _ h => List.mem_cons_of_mem _ (List.mem_cons_of_mem _ h)) (by decide +kernel)
set_option maxHeartbeats 4000000 in
set_option maxRecDepth 100000 in
theorem kf_L_mirror (l : Launch) (dC : Nat → ClassId) (dI : Nat → Nat → Nat) (cI cB cJ cZ : ClassId) (hlt : l.stackTraces = false) (h0 sa qo : Nat) (u : Nat → Nat) (p0 : Int32) : vx_Met l yL_mirror wf_L_mirror (({ frames := 8, cells := 1, slots := 6, locals := 134 } : Room)) (va_Pc [.ref h0, .int p0, .ref qo] (fun U => va_P (dC, dI) vwCl [(h0, .inr (14, [.ref (u 0), .ref (u 1), .ref (u 2), .ref (u 3), .ref (u 4), .ref (u 5), .ref (u 6), .ref (u 7), .ref (u 8), .ref (u 9), .ref (u 10), .ref (u 11), .ref (u 12), .ref (u 13), .ref (u 14), .ref (u 15), .ref (u 16), .ref (u 17), .ref (u 18)])), ((u 0), .inr (6, [.ref (u 19), .ref (u 20), .ref (u 21), .ref (u 22), .int 0])), ((u 20), .inl (cB, 40, .inl (fun _ => 0)))] U.heap ∧ va_K (dC, dI) vwCl [(cI, .int), (cB, .byte), (cJ, .long), (cZ, .boolean)] U ∧ ow_Th (fun _ => False) RX11 166 "no such diagram" sa "java/lang/IndexOutOfBoundsException" U)) (va_Qi (fun r (_ : Unit) => r = 1) (fun _ _ => True) (fun _ => False)) (vx_X (fun _ : Unit => False) (fun _ _ _ => True) (fun _ => False)) 1 6 (fun _ => False) := by
  refine vx_ofWH (cc := cL_mirror) (maxL := 4) (ret := (some .int)) (hh := [(0, 9, 12, 33), (0, 9, 15, 13)]) (by decide) rfl ?_
  intro p e s m args below meth c s₁ B hml hv
  obtain ⟨rfl, hP, hK, hTh⟩ := hv
  have hx := B.exec
  have hb := B.bytes
  have hr := B.returns
  have hts := atoms_spec (ws := wf_L_mirror) B.pre
  have htab := vx_table (x := yL_mirror) B (hts _ List.mem_cons_self)
  have hown : s.vm.findClass RL = some m.cls := findClass_of_methodNamed B.named
  have hlocks := B.notSynchronized
  have hS : va_S (fun _ => False) s.heap s.heap [] := va_S.rf
  have hl := lv_entry ([.ref h0, .int p0, .ref qo]) (n := 4) (Nat.le_of_ble_eq_true rfl)
  rw [lg_entry_eq]
  generalize (lg_sl ([.ref h0, .int p0, .ref qo]) ++ List.replicate (4 - (lg_sl ([.ref h0, .int p0, .ref qo])).length) Slot.unset).toArray = ls at hl ⊢
  have hl : lv_has ls 4 [(0, .ref h0), (1, .int p0), (2, .ref qo)] := hl
  refine ow_named (fun QQ hQQ => ?_)
  refine lv_aload_n hx hb dL_mirror_0 rfl (lv_at hl 2 rfl) ?_
  refine lv_iconst (v := 0) hx hb dL_mirror_1 (by decide) ?_
  refine lv_aload_n hx hb dL_mirror_2 rfl (lv_at hl 0 rfl) ?_
  refine lv_iload_n hx hb dL_mirror_3 rfl (lv_at hl 1 rfl) ?_
  refine vx_calli (vx_runV (As := [.int p0]) (rest := [.int 0, .ref qo]) ⟨hx, hb, hml, hown, hts⟩ (kf_X11_mirror l dC dI cI cB cJ cZ hlt h0 sa u p0) (cwV 1 hts gf_L_mirror rfl rfl rfl (by decide +kernel) ⟨(Nat.le_of_ble_eq_true rfl), (Nat.le_of_ble_eq_true rfl)⟩) ⟨fun a U g mk q => by obtain ⟨q0, qP, qK, qT⟩ := q; exact ⟨q0, qP, va_K.moved (u := U) (U := U.calling g mk a) (Vm.Alike.refl U.vm) qK, ow_Th.same (u := U) (U := U.calling g mk a) rfl rfl qT⟩, va_recv hK hP (ci := 14) (q0 := 0) rfl rfl, fun U hU hW => ⟨rfl, by rw [hU]; exact hP, va_K.moved hW.alike hK, ow_Th.to hTh hS hW hU (fun q h => h)⟩⟩ rfl rfl hl.1 rfl (lv_room (Nat.le_of_ble_eq_true rfl)) dL_mirror_4 ⟨(Nat.le_of_ble_eq_true rfl), (Nat.le_of_ble_eq_true rfl)⟩) hS (fun q _ h => h.elim) (fun q h => h.elim) (fun q _ h => h.elim) (fun E ce q9 u9 t H1 locs ht hvm hpx hBX hz1 hk1 hS hce hcv hcl => ?_) (fun r9 u9 t H1 locs ht hvm hw hB hz1 hk1 hS => absurd hw (fun h => h))
  subst hBX
  refine vx_catch (name := "java/lang/IndexOutOfBoundsException") hown [] ⟨0, 9, 12, 33⟩ [⟨0, 9, 15, 13⟩] htab (fun z hz => by cases hz) (by decide) (by decide) (hts (.classLink RL 33 "java/lang/IndexOutOfBoundsException") (by decide +kernel)) (va_Nw.use rfl hTh.2.2.2.2.2.2) hce hcv hcl ?_
  refine lv_astore_n (lv' := [(3, .ref q9), (0, .ref h0), (1, .int p0), (2, .ref qo)]) hx hb dL_mirror_12 rfl hl (by decide) rfl (fun ls hl => ?_)
  refine lv_iconst (v := 1) hx hb dL_mirror_13 (by decide) ?_
  refine W.widen (k := 1) (n := 6) (Nat.le_of_ble_eq_true rfl) (Nat.le_of_ble_eq_true rfl) ?_
  rw [hQQ]
  exact vx_ret (W.iret (v := 1) hx hb hr (fun t ht hW => ⟨⟨1, (), rfl, rfl, trivial⟩, hS.F ht⟩) hS.2.2 dL_mirror_14)
theorem dL_reverse_0 : decode cL_reverse 0 = .ok (.aload_n 3, 1) := by decide +kernel
theorem dL_reverse_1 : decode cL_reverse 1 = .ok (.iconst 0, 1) := by decide +kernel
theorem dL_reverse_2 : decode cL_reverse 2 = .ok (.aload_n 0, 1) := by decide +kernel
theorem dL_reverse_3 : decode cL_reverse 3 = .ok (.iload_n 1, 1) := by decide +kernel
theorem dL_reverse_4 : decode cL_reverse 4 = .ok (.iload_n 2, 1) := by decide +kernel
theorem dL_reverse_5 : decode cL_reverse 5 = .ok (.invokevirtual 45, 3) := by decide +kernel
theorem dL_reverse_13 : decode cL_reverse 13 = .ok (.astore 4, 2) := by decide +kernel
theorem dL_reverse_15 : decode cL_reverse 15 = .ok (.iconst 1, 1) := by decide +kernel
theorem dL_reverse_16 : decode cL_reverse 16 = .ok (.ireturn, 1) := by decide +kernel
def wf_L_reverse : List Cond := .codeWith yL_reverse cL_reverse 5 (some .int) [(0, 10, 13, 33), (0, 10, 17, 13)] :: (.classLink RL 33 "java/lang/IndexOutOfBoundsException" :: wsV RL 45 RX11 yX11_reverse wf_reverse)
theorem gf_L_reverse : GoodIn wf_L_reverse (wsV RL 45 RX11 yX11_reverse wf_reverse) := goodIn_sub (fun _ h => List.mem_cons_of_mem _ (List.mem_cons_of_mem _ h)) (by decide +kernel)
set_option maxHeartbeats 4000000 in
set_option maxRecDepth 100000 in
theorem kf_L_reverse (l : Launch) (dC : Nat → ClassId) (dI : Nat → Nat → Nat) (cI cB cJ cZ : ClassId) (hlt : l.stackTraces = false) (h0 sa qo : Nat) (u : Nat → Nat) (p0 p1 : Int32) : vx_Met l yL_reverse wf_L_reverse (({ frames := 8, cells := 1, slots := 6, locals := 134 } : Room)) (va_Pc [.ref h0, .int p0, .int p1, .ref qo] (fun U => va_P (dC, dI) vwCl [(h0, .inr (14, [.ref (u 0), .ref (u 1), .ref (u 2), .ref (u 3), .ref (u 4), .ref (u 5), .ref (u 6), .ref (u 7), .ref (u 8), .ref (u 9), .ref (u 10), .ref (u 11), .ref (u 12), .ref (u 13), .ref (u 14), .ref (u 15), .ref (u 16), .ref (u 17), .ref (u 18)])), ((u 0), .inr (6, [.ref (u 19), .ref (u 20), .ref (u 21), .ref (u 22), .int 0])), ((u 20), .inl (cB, 40, .inl (fun _ => 0)))] U.heap ∧ va_K (dC, dI) vwCl [(cI, .int), (cB, .byte), (cJ, .long), (cZ, .boolean)] U ∧ ow_Th (fun _ => False) RX11 166 "no such diagram" sa "java/lang/IndexOutOfBoundsException" U)) (va_Qi (fun r (_ : Unit) => r = 1) (fun _ _ => True) (fun _ => False)) (vx_X (fun _ : Unit => False) (fun _ _ _ => True) (fun _ => False)) 1 6 (fun _ => False) := by
  refine vx_ofWH (cc := cL_reverse) (maxL := 5) (ret := (some .int)) (hh := [(0, 10, 13, 33), (0, 10, 17, 13)]) (by decide) rfl ?_
  intro p e s m args below meth c s₁ B hml hv
  obtain ⟨rfl, hP, hK, hTh⟩ := hv
  have hx := B.exec
  have hb := B.bytes
  have hr := B.returns
  have hts := atoms_spec (ws := wf_L_reverse) B.pre
  have htab := vx_table (x := yL_reverse) B (hts _ List.mem_cons_self)
  have hown : s.vm.findClass RL = some m.cls := findClass_of_methodNamed B.named
  have hlocks := B.notSynchronized
  have hS : va_S (fun _ => False) s.heap s.heap [] := va_S.rf
  have hl := lv_entry ([.ref h0, .int p0, .int p1, .ref qo]) (n := 5) (Nat.le_of_ble_eq_true rfl)
  rw [lg_entry_eq]
  generalize (lg_sl ([.ref h0, .int p0, .int p1, .ref qo]) ++ List.replicate (5 - (lg_sl ([.ref h0, .int p0, .int p1, .ref qo])).length) Slot.unset).toArray = ls at hl ⊢
  have hl : lv_has ls 5 [(0, .ref h0), (1, .int p0), (2, .int p1), (3, .ref qo)] := hl
  refine ow_named (fun QQ hQQ => ?_)
  refine lv_aload_n hx hb dL_reverse_0 rfl (lv_at hl 3 rfl) ?_
  refine lv_iconst (v := 0) hx hb dL_reverse_1 (by decide) ?_
  refine lv_aload_n hx hb dL_reverse_2 rfl (lv_at hl 0 rfl) ?_
  refine lv_iload_n hx hb dL_reverse_3 rfl (lv_at hl 1 rfl) ?_
  refine lv_iload_n hx hb dL_reverse_4 rfl (lv_at hl 2 rfl) ?_
  refine vx_calli (vx_runV (As := [.int p0, .int p1]) (rest := [.int 0, .ref qo]) ⟨hx, hb, hml, hown, hts⟩ (kf_X11_reverse l dC dI cI cB cJ cZ hlt h0 sa u p0 p1) (cwV 2 hts gf_L_reverse rfl rfl rfl (by decide +kernel) ⟨(Nat.le_of_ble_eq_true rfl), (Nat.le_of_ble_eq_true rfl)⟩) ⟨fun a U g mk q => by obtain ⟨q0, qP, qK, qT⟩ := q; exact ⟨q0, qP, va_K.moved (u := U) (U := U.calling g mk a) (Vm.Alike.refl U.vm) qK, ow_Th.same (u := U) (U := U.calling g mk a) rfl rfl qT⟩, va_recv hK hP (ci := 14) (q0 := 0) rfl rfl, fun U hU hW => ⟨rfl, by rw [hU]; exact hP, va_K.moved hW.alike hK, ow_Th.to hTh hS hW hU (fun q h => h)⟩⟩ rfl rfl hl.1 rfl (lv_room (Nat.le_of_ble_eq_true rfl)) dL_reverse_5 ⟨(Nat.le_of_ble_eq_true rfl), (Nat.le_of_ble_eq_true rfl)⟩) hS (fun q _ h => h.elim) (fun q h => h.elim) (fun q _ h => h.elim) (fun E ce q9 u9 t H1 locs ht hvm hpx hBX hz1 hk1 hS hce hcv hcl => ?_) (fun r9 u9 t H1 locs ht hvm hw hB hz1 hk1 hS => absurd hw (fun h => h))
  subst hBX
  refine vx_catch (name := "java/lang/IndexOutOfBoundsException") hown [] ⟨0, 10, 13, 33⟩ [⟨0, 10, 17, 13⟩] htab (fun z hz => by cases hz) (by decide) (by decide) (hts (.classLink RL 33 "java/lang/IndexOutOfBoundsException") (by decide +kernel)) (va_Nw.use rfl hTh.2.2.2.2.2.2) hce hcv hcl ?_
  refine lv_astore (lv' := [(4, .ref q9), (0, .ref h0), (1, .int p0), (2, .int p1), (3, .ref qo)]) hx hb dL_reverse_13 hl (by decide) rfl (fun ls hl => ?_)
  refine lv_iconst (v := 1) hx hb dL_reverse_15 (by decide) ?_
  refine W.widen (k := 1) (n := 6) (Nat.le_of_ble_eq_true rfl) (Nat.le_of_ble_eq_true rfl) ?_
  rw [hQQ]
  exact vx_ret (W.iret (v := 1) hx hb hr (fun t ht hW => ⟨⟨1, (), rfl, rfl, trivial⟩, hS.F ht⟩) hS.2.2 dL_reverse_16)
theorem dL_change_0 : decode cL_change 0 = .ok (.aload_n 3, 1) := by decide +kernel
theorem dL_change_1 : decode cL_change 1 = .ok (.iconst 0, 1) := by decide +kernel
theorem dL_change_2 : decode cL_change 2 = .ok (.aload_n 0, 1) := by decide +kernel
theorem dL_change_3 : decode cL_change 3 = .ok (.iload_n 1, 1) := by decide +kernel
theorem dL_change_4 : decode cL_change 4 = .ok (.iload_n 2, 1) := by decide +kernel
theorem dL_change_5 : decode cL_change 5 = .ok (.invokevirtual 48, 3) := by decide +kernel
theorem dL_change_13 : decode cL_change 13 = .ok (.astore 4, 2) := by decide +kernel
theorem dL_change_15 : decode cL_change 15 = .ok (.iconst 1, 1) := by decide +kernel
theorem dL_change_16 : decode cL_change 16 = .ok (.ireturn, 1) := by decide +kernel
def wf_L_change : List Cond := .codeWith yL_change cL_change 5 (some .int) [(0, 10, 13, 33), (0, 10, 17, 13)] :: (.classLink RL 33 "java/lang/IndexOutOfBoundsException" :: wsV RL 48 RX11 yX11_change wf_change)
theorem gf_L_change : GoodIn wf_L_change (wsV RL 48 RX11 yX11_change wf_change) := goodIn_sub (fun _ h => List.mem_cons_of_mem _ (List.mem_cons_of_mem _ h)) (by decide +kernel)
set_option maxHeartbeats 4000000 in
set_option maxRecDepth 100000 in
theorem kf_L_change (l : Launch) (dC : Nat → ClassId) (dI : Nat → Nat → Nat) (cI cB cJ cZ : ClassId) (hlt : l.stackTraces = false) (h0 sa qo : Nat) (u : Nat → Nat) (p0 p1 : Int32) : vx_Met l yL_change wf_L_change (({ frames := 8, cells := 1, slots := 6, locals := 134 } : Room)) (va_Pc [.ref h0, .int p0, .int p1, .ref qo] (fun U => va_P (dC, dI) vwCl [(h0, .inr (14, [.ref (u 0), .ref (u 1), .ref (u 2), .ref (u 3), .ref (u 4), .ref (u 5), .ref (u 6), .ref (u 7), .ref (u 8), .ref (u 9), .ref (u 10), .ref (u 11), .ref (u 12), .ref (u 13), .ref (u 14), .ref (u 15), .ref (u 16), .ref (u 17), .ref (u 18)])), ((u 0), .inr (6, [.ref (u 19), .ref (u 20), .ref (u 21), .ref (u 22), .int 0])), ((u 20), .inl (cB, 40, .inl (fun _ => 0)))] U.heap ∧ va_K (dC, dI) vwCl [(cI, .int), (cB, .byte), (cJ, .long), (cZ, .boolean)] U ∧ ow_Th (fun _ => False) RX11 166 "no such diagram" sa "java/lang/IndexOutOfBoundsException" U)) (va_Qi (fun r (_ : Unit) => r = 1) (fun _ _ => True) (fun _ => False)) (vx_X (fun _ : Unit => False) (fun _ _ _ => True) (fun _ => False)) 1 6 (fun _ => False) := by
  refine vx_ofWH (cc := cL_change) (maxL := 5) (ret := (some .int)) (hh := [(0, 10, 13, 33), (0, 10, 17, 13)]) (by decide) rfl ?_
  intro p e s m args below meth c s₁ B hml hv
  obtain ⟨rfl, hP, hK, hTh⟩ := hv
  have hx := B.exec
  have hb := B.bytes
  have hr := B.returns
  have hts := atoms_spec (ws := wf_L_change) B.pre
  have htab := vx_table (x := yL_change) B (hts _ List.mem_cons_self)
  have hown : s.vm.findClass RL = some m.cls := findClass_of_methodNamed B.named
  have hlocks := B.notSynchronized
  have hS : va_S (fun _ => False) s.heap s.heap [] := va_S.rf
  have hl := lv_entry ([.ref h0, .int p0, .int p1, .ref qo]) (n := 5) (Nat.le_of_ble_eq_true rfl)
  rw [lg_entry_eq]
  generalize (lg_sl ([.ref h0, .int p0, .int p1, .ref qo]) ++ List.replicate (5 - (lg_sl ([.ref h0, .int p0, .int p1, .ref qo])).length) Slot.unset).toArray = ls at hl ⊢
  have hl : lv_has ls 5 [(0, .ref h0), (1, .int p0), (2, .int p1), (3, .ref qo)] := hl
  refine ow_named (fun QQ hQQ => ?_)
  refine lv_aload_n hx hb dL_change_0 rfl (lv_at hl 3 rfl) ?_
  refine lv_iconst (v := 0) hx hb dL_change_1 (by decide) ?_
  refine lv_aload_n hx hb dL_change_2 rfl (lv_at hl 0 rfl) ?_
  refine lv_iload_n hx hb dL_change_3 rfl (lv_at hl 1 rfl) ?_
  refine lv_iload_n hx hb dL_change_4 rfl (lv_at hl 2 rfl) ?_
  refine vx_calli (vx_runV (As := [.int p0, .int p1]) (rest := [.int 0, .ref qo]) ⟨hx, hb, hml, hown, hts⟩ (kf_X11_change l dC dI cI cB cJ cZ hlt h0 sa u p0 p1) (cwV 2 hts gf_L_change rfl rfl rfl (by decide +kernel) ⟨(Nat.le_of_ble_eq_true rfl), (Nat.le_of_ble_eq_true rfl)⟩) ⟨fun a U g mk q => by obtain ⟨q0, qP, qK, qT⟩ := q; exact ⟨q0, qP, va_K.moved (u := U) (U := U.calling g mk a) (Vm.Alike.refl U.vm) qK, ow_Th.same (u := U) (U := U.calling g mk a) rfl rfl qT⟩, va_recv hK hP (ci := 14) (q0 := 0) rfl rfl, fun U hU hW => ⟨rfl, by rw [hU]; exact hP, va_K.moved hW.alike hK, ow_Th.to hTh hS hW hU (fun q h => h)⟩⟩ rfl rfl hl.1 rfl (lv_room (Nat.le_of_ble_eq_true rfl)) dL_change_5 ⟨(Nat.le_of_ble_eq_true rfl), (Nat.le_of_ble_eq_true rfl)⟩) hS (fun q _ h => h.elim) (fun q h => h.elim) (fun q _ h => h.elim) (fun E ce q9 u9 t H1 locs ht hvm hpx hBX hz1 hk1 hS hce hcv hcl => ?_) (fun r9 u9 t H1 locs ht hvm hw hB hz1 hk1 hS => absurd hw (fun h => h))
  subst hBX
  refine vx_catch (name := "java/lang/IndexOutOfBoundsException") hown [] ⟨0, 10, 13, 33⟩ [⟨0, 10, 17, 13⟩] htab (fun z hz => by cases hz) (by decide) (by decide) (hts (.classLink RL 33 "java/lang/IndexOutOfBoundsException") (by decide +kernel)) (va_Nw.use rfl hTh.2.2.2.2.2.2) hce hcv hcl ?_
  refine lv_astore (lv' := [(4, .ref q9), (0, .ref h0), (1, .int p0), (2, .int p1), (3, .ref qo)]) hx hb dL_change_13 hl (by decide) rfl (fun ls hl => ?_)
  refine lv_iconst (v := 1) hx hb dL_change_15 (by decide) ?_
  refine W.widen (k := 1) (n := 6) (Nat.le_of_ble_eq_true rfl) (Nat.le_of_ble_eq_true rfl) ?_
  rw [hQQ]
  exact vx_ret (W.iret (v := 1) hx hb hr (fun t ht hW => ⟨⟨1, (), rfl, rfl, trivial⟩, hS.F ht⟩) hS.2.2 dL_change_16)
theorem dL_smooth_0 : decode cL_smooth 0 = .ok (.aload_n 3, 1) := by decide +kernel
theorem dL_smooth_1 : decode cL_smooth 1 = .ok (.iconst 0, 1) := by decide +kernel
theorem dL_smooth_2 : decode cL_smooth 2 = .ok (.aload_n 0, 1) := by decide +kernel
theorem dL_smooth_3 : decode cL_smooth 3 = .ok (.iload_n 1, 1) := by decide +kernel
theorem dL_smooth_4 : decode cL_smooth 4 = .ok (.iload_n 2, 1) := by decide +kernel
theorem dL_smooth_5 : decode cL_smooth 5 = .ok (.invokevirtual 51, 3) := by decide +kernel
theorem dL_smooth_13 : decode cL_smooth 13 = .ok (.astore 4, 2) := by decide +kernel
theorem dL_smooth_15 : decode cL_smooth 15 = .ok (.iconst 1, 1) := by decide +kernel
theorem dL_smooth_16 : decode cL_smooth 16 = .ok (.ireturn, 1) := by decide +kernel
def wf_L_smooth : List Cond := .codeWith yL_smooth cL_smooth 5 (some .int) [(0, 10, 13, 33), (0, 10, 17, 54), (0, 10, 21, 13)] :: (.classLink RL 33 "java/lang/IndexOutOfBoundsException" :: wsV RL 51 RX11 yX11_smooth wf_smooth)
theorem gf_L_smooth : GoodIn wf_L_smooth (wsV RL 51 RX11 yX11_smooth wf_smooth) := goodIn_sub (fun _ h => List.mem_cons_of_mem _ (List.mem_cons_of_mem _ h)) (by decide +kernel)
set_option maxHeartbeats 4000000 in
set_option maxRecDepth 100000 in
theorem kf_L_smooth (l : Launch) (dC : Nat → ClassId) (dI : Nat → Nat → Nat) (cI cB cJ cZ : ClassId) (hlt : l.stackTraces = false) (h0 sa qo : Nat) (u : Nat → Nat) (p0 p1 : Int32) : vx_Met l yL_smooth wf_L_smooth (({ frames := 8, cells := 1, slots := 6, locals := 133 } : Room)) (va_Pc [.ref h0, .int p0, .int p1, .ref qo] (fun U => va_P (dC, dI) vwCl [(h0, .inr (14, [.ref (u 0), .ref (u 1), .ref (u 2), .ref (u 3), .ref (u 4), .ref (u 5), .ref (u 6), .ref (u 7), .ref (u 8), .ref (u 9), .ref (u 10), .ref (u 11), .ref (u 12), .ref (u 13), .ref (u 14), .ref (u 15), .ref (u 16), .ref (u 17), .ref (u 18)])), ((u 0), .inr (6, [.ref (u 19), .ref (u 20), .ref (u 21), .ref (u 22), .int 0])), ((u 20), .inl (cB, 40, .inl (fun _ => 0)))] U.heap ∧ va_K (dC, dI) vwCl [(cI, .int), (cB, .byte), (cJ, .long), (cZ, .boolean)] U ∧ ow_Th (fun _ => False) RX11 166 "no such diagram" sa "java/lang/IndexOutOfBoundsException" U)) (va_Qi (fun r (_ : Unit) => r = 1) (fun _ _ => True) (fun _ => False)) (vx_X (fun _ : Unit => False) (fun _ _ _ => True) (fun _ => False)) 1 6 (fun _ => False) := by
  refine vx_ofWH (cc := cL_smooth) (maxL := 5) (ret := (some .int)) (hh := [(0, 10, 13, 33), (0, 10, 17, 54), (0, 10, 21, 13)]) (by decide) rfl ?_
  intro p e s m args below meth c s₁ B hml hv
  obtain ⟨rfl, hP, hK, hTh⟩ := hv
  have hx := B.exec
  have hb := B.bytes
  have hr := B.returns
  have hts := atoms_spec (ws := wf_L_smooth) B.pre
  have htab := vx_table (x := yL_smooth) B (hts _ List.mem_cons_self)
  have hown : s.vm.findClass RL = some m.cls := findClass_of_methodNamed B.named
  have hlocks := B.notSynchronized
  have hS : va_S (fun _ => False) s.heap s.heap [] := va_S.rf
  have hl := lv_entry ([.ref h0, .int p0, .int p1, .ref qo]) (n := 5) (Nat.le_of_ble_eq_true rfl)
  rw [lg_entry_eq]
  generalize (lg_sl ([.ref h0, .int p0, .int p1, .ref qo]) ++ List.replicate (5 - (lg_sl ([.ref h0, .int p0, .int p1, .ref qo])).length) Slot.unset).toArray = ls at hl ⊢
  have hl : lv_has ls 5 [(0, .ref h0), (1, .int p0), (2, .int p1), (3, .ref qo)] := hl
  refine ow_named (fun QQ hQQ => ?_)
  refine lv_aload_n hx hb dL_smooth_0 rfl (lv_at hl 3 rfl) ?_
  refine lv_iconst (v := 0) hx hb dL_smooth_1 (by decide) ?_
  refine lv_aload_n hx hb dL_smooth_2 rfl (lv_at hl 0 rfl) ?_
  refine lv_iload_n hx hb dL_smooth_3 rfl (lv_at hl 1 rfl) ?_
  refine lv_iload_n hx hb dL_smooth_4 rfl (lv_at hl 2 rfl) ?_
  refine vx_calli (vx_runV (As := [.int p0, .int p1]) (rest := [.int 0, .ref qo]) ⟨hx, hb, hml, hown, hts⟩ (kf_X11_smooth l dC dI cI cB cJ cZ hlt h0 sa u p0 p1) (cwV 2 hts gf_L_smooth rfl rfl rfl (by decide +kernel) ⟨(Nat.le_of_ble_eq_true rfl), (Nat.le_of_ble_eq_true rfl)⟩) ⟨fun a U g mk q => by obtain ⟨q0, qP, qK, qT⟩ := q; exact ⟨q0, qP, va_K.moved (u := U) (U := U.calling g mk a) (Vm.Alike.refl U.vm) qK, ow_Th.same (u := U) (U := U.calling g mk a) rfl rfl qT⟩, va_recv hK hP (ci := 14) (q0 := 0) rfl rfl, fun U hU hW => ⟨rfl, by rw [hU]; exact hP, va_K.moved hW.alike hK, ow_Th.to hTh hS hW hU (fun q h => h)⟩⟩ rfl rfl hl.1 rfl (lv_room (Nat.le_of_ble_eq_true rfl)) dL_smooth_5 ⟨(Nat.le_of_ble_eq_true rfl), (Nat.le_of_ble_eq_true rfl)⟩) hS (fun q _ h => h.elim) (fun q h => h.elim) (fun q _ h => h.elim) (fun E ce q9 u9 t H1 locs ht hvm hpx hBX hz1 hk1 hS hce hcv hcl => ?_) (fun r9 u9 t H1 locs ht hvm hw hB hz1 hk1 hS => absurd hw (fun h => h))
  subst hBX
  refine vx_catch (name := "java/lang/IndexOutOfBoundsException") hown [] ⟨0, 10, 13, 33⟩ [⟨0, 10, 17, 54⟩, ⟨0, 10, 21, 13⟩] htab (fun z hz => by cases hz) (by decide) (by decide) (hts (.classLink RL 33 "java/lang/IndexOutOfBoundsException") (by decide +kernel)) (va_Nw.use rfl hTh.2.2.2.2.2.2) hce hcv hcl ?_
  refine lv_astore (lv' := [(4, .ref q9), (0, .ref h0), (1, .int p0), (2, .int p1), (3, .ref qo)]) hx hb dL_smooth_13 hl (by decide) rfl (fun ls hl => ?_)
  refine lv_iconst (v := 1) hx hb dL_smooth_15 (by decide) ?_
  refine W.widen (k := 1) (n := 6) (Nat.le_of_ble_eq_true rfl) (Nat.le_of_ble_eq_true rfl) ?_
  rw [hQQ]
  exact vx_ret (W.iret (v := 1) hx hb hr (fun t ht hW => ⟨⟨1, (), rfl, rfl, trivial⟩, hS.F ht⟩) hS.2.2 dL_smooth_16)
theorem dL_apart_0 : decode cL_apart 0 = .ok (.aload_n 3, 1) := by decide +kernel
theorem dL_apart_1 : decode cL_apart 1 = .ok (.iconst 0, 1) := by decide +kernel
theorem dL_apart_2 : decode cL_apart 2 = .ok (.aload_n 0, 1) := by decide +kernel
theorem dL_apart_3 : decode cL_apart 3 = .ok (.iload_n 1, 1) := by decide +kernel
theorem dL_apart_4 : decode cL_apart 4 = .ok (.iload_n 2, 1) := by decide +kernel
theorem dL_apart_5 : decode cL_apart 5 = .ok (.invokevirtual 56, 3) := by decide +kernel
theorem dL_apart_13 : decode cL_apart 13 = .ok (.astore 4, 2) := by decide +kernel
theorem dL_apart_15 : decode cL_apart 15 = .ok (.iconst 1, 1) := by decide +kernel
theorem dL_apart_16 : decode cL_apart 16 = .ok (.ireturn, 1) := by decide +kernel
def wf_L_apart : List Cond := .codeWith yL_apart cL_apart 5 (some .int) [(0, 10, 13, 33), (0, 10, 17, 54), (0, 10, 21, 13)] :: (.classLink RL 33 "java/lang/IndexOutOfBoundsException" :: wsV RL 56 RX11 yX11_apart wf_apart)
theorem gf_L_apart : GoodIn wf_L_apart (wsV RL 56 RX11 yX11_apart wf_apart) := goodIn_sub (fun _ h => List.mem_cons_of_mem _ (List.mem_cons_of_mem _ h)) (by decide +kernel)
set_option maxHeartbeats 4000000 in
set_option maxRecDepth 100000 in
theorem kf_L_apart (l : Launch) (dC : Nat → ClassId) (dI : Nat → Nat → Nat) (cI cB cJ cZ : ClassId) (hlt : l.stackTraces = false) (h0 sa qo : Nat) (u : Nat → Nat) (p0 p1 : Int32) : vx_Met l yL_apart wf_L_apart (({ frames := 8, cells := 1, slots := 6, locals := 134 } : Room)) (va_Pc [.ref h0, .int p0, .int p1, .ref qo] (fun U => va_P (dC, dI) vwCl [(h0, .inr (14, [.ref (u 0), .ref (u 1), .ref (u 2), .ref (u 3), .ref (u 4), .ref (u 5), .ref (u 6), .ref (u 7), .ref (u 8), .ref (u 9), .ref (u 10), .ref (u 11), .ref (u 12), .ref (u 13), .ref (u 14), .ref (u 15), .ref (u 16), .ref (u 17), .ref (u 18)])), ((u 0), .inr (6, [.ref (u 19), .ref (u 20), .ref (u 21), .ref (u 22), .int 0])), ((u 20), .inl (cB, 40, .inl (fun _ => 0)))] U.heap ∧ va_K (dC, dI) vwCl [(cI, .int), (cB, .byte), (cJ, .long), (cZ, .boolean)] U ∧ ow_Th (fun _ => False) RX11 166 "no such diagram" sa "java/lang/IndexOutOfBoundsException" U)) (va_Qi (fun r (_ : Unit) => r = 1) (fun _ _ => True) (fun _ => False)) (vx_X (fun _ : Unit => False) (fun _ _ _ => True) (fun _ => False)) 1 6 (fun _ => False) := by
  refine vx_ofWH (cc := cL_apart) (maxL := 5) (ret := (some .int)) (hh := [(0, 10, 13, 33), (0, 10, 17, 54), (0, 10, 21, 13)]) (by decide) rfl ?_
  intro p e s m args below meth c s₁ B hml hv
  obtain ⟨rfl, hP, hK, hTh⟩ := hv
  have hx := B.exec
  have hb := B.bytes
  have hr := B.returns
  have hts := atoms_spec (ws := wf_L_apart) B.pre
  have htab := vx_table (x := yL_apart) B (hts _ List.mem_cons_self)
  have hown : s.vm.findClass RL = some m.cls := findClass_of_methodNamed B.named
  have hlocks := B.notSynchronized
  have hS : va_S (fun _ => False) s.heap s.heap [] := va_S.rf
  have hl := lv_entry ([.ref h0, .int p0, .int p1, .ref qo]) (n := 5) (Nat.le_of_ble_eq_true rfl)
  rw [lg_entry_eq]
  generalize (lg_sl ([.ref h0, .int p0, .int p1, .ref qo]) ++ List.replicate (5 - (lg_sl ([.ref h0, .int p0, .int p1, .ref qo])).length) Slot.unset).toArray = ls at hl ⊢
  have hl : lv_has ls 5 [(0, .ref h0), (1, .int p0), (2, .int p1), (3, .ref qo)] := hl
  refine ow_named (fun QQ hQQ => ?_)
  refine lv_aload_n hx hb dL_apart_0 rfl (lv_at hl 3 rfl) ?_
  refine lv_iconst (v := 0) hx hb dL_apart_1 (by decide) ?_
  refine lv_aload_n hx hb dL_apart_2 rfl (lv_at hl 0 rfl) ?_
  refine lv_iload_n hx hb dL_apart_3 rfl (lv_at hl 1 rfl) ?_
  refine lv_iload_n hx hb dL_apart_4 rfl (lv_at hl 2 rfl) ?_
  refine vx_calli (vx_runV (As := [.int p0, .int p1]) (rest := [.int 0, .ref qo]) ⟨hx, hb, hml, hown, hts⟩ (kf_X11_apart l dC dI cI cB cJ cZ hlt h0 sa u p0 p1) (cwV 2 hts gf_L_apart rfl rfl rfl (by decide +kernel) ⟨(Nat.le_of_ble_eq_true rfl), (Nat.le_of_ble_eq_true rfl)⟩) ⟨fun a U g mk q => by obtain ⟨q0, qP, qK, qT⟩ := q; exact ⟨q0, qP, va_K.moved (u := U) (U := U.calling g mk a) (Vm.Alike.refl U.vm) qK, ow_Th.same (u := U) (U := U.calling g mk a) rfl rfl qT⟩, va_recv hK hP (ci := 14) (q0 := 0) rfl rfl, fun U hU hW => ⟨rfl, by rw [hU]; exact hP, va_K.moved hW.alike hK, ow_Th.to hTh hS hW hU (fun q h => h)⟩⟩ rfl rfl hl.1 rfl (lv_room (Nat.le_of_ble_eq_true rfl)) dL_apart_5 ⟨(Nat.le_of_ble_eq_true rfl), (Nat.le_of_ble_eq_true rfl)⟩) hS (fun q _ h => h.elim) (fun q h => h.elim) (fun q _ h => h.elim) (fun E ce q9 u9 t H1 locs ht hvm hpx hBX hz1 hk1 hS hce hcv hcl => ?_) (fun r9 u9 t H1 locs ht hvm hw hB hz1 hk1 hS => absurd hw (fun h => h))
  subst hBX
  refine vx_catch (name := "java/lang/IndexOutOfBoundsException") hown [] ⟨0, 10, 13, 33⟩ [⟨0, 10, 17, 54⟩, ⟨0, 10, 21, 13⟩] htab (fun z hz => by cases hz) (by decide) (by decide) (hts (.classLink RL 33 "java/lang/IndexOutOfBoundsException") (by decide +kernel)) (va_Nw.use rfl hTh.2.2.2.2.2.2) hce hcv hcl ?_
  refine lv_astore (lv' := [(4, .ref q9), (0, .ref h0), (1, .int p0), (2, .int p1), (3, .ref qo)]) hx hb dL_apart_13 hl (by decide) rfl (fun ls hl => ?_)
  refine lv_iconst (v := 1) hx hb dL_apart_15 (by decide) ?_
  refine W.widen (k := 1) (n := 6) (Nat.le_of_ble_eq_true rfl) (Nat.le_of_ble_eq_true rfl) ?_
  rw [hQQ]
  exact vx_ret (W.iret (v := 1) hx hb hr (fun t ht hW => ⟨⟨1, (), rfl, rfl, trivial⟩, hS.F ht⟩) hS.2.2 dL_apart_16)
theorem dL_join_0 : decode cL_join 0 = .ok (.aload 5, 2) := by decide +kernel
theorem dL_join_2 : decode cL_join 2 = .ok (.iconst 0, 1) := by decide +kernel
theorem dL_join_3 : decode cL_join 3 = .ok (.aload_n 0, 1) := by decide +kernel
theorem dL_join_4 : decode cL_join 4 = .ok (.iload_n 1, 1) := by decide +kernel
theorem dL_join_5 : decode cL_join 5 = .ok (.iload_n 2, 1) := by decide +kernel
theorem dL_join_6 : decode cL_join 6 = .ok (.iload_n 3, 1) := by decide +kernel
theorem dL_join_7 : decode cL_join 7 = .ok (.iload 4, 2) := by decide +kernel
theorem dL_join_9 : decode cL_join 9 = .ok (.invokevirtual 59, 3) := by decide +kernel
theorem dL_join_17 : decode cL_join 17 = .ok (.astore 6, 2) := by decide +kernel
theorem dL_join_19 : decode cL_join 19 = .ok (.iconst 1, 1) := by decide +kernel
theorem dL_join_20 : decode cL_join 20 = .ok (.ireturn, 1) := by decide +kernel
def wf_L_join : List Cond := .codeWith yL_join cL_join 7 (some .int) [(0, 14, 17, 33), (0, 14, 21, 54), (0, 14, 25, 13)] :: (.classLink RL 33 "java/lang/IndexOutOfBoundsException" :: wsV RL 59 RX11 yX11_join wf_join)
theorem gf_L_join : GoodIn wf_L_join (wsV RL 59 RX11 yX11_join wf_join) := goodIn_sub (fun _ h => List.mem_cons_of_mem _ (List.mem_cons_of_mem _ h)) (by decide +kernel)
set_option maxHeartbeats 4000000 in
set_option maxRecDepth 100000 in
theorem kf_L_join (l : Launch) (dC : Nat → ClassId) (dI : Nat → Nat → Nat) (cI cB cJ cZ : ClassId) (hlt : l.stackTraces = false) (h0 sa qo : Nat) (u : Nat → Nat) (p0 p1 p2 p3 : Int32) : vx_Met l yL_join wf_L_join (({ frames := 8, cells := 1, slots := 6, locals := 138 } : Room)) (va_Pc [.ref h0, .int p0, .int p1, .int p2, .int p3, .ref qo] (fun U => va_P (dC, dI) vwCl [(h0, .inr (14, [.ref (u 0), .ref (u 1), .ref (u 2), .ref (u 3), .ref (u 4), .ref (u 5), .ref (u 6), .ref (u 7), .ref (u 8), .ref (u 9), .ref (u 10), .ref (u 11), .ref (u 12), .ref (u 13), .ref (u 14), .ref (u 15), .ref (u 16), .ref (u 17), .ref (u 18)])), ((u 0), .inr (6, [.ref (u 19), .ref (u 20), .ref (u 21), .ref (u 22), .int 0])), ((u 20), .inl (cB, 40, .inl (fun _ => 0)))] U.heap ∧ va_K (dC, dI) vwCl [(cI, .int), (cB, .byte), (cJ, .long), (cZ, .boolean)] U ∧ ow_Th (fun _ => False) RX11 166 "no such diagram" sa "java/lang/IndexOutOfBoundsException" U)) (va_Qi (fun r (_ : Unit) => r = 1) (fun _ _ => True) (fun _ => False)) (vx_X (fun _ : Unit => False) (fun _ _ _ => True) (fun _ => False)) 1 6 (fun _ => False) := by
  refine vx_ofWH (cc := cL_join) (maxL := 7) (ret := (some .int)) (hh := [(0, 14, 17, 33), (0, 14, 21, 54), (0, 14, 25, 13)]) (by decide) rfl ?_
  intro p e s m args below meth c s₁ B hml hv
  obtain ⟨rfl, hP, hK, hTh⟩ := hv
  have hx := B.exec
  have hb := B.bytes
  have hr := B.returns
  have hts := atoms_spec (ws := wf_L_join) B.pre
  have htab := vx_table (x := yL_join) B (hts _ List.mem_cons_self)
  have hown : s.vm.findClass RL = some m.cls := findClass_of_methodNamed B.named
  have hlocks := B.notSynchronized
  have hS : va_S (fun _ => False) s.heap s.heap [] := va_S.rf
  have hl := lv_entry ([.ref h0, .int p0, .int p1, .int p2, .int p3, .ref qo]) (n := 7) (Nat.le_of_ble_eq_true rfl)
  rw [lg_entry_eq]
  generalize (lg_sl ([.ref h0, .int p0, .int p1, .int p2, .int p3, .ref qo]) ++ List.replicate (7 - (lg_sl ([.ref h0, .int p0, .int p1, .int p2, .int p3, .ref qo])).length) Slot.unset).toArray = ls at hl ⊢
  have hl : lv_has ls 7 [(0, .ref h0), (1, .int p0), (2, .int p1), (3, .int p2), (4, .int p3), (5, .ref qo)] := hl
  refine ow_named (fun QQ hQQ => ?_)
  refine lv_aload hx hb dL_join_0 (lv_at hl 5 rfl) ?_
  refine lv_iconst (v := 0) hx hb dL_join_2 (by decide) ?_
  refine lv_aload_n hx hb dL_join_3 rfl (lv_at hl 0 rfl) ?_
  refine lv_iload_n hx hb dL_join_4 rfl (lv_at hl 1 rfl) ?_
  refine lv_iload_n hx hb dL_join_5 rfl (lv_at hl 2 rfl) ?_
  refine lv_iload_n hx hb dL_join_6 rfl (lv_at hl 3 rfl) ?_
  refine lv_iload hx hb dL_join_7 (lv_at hl 4 rfl) ?_
  refine vx_calli (vx_runV (As := [.int p0, .int p1, .int p2, .int p3]) (rest := [.int 0, .ref qo]) ⟨hx, hb, hml, hown, hts⟩ (kf_X11_join l dC dI cI cB cJ cZ hlt h0 sa u p0 p1 p2 p3) (cwV 4 hts gf_L_join rfl rfl rfl (by decide +kernel) ⟨(Nat.le_of_ble_eq_true rfl), (Nat.le_of_ble_eq_true rfl)⟩) ⟨fun a U g mk q => by obtain ⟨q0, qP, qK, qT⟩ := q; exact ⟨q0, qP, va_K.moved (u := U) (U := U.calling g mk a) (Vm.Alike.refl U.vm) qK, ow_Th.same (u := U) (U := U.calling g mk a) rfl rfl qT⟩, va_recv hK hP (ci := 14) (q0 := 0) rfl rfl, fun U hU hW => ⟨rfl, by rw [hU]; exact hP, va_K.moved hW.alike hK, ow_Th.to hTh hS hW hU (fun q h => h)⟩⟩ rfl rfl hl.1 rfl (lv_room (Nat.le_of_ble_eq_true rfl)) dL_join_9 ⟨(Nat.le_of_ble_eq_true rfl), (Nat.le_of_ble_eq_true rfl)⟩) hS (fun q _ h => h.elim) (fun q h => h.elim) (fun q _ h => h.elim) (fun E ce q9 u9 t H1 locs ht hvm hpx hBX hz1 hk1 hS hce hcv hcl => ?_) (fun r9 u9 t H1 locs ht hvm hw hB hz1 hk1 hS => absurd hw (fun h => h))
  subst hBX
  refine vx_catch (name := "java/lang/IndexOutOfBoundsException") hown [] ⟨0, 14, 17, 33⟩ [⟨0, 14, 21, 54⟩, ⟨0, 14, 25, 13⟩] htab (fun z hz => by cases hz) (by decide) (by decide) (hts (.classLink RL 33 "java/lang/IndexOutOfBoundsException") (by decide +kernel)) (va_Nw.use rfl hTh.2.2.2.2.2.2) hce hcv hcl ?_
  refine lv_astore (lv' := [(6, .ref q9), (0, .ref h0), (1, .int p0), (2, .int p1), (3, .int p2), (4, .int p3), (5, .ref qo)]) hx hb dL_join_17 hl (by decide) rfl (fun ls hl => ?_)
  refine lv_iconst (v := 1) hx hb dL_join_19 (by decide) ?_
  refine W.widen (k := 1) (n := 6) (Nat.le_of_ble_eq_true rfl) (Nat.le_of_ble_eq_true rfl) ?_
  rw [hQQ]
  exact vx_ret (W.iret (v := 1) hx hb hr (fun t ht hW => ⟨⟨1, (), rfl, rfl, trivial⟩, hS.F ht⟩) hS.2.2 dL_join_20)
theorem dL_moves_0 : decode cL_moves 0 = .ok (.aload_n 3, 1) := by decide +kernel
theorem dL_moves_1 : decode cL_moves 1 = .ok (.iconst 0, 1) := by decide +kernel
theorem dL_moves_2 : decode cL_moves 2 = .ok (.aload_n 0, 1) := by decide +kernel
theorem dL_moves_3 : decode cL_moves 3 = .ok (.iload_n 1, 1) := by decide +kernel
theorem dL_moves_4 : decode cL_moves 4 = .ok (.iload_n 2, 1) := by decide +kernel
theorem dL_moves_5 : decode cL_moves 5 = .ok (.invokevirtual 63, 3) := by decide +kernel
theorem dL_moves_13 : decode cL_moves 13 = .ok (.astore 4, 2) := by decide +kernel
theorem dL_moves_15 : decode cL_moves 15 = .ok (.iconst 1, 1) := by decide +kernel
theorem dL_moves_16 : decode cL_moves 16 = .ok (.ireturn, 1) := by decide +kernel
def wf_L_moves : List Cond := .codeWith yL_moves cL_moves 5 (some .int) [(0, 10, 13, 33), (0, 10, 17, 19)] :: (.classLink RL 33 "java/lang/IndexOutOfBoundsException" :: wsV RL 63 RX11 yX11_moves wf_moves)
theorem gf_L_moves : GoodIn wf_L_moves (wsV RL 63 RX11 yX11_moves wf_moves) := goodIn_sub (fun _ h => List.mem_cons_of_mem _ (List.mem_cons_of_mem _ h)) (by decide +kernel)
set_option maxHeartbeats 4000000 in
set_option maxRecDepth 100000 in
theorem kf_L_moves (l : Launch) (dC : Nat → ClassId) (dI : Nat → Nat → Nat) (cI cB cJ cZ : ClassId) (hlt : l.stackTraces = false) (h0 sa qo : Nat) (u : Nat → Nat) (p0 p1 : Int32) : vx_Met l yL_moves wf_L_moves (({ frames := 8, cells := 1, slots := 6, locals := 133 } : Room)) (va_Pc [.ref h0, .int p0, .int p1, .ref qo] (fun U => va_P (dC, dI) vwCl [(h0, .inr (14, [.ref (u 0), .ref (u 1), .ref (u 2), .ref (u 3), .ref (u 4), .ref (u 5), .ref (u 6), .ref (u 7), .ref (u 8), .ref (u 9), .ref (u 10), .ref (u 11), .ref (u 12), .ref (u 13), .ref (u 14), .ref (u 15), .ref (u 16), .ref (u 17), .ref (u 18)])), ((u 0), .inr (6, [.ref (u 19), .ref (u 20), .ref (u 21), .ref (u 22), .int 0])), ((u 20), .inl (cB, 40, .inl (fun _ => 0)))] U.heap ∧ va_K (dC, dI) vwCl [(cI, .int), (cB, .byte), (cJ, .long), (cZ, .boolean)] U ∧ ow_Th (fun _ => False) RX11 166 "no such diagram" sa "java/lang/IndexOutOfBoundsException" U)) (va_Qi (fun r (_ : Unit) => r = 1) (fun _ _ => True) (fun _ => False)) (vx_X (fun _ : Unit => False) (fun _ _ _ => True) (fun _ => False)) 1 6 (fun _ => False) := by
  refine vx_ofWH (cc := cL_moves) (maxL := 5) (ret := (some .int)) (hh := [(0, 10, 13, 33), (0, 10, 17, 19)]) (by decide) rfl ?_
  intro p e s m args below meth c s₁ B hml hv
  obtain ⟨rfl, hP, hK, hTh⟩ := hv
  have hx := B.exec
  have hb := B.bytes
  have hr := B.returns
  have hts := atoms_spec (ws := wf_L_moves) B.pre
  have htab := vx_table (x := yL_moves) B (hts _ List.mem_cons_self)
  have hown : s.vm.findClass RL = some m.cls := findClass_of_methodNamed B.named
  have hlocks := B.notSynchronized
  have hS : va_S (fun _ => False) s.heap s.heap [] := va_S.rf
  have hl := lv_entry ([.ref h0, .int p0, .int p1, .ref qo]) (n := 5) (Nat.le_of_ble_eq_true rfl)
  rw [lg_entry_eq]
  generalize (lg_sl ([.ref h0, .int p0, .int p1, .ref qo]) ++ List.replicate (5 - (lg_sl ([.ref h0, .int p0, .int p1, .ref qo])).length) Slot.unset).toArray = ls at hl ⊢
  have hl : lv_has ls 5 [(0, .ref h0), (1, .int p0), (2, .int p1), (3, .ref qo)] := hl
  refine ow_named (fun QQ hQQ => ?_)
  refine lv_aload_n hx hb dL_moves_0 rfl (lv_at hl 3 rfl) ?_
  refine lv_iconst (v := 0) hx hb dL_moves_1 (by decide) ?_
  refine lv_aload_n hx hb dL_moves_2 rfl (lv_at hl 0 rfl) ?_
  refine lv_iload_n hx hb dL_moves_3 rfl (lv_at hl 1 rfl) ?_
  refine lv_iload_n hx hb dL_moves_4 rfl (lv_at hl 2 rfl) ?_
  refine vx_calli (vx_runV (As := [.int p0, .int p1]) (rest := [.int 0, .ref qo]) ⟨hx, hb, hml, hown, hts⟩ (kf_X11_moves l dC dI cI cB cJ cZ hlt h0 sa u p0 p1) (cwV 2 hts gf_L_moves rfl rfl rfl (by decide +kernel) ⟨(Nat.le_of_ble_eq_true rfl), (Nat.le_of_ble_eq_true rfl)⟩) ⟨fun a U g mk q => by obtain ⟨q0, qP, qK, qT⟩ := q; exact ⟨q0, qP, va_K.moved (u := U) (U := U.calling g mk a) (Vm.Alike.refl U.vm) qK, ow_Th.same (u := U) (U := U.calling g mk a) rfl rfl qT⟩, va_recv hK hP (ci := 14) (q0 := 0) rfl rfl, fun U hU hW => ⟨rfl, by rw [hU]; exact hP, va_K.moved hW.alike hK, ow_Th.to hTh hS hW hU (fun q h => h)⟩⟩ rfl rfl hl.1 rfl (lv_room (Nat.le_of_ble_eq_true rfl)) dL_moves_5 ⟨(Nat.le_of_ble_eq_true rfl), (Nat.le_of_ble_eq_true rfl)⟩) hS (fun q _ h => h.elim) (fun q h => h.elim) (fun q _ h => h.elim) (fun E ce q9 u9 t H1 locs ht hvm hpx hBX hz1 hk1 hS hce hcv hcl => ?_) (fun r9 u9 t H1 locs ht hvm hw hB hz1 hk1 hS => absurd hw (fun h => h))
  subst hBX
  refine vx_catch (name := "java/lang/IndexOutOfBoundsException") hown [] ⟨0, 10, 13, 33⟩ [⟨0, 10, 17, 19⟩] htab (fun z hz => by cases hz) (by decide) (by decide) (hts (.classLink RL 33 "java/lang/IndexOutOfBoundsException") (by decide +kernel)) (va_Nw.use rfl hTh.2.2.2.2.2.2) hce hcv hcl ?_
  refine lv_astore (lv' := [(4, .ref q9), (0, .ref h0), (1, .int p0), (2, .int p1), (3, .ref qo)]) hx hb dL_moves_13 hl (by decide) rfl (fun ls hl => ?_)
  refine lv_iconst (v := 1) hx hb dL_moves_15 (by decide) ?_
  refine W.widen (k := 1) (n := 6) (Nat.le_of_ble_eq_true rfl) (Nat.le_of_ble_eq_true rfl) ?_
  rw [hQQ]
  exact vx_ret (W.iret (v := 1) hx hb hr (fun t ht hW => ⟨⟨1, (), rfl, rfl, trivial⟩, hS.F ht⟩) hS.2.2 dL_moves_16)
theorem dL_simplify_0 : decode cL_simplify 0 = .ok (.aload_n 2, 1) := by decide +kernel
theorem dL_simplify_1 : decode cL_simplify 1 = .ok (.iconst 0, 1) := by decide +kernel
theorem dL_simplify_2 : decode cL_simplify 2 = .ok (.aload_n 0, 1) := by decide +kernel
theorem dL_simplify_3 : decode cL_simplify 3 = .ok (.iload_n 1, 1) := by decide +kernel
theorem dL_simplify_4 : decode cL_simplify 4 = .ok (.invokevirtual 69, 3) := by decide +kernel
theorem dL_simplify_12 : decode cL_simplify 12 = .ok (.astore_n 3, 1) := by decide +kernel
theorem dL_simplify_13 : decode cL_simplify 13 = .ok (.iconst 1, 1) := by decide +kernel
theorem dL_simplify_14 : decode cL_simplify 14 = .ok (.ireturn, 1) := by decide +kernel
theorem dL_simplify_15 : decode cL_simplify 15 = .ok (.astore_n 3, 1) := by decide +kernel
def wf_L_simplify : List Cond := .codeWith yL_simplify cL_simplify 4 (some .int) [(0, 9, 12, 33), (0, 9, 15, 13)] :: (.classLink RL 33 "java/lang/IndexOutOfBoundsException" :: wsV RL 69 RX11 yX11_simplify wf_simplify)
theorem gf_L_simplify : GoodIn wf_L_simplify (wsV RL 69 RX11 yX11_simplify wf_simplify) := goodIn_sub (fun _ h => List.mem_cons_of_mem _ (List.mem_cons_of_mem _ h)) (by decide +kernel)
set_option maxHeartbeats 4000000 in
set_option maxRecDepth 100000 in
theorem kf_L_simplify (l : Launch) (dC : Nat → ClassId) (dI : Nat → Nat → Nat) (cI cB cJ cZ : ClassId) (hlt : l.stackTraces = false) (h0 sa qo : Nat) (u : Nat → Nat) (p0 : Int32) : vx_Met l yL_simplify wf_L_simplify (({ frames := 8, cells := 1, slots := 6, locals := 134 } : Room)) (va_Pc [.ref h0, .int p0, .ref qo] (fun U => va_P (dC, dI) vwCl [(h0, .inr (14, [.ref (u 0), .ref (u 1), .ref (u 2), .ref (u 3), .ref (u 4), .ref (u 5), .ref (u 6), .ref (u 7), .ref (u 8), .ref (u 9), .ref (u 10), .ref (u 11), .ref (u 12), .ref (u 13), .ref (u 14), .ref (u 15), .ref (u 16), .ref (u 17), .ref (u 18)])), ((u 0), .inr (6, [.ref (u 19), .ref (u 20), .ref (u 21), .ref (u 22), .int 0])), ((u 20), .inl (cB, 40, .inl (fun _ => 0)))] U.heap ∧ va_K (dC, dI) vwCl [(cI, .int), (cB, .byte), (cJ, .long), (cZ, .boolean)] U ∧ ow_Th (fun _ => False) RX11 166 "no such diagram" sa "java/lang/IndexOutOfBoundsException" U)) (va_Qi (fun r (_ : Unit) => r = 1) (fun _ _ => True) (fun _ => False)) (vx_X (fun _ : Unit => False) (fun _ _ _ => True) (fun _ => False)) 1 6 (fun _ => False) := by
  refine vx_ofWH (cc := cL_simplify) (maxL := 4) (ret := (some .int)) (hh := [(0, 9, 12, 33), (0, 9, 15, 13)]) (by decide) rfl ?_
  intro p e s m args below meth c s₁ B hml hv
  obtain ⟨rfl, hP, hK, hTh⟩ := hv
  have hx := B.exec
  have hb := B.bytes
  have hr := B.returns
  have hts := atoms_spec (ws := wf_L_simplify) B.pre
  have htab := vx_table (x := yL_simplify) B (hts _ List.mem_cons_self)
  have hown : s.vm.findClass RL = some m.cls := findClass_of_methodNamed B.named
  have hlocks := B.notSynchronized
  have hS : va_S (fun _ => False) s.heap s.heap [] := va_S.rf
  have hl := lv_entry ([.ref h0, .int p0, .ref qo]) (n := 4) (Nat.le_of_ble_eq_true rfl)
  rw [lg_entry_eq]
  generalize (lg_sl ([.ref h0, .int p0, .ref qo]) ++ List.replicate (4 - (lg_sl ([.ref h0, .int p0, .ref qo])).length) Slot.unset).toArray = ls at hl ⊢
  have hl : lv_has ls 4 [(0, .ref h0), (1, .int p0), (2, .ref qo)] := hl
  refine ow_named (fun QQ hQQ => ?_)
  refine lv_aload_n hx hb dL_simplify_0 rfl (lv_at hl 2 rfl) ?_
  refine lv_iconst (v := 0) hx hb dL_simplify_1 (by decide) ?_
  refine lv_aload_n hx hb dL_simplify_2 rfl (lv_at hl 0 rfl) ?_
  refine lv_iload_n hx hb dL_simplify_3 rfl (lv_at hl 1 rfl) ?_
  refine vx_calli (vx_runV (As := [.int p0]) (rest := [.int 0, .ref qo]) ⟨hx, hb, hml, hown, hts⟩ (kf_X11_simplify l dC dI cI cB cJ cZ hlt h0 sa u p0) (cwV 1 hts gf_L_simplify rfl rfl rfl (by decide +kernel) ⟨(Nat.le_of_ble_eq_true rfl), (Nat.le_of_ble_eq_true rfl)⟩) ⟨fun a U g mk q => by obtain ⟨q0, qP, qK, qT⟩ := q; exact ⟨q0, qP, va_K.moved (u := U) (U := U.calling g mk a) (Vm.Alike.refl U.vm) qK, ow_Th.same (u := U) (U := U.calling g mk a) rfl rfl qT⟩, va_recv hK hP (ci := 14) (q0 := 0) rfl rfl, fun U hU hW => ⟨rfl, by rw [hU]; exact hP, va_K.moved hW.alike hK, ow_Th.to hTh hS hW hU (fun q h => h)⟩⟩ rfl rfl hl.1 rfl (lv_room (Nat.le_of_ble_eq_true rfl)) dL_simplify_4 ⟨(Nat.le_of_ble_eq_true rfl), (Nat.le_of_ble_eq_true rfl)⟩) hS (fun q _ h => h.elim) (fun q h => h.elim) (fun q _ h => h.elim) (fun E ce q9 u9 t H1 locs ht hvm hpx hBX hz1 hk1 hS hce hcv hcl => ?_) (fun r9 u9 t H1 locs ht hvm hw hB hz1 hk1 hS => absurd hw (fun h => h))
  subst hBX
  refine vx_catch (name := "java/lang/IndexOutOfBoundsException") hown [] ⟨0, 9, 12, 33⟩ [⟨0, 9, 15, 13⟩] htab (fun z hz => by cases hz) (by decide) (by decide) (hts (.classLink RL 33 "java/lang/IndexOutOfBoundsException") (by decide +kernel)) (va_Nw.use rfl hTh.2.2.2.2.2.2) hce hcv hcl ?_
  refine lv_astore_n (lv' := [(3, .ref q9), (0, .ref h0), (1, .int p0), (2, .ref qo)]) hx hb dL_simplify_12 rfl hl (by decide) rfl (fun ls hl => ?_)
  refine lv_iconst (v := 1) hx hb dL_simplify_13 (by decide) ?_
  refine W.widen (k := 1) (n := 6) (Nat.le_of_ble_eq_true rfl) (Nat.le_of_ble_eq_true rfl) ?_
  rw [hQQ]
  exact vx_ret (W.iret (v := 1) hx hb hr (fun t ht hW => ⟨⟨1, (), rfl, rfl, trivial⟩, hS.F ht⟩) hS.2.2 dL_simplify_14)
theorem dL_way_0 : decode cL_way 0 = .ok (.aload_n 3, 1) := by decide +kernel
theorem dL_way_1 : decode cL_way 1 = .ok (.iconst 0, 1) := by decide +kernel
theorem dL_way_2 : decode cL_way 2 = .ok (.aload_n 0, 1) := by decide +kernel
theorem dL_way_3 : decode cL_way 3 = .ok (.iload_n 1, 1) := by decide +kernel
theorem dL_way_4 : decode cL_way 4 = .ok (.iload_n 2, 1) := by decide +kernel
theorem dL_way_5 : decode cL_way 5 = .ok (.invokevirtual 72, 3) := by decide +kernel
theorem dL_way_13 : decode cL_way 13 = .ok (.astore 4, 2) := by decide +kernel
theorem dL_way_15 : decode cL_way 15 = .ok (.iconst 1, 1) := by decide +kernel
theorem dL_way_16 : decode cL_way 16 = .ok (.ireturn, 1) := by decide +kernel
def wf_L_way : List Cond := .codeWith yL_way cL_way 5 (some .int) [(0, 10, 13, 33), (0, 10, 17, 54)] :: (.classLink RL 33 "java/lang/IndexOutOfBoundsException" :: wsV RL 72 RX11 yX11_way wf_way)
theorem gf_L_way : GoodIn wf_L_way (wsV RL 72 RX11 yX11_way wf_way) := goodIn_sub (fun _ h => List.mem_cons_of_mem _ (List.mem_cons_of_mem _ h)) (by decide +kernel)
set_option maxHeartbeats 4000000 in
set_option maxRecDepth 100000 in
theorem kf_L_way (l : Launch) (dC : Nat → ClassId) (dI : Nat → Nat → Nat) (cI cB cJ cZ : ClassId) (hlt : l.stackTraces = false) (h0 sa qo : Nat) (u : Nat → Nat) (p0 p1 : Int32) : vx_Met l yL_way wf_L_way (({ frames := 8, cells := 1, slots := 6, locals := 133 } : Room)) (va_Pc [.ref h0, .int p0, .int p1, .ref qo] (fun U => va_P (dC, dI) vwCl [(h0, .inr (14, [.ref (u 0), .ref (u 1), .ref (u 2), .ref (u 3), .ref (u 4), .ref (u 5), .ref (u 6), .ref (u 7), .ref (u 8), .ref (u 9), .ref (u 10), .ref (u 11), .ref (u 12), .ref (u 13), .ref (u 14), .ref (u 15), .ref (u 16), .ref (u 17), .ref (u 18)])), ((u 0), .inr (6, [.ref (u 19), .ref (u 20), .ref (u 21), .ref (u 22), .int 0])), ((u 20), .inl (cB, 40, .inl (fun _ => 0)))] U.heap ∧ va_K (dC, dI) vwCl [(cI, .int), (cB, .byte), (cJ, .long), (cZ, .boolean)] U ∧ ow_Th (fun _ => False) RX11 166 "no such diagram" sa "java/lang/IndexOutOfBoundsException" U)) (va_Qi (fun r (_ : Unit) => r = 1) (fun _ _ => True) (fun _ => False)) (vx_X (fun _ : Unit => False) (fun _ _ _ => True) (fun _ => False)) 1 6 (fun _ => False) := by
  refine vx_ofWH (cc := cL_way) (maxL := 5) (ret := (some .int)) (hh := [(0, 10, 13, 33), (0, 10, 17, 54)]) (by decide) rfl ?_
  intro p e s m args below meth c s₁ B hml hv
  obtain ⟨rfl, hP, hK, hTh⟩ := hv
  have hx := B.exec
  have hb := B.bytes
  have hr := B.returns
  have hts := atoms_spec (ws := wf_L_way) B.pre
  have htab := vx_table (x := yL_way) B (hts _ List.mem_cons_self)
  have hown : s.vm.findClass RL = some m.cls := findClass_of_methodNamed B.named
  have hlocks := B.notSynchronized
  have hS : va_S (fun _ => False) s.heap s.heap [] := va_S.rf
  have hl := lv_entry ([.ref h0, .int p0, .int p1, .ref qo]) (n := 5) (Nat.le_of_ble_eq_true rfl)
  rw [lg_entry_eq]
  generalize (lg_sl ([.ref h0, .int p0, .int p1, .ref qo]) ++ List.replicate (5 - (lg_sl ([.ref h0, .int p0, .int p1, .ref qo])).length) Slot.unset).toArray = ls at hl ⊢
  have hl : lv_has ls 5 [(0, .ref h0), (1, .int p0), (2, .int p1), (3, .ref qo)] := hl
  refine ow_named (fun QQ hQQ => ?_)
  refine lv_aload_n hx hb dL_way_0 rfl (lv_at hl 3 rfl) ?_
  refine lv_iconst (v := 0) hx hb dL_way_1 (by decide) ?_
  refine lv_aload_n hx hb dL_way_2 rfl (lv_at hl 0 rfl) ?_
  refine lv_iload_n hx hb dL_way_3 rfl (lv_at hl 1 rfl) ?_
  refine lv_iload_n hx hb dL_way_4 rfl (lv_at hl 2 rfl) ?_
  refine vx_calli (vx_runV (As := [.int p0, .int p1]) (rest := [.int 0, .ref qo]) ⟨hx, hb, hml, hown, hts⟩ (kf_X11_way l dC dI cI cB cJ cZ hlt h0 sa u p0 p1) (cwV 2 hts gf_L_way rfl rfl rfl (by decide +kernel) ⟨(Nat.le_of_ble_eq_true rfl), (Nat.le_of_ble_eq_true rfl)⟩) ⟨fun a U g mk q => by obtain ⟨q0, qP, qK, qT⟩ := q; exact ⟨q0, qP, va_K.moved (u := U) (U := U.calling g mk a) (Vm.Alike.refl U.vm) qK, ow_Th.same (u := U) (U := U.calling g mk a) rfl rfl qT⟩, va_recv hK hP (ci := 14) (q0 := 0) rfl rfl, fun U hU hW => ⟨rfl, by rw [hU]; exact hP, va_K.moved hW.alike hK, ow_Th.to hTh hS hW hU (fun q h => h)⟩⟩ rfl rfl hl.1 rfl (lv_room (Nat.le_of_ble_eq_true rfl)) dL_way_5 ⟨(Nat.le_of_ble_eq_true rfl), (Nat.le_of_ble_eq_true rfl)⟩) hS (fun q _ h => h.elim) (fun q h => h.elim) (fun q _ h => h.elim) (fun E ce q9 u9 t H1 locs ht hvm hpx hBX hz1 hk1 hS hce hcv hcl => ?_) (fun r9 u9 t H1 locs ht hvm hw hB hz1 hk1 hS => absurd hw (fun h => h))
  subst hBX
  refine vx_catch (name := "java/lang/IndexOutOfBoundsException") hown [] ⟨0, 10, 13, 33⟩ [⟨0, 10, 17, 54⟩] htab (fun z hz => by cases hz) (by decide) (by decide) (hts (.classLink RL 33 "java/lang/IndexOutOfBoundsException") (by decide +kernel)) (va_Nw.use rfl hTh.2.2.2.2.2.2) hce hcv hcl ?_
  refine lv_astore (lv' := [(4, .ref q9), (0, .ref h0), (1, .int p0), (2, .int p1), (3, .ref qo)]) hx hb dL_way_13 hl (by decide) rfl (fun ls hl => ?_)
  refine lv_iconst (v := 1) hx hb dL_way_15 (by decide) ?_
  refine W.widen (k := 1) (n := 6) (Nat.le_of_ble_eq_true rfl) (Nat.le_of_ble_eq_true rfl) ?_
  rw [hQQ]
  exact vx_ret (W.iret (v := 1) hx hb hr (fun t ht hW => ⟨⟨1, (), rfl, rfl, trivial⟩, hS.F ht⟩) hS.2.2 dL_way_16)
theorem dL_summands_0 : decode cL_summands 0 = .ok (.aload_n 2, 1) := by decide +kernel
theorem dL_summands_1 : decode cL_summands 1 = .ok (.iconst 0, 1) := by decide +kernel
theorem dL_summands_2 : decode cL_summands 2 = .ok (.aload_n 0, 1) := by decide +kernel
theorem dL_summands_3 : decode cL_summands 3 = .ok (.iload_n 1, 1) := by decide +kernel
theorem dL_summands_4 : decode cL_summands 4 = .ok (.invokevirtual 75, 3) := by decide +kernel
theorem dL_summands_12 : decode cL_summands 12 = .ok (.astore_n 3, 1) := by decide +kernel
theorem dL_summands_13 : decode cL_summands 13 = .ok (.iconst 1, 1) := by decide +kernel
theorem dL_summands_14 : decode cL_summands 14 = .ok (.ireturn, 1) := by decide +kernel
theorem dL_summands_15 : decode cL_summands 15 = .ok (.iconst 0, 1) := by decide +kernel
def wf_L_summands : List Cond := .codeWith yL_summands cL_summands 4 (some .int) [(0, 9, 12, 33)] :: (.classLink RL 33 "java/lang/IndexOutOfBoundsException" :: wsV RL 75 RX11 yX11_summands wf_summands)
theorem gf_L_summands : GoodIn wf_L_summands (wsV RL 75 RX11 yX11_summands wf_summands) := goodIn_sub (fun _ h => List.mem_cons_of_mem _ (List.mem_cons_of_mem _ h)) (by decide +kernel)
set_option maxHeartbeats 4000000 in
set_option maxRecDepth 100000 in
theorem kf_L_summands (l : Launch) (dC : Nat → ClassId) (dI : Nat → Nat → Nat) (cI cB cJ cZ : ClassId) (hlt : l.stackTraces = false) (h0 sa qo : Nat) (u : Nat → Nat) (p0 : Int32) : vx_Met l yL_summands wf_L_summands (({ frames := 8, cells := 1, slots := 6, locals := 132 } : Room)) (va_Pc [.ref h0, .int p0, .ref qo] (fun U => va_P (dC, dI) vwCl [(h0, .inr (14, [.ref (u 0), .ref (u 1), .ref (u 2), .ref (u 3), .ref (u 4), .ref (u 5), .ref (u 6), .ref (u 7), .ref (u 8), .ref (u 9), .ref (u 10), .ref (u 11), .ref (u 12), .ref (u 13), .ref (u 14), .ref (u 15), .ref (u 16), .ref (u 17), .ref (u 18)])), ((u 0), .inr (6, [.ref (u 19), .ref (u 20), .ref (u 21), .ref (u 22), .int 0])), ((u 20), .inl (cB, 40, .inl (fun _ => 0)))] U.heap ∧ va_K (dC, dI) vwCl [(cI, .int), (cB, .byte), (cJ, .long), (cZ, .boolean)] U ∧ ow_Th (fun _ => False) RX11 166 "no such diagram" sa "java/lang/IndexOutOfBoundsException" U)) (va_Qi (fun r (_ : Unit) => r = 1) (fun _ _ => True) (fun _ => False)) (vx_X (fun _ : Unit => False) (fun _ _ _ => True) (fun _ => False)) 1 6 (fun _ => False) := by
  refine vx_ofWH (cc := cL_summands) (maxL := 4) (ret := (some .int)) (hh := [(0, 9, 12, 33)]) (by decide) rfl ?_
  intro p e s m args below meth c s₁ B hml hv
  obtain ⟨rfl, hP, hK, hTh⟩ := hv
  have hx := B.exec
  have hb := B.bytes
  have hr := B.returns
  have hts := atoms_spec (ws := wf_L_summands) B.pre
  have htab := vx_table (x := yL_summands) B (hts _ List.mem_cons_self)
  have hown : s.vm.findClass RL = some m.cls := findClass_of_methodNamed B.named
  have hlocks := B.notSynchronized
  have hS : va_S (fun _ => False) s.heap s.heap [] := va_S.rf
  have hl := lv_entry ([.ref h0, .int p0, .ref qo]) (n := 4) (Nat.le_of_ble_eq_true rfl)
  rw [lg_entry_eq]
  generalize (lg_sl ([.ref h0, .int p0, .ref qo]) ++ List.replicate (4 - (lg_sl ([.ref h0, .int p0, .ref qo])).length) Slot.unset).toArray = ls at hl ⊢
  have hl : lv_has ls 4 [(0, .ref h0), (1, .int p0), (2, .ref qo)] := hl
  refine ow_named (fun QQ hQQ => ?_)
  refine lv_aload_n hx hb dL_summands_0 rfl (lv_at hl 2 rfl) ?_
  refine lv_iconst (v := 0) hx hb dL_summands_1 (by decide) ?_
  refine lv_aload_n hx hb dL_summands_2 rfl (lv_at hl 0 rfl) ?_
  refine lv_iload_n hx hb dL_summands_3 rfl (lv_at hl 1 rfl) ?_
  refine vx_calli (vx_runV (As := [.int p0]) (rest := [.int 0, .ref qo]) ⟨hx, hb, hml, hown, hts⟩ (kf_X11_summands l dC dI cI cB cJ cZ hlt h0 sa u p0) (cwV 1 hts gf_L_summands rfl rfl rfl (by decide +kernel) ⟨(Nat.le_of_ble_eq_true rfl), (Nat.le_of_ble_eq_true rfl)⟩) ⟨fun a U g mk q => by obtain ⟨q0, qP, qK, qT⟩ := q; exact ⟨q0, qP, va_K.moved (u := U) (U := U.calling g mk a) (Vm.Alike.refl U.vm) qK, ow_Th.same (u := U) (U := U.calling g mk a) rfl rfl qT⟩, va_recv hK hP (ci := 14) (q0 := 0) rfl rfl, fun U hU hW => ⟨rfl, by rw [hU]; exact hP, va_K.moved hW.alike hK, ow_Th.to hTh hS hW hU (fun q h => h)⟩⟩ rfl rfl hl.1 rfl (lv_room (Nat.le_of_ble_eq_true rfl)) dL_summands_4 ⟨(Nat.le_of_ble_eq_true rfl), (Nat.le_of_ble_eq_true rfl)⟩) hS (fun q _ h => h.elim) (fun q h => h.elim) (fun q _ h => h.elim) (fun E ce q9 u9 t H1 locs ht hvm hpx hBX hz1 hk1 hS hce hcv hcl => ?_) (fun r9 u9 t H1 locs ht hvm hw hB hz1 hk1 hS => absurd hw (fun h => h))
  subst hBX
  refine vx_catch (name := "java/lang/IndexOutOfBoundsException") hown [] ⟨0, 9, 12, 33⟩ [] htab (fun z hz => by cases hz) (by decide) (by decide) (hts (.classLink RL 33 "java/lang/IndexOutOfBoundsException") (by decide +kernel)) (va_Nw.use rfl hTh.2.2.2.2.2.2) hce hcv hcl ?_
  refine lv_astore_n (lv' := [(3, .ref q9), (0, .ref h0), (1, .int p0), (2, .ref qo)]) hx hb dL_summands_12 rfl hl (by decide) rfl (fun ls hl => ?_)
  refine lv_iconst (v := 1) hx hb dL_summands_13 (by decide) ?_
  refine W.widen (k := 1) (n := 6) (Nat.le_of_ble_eq_true rfl) (Nat.le_of_ble_eq_true rfl) ?_
  rw [hQQ]
  exact vx_ret (W.iret (v := 1) hx hb hr (fun t ht hW => ⟨⟨1, (), rfl, rfl, trivial⟩, hS.F ht⟩) hS.2.2 dL_summands_14)
theorem dL_conway_0 : decode cL_conway 0 = .ok (.aload_n 3, 1) := by decide +kernel
theorem dL_conway_1 : decode cL_conway 1 = .ok (.iconst 0, 1) := by decide +kernel
theorem dL_conway_2 : decode cL_conway 2 = .ok (.aload_n 0, 1) := by decide +kernel
theorem dL_conway_3 : decode cL_conway 3 = .ok (.iload_n 1, 1) := by decide +kernel
theorem dL_conway_4 : decode cL_conway 4 = .ok (.iload_n 2, 1) := by decide +kernel
theorem dL_conway_5 : decode cL_conway 5 = .ok (.invokevirtual 81, 3) := by decide +kernel
theorem dL_conway_13 : decode cL_conway 13 = .ok (.astore 4, 2) := by decide +kernel
theorem dL_conway_15 : decode cL_conway 15 = .ok (.iconst 1, 1) := by decide +kernel
theorem dL_conway_16 : decode cL_conway 16 = .ok (.ireturn, 1) := by decide +kernel
def wf_L_conway : List Cond := .codeWith yL_conway cL_conway 5 (some .int) [(0, 10, 13, 33)] :: (.classLink RL 33 "java/lang/IndexOutOfBoundsException" :: wsV RL 81 RX11 yX11_conway wf_conway)
theorem gf_L_conway : GoodIn wf_L_conway (wsV RL 81 RX11 yX11_conway wf_conway) := goodIn_sub (fun _ h => List.mem_cons_of_mem _ (List.mem_cons_of_mem _ h)) (by decide +kernel)
set_option maxHeartbeats 4000000 in
set_option maxRecDepth 100000 in
theorem kf_L_conway (l : Launch) (dC : Nat → ClassId) (dI : Nat → Nat → Nat) (cI cB cJ cZ : ClassId) (hlt : l.stackTraces = false) (h0 sa qo : Nat) (u : Nat → Nat) (p0 p1 : Int32) : vx_Met l yL_conway wf_L_conway (({ frames := 8, cells := 1, slots := 6, locals := 133 } : Room)) (va_Pc [.ref h0, .int p0, .int p1, .ref qo] (fun U => va_P (dC, dI) vwCl [(h0, .inr (14, [.ref (u 0), .ref (u 1), .ref (u 2), .ref (u 3), .ref (u 4), .ref (u 5), .ref (u 6), .ref (u 7), .ref (u 8), .ref (u 9), .ref (u 10), .ref (u 11), .ref (u 12), .ref (u 13), .ref (u 14), .ref (u 15), .ref (u 16), .ref (u 17), .ref (u 18)])), ((u 0), .inr (6, [.ref (u 19), .ref (u 20), .ref (u 21), .ref (u 22), .int 0])), ((u 20), .inl (cB, 40, .inl (fun _ => 0)))] U.heap ∧ va_K (dC, dI) vwCl [(cI, .int), (cB, .byte), (cJ, .long), (cZ, .boolean)] U ∧ ow_Th (fun _ => False) RX11 166 "no such diagram" sa "java/lang/IndexOutOfBoundsException" U)) (va_Qi (fun r (_ : Unit) => r = 1) (fun _ _ => True) (fun _ => False)) (vx_X (fun _ : Unit => False) (fun _ _ _ => True) (fun _ => False)) 1 6 (fun _ => False) := by
  refine vx_ofWH (cc := cL_conway) (maxL := 5) (ret := (some .int)) (hh := [(0, 10, 13, 33)]) (by decide) rfl ?_
  intro p e s m args below meth c s₁ B hml hv
  obtain ⟨rfl, hP, hK, hTh⟩ := hv
  have hx := B.exec
  have hb := B.bytes
  have hr := B.returns
  have hts := atoms_spec (ws := wf_L_conway) B.pre
  have htab := vx_table (x := yL_conway) B (hts _ List.mem_cons_self)
  have hown : s.vm.findClass RL = some m.cls := findClass_of_methodNamed B.named
  have hlocks := B.notSynchronized
  have hS : va_S (fun _ => False) s.heap s.heap [] := va_S.rf
  have hl := lv_entry ([.ref h0, .int p0, .int p1, .ref qo]) (n := 5) (Nat.le_of_ble_eq_true rfl)
  rw [lg_entry_eq]
  generalize (lg_sl ([.ref h0, .int p0, .int p1, .ref qo]) ++ List.replicate (5 - (lg_sl ([.ref h0, .int p0, .int p1, .ref qo])).length) Slot.unset).toArray = ls at hl ⊢
  have hl : lv_has ls 5 [(0, .ref h0), (1, .int p0), (2, .int p1), (3, .ref qo)] := hl
  refine ow_named (fun QQ hQQ => ?_)
  refine lv_aload_n hx hb dL_conway_0 rfl (lv_at hl 3 rfl) ?_
  refine lv_iconst (v := 0) hx hb dL_conway_1 (by decide) ?_
  refine lv_aload_n hx hb dL_conway_2 rfl (lv_at hl 0 rfl) ?_
  refine lv_iload_n hx hb dL_conway_3 rfl (lv_at hl 1 rfl) ?_
  refine lv_iload_n hx hb dL_conway_4 rfl (lv_at hl 2 rfl) ?_
  refine vx_calli (vx_runV (As := [.int p0, .int p1]) (rest := [.int 0, .ref qo]) ⟨hx, hb, hml, hown, hts⟩ (kf_X11_conway l dC dI cI cB cJ cZ hlt h0 sa u p0 p1) (cwV 2 hts gf_L_conway rfl rfl rfl (by decide +kernel) ⟨(Nat.le_of_ble_eq_true rfl), (Nat.le_of_ble_eq_true rfl)⟩) ⟨fun a U g mk q => by obtain ⟨q0, qP, qK, qT⟩ := q; exact ⟨q0, qP, va_K.moved (u := U) (U := U.calling g mk a) (Vm.Alike.refl U.vm) qK, ow_Th.same (u := U) (U := U.calling g mk a) rfl rfl qT⟩, va_recv hK hP (ci := 14) (q0 := 0) rfl rfl, fun U hU hW => ⟨rfl, by rw [hU]; exact hP, va_K.moved hW.alike hK, ow_Th.to hTh hS hW hU (fun q h => h)⟩⟩ rfl rfl hl.1 rfl (lv_room (Nat.le_of_ble_eq_true rfl)) dL_conway_5 ⟨(Nat.le_of_ble_eq_true rfl), (Nat.le_of_ble_eq_true rfl)⟩) hS (fun q _ h => h.elim) (fun q h => h.elim) (fun q _ h => h.elim) (fun E ce q9 u9 t H1 locs ht hvm hpx hBX hz1 hk1 hS hce hcv hcl => ?_) (fun r9 u9 t H1 locs ht hvm hw hB hz1 hk1 hS => absurd hw (fun h => h))
  subst hBX
  refine vx_catch (name := "java/lang/IndexOutOfBoundsException") hown [] ⟨0, 10, 13, 33⟩ [] htab (fun z hz => by cases hz) (by decide) (by decide) (hts (.classLink RL 33 "java/lang/IndexOutOfBoundsException") (by decide +kernel)) (va_Nw.use rfl hTh.2.2.2.2.2.2) hce hcv hcl ?_
  refine lv_astore (lv' := [(4, .ref q9), (0, .ref h0), (1, .int p0), (2, .int p1), (3, .ref qo)]) hx hb dL_conway_13 hl (by decide) rfl (fun ls hl => ?_)
  refine lv_iconst (v := 1) hx hb dL_conway_15 (by decide) ?_
  refine W.widen (k := 1) (n := 6) (Nat.le_of_ble_eq_true rfl) (Nat.le_of_ble_eq_true rfl) ?_
  rw [hQQ]
  exact vx_ret (W.iret (v := 1) hx hb hr (fun t ht hW => ⟨⟨1, (), rfl, rfl, trivial⟩, hS.F ht⟩) hS.2.2 dL_conway_16)
theorem dL_jones_0 : decode cL_jones 0 = .ok (.aload_n 3, 1) := by decide +kernel
theorem dL_jones_1 : decode cL_jones 1 = .ok (.iconst 0, 1) := by decide +kernel
theorem dL_jones_2 : decode cL_jones 2 = .ok (.aload_n 0, 1) := by decide +kernel
theorem dL_jones_3 : decode cL_jones 3 = .ok (.iload_n 1, 1) := by decide +kernel
theorem dL_jones_4 : decode cL_jones 4 = .ok (.iload_n 2, 1) := by decide +kernel
theorem dL_jones_5 : decode cL_jones 5 = .ok (.invokevirtual 84, 3) := by decide +kernel
theorem dL_jones_13 : decode cL_jones 13 = .ok (.astore 4, 2) := by decide +kernel
theorem dL_jones_15 : decode cL_jones 15 = .ok (.iconst 1, 1) := by decide +kernel
theorem dL_jones_16 : decode cL_jones 16 = .ok (.ireturn, 1) := by decide +kernel
def wf_L_jones : List Cond := .codeWith yL_jones cL_jones 5 (some .int) [(0, 10, 13, 33)] :: (.classLink RL 33 "java/lang/IndexOutOfBoundsException" :: wsV RL 84 RX11 yX11_jones wf_jones)
theorem gf_L_jones : GoodIn wf_L_jones (wsV RL 84 RX11 yX11_jones wf_jones) := goodIn_sub (fun _ h => List.mem_cons_of_mem _ (List.mem_cons_of_mem _ h)) (by decide +kernel)
set_option maxHeartbeats 4000000 in
set_option maxRecDepth 100000 in
theorem kf_L_jones (l : Launch) (dC : Nat → ClassId) (dI : Nat → Nat → Nat) (cI cB cJ cZ : ClassId) (hlt : l.stackTraces = false) (h0 sa qo : Nat) (u : Nat → Nat) (p0 p1 : Int32) : vx_Met l yL_jones wf_L_jones (({ frames := 8, cells := 1, slots := 6, locals := 133 } : Room)) (va_Pc [.ref h0, .int p0, .int p1, .ref qo] (fun U => va_P (dC, dI) vwCl [(h0, .inr (14, [.ref (u 0), .ref (u 1), .ref (u 2), .ref (u 3), .ref (u 4), .ref (u 5), .ref (u 6), .ref (u 7), .ref (u 8), .ref (u 9), .ref (u 10), .ref (u 11), .ref (u 12), .ref (u 13), .ref (u 14), .ref (u 15), .ref (u 16), .ref (u 17), .ref (u 18)])), ((u 0), .inr (6, [.ref (u 19), .ref (u 20), .ref (u 21), .ref (u 22), .int 0])), ((u 20), .inl (cB, 40, .inl (fun _ => 0)))] U.heap ∧ va_K (dC, dI) vwCl [(cI, .int), (cB, .byte), (cJ, .long), (cZ, .boolean)] U ∧ ow_Th (fun _ => False) RX11 166 "no such diagram" sa "java/lang/IndexOutOfBoundsException" U)) (va_Qi (fun r (_ : Unit) => r = 1) (fun _ _ => True) (fun _ => False)) (vx_X (fun _ : Unit => False) (fun _ _ _ => True) (fun _ => False)) 1 6 (fun _ => False) := by
  refine vx_ofWH (cc := cL_jones) (maxL := 5) (ret := (some .int)) (hh := [(0, 10, 13, 33)]) (by decide) rfl ?_
  intro p e s m args below meth c s₁ B hml hv
  obtain ⟨rfl, hP, hK, hTh⟩ := hv
  have hx := B.exec
  have hb := B.bytes
  have hr := B.returns
  have hts := atoms_spec (ws := wf_L_jones) B.pre
  have htab := vx_table (x := yL_jones) B (hts _ List.mem_cons_self)
  have hown : s.vm.findClass RL = some m.cls := findClass_of_methodNamed B.named
  have hlocks := B.notSynchronized
  have hS : va_S (fun _ => False) s.heap s.heap [] := va_S.rf
  have hl := lv_entry ([.ref h0, .int p0, .int p1, .ref qo]) (n := 5) (Nat.le_of_ble_eq_true rfl)
  rw [lg_entry_eq]
  generalize (lg_sl ([.ref h0, .int p0, .int p1, .ref qo]) ++ List.replicate (5 - (lg_sl ([.ref h0, .int p0, .int p1, .ref qo])).length) Slot.unset).toArray = ls at hl ⊢
  have hl : lv_has ls 5 [(0, .ref h0), (1, .int p0), (2, .int p1), (3, .ref qo)] := hl
  refine ow_named (fun QQ hQQ => ?_)
  refine lv_aload_n hx hb dL_jones_0 rfl (lv_at hl 3 rfl) ?_
  refine lv_iconst (v := 0) hx hb dL_jones_1 (by decide) ?_
  refine lv_aload_n hx hb dL_jones_2 rfl (lv_at hl 0 rfl) ?_
  refine lv_iload_n hx hb dL_jones_3 rfl (lv_at hl 1 rfl) ?_
  refine lv_iload_n hx hb dL_jones_4 rfl (lv_at hl 2 rfl) ?_
  refine vx_calli (vx_runV (As := [.int p0, .int p1]) (rest := [.int 0, .ref qo]) ⟨hx, hb, hml, hown, hts⟩ (kf_X11_jones l dC dI cI cB cJ cZ hlt h0 sa u p0 p1) (cwV 2 hts gf_L_jones rfl rfl rfl (by decide +kernel) ⟨(Nat.le_of_ble_eq_true rfl), (Nat.le_of_ble_eq_true rfl)⟩) ⟨fun a U g mk q => by obtain ⟨q0, qP, qK, qT⟩ := q; exact ⟨q0, qP, va_K.moved (u := U) (U := U.calling g mk a) (Vm.Alike.refl U.vm) qK, ow_Th.same (u := U) (U := U.calling g mk a) rfl rfl qT⟩, va_recv hK hP (ci := 14) (q0 := 0) rfl rfl, fun U hU hW => ⟨rfl, by rw [hU]; exact hP, va_K.moved hW.alike hK, ow_Th.to hTh hS hW hU (fun q h => h)⟩⟩ rfl rfl hl.1 rfl (lv_room (Nat.le_of_ble_eq_true rfl)) dL_jones_5 ⟨(Nat.le_of_ble_eq_true rfl), (Nat.le_of_ble_eq_true rfl)⟩) hS (fun q _ h => h.elim) (fun q h => h.elim) (fun q _ h => h.elim) (fun E ce q9 u9 t H1 locs ht hvm hpx hBX hz1 hk1 hS hce hcv hcl => ?_) (fun r9 u9 t H1 locs ht hvm hw hB hz1 hk1 hS => absurd hw (fun h => h))
  subst hBX
  refine vx_catch (name := "java/lang/IndexOutOfBoundsException") hown [] ⟨0, 10, 13, 33⟩ [] htab (fun z hz => by cases hz) (by decide) (by decide) (hts (.classLink RL 33 "java/lang/IndexOutOfBoundsException") (by decide +kernel)) (va_Nw.use rfl hTh.2.2.2.2.2.2) hce hcv hcl ?_
  refine lv_astore (lv' := [(4, .ref q9), (0, .ref h0), (1, .int p0), (2, .int p1), (3, .ref qo)]) hx hb dL_jones_13 hl (by decide) rfl (fun ls hl => ?_)
  refine lv_iconst (v := 1) hx hb dL_jones_15 (by decide) ?_
  refine W.widen (k := 1) (n := 6) (Nat.le_of_ble_eq_true rfl) (Nat.le_of_ble_eq_true rfl) ?_
  rw [hQQ]
  exact vx_ret (W.iret (v := 1) hx hb hr (fun t ht hW => ⟨⟨1, (), rfl, rfl, trivial⟩, hS.F ht⟩) hS.2.2 dL_jones_16)
theorem dL_signature_0 : decode cL_signature 0 = .ok (.aload_n 2, 1) := by decide +kernel
theorem dL_signature_1 : decode cL_signature 1 = .ok (.iconst 0, 1) := by decide +kernel
theorem dL_signature_2 : decode cL_signature 2 = .ok (.aload_n 0, 1) := by decide +kernel
theorem dL_signature_3 : decode cL_signature 3 = .ok (.iload_n 1, 1) := by decide +kernel
theorem dL_signature_4 : decode cL_signature 4 = .ok (.invokevirtual 87, 3) := by decide +kernel
theorem dL_signature_12 : decode cL_signature 12 = .ok (.astore_n 3, 1) := by decide +kernel
theorem dL_signature_13 : decode cL_signature 13 = .ok (.iconst 1, 1) := by decide +kernel
theorem dL_signature_14 : decode cL_signature 14 = .ok (.ireturn, 1) := by decide +kernel
theorem dL_signature_15 : decode cL_signature 15 = .ok (.iconst 0, 1) := by decide +kernel
def wf_L_signature : List Cond := .codeWith yL_signature cL_signature 4 (some .int) [(0, 9, 12, 33)] :: (.classLink RL 33 "java/lang/IndexOutOfBoundsException" :: wsV RL 87 RX11 yX11_signature wf_signature)
theorem gf_L_signature : GoodIn wf_L_signature (wsV RL 87 RX11 yX11_signature wf_signature) := goodIn_sub (fun _ h => List.mem_cons_of_mem _ (List.mem_cons_of_mem _ h)) (by decide +kernel)
set_option maxHeartbeats 4000000 in
set_option maxRecDepth 100000 in
theorem kf_L_signature (l : Launch) (dC : Nat → ClassId) (dI : Nat → Nat → Nat) (cI cB cJ cZ : ClassId) (hlt : l.stackTraces = false) (h0 sa qo : Nat) (u : Nat → Nat) (p0 : Int32) : vx_Met l yL_signature wf_L_signature (({ frames := 8, cells := 1, slots := 6, locals := 132 } : Room)) (va_Pc [.ref h0, .int p0, .ref qo] (fun U => va_P (dC, dI) vwCl [(h0, .inr (14, [.ref (u 0), .ref (u 1), .ref (u 2), .ref (u 3), .ref (u 4), .ref (u 5), .ref (u 6), .ref (u 7), .ref (u 8), .ref (u 9), .ref (u 10), .ref (u 11), .ref (u 12), .ref (u 13), .ref (u 14), .ref (u 15), .ref (u 16), .ref (u 17), .ref (u 18)])), ((u 0), .inr (6, [.ref (u 19), .ref (u 20), .ref (u 21), .ref (u 22), .int 0])), ((u 20), .inl (cB, 40, .inl (fun _ => 0)))] U.heap ∧ va_K (dC, dI) vwCl [(cI, .int), (cB, .byte), (cJ, .long), (cZ, .boolean)] U ∧ ow_Th (fun _ => False) RX11 166 "no such diagram" sa "java/lang/IndexOutOfBoundsException" U)) (va_Qi (fun r (_ : Unit) => r = 1) (fun _ _ => True) (fun _ => False)) (vx_X (fun _ : Unit => False) (fun _ _ _ => True) (fun _ => False)) 1 6 (fun _ => False) := by
  refine vx_ofWH (cc := cL_signature) (maxL := 4) (ret := (some .int)) (hh := [(0, 9, 12, 33)]) (by decide) rfl ?_
  intro p e s m args below meth c s₁ B hml hv
  obtain ⟨rfl, hP, hK, hTh⟩ := hv
  have hx := B.exec
  have hb := B.bytes
  have hr := B.returns
  have hts := atoms_spec (ws := wf_L_signature) B.pre
  have htab := vx_table (x := yL_signature) B (hts _ List.mem_cons_self)
  have hown : s.vm.findClass RL = some m.cls := findClass_of_methodNamed B.named
  have hlocks := B.notSynchronized
  have hS : va_S (fun _ => False) s.heap s.heap [] := va_S.rf
  have hl := lv_entry ([.ref h0, .int p0, .ref qo]) (n := 4) (Nat.le_of_ble_eq_true rfl)
  rw [lg_entry_eq]
  generalize (lg_sl ([.ref h0, .int p0, .ref qo]) ++ List.replicate (4 - (lg_sl ([.ref h0, .int p0, .ref qo])).length) Slot.unset).toArray = ls at hl ⊢
  have hl : lv_has ls 4 [(0, .ref h0), (1, .int p0), (2, .ref qo)] := hl
  refine ow_named (fun QQ hQQ => ?_)
  refine lv_aload_n hx hb dL_signature_0 rfl (lv_at hl 2 rfl) ?_
  refine lv_iconst (v := 0) hx hb dL_signature_1 (by decide) ?_
  refine lv_aload_n hx hb dL_signature_2 rfl (lv_at hl 0 rfl) ?_
  refine lv_iload_n hx hb dL_signature_3 rfl (lv_at hl 1 rfl) ?_
  refine vx_calli (vx_runV (As := [.int p0]) (rest := [.int 0, .ref qo]) ⟨hx, hb, hml, hown, hts⟩ (kf_X11_signature l dC dI cI cB cJ cZ hlt h0 sa u p0) (cwV 1 hts gf_L_signature rfl rfl rfl (by decide +kernel) ⟨(Nat.le_of_ble_eq_true rfl), (Nat.le_of_ble_eq_true rfl)⟩) ⟨fun a U g mk q => by obtain ⟨q0, qP, qK, qT⟩ := q; exact ⟨q0, qP, va_K.moved (u := U) (U := U.calling g mk a) (Vm.Alike.refl U.vm) qK, ow_Th.same (u := U) (U := U.calling g mk a) rfl rfl qT⟩, va_recv hK hP (ci := 14) (q0 := 0) rfl rfl, fun U hU hW => ⟨rfl, by rw [hU]; exact hP, va_K.moved hW.alike hK, ow_Th.to hTh hS hW hU (fun q h => h)⟩⟩ rfl rfl hl.1 rfl (lv_room (Nat.le_of_ble_eq_true rfl)) dL_signature_4 ⟨(Nat.le_of_ble_eq_true rfl), (Nat.le_of_ble_eq_true rfl)⟩) hS (fun q _ h => h.elim) (fun q h => h.elim) (fun q _ h => h.elim) (fun E ce q9 u9 t H1 locs ht hvm hpx hBX hz1 hk1 hS hce hcv hcl => ?_) (fun r9 u9 t H1 locs ht hvm hw hB hz1 hk1 hS => absurd hw (fun h => h))
  subst hBX
  refine vx_catch (name := "java/lang/IndexOutOfBoundsException") hown [] ⟨0, 9, 12, 33⟩ [] htab (fun z hz => by cases hz) (by decide) (by decide) (hts (.classLink RL 33 "java/lang/IndexOutOfBoundsException") (by decide +kernel)) (va_Nw.use rfl hTh.2.2.2.2.2.2) hce hcv hcl ?_
  refine lv_astore_n (lv' := [(3, .ref q9), (0, .ref h0), (1, .int p0), (2, .ref qo)]) hx hb dL_signature_12 rfl hl (by decide) rfl (fun ls hl => ?_)
  refine lv_iconst (v := 1) hx hb dL_signature_13 (by decide) ?_
  refine W.widen (k := 1) (n := 6) (Nat.le_of_ble_eq_true rfl) (Nat.le_of_ble_eq_true rfl) ?_
  rw [hQQ]
  exact vx_ret (W.iret (v := 1) hx hb hr (fun t ht hW => ⟨⟨1, (), rfl, rfl, trivial⟩, hS.F ht⟩) hS.2.2 dL_signature_14)
theorem dL_cover_0 : decode cL_cover 0 = .ok (.aload_n 3, 1) := by decide +kernel
theorem dL_cover_1 : decode cL_cover 1 = .ok (.iconst 0, 1) := by decide +kernel
theorem dL_cover_2 : decode cL_cover 2 = .ok (.aload_n 0, 1) := by decide +kernel
theorem dL_cover_3 : decode cL_cover 3 = .ok (.iload_n 1, 1) := by decide +kernel
theorem dL_cover_4 : decode cL_cover 4 = .ok (.iload_n 2, 1) := by decide +kernel
theorem dL_cover_5 : decode cL_cover 5 = .ok (.invokevirtual 90, 3) := by decide +kernel
theorem dL_cover_13 : decode cL_cover 13 = .ok (.astore 4, 2) := by decide +kernel
theorem dL_cover_15 : decode cL_cover 15 = .ok (.iconst 1, 1) := by decide +kernel
theorem dL_cover_16 : decode cL_cover 16 = .ok (.ireturn, 1) := by decide +kernel
def wf_L_cover : List Cond := .codeWith yL_cover cL_cover 5 (some .int) [(0, 10, 13, 33)] :: (.classLink RL 33 "java/lang/IndexOutOfBoundsException" :: wsV RL 90 RX11 yX11_cover wf_cover)
theorem gf_L_cover : GoodIn wf_L_cover (wsV RL 90 RX11 yX11_cover wf_cover) := goodIn_sub (fun _ h => List.mem_cons_of_mem _ (List.mem_cons_of_mem _ h)) (by decide +kernel)
set_option maxHeartbeats 4000000 in
set_option maxRecDepth 100000 in
theorem kf_L_cover (l : Launch) (dC : Nat → ClassId) (dI : Nat → Nat → Nat) (cI cB cJ cZ : ClassId) (hlt : l.stackTraces = false) (h0 sa qo : Nat) (u : Nat → Nat) (p0 p1 : Int32) : vx_Met l yL_cover wf_L_cover (({ frames := 8, cells := 1, slots := 6, locals := 133 } : Room)) (va_Pc [.ref h0, .int p0, .int p1, .ref qo] (fun U => va_P (dC, dI) vwCl [(h0, .inr (14, [.ref (u 0), .ref (u 1), .ref (u 2), .ref (u 3), .ref (u 4), .ref (u 5), .ref (u 6), .ref (u 7), .ref (u 8), .ref (u 9), .ref (u 10), .ref (u 11), .ref (u 12), .ref (u 13), .ref (u 14), .ref (u 15), .ref (u 16), .ref (u 17), .ref (u 18)])), ((u 0), .inr (6, [.ref (u 19), .ref (u 20), .ref (u 21), .ref (u 22), .int 0])), ((u 20), .inl (cB, 40, .inl (fun _ => 0)))] U.heap ∧ va_K (dC, dI) vwCl [(cI, .int), (cB, .byte), (cJ, .long), (cZ, .boolean)] U ∧ ow_Th (fun _ => False) RX11 166 "no such diagram" sa "java/lang/IndexOutOfBoundsException" U)) (va_Qi (fun r (_ : Unit) => r = 1) (fun _ _ => True) (fun _ => False)) (vx_X (fun _ : Unit => False) (fun _ _ _ => True) (fun _ => False)) 1 6 (fun _ => False) := by
  refine vx_ofWH (cc := cL_cover) (maxL := 5) (ret := (some .int)) (hh := [(0, 10, 13, 33)]) (by decide) rfl ?_
  intro p e s m args below meth c s₁ B hml hv
  obtain ⟨rfl, hP, hK, hTh⟩ := hv
  have hx := B.exec
  have hb := B.bytes
  have hr := B.returns
  have hts := atoms_spec (ws := wf_L_cover) B.pre
  have htab := vx_table (x := yL_cover) B (hts _ List.mem_cons_self)
  have hown : s.vm.findClass RL = some m.cls := findClass_of_methodNamed B.named
  have hlocks := B.notSynchronized
  have hS : va_S (fun _ => False) s.heap s.heap [] := va_S.rf
  have hl := lv_entry ([.ref h0, .int p0, .int p1, .ref qo]) (n := 5) (Nat.le_of_ble_eq_true rfl)
  rw [lg_entry_eq]
  generalize (lg_sl ([.ref h0, .int p0, .int p1, .ref qo]) ++ List.replicate (5 - (lg_sl ([.ref h0, .int p0, .int p1, .ref qo])).length) Slot.unset).toArray = ls at hl ⊢
  have hl : lv_has ls 5 [(0, .ref h0), (1, .int p0), (2, .int p1), (3, .ref qo)] := hl
  refine ow_named (fun QQ hQQ => ?_)
  refine lv_aload_n hx hb dL_cover_0 rfl (lv_at hl 3 rfl) ?_
  refine lv_iconst (v := 0) hx hb dL_cover_1 (by decide) ?_
  refine lv_aload_n hx hb dL_cover_2 rfl (lv_at hl 0 rfl) ?_
  refine lv_iload_n hx hb dL_cover_3 rfl (lv_at hl 1 rfl) ?_
  refine lv_iload_n hx hb dL_cover_4 rfl (lv_at hl 2 rfl) ?_
  refine vx_calli (vx_runV (As := [.int p0, .int p1]) (rest := [.int 0, .ref qo]) ⟨hx, hb, hml, hown, hts⟩ (kf_X11_cover l dC dI cI cB cJ cZ hlt h0 sa u p0 p1) (cwV 2 hts gf_L_cover rfl rfl rfl (by decide +kernel) ⟨(Nat.le_of_ble_eq_true rfl), (Nat.le_of_ble_eq_true rfl)⟩) ⟨fun a U g mk q => by obtain ⟨q0, qP, qK, qT⟩ := q; exact ⟨q0, qP, va_K.moved (u := U) (U := U.calling g mk a) (Vm.Alike.refl U.vm) qK, ow_Th.same (u := U) (U := U.calling g mk a) rfl rfl qT⟩, va_recv hK hP (ci := 14) (q0 := 0) rfl rfl, fun U hU hW => ⟨rfl, by rw [hU]; exact hP, va_K.moved hW.alike hK, ow_Th.to hTh hS hW hU (fun q h => h)⟩⟩ rfl rfl hl.1 rfl (lv_room (Nat.le_of_ble_eq_true rfl)) dL_cover_5 ⟨(Nat.le_of_ble_eq_true rfl), (Nat.le_of_ble_eq_true rfl)⟩) hS (fun q _ h => h.elim) (fun q h => h.elim) (fun q _ h => h.elim) (fun E ce q9 u9 t H1 locs ht hvm hpx hBX hz1 hk1 hS hce hcv hcl => ?_) (fun r9 u9 t H1 locs ht hvm hw hB hz1 hk1 hS => absurd hw (fun h => h))
  subst hBX
  refine vx_catch (name := "java/lang/IndexOutOfBoundsException") hown [] ⟨0, 10, 13, 33⟩ [] htab (fun z hz => by cases hz) (by decide) (by decide) (hts (.classLink RL 33 "java/lang/IndexOutOfBoundsException") (by decide +kernel)) (va_Nw.use rfl hTh.2.2.2.2.2.2) hce hcv hcl ?_
  refine lv_astore (lv' := [(4, .ref q9), (0, .ref h0), (1, .int p0), (2, .int p1), (3, .ref qo)]) hx hb dL_cover_13 hl (by decide) rfl (fun ls hl => ?_)
  refine lv_iconst (v := 1) hx hb dL_cover_15 (by decide) ?_
  refine W.widen (k := 1) (n := 6) (Nat.le_of_ble_eq_true rfl) (Nat.le_of_ble_eq_true rfl) ?_
  rw [hQQ]
  exact vx_ret (W.iret (v := 1) hx hb hr (fun t ht hW => ⟨⟨1, (), rfl, rfl, trivial⟩, hS.F ht⟩) hS.2.2 dL_cover_16)
theorem dL_colours_0 : decode cL_colours 0 = .ok (.aload_n 3, 1) := by decide +kernel
theorem dL_colours_1 : decode cL_colours 1 = .ok (.iconst 0, 1) := by decide +kernel
theorem dL_colours_2 : decode cL_colours 2 = .ok (.aload_n 0, 1) := by decide +kernel
theorem dL_colours_3 : decode cL_colours 3 = .ok (.iload_n 1, 1) := by decide +kernel
theorem dL_colours_4 : decode cL_colours 4 = .ok (.iload_n 2, 1) := by decide +kernel
theorem dL_colours_5 : decode cL_colours 5 = .ok (.invokevirtual 93, 3) := by decide +kernel
theorem dL_colours_12 : decode cL_colours 12 = .ok (.astore 4, 2) := by decide +kernel
theorem dL_colours_14 : decode cL_colours 14 = .ok (.iconst 1, 1) := by decide +kernel
theorem dL_colours_15 : decode cL_colours 15 = .ok (.ireturn, 1) := by decide +kernel
def wf_L_colours : List Cond := .codeWith yL_colours cL_colours 5 (some .int) [(0, 9, 12, 33), (0, 9, 16, 19)] :: (.classLink RL 33 "java/lang/IndexOutOfBoundsException" :: wsV RL 93 RX11 yX11_colours wf_colours)
theorem gf_L_colours : GoodIn wf_L_colours (wsV RL 93 RX11 yX11_colours wf_colours) := goodIn_sub (fun _ h => List.mem_cons_of_mem _ (List.mem_cons_of_mem _ h)) (by decide +kernel)
set_option maxHeartbeats 4000000 in
set_option maxRecDepth 100000 in
theorem kf_L_colours (l : Launch) (dC : Nat → ClassId) (dI : Nat → Nat → Nat) (cI cB cJ cZ : ClassId) (hlt : l.stackTraces = false) (h0 sa qo : Nat) (u : Nat → Nat) (p0 p1 : Int32) : vx_Met l yL_colours wf_L_colours (({ frames := 8, cells := 1, slots := 6, locals := 133 } : Room)) (va_Pc [.ref h0, .int p0, .int p1, .ref qo] (fun U => va_P (dC, dI) vwCl [(h0, .inr (14, [.ref (u 0), .ref (u 1), .ref (u 2), .ref (u 3), .ref (u 4), .ref (u 5), .ref (u 6), .ref (u 7), .ref (u 8), .ref (u 9), .ref (u 10), .ref (u 11), .ref (u 12), .ref (u 13), .ref (u 14), .ref (u 15), .ref (u 16), .ref (u 17), .ref (u 18)])), ((u 0), .inr (6, [.ref (u 19), .ref (u 20), .ref (u 21), .ref (u 22), .int 0])), ((u 20), .inl (cB, 40, .inl (fun _ => 0)))] U.heap ∧ va_K (dC, dI) vwCl [(cI, .int), (cB, .byte), (cJ, .long), (cZ, .boolean)] U ∧ ow_Th (fun _ => False) RX11 166 "no such diagram" sa "java/lang/IndexOutOfBoundsException" U)) (va_Qi (fun r (_ : Unit) => r = 1) (fun _ _ => True) (fun _ => False)) (vx_X (fun _ : Unit => False) (fun _ _ _ => True) (fun _ => False)) 1 6 (fun _ => False) := by
  refine vx_ofWH (cc := cL_colours) (maxL := 5) (ret := (some .int)) (hh := [(0, 9, 12, 33), (0, 9, 16, 19)]) (by decide) rfl ?_
  intro p e s m args below meth c s₁ B hml hv
  obtain ⟨rfl, hP, hK, hTh⟩ := hv
  have hx := B.exec
  have hb := B.bytes
  have hr := B.returns
  have hts := atoms_spec (ws := wf_L_colours) B.pre
  have htab := vx_table (x := yL_colours) B (hts _ List.mem_cons_self)
  have hown : s.vm.findClass RL = some m.cls := findClass_of_methodNamed B.named
  have hlocks := B.notSynchronized
  have hS : va_S (fun _ => False) s.heap s.heap [] := va_S.rf
  have hl := lv_entry ([.ref h0, .int p0, .int p1, .ref qo]) (n := 5) (Nat.le_of_ble_eq_true rfl)
  rw [lg_entry_eq]
  generalize (lg_sl ([.ref h0, .int p0, .int p1, .ref qo]) ++ List.replicate (5 - (lg_sl ([.ref h0, .int p0, .int p1, .ref qo])).length) Slot.unset).toArray = ls at hl ⊢
  have hl : lv_has ls 5 [(0, .ref h0), (1, .int p0), (2, .int p1), (3, .ref qo)] := hl
  refine ow_named (fun QQ hQQ => ?_)
  refine lv_aload_n hx hb dL_colours_0 rfl (lv_at hl 3 rfl) ?_
  refine lv_iconst (v := 0) hx hb dL_colours_1 (by decide) ?_
  refine lv_aload_n hx hb dL_colours_2 rfl (lv_at hl 0 rfl) ?_
  refine lv_iload_n hx hb dL_colours_3 rfl (lv_at hl 1 rfl) ?_
  refine lv_iload_n hx hb dL_colours_4 rfl (lv_at hl 2 rfl) ?_
  refine vx_calll (vx_runV (As := [.int p0, .int p1]) (rest := [.int 0, .ref qo]) ⟨hx, hb, hml, hown, hts⟩ (kf_X11_colours l dC dI cI cB cJ cZ hlt h0 sa u p0 p1) (cwV 2 hts gf_L_colours rfl rfl rfl (by decide +kernel) ⟨(Nat.le_of_ble_eq_true rfl), (Nat.le_of_ble_eq_true rfl)⟩) ⟨fun a U g mk q => by obtain ⟨q0, qP, qK, qT⟩ := q; exact ⟨q0, qP, va_K.moved (u := U) (U := U.calling g mk a) (Vm.Alike.refl U.vm) qK, ow_Th.same (u := U) (U := U.calling g mk a) rfl rfl qT⟩, va_recv hK hP (ci := 14) (q0 := 0) rfl rfl, fun U hU hW => ⟨rfl, by rw [hU]; exact hP, va_K.moved hW.alike hK, ow_Th.to hTh hS hW hU (fun q h => h)⟩⟩ rfl rfl hl.1 rfl (lv_room (Nat.le_of_ble_eq_true rfl)) dL_colours_5 ⟨(Nat.le_of_ble_eq_true rfl), (Nat.le_of_ble_eq_true rfl)⟩) hS (fun q _ h => h.elim) (fun q h => h.elim) (fun q _ h => h.elim) (fun E ce q9 u9 t H1 locs ht hvm hpx hBX hz1 hk1 hS hce hcv hcl => ?_) (fun r9 u9 t H1 locs ht hvm hw hB hz1 hk1 hS => absurd hw (fun h => h))
  subst hBX
  refine vx_catch (name := "java/lang/IndexOutOfBoundsException") hown [] ⟨0, 9, 12, 33⟩ [⟨0, 9, 16, 19⟩] htab (fun z hz => by cases hz) (by decide) (by decide) (hts (.classLink RL 33 "java/lang/IndexOutOfBoundsException") (by decide +kernel)) (va_Nw.use rfl hTh.2.2.2.2.2.2) hce hcv hcl ?_
  refine lv_astore (lv' := [(4, .ref q9), (0, .ref h0), (1, .int p0), (2, .int p1), (3, .ref qo)]) hx hb dL_colours_12 hl (by decide) rfl (fun ls hl => ?_)
  refine lv_iconst (v := 1) hx hb dL_colours_14 (by decide) ?_
  refine W.widen (k := 1) (n := 6) (Nat.le_of_ble_eq_true rfl) (Nat.le_of_ble_eq_true rfl) ?_
  rw [hQQ]
  exact vx_ret (W.iret (v := 1) hx hb hr (fun t ht hW => ⟨⟨1, (), rfl, rfl, trivial⟩, hS.F ht⟩) hS.2.2 dL_colours_15)
theorem dL_maps_0 : decode cL_maps 0 = .ok (.aload_n 3, 1) := by decide +kernel
theorem dL_maps_1 : decode cL_maps 1 = .ok (.iconst 0, 1) := by decide +kernel
theorem dL_maps_2 : decode cL_maps 2 = .ok (.aload_n 0, 1) := by decide +kernel
theorem dL_maps_3 : decode cL_maps 3 = .ok (.iload_n 1, 1) := by decide +kernel
theorem dL_maps_4 : decode cL_maps 4 = .ok (.iload_n 2, 1) := by decide +kernel
theorem dL_maps_5 : decode cL_maps 5 = .ok (.invokevirtual 97, 3) := by decide +kernel
theorem dL_maps_13 : decode cL_maps 13 = .ok (.astore 4, 2) := by decide +kernel
theorem dL_maps_15 : decode cL_maps 15 = .ok (.iconst 1, 1) := by decide +kernel
theorem dL_maps_16 : decode cL_maps 16 = .ok (.ireturn, 1) := by decide +kernel
def wf_L_maps : List Cond := .codeWith yL_maps cL_maps 5 (some .int) [(0, 10, 13, 33), (0, 10, 17, 19), (0, 10, 21, 54)] :: (.classLink RL 33 "java/lang/IndexOutOfBoundsException" :: wsV RL 97 RX11 yX11_maps wf_maps)
theorem gf_L_maps : GoodIn wf_L_maps (wsV RL 97 RX11 yX11_maps wf_maps) := goodIn_sub (fun _ h => List.mem_cons_of_mem _ (List.mem_cons_of_mem _ h)) (by decide +kernel)
set_option maxHeartbeats 4000000 in
set_option maxRecDepth 100000 in
theorem kf_L_maps (l : Launch) (dC : Nat → ClassId) (dI : Nat → Nat → Nat) (cI cB cJ cZ : ClassId) (hlt : l.stackTraces = false) (h0 sa qo : Nat) (u : Nat → Nat) (p0 p1 : Int32) : vx_Met l yL_maps wf_L_maps (({ frames := 8, cells := 1, slots := 6, locals := 133 } : Room)) (va_Pc [.ref h0, .int p0, .int p1, .ref qo] (fun U => va_P (dC, dI) vwCl [(h0, .inr (14, [.ref (u 0), .ref (u 1), .ref (u 2), .ref (u 3), .ref (u 4), .ref (u 5), .ref (u 6), .ref (u 7), .ref (u 8), .ref (u 9), .ref (u 10), .ref (u 11), .ref (u 12), .ref (u 13), .ref (u 14), .ref (u 15), .ref (u 16), .ref (u 17), .ref (u 18)])), ((u 0), .inr (6, [.ref (u 19), .ref (u 20), .ref (u 21), .ref (u 22), .int 0])), ((u 20), .inl (cB, 40, .inl (fun _ => 0)))] U.heap ∧ va_K (dC, dI) vwCl [(cI, .int), (cB, .byte), (cJ, .long), (cZ, .boolean)] U ∧ ow_Th (fun _ => False) RX11 166 "no such diagram" sa "java/lang/IndexOutOfBoundsException" U)) (va_Qi (fun r (_ : Unit) => r = 1) (fun _ _ => True) (fun _ => False)) (vx_X (fun _ : Unit => False) (fun _ _ _ => True) (fun _ => False)) 1 6 (fun _ => False) := by
  refine vx_ofWH (cc := cL_maps) (maxL := 5) (ret := (some .int)) (hh := [(0, 10, 13, 33), (0, 10, 17, 19), (0, 10, 21, 54)]) (by decide) rfl ?_
  intro p e s m args below meth c s₁ B hml hv
  obtain ⟨rfl, hP, hK, hTh⟩ := hv
  have hx := B.exec
  have hb := B.bytes
  have hr := B.returns
  have hts := atoms_spec (ws := wf_L_maps) B.pre
  have htab := vx_table (x := yL_maps) B (hts _ List.mem_cons_self)
  have hown : s.vm.findClass RL = some m.cls := findClass_of_methodNamed B.named
  have hlocks := B.notSynchronized
  have hS : va_S (fun _ => False) s.heap s.heap [] := va_S.rf
  have hl := lv_entry ([.ref h0, .int p0, .int p1, .ref qo]) (n := 5) (Nat.le_of_ble_eq_true rfl)
  rw [lg_entry_eq]
  generalize (lg_sl ([.ref h0, .int p0, .int p1, .ref qo]) ++ List.replicate (5 - (lg_sl ([.ref h0, .int p0, .int p1, .ref qo])).length) Slot.unset).toArray = ls at hl ⊢
  have hl : lv_has ls 5 [(0, .ref h0), (1, .int p0), (2, .int p1), (3, .ref qo)] := hl
  refine ow_named (fun QQ hQQ => ?_)
  refine lv_aload_n hx hb dL_maps_0 rfl (lv_at hl 3 rfl) ?_
  refine lv_iconst (v := 0) hx hb dL_maps_1 (by decide) ?_
  refine lv_aload_n hx hb dL_maps_2 rfl (lv_at hl 0 rfl) ?_
  refine lv_iload_n hx hb dL_maps_3 rfl (lv_at hl 1 rfl) ?_
  refine lv_iload_n hx hb dL_maps_4 rfl (lv_at hl 2 rfl) ?_
  refine vx_calli (vx_runV (As := [.int p0, .int p1]) (rest := [.int 0, .ref qo]) ⟨hx, hb, hml, hown, hts⟩ (kf_X11_maps l dC dI cI cB cJ cZ hlt h0 sa u p0 p1) (cwV 2 hts gf_L_maps rfl rfl rfl (by decide +kernel) ⟨(Nat.le_of_ble_eq_true rfl), (Nat.le_of_ble_eq_true rfl)⟩) ⟨fun a U g mk q => by obtain ⟨q0, qP, qK, qT⟩ := q; exact ⟨q0, qP, va_K.moved (u := U) (U := U.calling g mk a) (Vm.Alike.refl U.vm) qK, ow_Th.same (u := U) (U := U.calling g mk a) rfl rfl qT⟩, va_recv hK hP (ci := 14) (q0 := 0) rfl rfl, fun U hU hW => ⟨rfl, by rw [hU]; exact hP, va_K.moved hW.alike hK, ow_Th.to hTh hS hW hU (fun q h => h)⟩⟩ rfl rfl hl.1 rfl (lv_room (Nat.le_of_ble_eq_true rfl)) dL_maps_5 ⟨(Nat.le_of_ble_eq_true rfl), (Nat.le_of_ble_eq_true rfl)⟩) hS (fun q _ h => h.elim) (fun q h => h.elim) (fun q _ h => h.elim) (fun E ce q9 u9 t H1 locs ht hvm hpx hBX hz1 hk1 hS hce hcv hcl => ?_) (fun r9 u9 t H1 locs ht hvm hw hB hz1 hk1 hS => absurd hw (fun h => h))
  subst hBX
  refine vx_catch (name := "java/lang/IndexOutOfBoundsException") hown [] ⟨0, 10, 13, 33⟩ [⟨0, 10, 17, 19⟩, ⟨0, 10, 21, 54⟩] htab (fun z hz => by cases hz) (by decide) (by decide) (hts (.classLink RL 33 "java/lang/IndexOutOfBoundsException") (by decide +kernel)) (va_Nw.use rfl hTh.2.2.2.2.2.2) hce hcv hcl ?_
  refine lv_astore (lv' := [(4, .ref q9), (0, .ref h0), (1, .int p0), (2, .int p1), (3, .ref qo)]) hx hb dL_maps_13 hl (by decide) rfl (fun ls hl => ?_)
  refine lv_iconst (v := 1) hx hb dL_maps_15 (by decide) ?_
  refine W.widen (k := 1) (n := 6) (Nat.le_of_ble_eq_true rfl) (Nat.le_of_ble_eq_true rfl) ?_
  rw [hQQ]
  exact vx_ret (W.iret (v := 1) hx hb hr (fun t ht hW => ⟨⟨1, (), rfl, rfl, trivial⟩, hS.F ht⟩) hS.2.2 dL_maps_16)
theorem dL_chain_0 : decode cL_chain 0 = .ok (.aload_n 3, 1) := by decide +kernel
theorem dL_chain_1 : decode cL_chain 1 = .ok (.iconst 0, 1) := by decide +kernel
theorem dL_chain_2 : decode cL_chain 2 = .ok (.aload_n 0, 1) := by decide +kernel
theorem dL_chain_3 : decode cL_chain 3 = .ok (.iload_n 1, 1) := by decide +kernel
theorem dL_chain_4 : decode cL_chain 4 = .ok (.iload_n 2, 1) := by decide +kernel
theorem dL_chain_5 : decode cL_chain 5 = .ok (.invokevirtual 100, 3) := by decide +kernel
theorem dL_chain_13 : decode cL_chain 13 = .ok (.astore 4, 2) := by decide +kernel
theorem dL_chain_15 : decode cL_chain 15 = .ok (.iconst 1, 1) := by decide +kernel
theorem dL_chain_16 : decode cL_chain 16 = .ok (.ireturn, 1) := by decide +kernel
def wf_L_chain : List Cond := .codeWith yL_chain cL_chain 5 (some .int) [(0, 10, 13, 33), (0, 10, 17, 19), (0, 10, 21, 54)] :: (.classLink RL 33 "java/lang/IndexOutOfBoundsException" :: wsV RL 100 RX11 yX11_chain wf_chain)
theorem gf_L_chain : GoodIn wf_L_chain (wsV RL 100 RX11 yX11_chain wf_chain) := goodIn_sub (fun _ h => List.mem_cons_of_mem _ (List.mem_cons_of_mem _ h)) (by decide +kernel)
set_option maxHeartbeats 4000000 in
set_option maxRecDepth 100000 in
theorem kf_L_chain (l : Launch) (dC : Nat → ClassId) (dI : Nat → Nat → Nat) (cI cB cJ cZ : ClassId) (hlt : l.stackTraces = false) (h0 sa qo : Nat) (u : Nat → Nat) (p0 p1 : Int32) : vx_Met l yL_chain wf_L_chain (({ frames := 8, cells := 1, slots := 6, locals := 133 } : Room)) (va_Pc [.ref h0, .int p0, .int p1, .ref qo] (fun U => va_P (dC, dI) vwCl [(h0, .inr (14, [.ref (u 0), .ref (u 1), .ref (u 2), .ref (u 3), .ref (u 4), .ref (u 5), .ref (u 6), .ref (u 7), .ref (u 8), .ref (u 9), .ref (u 10), .ref (u 11), .ref (u 12), .ref (u 13), .ref (u 14), .ref (u 15), .ref (u 16), .ref (u 17), .ref (u 18)])), ((u 0), .inr (6, [.ref (u 19), .ref (u 20), .ref (u 21), .ref (u 22), .int 0])), ((u 20), .inl (cB, 40, .inl (fun _ => 0)))] U.heap ∧ va_K (dC, dI) vwCl [(cI, .int), (cB, .byte), (cJ, .long), (cZ, .boolean)] U ∧ ow_Th (fun _ => False) RX11 166 "no such diagram" sa "java/lang/IndexOutOfBoundsException" U)) (va_Qi (fun r (_ : Unit) => r = 1) (fun _ _ => True) (fun _ => False)) (vx_X (fun _ : Unit => False) (fun _ _ _ => True) (fun _ => False)) 1 6 (fun _ => False) := by
  refine vx_ofWH (cc := cL_chain) (maxL := 5) (ret := (some .int)) (hh := [(0, 10, 13, 33), (0, 10, 17, 19), (0, 10, 21, 54)]) (by decide) rfl ?_
  intro p e s m args below meth c s₁ B hml hv
  obtain ⟨rfl, hP, hK, hTh⟩ := hv
  have hx := B.exec
  have hb := B.bytes
  have hr := B.returns
  have hts := atoms_spec (ws := wf_L_chain) B.pre
  have htab := vx_table (x := yL_chain) B (hts _ List.mem_cons_self)
  have hown : s.vm.findClass RL = some m.cls := findClass_of_methodNamed B.named
  have hlocks := B.notSynchronized
  have hS : va_S (fun _ => False) s.heap s.heap [] := va_S.rf
  have hl := lv_entry ([.ref h0, .int p0, .int p1, .ref qo]) (n := 5) (Nat.le_of_ble_eq_true rfl)
  rw [lg_entry_eq]
  generalize (lg_sl ([.ref h0, .int p0, .int p1, .ref qo]) ++ List.replicate (5 - (lg_sl ([.ref h0, .int p0, .int p1, .ref qo])).length) Slot.unset).toArray = ls at hl ⊢
  have hl : lv_has ls 5 [(0, .ref h0), (1, .int p0), (2, .int p1), (3, .ref qo)] := hl
  refine ow_named (fun QQ hQQ => ?_)
  refine lv_aload_n hx hb dL_chain_0 rfl (lv_at hl 3 rfl) ?_
  refine lv_iconst (v := 0) hx hb dL_chain_1 (by decide) ?_
  refine lv_aload_n hx hb dL_chain_2 rfl (lv_at hl 0 rfl) ?_
  refine lv_iload_n hx hb dL_chain_3 rfl (lv_at hl 1 rfl) ?_
  refine lv_iload_n hx hb dL_chain_4 rfl (lv_at hl 2 rfl) ?_
  refine vx_calli (vx_runV (As := [.int p0, .int p1]) (rest := [.int 0, .ref qo]) ⟨hx, hb, hml, hown, hts⟩ (kf_X11_chain l dC dI cI cB cJ cZ hlt h0 sa u p0 p1) (cwV 2 hts gf_L_chain rfl rfl rfl (by decide +kernel) ⟨(Nat.le_of_ble_eq_true rfl), (Nat.le_of_ble_eq_true rfl)⟩) ⟨fun a U g mk q => by obtain ⟨q0, qP, qK, qT⟩ := q; exact ⟨q0, qP, va_K.moved (u := U) (U := U.calling g mk a) (Vm.Alike.refl U.vm) qK, ow_Th.same (u := U) (U := U.calling g mk a) rfl rfl qT⟩, va_recv hK hP (ci := 14) (q0 := 0) rfl rfl, fun U hU hW => ⟨rfl, by rw [hU]; exact hP, va_K.moved hW.alike hK, ow_Th.to hTh hS hW hU (fun q h => h)⟩⟩ rfl rfl hl.1 rfl (lv_room (Nat.le_of_ble_eq_true rfl)) dL_chain_5 ⟨(Nat.le_of_ble_eq_true rfl), (Nat.le_of_ble_eq_true rfl)⟩) hS (fun q _ h => h.elim) (fun q h => h.elim) (fun q _ h => h.elim) (fun E ce q9 u9 t H1 locs ht hvm hpx hBX hz1 hk1 hS hce hcv hcl => ?_) (fun r9 u9 t H1 locs ht hvm hw hB hz1 hk1 hS => absurd hw (fun h => h))
  subst hBX
  refine vx_catch (name := "java/lang/IndexOutOfBoundsException") hown [] ⟨0, 10, 13, 33⟩ [⟨0, 10, 17, 19⟩, ⟨0, 10, 21, 54⟩] htab (fun z hz => by cases hz) (by decide) (by decide) (hts (.classLink RL 33 "java/lang/IndexOutOfBoundsException") (by decide +kernel)) (va_Nw.use rfl hTh.2.2.2.2.2.2) hce hcv hcl ?_
  refine lv_astore (lv' := [(4, .ref q9), (0, .ref h0), (1, .int p0), (2, .int p1), (3, .ref qo)]) hx hb dL_chain_13 hl (by decide) rfl (fun ls hl => ?_)
  refine lv_iconst (v := 1) hx hb dL_chain_15 (by decide) ?_
  refine W.widen (k := 1) (n := 6) (Nat.le_of_ble_eq_true rfl) (Nat.le_of_ble_eq_true rfl) ?_
  rw [hQQ]
  exact vx_ret (W.iret (v := 1) hx hb hr (fun t ht hW => ⟨⟨1, (), rfl, rfl, trivial⟩, hS.F ht⟩) hS.2.2 dL_chain_16)
theorem dL_closure_0 : decode cL_closure 0 = .ok (.aload_n 2, 1) := by decide +kernel
theorem dL_closure_1 : decode cL_closure 1 = .ok (.iconst 0, 1) := by decide +kernel
theorem dL_closure_2 : decode cL_closure 2 = .ok (.aload_n 0, 1) := by decide +kernel
theorem dL_closure_3 : decode cL_closure 3 = .ok (.iload_n 1, 1) := by decide +kernel
theorem dL_closure_4 : decode cL_closure 4 = .ok (.invokevirtual 103, 3) := by decide +kernel
theorem dL_closure_12 : decode cL_closure 12 = .ok (.astore_n 3, 1) := by decide +kernel
theorem dL_closure_13 : decode cL_closure 13 = .ok (.iconst 1, 1) := by decide +kernel
theorem dL_closure_14 : decode cL_closure 14 = .ok (.ireturn, 1) := by decide +kernel
theorem dL_closure_15 : decode cL_closure 15 = .ok (.astore_n 3, 1) := by decide +kernel
def wf_L_closure : List Cond := .codeWith yL_closure cL_closure 4 (some .int) [(0, 9, 12, 33), (0, 9, 15, 54), (0, 9, 18, 13)] :: (.classLink RL 33 "java/lang/IndexOutOfBoundsException" :: wsV RL 103 RX11 yX11_closure wf_closure)
theorem gf_L_closure : GoodIn wf_L_closure (wsV RL 103 RX11 yX11_closure wf_closure) := goodIn_sub (fun _ h => List.mem_cons_of_mem _ (List.mem_cons_of_mem _ h)) (by decide +kernel)
set_option maxHeartbeats 4000000 in
set_option maxRecDepth 100000 in
theorem kf_L_closure (l : Launch) (dC : Nat → ClassId) (dI : Nat → Nat → Nat) (cI cB cJ cZ : ClassId) (hlt : l.stackTraces = false) (h0 sa qo : Nat) (u : Nat → Nat) (p0 : Int32) : vx_Met l yL_closure wf_L_closure (({ frames := 8, cells := 1, slots := 6, locals := 133 } : Room)) (va_Pc [.ref h0, .int p0, .ref qo] (fun U => va_P (dC, dI) vwCl [(h0, .inr (14, [.ref (u 0), .ref (u 1), .ref (u 2), .ref (u 3), .ref (u 4), .ref (u 5), .ref (u 6), .ref (u 7), .ref (u 8), .ref (u 9), .ref (u 10), .ref (u 11), .ref (u 12), .ref (u 13), .ref (u 14), .ref (u 15), .ref (u 16), .ref (u 17), .ref (u 18)])), ((u 14), .inl (cI, 20, .inl (fun _ => 0)))] U.heap ∧ va_K (dC, dI) vwCl [(cI, .int), (cB, .byte), (cJ, .long), (cZ, .boolean)] U ∧ ow_Th (fun _ => False) RX11 172 "no such braid" sa "java/lang/IndexOutOfBoundsException" U)) (va_Qi (fun r (_ : Unit) => r = 1) (fun _ _ => True) (fun _ => False)) (vx_X (fun _ : Unit => False) (fun _ _ _ => True) (fun _ => False)) 1 6 (fun _ => False) := by
  refine vx_ofWH (cc := cL_closure) (maxL := 4) (ret := (some .int)) (hh := [(0, 9, 12, 33), (0, 9, 15, 54), (0, 9, 18, 13)]) (by decide) rfl ?_
  intro p e s m args below meth c s₁ B hml hv
  obtain ⟨rfl, hP, hK, hTh⟩ := hv
  have hx := B.exec
  have hb := B.bytes
  have hr := B.returns
  have hts := atoms_spec (ws := wf_L_closure) B.pre
  have htab := vx_table (x := yL_closure) B (hts _ List.mem_cons_self)
  have hown : s.vm.findClass RL = some m.cls := findClass_of_methodNamed B.named
  have hlocks := B.notSynchronized
  have hS : va_S (fun _ => False) s.heap s.heap [] := va_S.rf
  have hl := lv_entry ([.ref h0, .int p0, .ref qo]) (n := 4) (Nat.le_of_ble_eq_true rfl)
  rw [lg_entry_eq]
  generalize (lg_sl ([.ref h0, .int p0, .ref qo]) ++ List.replicate (4 - (lg_sl ([.ref h0, .int p0, .ref qo])).length) Slot.unset).toArray = ls at hl ⊢
  have hl : lv_has ls 4 [(0, .ref h0), (1, .int p0), (2, .ref qo)] := hl
  refine ow_named (fun QQ hQQ => ?_)
  refine lv_aload_n hx hb dL_closure_0 rfl (lv_at hl 2 rfl) ?_
  refine lv_iconst (v := 0) hx hb dL_closure_1 (by decide) ?_
  refine lv_aload_n hx hb dL_closure_2 rfl (lv_at hl 0 rfl) ?_
  refine lv_iload_n hx hb dL_closure_3 rfl (lv_at hl 1 rfl) ?_
  refine vx_calli (vx_runV (As := [.int p0]) (rest := [.int 0, .ref qo]) ⟨hx, hb, hml, hown, hts⟩ (kf_X11_closure l dC dI cI cB cJ cZ hlt h0 sa u p0) (cwV 1 hts gf_L_closure rfl rfl rfl (by decide +kernel) ⟨(Nat.le_of_ble_eq_true rfl), (Nat.le_of_ble_eq_true rfl)⟩) ⟨fun a U g mk q => by obtain ⟨q0, qP, qK, qT⟩ := q; exact ⟨q0, qP, va_K.moved (u := U) (U := U.calling g mk a) (Vm.Alike.refl U.vm) qK, ow_Th.same (u := U) (U := U.calling g mk a) rfl rfl qT⟩, va_recv hK hP (ci := 14) (q0 := 0) rfl rfl, fun U hU hW => ⟨rfl, by rw [hU]; exact hP, va_K.moved hW.alike hK, ow_Th.to hTh hS hW hU (fun q h => h)⟩⟩ rfl rfl hl.1 rfl (lv_room (Nat.le_of_ble_eq_true rfl)) dL_closure_4 ⟨(Nat.le_of_ble_eq_true rfl), (Nat.le_of_ble_eq_true rfl)⟩) hS (fun q _ h => h.elim) (fun q h => h.elim) (fun q _ h => h.elim) (fun E ce q9 u9 t H1 locs ht hvm hpx hBX hz1 hk1 hS hce hcv hcl => ?_) (fun r9 u9 t H1 locs ht hvm hw hB hz1 hk1 hS => absurd hw (fun h => h))
  subst hBX
  refine vx_catch (name := "java/lang/IndexOutOfBoundsException") hown [] ⟨0, 9, 12, 33⟩ [⟨0, 9, 15, 54⟩, ⟨0, 9, 18, 13⟩] htab (fun z hz => by cases hz) (by decide) (by decide) (hts (.classLink RL 33 "java/lang/IndexOutOfBoundsException") (by decide +kernel)) (va_Nw.use rfl hTh.2.2.2.2.2.2) hce hcv hcl ?_
  refine lv_astore_n (lv' := [(3, .ref q9), (0, .ref h0), (1, .int p0), (2, .ref qo)]) hx hb dL_closure_12 rfl hl (by decide) rfl (fun ls hl => ?_)
  refine lv_iconst (v := 1) hx hb dL_closure_13 (by decide) ?_
  refine W.widen (k := 1) (n := 6) (Nat.le_of_ble_eq_true rfl) (Nat.le_of_ble_eq_true rfl) ?_
  rw [hQQ]
  exact vx_ret (W.iret (v := 1) hx hb hr (fun t ht hW => ⟨⟨1, (), rfl, rfl, trivial⟩, hS.F ht⟩) hS.2.2 dL_closure_14)
theorem dL_product_0 : decode cL_product 0 = .ok (.aload_n 3, 1) := by decide +kernel
theorem dL_product_1 : decode cL_product 1 = .ok (.iconst 0, 1) := by decide +kernel
theorem dL_product_2 : decode cL_product 2 = .ok (.aload_n 0, 1) := by decide +kernel
theorem dL_product_3 : decode cL_product 3 = .ok (.iload_n 1, 1) := by decide +kernel
theorem dL_product_4 : decode cL_product 4 = .ok (.iload_n 2, 1) := by decide +kernel
theorem dL_product_5 : decode cL_product 5 = .ok (.invokevirtual 106, 3) := by decide +kernel
theorem dL_product_13 : decode cL_product 13 = .ok (.astore 4, 2) := by decide +kernel
theorem dL_product_15 : decode cL_product 15 = .ok (.iconst 1, 1) := by decide +kernel
theorem dL_product_16 : decode cL_product 16 = .ok (.ireturn, 1) := by decide +kernel
def wf_L_product : List Cond := .codeWith yL_product cL_product 5 (some .int) [(0, 10, 13, 33), (0, 10, 17, 19), (0, 10, 21, 54), (0, 10, 25, 13)] :: (.classLink RL 33 "java/lang/IndexOutOfBoundsException" :: wsV RL 106 RX11 yX11_product wf_product)
theorem gf_L_product : GoodIn wf_L_product (wsV RL 106 RX11 yX11_product wf_product) := goodIn_sub (fun _ h => List.mem_cons_of_mem _ (List.mem_cons_of_mem _ h)) (by decide +kernel)
set_option maxHeartbeats 4000000 in
set_option maxRecDepth 100000 in
theorem kf_L_product (l : Launch) (dC : Nat → ClassId) (dI : Nat → Nat → Nat) (cI cB cJ cZ : ClassId) (hlt : l.stackTraces = false) (h0 sa qo : Nat) (u : Nat → Nat) (p0 p1 : Int32) : vx_Met l yL_product wf_L_product (({ frames := 8, cells := 1, slots := 6, locals := 135 } : Room)) (va_Pc [.ref h0, .int p0, .int p1, .ref qo] (fun U => va_P (dC, dI) vwCl [(h0, .inr (14, [.ref (u 0), .ref (u 1), .ref (u 2), .ref (u 3), .ref (u 4), .ref (u 5), .ref (u 6), .ref (u 7), .ref (u 8), .ref (u 9), .ref (u 10), .ref (u 11), .ref (u 12), .ref (u 13), .ref (u 14), .ref (u 15), .ref (u 16), .ref (u 17), .ref (u 18)])), ((u 14), .inl (cI, 20, .inl (fun _ => 0)))] U.heap ∧ va_K (dC, dI) vwCl [(cI, .int), (cB, .byte), (cJ, .long), (cZ, .boolean)] U ∧ ow_Th (fun _ => False) RX11 172 "no such braid" sa "java/lang/IndexOutOfBoundsException" U)) (va_Qi (fun r (_ : Unit) => r = 1) (fun _ _ => True) (fun _ => False)) (vx_X (fun _ : Unit => False) (fun _ _ _ => True) (fun _ => False)) 1 6 (fun _ => False) := by
  refine vx_ofWH (cc := cL_product) (maxL := 5) (ret := (some .int)) (hh := [(0, 10, 13, 33), (0, 10, 17, 19), (0, 10, 21, 54), (0, 10, 25, 13)]) (by decide) rfl ?_
  intro p e s m args below meth c s₁ B hml hv
  obtain ⟨rfl, hP, hK, hTh⟩ := hv
  have hx := B.exec
  have hb := B.bytes
  have hr := B.returns
  have hts := atoms_spec (ws := wf_L_product) B.pre
  have htab := vx_table (x := yL_product) B (hts _ List.mem_cons_self)
  have hown : s.vm.findClass RL = some m.cls := findClass_of_methodNamed B.named
  have hlocks := B.notSynchronized
  have hS : va_S (fun _ => False) s.heap s.heap [] := va_S.rf
  have hl := lv_entry ([.ref h0, .int p0, .int p1, .ref qo]) (n := 5) (Nat.le_of_ble_eq_true rfl)
  rw [lg_entry_eq]
  generalize (lg_sl ([.ref h0, .int p0, .int p1, .ref qo]) ++ List.replicate (5 - (lg_sl ([.ref h0, .int p0, .int p1, .ref qo])).length) Slot.unset).toArray = ls at hl ⊢
  have hl : lv_has ls 5 [(0, .ref h0), (1, .int p0), (2, .int p1), (3, .ref qo)] := hl
  refine ow_named (fun QQ hQQ => ?_)
  refine lv_aload_n hx hb dL_product_0 rfl (lv_at hl 3 rfl) ?_
  refine lv_iconst (v := 0) hx hb dL_product_1 (by decide) ?_
  refine lv_aload_n hx hb dL_product_2 rfl (lv_at hl 0 rfl) ?_
  refine lv_iload_n hx hb dL_product_3 rfl (lv_at hl 1 rfl) ?_
  refine lv_iload_n hx hb dL_product_4 rfl (lv_at hl 2 rfl) ?_
  refine vx_calli (vx_runV (As := [.int p0, .int p1]) (rest := [.int 0, .ref qo]) ⟨hx, hb, hml, hown, hts⟩ (kf_X11_product l dC dI cI cB cJ cZ hlt h0 sa u p0 p1) (cwV 2 hts gf_L_product rfl rfl rfl (by decide +kernel) ⟨(Nat.le_of_ble_eq_true rfl), (Nat.le_of_ble_eq_true rfl)⟩) ⟨fun a U g mk q => by obtain ⟨q0, qP, qK, qT⟩ := q; exact ⟨q0, qP, va_K.moved (u := U) (U := U.calling g mk a) (Vm.Alike.refl U.vm) qK, ow_Th.same (u := U) (U := U.calling g mk a) rfl rfl qT⟩, va_recv hK hP (ci := 14) (q0 := 0) rfl rfl, fun U hU hW => ⟨rfl, by rw [hU]; exact hP, va_K.moved hW.alike hK, ow_Th.to hTh hS hW hU (fun q h => h)⟩⟩ rfl rfl hl.1 rfl (lv_room (Nat.le_of_ble_eq_true rfl)) dL_product_5 ⟨(Nat.le_of_ble_eq_true rfl), (Nat.le_of_ble_eq_true rfl)⟩) hS (fun q _ h => h.elim) (fun q h => h.elim) (fun q _ h => h.elim) (fun E ce q9 u9 t H1 locs ht hvm hpx hBX hz1 hk1 hS hce hcv hcl => ?_) (fun r9 u9 t H1 locs ht hvm hw hB hz1 hk1 hS => absurd hw (fun h => h))
  subst hBX
  refine vx_catch (name := "java/lang/IndexOutOfBoundsException") hown [] ⟨0, 10, 13, 33⟩ [⟨0, 10, 17, 19⟩, ⟨0, 10, 21, 54⟩, ⟨0, 10, 25, 13⟩] htab (fun z hz => by cases hz) (by decide) (by decide) (hts (.classLink RL 33 "java/lang/IndexOutOfBoundsException") (by decide +kernel)) (va_Nw.use rfl hTh.2.2.2.2.2.2) hce hcv hcl ?_
  refine lv_astore (lv' := [(4, .ref q9), (0, .ref h0), (1, .int p0), (2, .int p1), (3, .ref qo)]) hx hb dL_product_13 hl (by decide) rfl (fun ls hl => ?_)
  refine lv_iconst (v := 1) hx hb dL_product_15 (by decide) ?_
  refine W.widen (k := 1) (n := 6) (Nat.le_of_ble_eq_true rfl) (Nat.le_of_ble_eq_true rfl) ?_
  rw [hQQ]
  exact vx_ret (W.iret (v := 1) hx hb hr (fun t ht hW => ⟨⟨1, (), rfl, rfl, trivial⟩, hS.F ht⟩) hS.2.2 dL_product_16)
theorem dL_inverse_0 : decode cL_inverse 0 = .ok (.aload_n 2, 1) := by decide +kernel
theorem dL_inverse_1 : decode cL_inverse 1 = .ok (.iconst 0, 1) := by decide +kernel
theorem dL_inverse_2 : decode cL_inverse 2 = .ok (.aload_n 0, 1) := by decide +kernel
theorem dL_inverse_3 : decode cL_inverse 3 = .ok (.iload_n 1, 1) := by decide +kernel
theorem dL_inverse_4 : decode cL_inverse 4 = .ok (.invokevirtual 109, 3) := by decide +kernel
theorem dL_inverse_12 : decode cL_inverse 12 = .ok (.astore_n 3, 1) := by decide +kernel
theorem dL_inverse_13 : decode cL_inverse 13 = .ok (.iconst 1, 1) := by decide +kernel
theorem dL_inverse_14 : decode cL_inverse 14 = .ok (.ireturn, 1) := by decide +kernel
theorem dL_inverse_15 : decode cL_inverse 15 = .ok (.astore_n 3, 1) := by decide +kernel
def wf_L_inverse : List Cond := .codeWith yL_inverse cL_inverse 4 (some .int) [(0, 9, 12, 33), (0, 9, 15, 13)] :: (.classLink RL 33 "java/lang/IndexOutOfBoundsException" :: wsV RL 109 RX11 yX11_inverse wf_inverse)
theorem gf_L_inverse : GoodIn wf_L_inverse (wsV RL 109 RX11 yX11_inverse wf_inverse) := goodIn_sub (fun _ h => List.mem_cons_of_mem _ (List.mem_cons_of_mem _ h)) (by decide +kernel)
set_option maxHeartbeats 4000000 in
set_option maxRecDepth 100000 in
theorem kf_L_inverse (l : Launch) (dC : Nat → ClassId) (dI : Nat → Nat → Nat) (cI cB cJ cZ : ClassId) (hlt : l.stackTraces = false) (h0 sa qo : Nat) (u : Nat → Nat) (p0 : Int32) : vx_Met l yL_inverse wf_L_inverse (({ frames := 8, cells := 1, slots := 6, locals := 135 } : Room)) (va_Pc [.ref h0, .int p0, .ref qo] (fun U => va_P (dC, dI) vwCl [(h0, .inr (14, [.ref (u 0), .ref (u 1), .ref (u 2), .ref (u 3), .ref (u 4), .ref (u 5), .ref (u 6), .ref (u 7), .ref (u 8), .ref (u 9), .ref (u 10), .ref (u 11), .ref (u 12), .ref (u 13), .ref (u 14), .ref (u 15), .ref (u 16), .ref (u 17), .ref (u 18)])), ((u 14), .inl (cI, 20, .inl (fun _ => 0)))] U.heap ∧ va_K (dC, dI) vwCl [(cI, .int), (cB, .byte), (cJ, .long), (cZ, .boolean)] U ∧ ow_Th (fun _ => False) RX11 172 "no such braid" sa "java/lang/IndexOutOfBoundsException" U)) (va_Qi (fun r (_ : Unit) => r = 1) (fun _ _ => True) (fun _ => False)) (vx_X (fun _ : Unit => False) (fun _ _ _ => True) (fun _ => False)) 1 6 (fun _ => False) := by
  refine vx_ofWH (cc := cL_inverse) (maxL := 4) (ret := (some .int)) (hh := [(0, 9, 12, 33), (0, 9, 15, 13)]) (by decide) rfl ?_
  intro p e s m args below meth c s₁ B hml hv
  obtain ⟨rfl, hP, hK, hTh⟩ := hv
  have hx := B.exec
  have hb := B.bytes
  have hr := B.returns
  have hts := atoms_spec (ws := wf_L_inverse) B.pre
  have htab := vx_table (x := yL_inverse) B (hts _ List.mem_cons_self)
  have hown : s.vm.findClass RL = some m.cls := findClass_of_methodNamed B.named
  have hlocks := B.notSynchronized
  have hS : va_S (fun _ => False) s.heap s.heap [] := va_S.rf
  have hl := lv_entry ([.ref h0, .int p0, .ref qo]) (n := 4) (Nat.le_of_ble_eq_true rfl)
  rw [lg_entry_eq]
  generalize (lg_sl ([.ref h0, .int p0, .ref qo]) ++ List.replicate (4 - (lg_sl ([.ref h0, .int p0, .ref qo])).length) Slot.unset).toArray = ls at hl ⊢
  have hl : lv_has ls 4 [(0, .ref h0), (1, .int p0), (2, .ref qo)] := hl
  refine ow_named (fun QQ hQQ => ?_)
  refine lv_aload_n hx hb dL_inverse_0 rfl (lv_at hl 2 rfl) ?_
  refine lv_iconst (v := 0) hx hb dL_inverse_1 (by decide) ?_
  refine lv_aload_n hx hb dL_inverse_2 rfl (lv_at hl 0 rfl) ?_
  refine lv_iload_n hx hb dL_inverse_3 rfl (lv_at hl 1 rfl) ?_
  refine vx_calli (vx_runV (As := [.int p0]) (rest := [.int 0, .ref qo]) ⟨hx, hb, hml, hown, hts⟩ (kf_X11_inverse l dC dI cI cB cJ cZ hlt h0 sa u p0) (cwV 1 hts gf_L_inverse rfl rfl rfl (by decide +kernel) ⟨(Nat.le_of_ble_eq_true rfl), (Nat.le_of_ble_eq_true rfl)⟩) ⟨fun a U g mk q => by obtain ⟨q0, qP, qK, qT⟩ := q; exact ⟨q0, qP, va_K.moved (u := U) (U := U.calling g mk a) (Vm.Alike.refl U.vm) qK, ow_Th.same (u := U) (U := U.calling g mk a) rfl rfl qT⟩, va_recv hK hP (ci := 14) (q0 := 0) rfl rfl, fun U hU hW => ⟨rfl, by rw [hU]; exact hP, va_K.moved hW.alike hK, ow_Th.to hTh hS hW hU (fun q h => h)⟩⟩ rfl rfl hl.1 rfl (lv_room (Nat.le_of_ble_eq_true rfl)) dL_inverse_4 ⟨(Nat.le_of_ble_eq_true rfl), (Nat.le_of_ble_eq_true rfl)⟩) hS (fun q _ h => h.elim) (fun q h => h.elim) (fun q _ h => h.elim) (fun E ce q9 u9 t H1 locs ht hvm hpx hBX hz1 hk1 hS hce hcv hcl => ?_) (fun r9 u9 t H1 locs ht hvm hw hB hz1 hk1 hS => absurd hw (fun h => h))
  subst hBX
  refine vx_catch (name := "java/lang/IndexOutOfBoundsException") hown [] ⟨0, 9, 12, 33⟩ [⟨0, 9, 15, 13⟩] htab (fun z hz => by cases hz) (by decide) (by decide) (hts (.classLink RL 33 "java/lang/IndexOutOfBoundsException") (by decide +kernel)) (va_Nw.use rfl hTh.2.2.2.2.2.2) hce hcv hcl ?_
  refine lv_astore_n (lv' := [(3, .ref q9), (0, .ref h0), (1, .int p0), (2, .ref qo)]) hx hb dL_inverse_12 rfl hl (by decide) rfl (fun ls hl => ?_)
  refine lv_iconst (v := 1) hx hb dL_inverse_13 (by decide) ?_
  refine W.widen (k := 1) (n := 6) (Nat.le_of_ble_eq_true rfl) (Nat.le_of_ble_eq_true rfl) ?_
  rw [hQQ]
  exact vx_ret (W.iret (v := 1) hx hb hr (fun t ht hW => ⟨⟨1, (), rfl, rfl, trivial⟩, hS.F ht⟩) hS.2.2 dL_inverse_14)
theorem dL_normal_0 : decode cL_normal 0 = .ok (.aload_n 3, 1) := by decide +kernel
theorem dL_normal_1 : decode cL_normal 1 = .ok (.iconst 0, 1) := by decide +kernel
theorem dL_normal_2 : decode cL_normal 2 = .ok (.aload_n 0, 1) := by decide +kernel
theorem dL_normal_3 : decode cL_normal 3 = .ok (.iload_n 1, 1) := by decide +kernel
theorem dL_normal_4 : decode cL_normal 4 = .ok (.iload_n 2, 1) := by decide +kernel
theorem dL_normal_5 : decode cL_normal 5 = .ok (.invokevirtual 112, 3) := by decide +kernel
theorem dL_normal_13 : decode cL_normal 13 = .ok (.astore 4, 2) := by decide +kernel
theorem dL_normal_15 : decode cL_normal 15 = .ok (.iconst 1, 1) := by decide +kernel
theorem dL_normal_16 : decode cL_normal 16 = .ok (.ireturn, 1) := by decide +kernel
def wf_L_normal : List Cond := .codeWith yL_normal cL_normal 5 (some .int) [(0, 10, 13, 33), (0, 10, 17, 19)] :: (.classLink RL 33 "java/lang/IndexOutOfBoundsException" :: wsV RL 112 RX11 yX11_normal wf_normal)
theorem gf_L_normal : GoodIn wf_L_normal (wsV RL 112 RX11 yX11_normal wf_normal) := goodIn_sub (fun _ h => List.mem_cons_of_mem _ (List.mem_cons_of_mem _ h)) (by decide +kernel)
set_option maxHeartbeats 4000000 in
set_option maxRecDepth 100000 in
theorem kf_L_normal (l : Launch) (dC : Nat → ClassId) (dI : Nat → Nat → Nat) (cI cB cJ cZ : ClassId) (hlt : l.stackTraces = false) (h0 sa qo : Nat) (u : Nat → Nat) (p0 p1 : Int32) : vx_Met l yL_normal wf_L_normal (({ frames := 8, cells := 1, slots := 6, locals := 133 } : Room)) (va_Pc [.ref h0, .int p0, .int p1, .ref qo] (fun U => va_P (dC, dI) vwCl [(h0, .inr (14, [.ref (u 0), .ref (u 1), .ref (u 2), .ref (u 3), .ref (u 4), .ref (u 5), .ref (u 6), .ref (u 7), .ref (u 8), .ref (u 9), .ref (u 10), .ref (u 11), .ref (u 12), .ref (u 13), .ref (u 14), .ref (u 15), .ref (u 16), .ref (u 17), .ref (u 18)])), ((u 14), .inl (cI, 20, .inl (fun _ => 0)))] U.heap ∧ va_K (dC, dI) vwCl [(cI, .int), (cB, .byte), (cJ, .long), (cZ, .boolean)] U ∧ ow_Th (fun _ => False) RX11 172 "no such braid" sa "java/lang/IndexOutOfBoundsException" U)) (va_Qi (fun r (_ : Unit) => r = 1) (fun _ _ => True) (fun _ => False)) (vx_X (fun _ : Unit => False) (fun _ _ _ => True) (fun _ => False)) 1 6 (fun _ => False) := by
  refine vx_ofWH (cc := cL_normal) (maxL := 5) (ret := (some .int)) (hh := [(0, 10, 13, 33), (0, 10, 17, 19)]) (by decide) rfl ?_
  intro p e s m args below meth c s₁ B hml hv
  obtain ⟨rfl, hP, hK, hTh⟩ := hv
  have hx := B.exec
  have hb := B.bytes
  have hr := B.returns
  have hts := atoms_spec (ws := wf_L_normal) B.pre
  have htab := vx_table (x := yL_normal) B (hts _ List.mem_cons_self)
  have hown : s.vm.findClass RL = some m.cls := findClass_of_methodNamed B.named
  have hlocks := B.notSynchronized
  have hS : va_S (fun _ => False) s.heap s.heap [] := va_S.rf
  have hl := lv_entry ([.ref h0, .int p0, .int p1, .ref qo]) (n := 5) (Nat.le_of_ble_eq_true rfl)
  rw [lg_entry_eq]
  generalize (lg_sl ([.ref h0, .int p0, .int p1, .ref qo]) ++ List.replicate (5 - (lg_sl ([.ref h0, .int p0, .int p1, .ref qo])).length) Slot.unset).toArray = ls at hl ⊢
  have hl : lv_has ls 5 [(0, .ref h0), (1, .int p0), (2, .int p1), (3, .ref qo)] := hl
  refine ow_named (fun QQ hQQ => ?_)
  refine lv_aload_n hx hb dL_normal_0 rfl (lv_at hl 3 rfl) ?_
  refine lv_iconst (v := 0) hx hb dL_normal_1 (by decide) ?_
  refine lv_aload_n hx hb dL_normal_2 rfl (lv_at hl 0 rfl) ?_
  refine lv_iload_n hx hb dL_normal_3 rfl (lv_at hl 1 rfl) ?_
  refine lv_iload_n hx hb dL_normal_4 rfl (lv_at hl 2 rfl) ?_
  refine vx_calli (vx_runV (As := [.int p0, .int p1]) (rest := [.int 0, .ref qo]) ⟨hx, hb, hml, hown, hts⟩ (kf_X11_normal l dC dI cI cB cJ cZ hlt h0 sa u p0 p1) (cwV 2 hts gf_L_normal rfl rfl rfl (by decide +kernel) ⟨(Nat.le_of_ble_eq_true rfl), (Nat.le_of_ble_eq_true rfl)⟩) ⟨fun a U g mk q => by obtain ⟨q0, qP, qK, qT⟩ := q; exact ⟨q0, qP, va_K.moved (u := U) (U := U.calling g mk a) (Vm.Alike.refl U.vm) qK, ow_Th.same (u := U) (U := U.calling g mk a) rfl rfl qT⟩, va_recv hK hP (ci := 14) (q0 := 0) rfl rfl, fun U hU hW => ⟨rfl, by rw [hU]; exact hP, va_K.moved hW.alike hK, ow_Th.to hTh hS hW hU (fun q h => h)⟩⟩ rfl rfl hl.1 rfl (lv_room (Nat.le_of_ble_eq_true rfl)) dL_normal_5 ⟨(Nat.le_of_ble_eq_true rfl), (Nat.le_of_ble_eq_true rfl)⟩) hS (fun q _ h => h.elim) (fun q h => h.elim) (fun q _ h => h.elim) (fun E ce q9 u9 t H1 locs ht hvm hpx hBX hz1 hk1 hS hce hcv hcl => ?_) (fun r9 u9 t H1 locs ht hvm hw hB hz1 hk1 hS => absurd hw (fun h => h))
  subst hBX
  refine vx_catch (name := "java/lang/IndexOutOfBoundsException") hown [] ⟨0, 10, 13, 33⟩ [⟨0, 10, 17, 19⟩] htab (fun z hz => by cases hz) (by decide) (by decide) (hts (.classLink RL 33 "java/lang/IndexOutOfBoundsException") (by decide +kernel)) (va_Nw.use rfl hTh.2.2.2.2.2.2) hce hcv hcl ?_
  refine lv_astore (lv' := [(4, .ref q9), (0, .ref h0), (1, .int p0), (2, .int p1), (3, .ref qo)]) hx hb dL_normal_13 hl (by decide) rfl (fun ls hl => ?_)
  refine lv_iconst (v := 1) hx hb dL_normal_15 (by decide) ?_
  refine W.widen (k := 1) (n := 6) (Nat.le_of_ble_eq_true rfl) (Nat.le_of_ble_eq_true rfl) ?_
  rw [hQQ]
  exact vx_ret (W.iret (v := 1) hx hb hr (fun t ht hW => ⟨⟨1, (), rfl, rfl, trivial⟩, hS.F ht⟩) hS.2.2 dL_normal_16)
theorem dL_factor_0 : decode cL_factor 0 = .ok (.aload 4, 2) := by decide +kernel
theorem dL_factor_2 : decode cL_factor 2 = .ok (.iconst 0, 1) := by decide +kernel
theorem dL_factor_3 : decode cL_factor 3 = .ok (.aload_n 0, 1) := by decide +kernel
theorem dL_factor_4 : decode cL_factor 4 = .ok (.iload_n 1, 1) := by decide +kernel
theorem dL_factor_5 : decode cL_factor 5 = .ok (.iload_n 2, 1) := by decide +kernel
theorem dL_factor_6 : decode cL_factor 6 = .ok (.iload_n 3, 1) := by decide +kernel
theorem dL_factor_7 : decode cL_factor 7 = .ok (.invokevirtual 115, 3) := by decide +kernel
theorem dL_factor_15 : decode cL_factor 15 = .ok (.astore 5, 2) := by decide +kernel
theorem dL_factor_17 : decode cL_factor 17 = .ok (.iconst 1, 1) := by decide +kernel
theorem dL_factor_18 : decode cL_factor 18 = .ok (.ireturn, 1) := by decide +kernel
def wf_L_factor : List Cond := .codeWith yL_factor cL_factor 6 (some .int) [(0, 12, 15, 33)] :: (.classLink RL 33 "java/lang/IndexOutOfBoundsException" :: wsV RL 115 RX11 yX11_factor wf_factor)
theorem gf_L_factor : GoodIn wf_L_factor (wsV RL 115 RX11 yX11_factor wf_factor) := goodIn_sub (fun _ h => List.mem_cons_of_mem _ (List.mem_cons_of_mem _ h)) (by decide +kernel)
set_option maxHeartbeats 4000000 in
set_option maxRecDepth 100000 in
theorem kf_L_factor (l : Launch) (dC : Nat → ClassId) (dI : Nat → Nat → Nat) (cI cB cJ cZ : ClassId) (hlt : l.stackTraces = false) (h0 sa qo : Nat) (u : Nat → Nat) (p0 p1 p2 : Int32) : vx_Met l yL_factor wf_L_factor (({ frames := 8, cells := 1, slots := 6, locals := 134 } : Room)) (va_Pc [.ref h0, .int p0, .int p1, .int p2, .ref qo] (fun U => va_P (dC, dI) vwCl [(h0, .inr (14, [.ref (u 0), .ref (u 1), .ref (u 2), .ref (u 3), .ref (u 4), .ref (u 5), .ref (u 6), .ref (u 7), .ref (u 8), .ref (u 9), .ref (u 10), .ref (u 11), .ref (u 12), .ref (u 13), .ref (u 14), .ref (u 15), .ref (u 16), .ref (u 17), .ref (u 18)])), ((u 14), .inl (cI, 20, .inl (fun _ => 0)))] U.heap ∧ va_K (dC, dI) vwCl [(cI, .int), (cB, .byte), (cJ, .long), (cZ, .boolean)] U ∧ ow_Th (fun _ => False) RX11 172 "no such braid" sa "java/lang/IndexOutOfBoundsException" U)) (va_Qi (fun r (_ : Unit) => r = 1) (fun _ _ => True) (fun _ => False)) (vx_X (fun _ : Unit => False) (fun _ _ _ => True) (fun _ => False)) 1 6 (fun _ => False) := by
  refine vx_ofWH (cc := cL_factor) (maxL := 6) (ret := (some .int)) (hh := [(0, 12, 15, 33)]) (by decide) rfl ?_
  intro p e s m args below meth c s₁ B hml hv
  obtain ⟨rfl, hP, hK, hTh⟩ := hv
  have hx := B.exec
  have hb := B.bytes
  have hr := B.returns
  have hts := atoms_spec (ws := wf_L_factor) B.pre
  have htab := vx_table (x := yL_factor) B (hts _ List.mem_cons_self)
  have hown : s.vm.findClass RL = some m.cls := findClass_of_methodNamed B.named
  have hlocks := B.notSynchronized
  have hS : va_S (fun _ => False) s.heap s.heap [] := va_S.rf
  have hl := lv_entry ([.ref h0, .int p0, .int p1, .int p2, .ref qo]) (n := 6) (Nat.le_of_ble_eq_true rfl)
  rw [lg_entry_eq]
  generalize (lg_sl ([.ref h0, .int p0, .int p1, .int p2, .ref qo]) ++ List.replicate (6 - (lg_sl ([.ref h0, .int p0, .int p1, .int p2, .ref qo])).length) Slot.unset).toArray = ls at hl ⊢
  have hl : lv_has ls 6 [(0, .ref h0), (1, .int p0), (2, .int p1), (3, .int p2), (4, .ref qo)] := hl
  refine ow_named (fun QQ hQQ => ?_)
  refine lv_aload hx hb dL_factor_0 (lv_at hl 4 rfl) ?_
  refine lv_iconst (v := 0) hx hb dL_factor_2 (by decide) ?_
  refine lv_aload_n hx hb dL_factor_3 rfl (lv_at hl 0 rfl) ?_
  refine lv_iload_n hx hb dL_factor_4 rfl (lv_at hl 1 rfl) ?_
  refine lv_iload_n hx hb dL_factor_5 rfl (lv_at hl 2 rfl) ?_
  refine lv_iload_n hx hb dL_factor_6 rfl (lv_at hl 3 rfl) ?_
  refine vx_calli (vx_runV (As := [.int p0, .int p1, .int p2]) (rest := [.int 0, .ref qo]) ⟨hx, hb, hml, hown, hts⟩ (kf_X11_factor l dC dI cI cB cJ cZ hlt h0 sa u p0 p1 p2) (cwV 3 hts gf_L_factor rfl rfl rfl (by decide +kernel) ⟨(Nat.le_of_ble_eq_true rfl), (Nat.le_of_ble_eq_true rfl)⟩) ⟨fun a U g mk q => by obtain ⟨q0, qP, qK, qT⟩ := q; exact ⟨q0, qP, va_K.moved (u := U) (U := U.calling g mk a) (Vm.Alike.refl U.vm) qK, ow_Th.same (u := U) (U := U.calling g mk a) rfl rfl qT⟩, va_recv hK hP (ci := 14) (q0 := 0) rfl rfl, fun U hU hW => ⟨rfl, by rw [hU]; exact hP, va_K.moved hW.alike hK, ow_Th.to hTh hS hW hU (fun q h => h)⟩⟩ rfl rfl hl.1 rfl (lv_room (Nat.le_of_ble_eq_true rfl)) dL_factor_7 ⟨(Nat.le_of_ble_eq_true rfl), (Nat.le_of_ble_eq_true rfl)⟩) hS (fun q _ h => h.elim) (fun q h => h.elim) (fun q _ h => h.elim) (fun E ce q9 u9 t H1 locs ht hvm hpx hBX hz1 hk1 hS hce hcv hcl => ?_) (fun r9 u9 t H1 locs ht hvm hw hB hz1 hk1 hS => absurd hw (fun h => h))
  subst hBX
  refine vx_catch (name := "java/lang/IndexOutOfBoundsException") hown [] ⟨0, 12, 15, 33⟩ [] htab (fun z hz => by cases hz) (by decide) (by decide) (hts (.classLink RL 33 "java/lang/IndexOutOfBoundsException") (by decide +kernel)) (va_Nw.use rfl hTh.2.2.2.2.2.2) hce hcv hcl ?_
  refine lv_astore (lv' := [(5, .ref q9), (0, .ref h0), (1, .int p0), (2, .int p1), (3, .int p2), (4, .ref qo)]) hx hb dL_factor_15 hl (by decide) rfl (fun ls hl => ?_)
  refine lv_iconst (v := 1) hx hb dL_factor_17 (by decide) ?_
  refine W.widen (k := 1) (n := 6) (Nat.le_of_ble_eq_true rfl) (Nat.le_of_ble_eq_true rfl) ?_
  rw [hQQ]
  exact vx_ret (W.iret (v := 1) hx hb hr (fun t ht hW => ⟨⟨1, (), rfl, rfl, trivial⟩, hS.F ht⟩) hS.2.2 dL_factor_18)
theorem dL_summit_0 : decode cL_summit 0 = .ok (.aload_n 2, 1) := by decide +kernel
theorem dL_summit_1 : decode cL_summit 1 = .ok (.iconst 0, 1) := by decide +kernel
theorem dL_summit_2 : decode cL_summit 2 = .ok (.aload_n 0, 1) := by decide +kernel
theorem dL_summit_3 : decode cL_summit 3 = .ok (.iload_n 1, 1) := by decide +kernel
theorem dL_summit_4 : decode cL_summit 4 = .ok (.invokevirtual 118, 3) := by decide +kernel
theorem dL_summit_12 : decode cL_summit 12 = .ok (.astore_n 3, 1) := by decide +kernel
theorem dL_summit_13 : decode cL_summit 13 = .ok (.iconst 1, 1) := by decide +kernel
theorem dL_summit_14 : decode cL_summit 14 = .ok (.ireturn, 1) := by decide +kernel
theorem dL_summit_15 : decode cL_summit 15 = .ok (.astore_n 3, 1) := by decide +kernel
def wf_L_summit : List Cond := .codeWith yL_summit cL_summit 4 (some .int) [(0, 9, 12, 33), (0, 9, 15, 54)] :: (.classLink RL 33 "java/lang/IndexOutOfBoundsException" :: wsV RL 118 RX11 yX11_summit wf_summit)
theorem gf_L_summit : GoodIn wf_L_summit (wsV RL 118 RX11 yX11_summit wf_summit) := goodIn_sub (fun _ h => List.mem_cons_of_mem _ (List.mem_cons_of_mem _ h)) (by decide +kernel)
set_option maxHeartbeats 4000000 in
set_option maxRecDepth 100000 in
theorem kf_L_summit (l : Launch) (dC : Nat → ClassId) (dI : Nat → Nat → Nat) (cI cB cJ cZ : ClassId) (hlt : l.stackTraces = false) (h0 sa qo : Nat) (u : Nat → Nat) (p0 : Int32) : vx_Met l yL_summit wf_L_summit (({ frames := 8, cells := 1, slots := 6, locals := 132 } : Room)) (va_Pc [.ref h0, .int p0, .ref qo] (fun U => va_P (dC, dI) vwCl [(h0, .inr (14, [.ref (u 0), .ref (u 1), .ref (u 2), .ref (u 3), .ref (u 4), .ref (u 5), .ref (u 6), .ref (u 7), .ref (u 8), .ref (u 9), .ref (u 10), .ref (u 11), .ref (u 12), .ref (u 13), .ref (u 14), .ref (u 15), .ref (u 16), .ref (u 17), .ref (u 18)])), ((u 14), .inl (cI, 20, .inl (fun _ => 0)))] U.heap ∧ va_K (dC, dI) vwCl [(cI, .int), (cB, .byte), (cJ, .long), (cZ, .boolean)] U ∧ ow_Th (fun _ => False) RX11 172 "no such braid" sa "java/lang/IndexOutOfBoundsException" U)) (va_Qi (fun r (_ : Unit) => r = 1) (fun _ _ => True) (fun _ => False)) (vx_X (fun _ : Unit => False) (fun _ _ _ => True) (fun _ => False)) 1 6 (fun _ => False) := by
  refine vx_ofWH (cc := cL_summit) (maxL := 4) (ret := (some .int)) (hh := [(0, 9, 12, 33), (0, 9, 15, 54)]) (by decide) rfl ?_
  intro p e s m args below meth c s₁ B hml hv
  obtain ⟨rfl, hP, hK, hTh⟩ := hv
  have hx := B.exec
  have hb := B.bytes
  have hr := B.returns
  have hts := atoms_spec (ws := wf_L_summit) B.pre
  have htab := vx_table (x := yL_summit) B (hts _ List.mem_cons_self)
  have hown : s.vm.findClass RL = some m.cls := findClass_of_methodNamed B.named
  have hlocks := B.notSynchronized
  have hS : va_S (fun _ => False) s.heap s.heap [] := va_S.rf
  have hl := lv_entry ([.ref h0, .int p0, .ref qo]) (n := 4) (Nat.le_of_ble_eq_true rfl)
  rw [lg_entry_eq]
  generalize (lg_sl ([.ref h0, .int p0, .ref qo]) ++ List.replicate (4 - (lg_sl ([.ref h0, .int p0, .ref qo])).length) Slot.unset).toArray = ls at hl ⊢
  have hl : lv_has ls 4 [(0, .ref h0), (1, .int p0), (2, .ref qo)] := hl
  refine ow_named (fun QQ hQQ => ?_)
  refine lv_aload_n hx hb dL_summit_0 rfl (lv_at hl 2 rfl) ?_
  refine lv_iconst (v := 0) hx hb dL_summit_1 (by decide) ?_
  refine lv_aload_n hx hb dL_summit_2 rfl (lv_at hl 0 rfl) ?_
  refine lv_iload_n hx hb dL_summit_3 rfl (lv_at hl 1 rfl) ?_
  refine vx_calli (vx_runV (As := [.int p0]) (rest := [.int 0, .ref qo]) ⟨hx, hb, hml, hown, hts⟩ (kf_X11_summit l dC dI cI cB cJ cZ hlt h0 sa u p0) (cwV 1 hts gf_L_summit rfl rfl rfl (by decide +kernel) ⟨(Nat.le_of_ble_eq_true rfl), (Nat.le_of_ble_eq_true rfl)⟩) ⟨fun a U g mk q => by obtain ⟨q0, qP, qK, qT⟩ := q; exact ⟨q0, qP, va_K.moved (u := U) (U := U.calling g mk a) (Vm.Alike.refl U.vm) qK, ow_Th.same (u := U) (U := U.calling g mk a) rfl rfl qT⟩, va_recv hK hP (ci := 14) (q0 := 0) rfl rfl, fun U hU hW => ⟨rfl, by rw [hU]; exact hP, va_K.moved hW.alike hK, ow_Th.to hTh hS hW hU (fun q h => h)⟩⟩ rfl rfl hl.1 rfl (lv_room (Nat.le_of_ble_eq_true rfl)) dL_summit_4 ⟨(Nat.le_of_ble_eq_true rfl), (Nat.le_of_ble_eq_true rfl)⟩) hS (fun q _ h => h.elim) (fun q h => h.elim) (fun q _ h => h.elim) (fun E ce q9 u9 t H1 locs ht hvm hpx hBX hz1 hk1 hS hce hcv hcl => ?_) (fun r9 u9 t H1 locs ht hvm hw hB hz1 hk1 hS => absurd hw (fun h => h))
  subst hBX
  refine vx_catch (name := "java/lang/IndexOutOfBoundsException") hown [] ⟨0, 9, 12, 33⟩ [⟨0, 9, 15, 54⟩] htab (fun z hz => by cases hz) (by decide) (by decide) (hts (.classLink RL 33 "java/lang/IndexOutOfBoundsException") (by decide +kernel)) (va_Nw.use rfl hTh.2.2.2.2.2.2) hce hcv hcl ?_
  refine lv_astore_n (lv' := [(3, .ref q9), (0, .ref h0), (1, .int p0), (2, .ref qo)]) hx hb dL_summit_12 rfl hl (by decide) rfl (fun ls hl => ?_)
  refine lv_iconst (v := 1) hx hb dL_summit_13 (by decide) ?_
  refine W.widen (k := 1) (n := 6) (Nat.le_of_ble_eq_true rfl) (Nat.le_of_ble_eq_true rfl) ?_
  rw [hQQ]
  exact vx_ret (W.iret (v := 1) hx hb hr (fun t ht hW => ⟨⟨1, (), rfl, rfl, trivial⟩, hS.F ht⟩) hS.2.2 dL_summit_14)
theorem dL_conjugate_0 : decode cL_conjugate 0 = .ok (.aload_n 3, 1) := by decide +kernel
theorem dL_conjugate_1 : decode cL_conjugate 1 = .ok (.iconst 0, 1) := by decide +kernel
theorem dL_conjugate_2 : decode cL_conjugate 2 = .ok (.aload_n 0, 1) := by decide +kernel
theorem dL_conjugate_3 : decode cL_conjugate 3 = .ok (.iload_n 1, 1) := by decide +kernel
theorem dL_conjugate_4 : decode cL_conjugate 4 = .ok (.iload_n 2, 1) := by decide +kernel
theorem dL_conjugate_5 : decode cL_conjugate 5 = .ok (.invokevirtual 121, 3) := by decide +kernel
theorem dL_conjugate_13 : decode cL_conjugate 13 = .ok (.astore 4, 2) := by decide +kernel
theorem dL_conjugate_15 : decode cL_conjugate 15 = .ok (.iconst 1, 1) := by decide +kernel
theorem dL_conjugate_16 : decode cL_conjugate 16 = .ok (.ireturn, 1) := by decide +kernel
def wf_L_conjugate : List Cond := .codeWith yL_conjugate cL_conjugate 5 (some .int) [(0, 10, 13, 33), (0, 10, 17, 19), (0, 10, 21, 54)] :: (.classLink RL 33 "java/lang/IndexOutOfBoundsException" :: wsV RL 121 RX11 yX11_conjugate wf_conjugate)
theorem gf_L_conjugate : GoodIn wf_L_conjugate (wsV RL 121 RX11 yX11_conjugate wf_conjugate) := goodIn_sub (fun _ h => List.mem_cons_of_mem _ (List.mem_cons_of_mem _ h)) (by decide +kernel)
set_option maxHeartbeats 4000000 in
set_option maxRecDepth 100000 in
theorem kf_L_conjugate (l : Launch) (dC : Nat → ClassId) (dI : Nat → Nat → Nat) (cI cB cJ cZ : ClassId) (hlt : l.stackTraces = false) (h0 sa qo : Nat) (u : Nat → Nat) (p0 p1 : Int32) : vx_Met l yL_conjugate wf_L_conjugate (({ frames := 8, cells := 1, slots := 6, locals := 135 } : Room)) (va_Pc [.ref h0, .int p0, .int p1, .ref qo] (fun U => va_P (dC, dI) vwCl [(h0, .inr (14, [.ref (u 0), .ref (u 1), .ref (u 2), .ref (u 3), .ref (u 4), .ref (u 5), .ref (u 6), .ref (u 7), .ref (u 8), .ref (u 9), .ref (u 10), .ref (u 11), .ref (u 12), .ref (u 13), .ref (u 14), .ref (u 15), .ref (u 16), .ref (u 17), .ref (u 18)])), ((u 14), .inl (cI, 20, .inl (fun _ => 0)))] U.heap ∧ va_K (dC, dI) vwCl [(cI, .int), (cB, .byte), (cJ, .long), (cZ, .boolean)] U ∧ ow_Th (fun _ => False) RX11 172 "no such braid" sa "java/lang/IndexOutOfBoundsException" U)) (va_Qi (fun r (_ : Unit) => r = 1) (fun _ _ => True) (fun _ => False)) (vx_X (fun _ : Unit => False) (fun _ _ _ => True) (fun _ => False)) 1 6 (fun _ => False) := by
  refine vx_ofWH (cc := cL_conjugate) (maxL := 5) (ret := (some .int)) (hh := [(0, 10, 13, 33), (0, 10, 17, 19), (0, 10, 21, 54)]) (by decide) rfl ?_
  intro p e s m args below meth c s₁ B hml hv
  obtain ⟨rfl, hP, hK, hTh⟩ := hv
  have hx := B.exec
  have hb := B.bytes
  have hr := B.returns
  have hts := atoms_spec (ws := wf_L_conjugate) B.pre
  have htab := vx_table (x := yL_conjugate) B (hts _ List.mem_cons_self)
  have hown : s.vm.findClass RL = some m.cls := findClass_of_methodNamed B.named
  have hlocks := B.notSynchronized
  have hS : va_S (fun _ => False) s.heap s.heap [] := va_S.rf
  have hl := lv_entry ([.ref h0, .int p0, .int p1, .ref qo]) (n := 5) (Nat.le_of_ble_eq_true rfl)
  rw [lg_entry_eq]
  generalize (lg_sl ([.ref h0, .int p0, .int p1, .ref qo]) ++ List.replicate (5 - (lg_sl ([.ref h0, .int p0, .int p1, .ref qo])).length) Slot.unset).toArray = ls at hl ⊢
  have hl : lv_has ls 5 [(0, .ref h0), (1, .int p0), (2, .int p1), (3, .ref qo)] := hl
  refine ow_named (fun QQ hQQ => ?_)
  refine lv_aload_n hx hb dL_conjugate_0 rfl (lv_at hl 3 rfl) ?_
  refine lv_iconst (v := 0) hx hb dL_conjugate_1 (by decide) ?_
  refine lv_aload_n hx hb dL_conjugate_2 rfl (lv_at hl 0 rfl) ?_
  refine lv_iload_n hx hb dL_conjugate_3 rfl (lv_at hl 1 rfl) ?_
  refine lv_iload_n hx hb dL_conjugate_4 rfl (lv_at hl 2 rfl) ?_
  refine vx_calli (vx_runV (As := [.int p0, .int p1]) (rest := [.int 0, .ref qo]) ⟨hx, hb, hml, hown, hts⟩ (kf_X11_conjugate l dC dI cI cB cJ cZ hlt h0 sa u p0 p1) (cwV 2 hts gf_L_conjugate rfl rfl rfl (by decide +kernel) ⟨(Nat.le_of_ble_eq_true rfl), (Nat.le_of_ble_eq_true rfl)⟩) ⟨fun a U g mk q => by obtain ⟨q0, qP, qK, qT⟩ := q; exact ⟨q0, qP, va_K.moved (u := U) (U := U.calling g mk a) (Vm.Alike.refl U.vm) qK, ow_Th.same (u := U) (U := U.calling g mk a) rfl rfl qT⟩, va_recv hK hP (ci := 14) (q0 := 0) rfl rfl, fun U hU hW => ⟨rfl, by rw [hU]; exact hP, va_K.moved hW.alike hK, ow_Th.to hTh hS hW hU (fun q h => h)⟩⟩ rfl rfl hl.1 rfl (lv_room (Nat.le_of_ble_eq_true rfl)) dL_conjugate_5 ⟨(Nat.le_of_ble_eq_true rfl), (Nat.le_of_ble_eq_true rfl)⟩) hS (fun q _ h => h.elim) (fun q h => h.elim) (fun q _ h => h.elim) (fun E ce q9 u9 t H1 locs ht hvm hpx hBX hz1 hk1 hS hce hcv hcl => ?_) (fun r9 u9 t H1 locs ht hvm hw hB hz1 hk1 hS => absurd hw (fun h => h))
  subst hBX
  refine vx_catch (name := "java/lang/IndexOutOfBoundsException") hown [] ⟨0, 10, 13, 33⟩ [⟨0, 10, 17, 19⟩, ⟨0, 10, 21, 54⟩] htab (fun z hz => by cases hz) (by decide) (by decide) (hts (.classLink RL 33 "java/lang/IndexOutOfBoundsException") (by decide +kernel)) (va_Nw.use rfl hTh.2.2.2.2.2.2) hce hcv hcl ?_
  refine lv_astore (lv' := [(4, .ref q9), (0, .ref h0), (1, .int p0), (2, .int p1), (3, .ref qo)]) hx hb dL_conjugate_13 hl (by decide) rfl (fun ls hl => ?_)
  refine lv_iconst (v := 1) hx hb dL_conjugate_15 (by decide) ?_
  refine W.widen (k := 1) (n := 6) (Nat.le_of_ble_eq_true rfl) (Nat.le_of_ble_eq_true rfl) ?_
  rw [hQQ]
  exact vx_ret (W.iret (v := 1) hx hb hr (fun t ht hW => ⟨⟨1, (), rfl, rfl, trivial⟩, hS.F ht⟩) hS.2.2 dL_conjugate_16)
theorem dL_two_0 : decode cL_two 0 = .ok (.aload 4, 2) := by decide +kernel
theorem dL_two_2 : decode cL_two 2 = .ok (.iconst 0, 1) := by decide +kernel
theorem dL_two_3 : decode cL_two 3 = .ok (.aload_n 0, 1) := by decide +kernel
theorem dL_two_4 : decode cL_two 4 = .ok (.iload_n 1, 1) := by decide +kernel
theorem dL_two_5 : decode cL_two 5 = .ok (.iload_n 2, 1) := by decide +kernel
theorem dL_two_6 : decode cL_two 6 = .ok (.iload_n 3, 1) := by decide +kernel
theorem dL_two_7 : decode cL_two 7 = .ok (.invokevirtual 124, 3) := by decide +kernel
theorem dL_two_15 : decode cL_two 15 = .ok (.astore 5, 2) := by decide +kernel
theorem dL_two_17 : decode cL_two 17 = .ok (.iconst 1, 1) := by decide +kernel
theorem dL_two_18 : decode cL_two 18 = .ok (.ireturn, 1) := by decide +kernel
def wf_L_two : List Cond := .codeWith yL_two cL_two 6 (some .int) [(0, 12, 15, 33), (0, 12, 19, 54)] :: (.classLink RL 33 "java/lang/IndexOutOfBoundsException" :: wsV RL 124 RX11 yX11_two wf_two)
theorem gf_L_two : GoodIn wf_L_two (wsV RL 124 RX11 yX11_two wf_two) := goodIn_sub (fun _ h => List.mem_cons_of_mem _ (List.mem_cons_of_mem _ h)) (by decide +kernel)
set_option maxHeartbeats 4000000 in
set_option maxRecDepth 100000 in
theorem kf_L_two (l : Launch) (dC : Nat → ClassId) (dI : Nat → Nat → Nat) (cI cB cJ cZ : ClassId) (hlt : l.stackTraces = false) (h0 sa qo : Nat) (u : Nat → Nat) (p0 p1 p2 : Int32) : vx_Met l yL_two wf_L_two (({ frames := 8, cells := 1, slots := 6, locals := 134 } : Room)) (va_Pc [.ref h0, .int p0, .int p1, .int p2, .ref qo] (fun U => va_P (dC, dI) vwCl [(h0, .inr (14, [.ref (u 0), .ref (u 1), .ref (u 2), .ref (u 3), .ref (u 4), .ref (u 5), .ref (u 6), .ref (u 7), .ref (u 8), .ref (u 9), .ref (u 10), .ref (u 11), .ref (u 12), .ref (u 13), .ref (u 14), .ref (u 15), .ref (u 16), .ref (u 17), .ref (u 18)])), ((u 14), .inl (cI, 20, .inl (fun _ => 0)))] U.heap ∧ va_K (dC, dI) vwCl [(cI, .int), (cB, .byte), (cJ, .long), (cZ, .boolean)] U ∧ ow_Th (fun _ => False) RX11 172 "no such braid" sa "java/lang/IndexOutOfBoundsException" U)) (va_Qi (fun r (_ : Unit) => r = 1) (fun _ _ => True) (fun _ => False)) (vx_X (fun _ : Unit => False) (fun _ _ _ => True) (fun _ => False)) 1 6 (fun _ => False) := by
  refine vx_ofWH (cc := cL_two) (maxL := 6) (ret := (some .int)) (hh := [(0, 12, 15, 33), (0, 12, 19, 54)]) (by decide) rfl ?_
  intro p e s m args below meth c s₁ B hml hv
  obtain ⟨rfl, hP, hK, hTh⟩ := hv
  have hx := B.exec
  have hb := B.bytes
  have hr := B.returns
  have hts := atoms_spec (ws := wf_L_two) B.pre
  have htab := vx_table (x := yL_two) B (hts _ List.mem_cons_self)
  have hown : s.vm.findClass RL = some m.cls := findClass_of_methodNamed B.named
  have hlocks := B.notSynchronized
  have hS : va_S (fun _ => False) s.heap s.heap [] := va_S.rf
  have hl := lv_entry ([.ref h0, .int p0, .int p1, .int p2, .ref qo]) (n := 6) (Nat.le_of_ble_eq_true rfl)
  rw [lg_entry_eq]
  generalize (lg_sl ([.ref h0, .int p0, .int p1, .int p2, .ref qo]) ++ List.replicate (6 - (lg_sl ([.ref h0, .int p0, .int p1, .int p2, .ref qo])).length) Slot.unset).toArray = ls at hl ⊢
  have hl : lv_has ls 6 [(0, .ref h0), (1, .int p0), (2, .int p1), (3, .int p2), (4, .ref qo)] := hl
  refine ow_named (fun QQ hQQ => ?_)
  refine lv_aload hx hb dL_two_0 (lv_at hl 4 rfl) ?_
  refine lv_iconst (v := 0) hx hb dL_two_2 (by decide) ?_
  refine lv_aload_n hx hb dL_two_3 rfl (lv_at hl 0 rfl) ?_
  refine lv_iload_n hx hb dL_two_4 rfl (lv_at hl 1 rfl) ?_
  refine lv_iload_n hx hb dL_two_5 rfl (lv_at hl 2 rfl) ?_
  refine lv_iload_n hx hb dL_two_6 rfl (lv_at hl 3 rfl) ?_
  refine vx_calli (vx_runV (As := [.int p0, .int p1, .int p2]) (rest := [.int 0, .ref qo]) ⟨hx, hb, hml, hown, hts⟩ (kf_X11_two l dC dI cI cB cJ cZ hlt h0 sa u p0 p1 p2) (cwV 3 hts gf_L_two rfl rfl rfl (by decide +kernel) ⟨(Nat.le_of_ble_eq_true rfl), (Nat.le_of_ble_eq_true rfl)⟩) ⟨fun a U g mk q => by obtain ⟨q0, qP, qK, qT⟩ := q; exact ⟨q0, qP, va_K.moved (u := U) (U := U.calling g mk a) (Vm.Alike.refl U.vm) qK, ow_Th.same (u := U) (U := U.calling g mk a) rfl rfl qT⟩, va_recv hK hP (ci := 14) (q0 := 0) rfl rfl, fun U hU hW => ⟨rfl, by rw [hU]; exact hP, va_K.moved hW.alike hK, ow_Th.to hTh hS hW hU (fun q h => h)⟩⟩ rfl rfl hl.1 rfl (lv_room (Nat.le_of_ble_eq_true rfl)) dL_two_7 ⟨(Nat.le_of_ble_eq_true rfl), (Nat.le_of_ble_eq_true rfl)⟩) hS (fun q _ h => h.elim) (fun q h => h.elim) (fun q _ h => h.elim) (fun E ce q9 u9 t H1 locs ht hvm hpx hBX hz1 hk1 hS hce hcv hcl => ?_) (fun r9 u9 t H1 locs ht hvm hw hB hz1 hk1 hS => absurd hw (fun h => h))
  subst hBX
  refine vx_catch (name := "java/lang/IndexOutOfBoundsException") hown [] ⟨0, 12, 15, 33⟩ [⟨0, 12, 19, 54⟩] htab (fun z hz => by cases hz) (by decide) (by decide) (hts (.classLink RL 33 "java/lang/IndexOutOfBoundsException") (by decide +kernel)) (va_Nw.use rfl hTh.2.2.2.2.2.2) hce hcv hcl ?_
  refine lv_astore (lv' := [(5, .ref q9), (0, .ref h0), (1, .int p0), (2, .int p1), (3, .int p2), (4, .ref qo)]) hx hb dL_two_15 hl (by decide) rfl (fun ls hl => ?_)
  refine lv_iconst (v := 1) hx hb dL_two_17 (by decide) ?_
  refine W.widen (k := 1) (n := 6) (Nat.le_of_ble_eq_true rfl) (Nat.le_of_ble_eq_true rfl) ?_
  rw [hQQ]
  exact vx_ret (W.iret (v := 1) hx hb hr (fun t ht hW => ⟨⟨1, (), rfl, rfl, trivial⟩, hS.F ht⟩) hS.2.2 dL_two_18)
theorem dL_moved_0 : decode cL_moved 0 = .ok (.aload_n 2, 1) := by decide +kernel
theorem dL_moved_1 : decode cL_moved 1 = .ok (.iconst 0, 1) := by decide +kernel
theorem dL_moved_2 : decode cL_moved 2 = .ok (.aload_n 0, 1) := by decide +kernel
theorem dL_moved_3 : decode cL_moved 3 = .ok (.iload_n 1, 1) := by decide +kernel
theorem dL_moved_4 : decode cL_moved 4 = .ok (.invokevirtual 66, 3) := by decide +kernel
theorem dL_moved_12 : decode cL_moved 12 = .ok (.astore_n 3, 1) := by decide +kernel
theorem dL_moved_13 : decode cL_moved 13 = .ok (.iconst 1, 1) := by decide +kernel
theorem dL_moved_14 : decode cL_moved 14 = .ok (.ireturn, 1) := by decide +kernel
theorem dL_moved_15 : decode cL_moved 15 = .ok (.astore_n 3, 1) := by decide +kernel
def wf_L_moved : List Cond := .codeWith yL_moved cL_moved 4 (some .int) [(0, 9, 12, 33), (0, 9, 15, 13)] :: (.classLink RL 33 "java/lang/IndexOutOfBoundsException" :: wsV RL 66 RX11 yX11_moved wf_moved)
theorem gf_L_moved : GoodIn wf_L_moved (wsV RL 66 RX11 yX11_moved wf_moved) := goodIn_sub (fun _ h => List.mem_cons_of_mem _ (List.mem_cons_of_mem _ h)) (by decide +kernel)
set_option maxHeartbeats 4000000 in
set_option maxRecDepth 100000 in
theorem kf_L_moved (l : Launch) (dC : Nat → ClassId) (dI : Nat → Nat → Nat) (cI cB cJ cZ : ClassId) (hlt : l.stackTraces = false) (h0 sa qo : Nat) (u : Nat → Nat) (p0 : Int32) : vx_Met l yL_moved wf_L_moved (({ frames := 8, cells := 1, slots := 6, locals := 136 } : Room)) (va_Pc [.ref h0, .int p0, .ref qo] (fun U => va_P (dC, dI) vwCl [(h0, .inr (14, [.ref (u 0), .ref (u 1), .ref (u 2), .ref (u 3), .ref (u 4), .ref (u 5), .ref (u 6), .ref (u 7), .ref (u 8), .ref (u 9), .ref (u 10), .ref (u 11), .ref (u 12), .ref (u 13), .ref (u 14), .ref (u 15), .ref (u 16), .ref (u 17), .ref (u 18)])), ((u 1), .inr (6, [.ref (u 23), .ref (u 24), .ref (u 25), .ref (u 26), .int 0]))] U.heap ∧ va_K (dC, dI) vwCl [(cI, .int), (cB, .byte), (cJ, .long), (cZ, .boolean)] U ∧ ow_Th (fun _ => False) RX11 294 "so many were not found" sa "java/lang/IndexOutOfBoundsException" U)) (va_Qi (fun r (_ : Unit) => r = 1) (fun _ _ => True) (fun _ => False)) (vx_X (fun _ : Unit => False) (fun _ _ _ => True) (fun _ => False)) 1 6 (fun _ => False) := by
  refine vx_ofWH (cc := cL_moved) (maxL := 4) (ret := (some .int)) (hh := [(0, 9, 12, 33), (0, 9, 15, 13)]) (by decide) rfl ?_
  intro p e s m args below meth c s₁ B hml hv
  obtain ⟨rfl, hP, hK, hTh⟩ := hv
  have hx := B.exec
  have hb := B.bytes
  have hr := B.returns
  have hts := atoms_spec (ws := wf_L_moved) B.pre
  have htab := vx_table (x := yL_moved) B (hts _ List.mem_cons_self)
  have hown : s.vm.findClass RL = some m.cls := findClass_of_methodNamed B.named
  have hlocks := B.notSynchronized
  have hS : va_S (fun _ => False) s.heap s.heap [] := va_S.rf
  have hl := lv_entry ([.ref h0, .int p0, .ref qo]) (n := 4) (Nat.le_of_ble_eq_true rfl)
  rw [lg_entry_eq]
  generalize (lg_sl ([.ref h0, .int p0, .ref qo]) ++ List.replicate (4 - (lg_sl ([.ref h0, .int p0, .ref qo])).length) Slot.unset).toArray = ls at hl ⊢
  have hl : lv_has ls 4 [(0, .ref h0), (1, .int p0), (2, .ref qo)] := hl
  refine ow_named (fun QQ hQQ => ?_)
  refine lv_aload_n hx hb dL_moved_0 rfl (lv_at hl 2 rfl) ?_
  refine lv_iconst (v := 0) hx hb dL_moved_1 (by decide) ?_
  refine lv_aload_n hx hb dL_moved_2 rfl (lv_at hl 0 rfl) ?_
  refine lv_iload_n hx hb dL_moved_3 rfl (lv_at hl 1 rfl) ?_
  refine vx_calli (vx_runV (As := [.int p0]) (rest := [.int 0, .ref qo]) ⟨hx, hb, hml, hown, hts⟩ (kf_X11_moved l dC dI cI cB cJ cZ hlt h0 sa u p0) (cwV 1 hts gf_L_moved rfl rfl rfl (by decide +kernel) ⟨(Nat.le_of_ble_eq_true rfl), (Nat.le_of_ble_eq_true rfl)⟩) ⟨fun a U g mk q => by obtain ⟨q0, qP, qK, qT⟩ := q; exact ⟨q0, qP, va_K.moved (u := U) (U := U.calling g mk a) (Vm.Alike.refl U.vm) qK, ow_Th.same (u := U) (U := U.calling g mk a) rfl rfl qT⟩, va_recv hK hP (ci := 14) (q0 := 0) rfl rfl, fun U hU hW => ⟨rfl, by rw [hU]; exact hP, va_K.moved hW.alike hK, ow_Th.to hTh hS hW hU (fun q h => h)⟩⟩ rfl rfl hl.1 rfl (lv_room (Nat.le_of_ble_eq_true rfl)) dL_moved_4 ⟨(Nat.le_of_ble_eq_true rfl), (Nat.le_of_ble_eq_true rfl)⟩) hS (fun q _ h => h.elim) (fun q h => h.elim) (fun q _ h => h.elim) (fun E ce q9 u9 t H1 locs ht hvm hpx hBX hz1 hk1 hS hce hcv hcl => ?_) (fun r9 u9 t H1 locs ht hvm hw hB hz1 hk1 hS => absurd hw (fun h => h))
  subst hBX
  refine vx_catch (name := "java/lang/IndexOutOfBoundsException") hown [] ⟨0, 9, 12, 33⟩ [⟨0, 9, 15, 13⟩] htab (fun z hz => by cases hz) (by decide) (by decide) (hts (.classLink RL 33 "java/lang/IndexOutOfBoundsException") (by decide +kernel)) (va_Nw.use rfl hTh.2.2.2.2.2.2) hce hcv hcl ?_
  refine lv_astore_n (lv' := [(3, .ref q9), (0, .ref h0), (1, .int p0), (2, .ref qo)]) hx hb dL_moved_12 rfl hl (by decide) rfl (fun ls hl => ?_)
  refine lv_iconst (v := 1) hx hb dL_moved_13 (by decide) ?_
  refine W.widen (k := 1) (n := 6) (Nat.le_of_ble_eq_true rfl) (Nat.le_of_ble_eq_true rfl) ?_
  rw [hQQ]
  exact vx_ret (W.iret (v := 1) hx hb hr (fun t ht hW => ⟨⟨1, (), rfl, rfl, trivial⟩, hS.F ht⟩) hS.2.2 dL_moved_14)
theorem dL_summand_0 : decode cL_summand 0 = .ok (.aload_n 2, 1) := by decide +kernel
theorem dL_summand_1 : decode cL_summand 1 = .ok (.iconst 0, 1) := by decide +kernel
theorem dL_summand_2 : decode cL_summand 2 = .ok (.aload_n 0, 1) := by decide +kernel
theorem dL_summand_3 : decode cL_summand 3 = .ok (.iload_n 1, 1) := by decide +kernel
theorem dL_summand_4 : decode cL_summand 4 = .ok (.invokevirtual 78, 3) := by decide +kernel
theorem dL_summand_12 : decode cL_summand 12 = .ok (.astore_n 3, 1) := by decide +kernel
theorem dL_summand_13 : decode cL_summand 13 = .ok (.iconst 1, 1) := by decide +kernel
theorem dL_summand_14 : decode cL_summand 14 = .ok (.ireturn, 1) := by decide +kernel
theorem dL_summand_15 : decode cL_summand 15 = .ok (.astore_n 3, 1) := by decide +kernel
def wf_L_summand : List Cond := .codeWith yL_summand cL_summand 4 (some .int) [(0, 9, 12, 33), (0, 9, 15, 13)] :: (.classLink RL 33 "java/lang/IndexOutOfBoundsException" :: wsV RL 78 RX11 yX11_summand wf_summand)
theorem gf_L_summand : GoodIn wf_L_summand (wsV RL 78 RX11 yX11_summand wf_summand) := goodIn_sub (fun _ h => List.mem_cons_of_mem _ (List.mem_cons_of_mem _ h)) (by decide +kernel)
set_option maxHeartbeats 4000000 in
set_option maxRecDepth 100000 in
theorem kf_L_summand (l : Launch) (dC : Nat → ClassId) (dI : Nat → Nat → Nat) (cI cB cJ cZ : ClassId) (hlt : l.stackTraces = false) (h0 sa qo : Nat) (u : Nat → Nat) (p0 : Int32) : vx_Met l yL_summand wf_L_summand (({ frames := 8, cells := 1, slots := 6, locals := 136 } : Room)) (va_Pc [.ref h0, .int p0, .ref qo] (fun U => va_P (dC, dI) vwCl [(h0, .inr (14, [.ref (u 0), .ref (u 1), .ref (u 2), .ref (u 3), .ref (u 4), .ref (u 5), .ref (u 6), .ref (u 7), .ref (u 8), .ref (u 9), .ref (u 10), .ref (u 11), .ref (u 12), .ref (u 13), .ref (u 14), .ref (u 15), .ref (u 16), .ref (u 17), .ref (u 18)])), ((u 2), .inr (6, [.ref (u 27), .ref (u 28), .ref (u 29), .ref (u 30), .int 0]))] U.heap ∧ va_K (dC, dI) vwCl [(cI, .int), (cB, .byte), (cJ, .long), (cZ, .boolean)] U ∧ ow_Th (fun _ => False) RX11 294 "so many were not found" sa "java/lang/IndexOutOfBoundsException" U)) (va_Qi (fun r (_ : Unit) => r = 1) (fun _ _ => True) (fun _ => False)) (vx_X (fun _ : Unit => False) (fun _ _ _ => True) (fun _ => False)) 1 6 (fun _ => False) := by
  refine vx_ofWH (cc := cL_summand) (maxL := 4) (ret := (some .int)) (hh := [(0, 9, 12, 33), (0, 9, 15, 13)]) (by decide) rfl ?_
  intro p e s m args below meth c s₁ B hml hv
  obtain ⟨rfl, hP, hK, hTh⟩ := hv
  have hx := B.exec
  have hb := B.bytes
  have hr := B.returns
  have hts := atoms_spec (ws := wf_L_summand) B.pre
  have htab := vx_table (x := yL_summand) B (hts _ List.mem_cons_self)
  have hown : s.vm.findClass RL = some m.cls := findClass_of_methodNamed B.named
  have hlocks := B.notSynchronized
  have hS : va_S (fun _ => False) s.heap s.heap [] := va_S.rf
  have hl := lv_entry ([.ref h0, .int p0, .ref qo]) (n := 4) (Nat.le_of_ble_eq_true rfl)
  rw [lg_entry_eq]
  generalize (lg_sl ([.ref h0, .int p0, .ref qo]) ++ List.replicate (4 - (lg_sl ([.ref h0, .int p0, .ref qo])).length) Slot.unset).toArray = ls at hl ⊢
  have hl : lv_has ls 4 [(0, .ref h0), (1, .int p0), (2, .ref qo)] := hl
  refine ow_named (fun QQ hQQ => ?_)
  refine lv_aload_n hx hb dL_summand_0 rfl (lv_at hl 2 rfl) ?_
  refine lv_iconst (v := 0) hx hb dL_summand_1 (by decide) ?_
  refine lv_aload_n hx hb dL_summand_2 rfl (lv_at hl 0 rfl) ?_
  refine lv_iload_n hx hb dL_summand_3 rfl (lv_at hl 1 rfl) ?_
  refine vx_calli (vx_runV (As := [.int p0]) (rest := [.int 0, .ref qo]) ⟨hx, hb, hml, hown, hts⟩ (kf_X11_summand l dC dI cI cB cJ cZ hlt h0 sa u p0) (cwV 1 hts gf_L_summand rfl rfl rfl (by decide +kernel) ⟨(Nat.le_of_ble_eq_true rfl), (Nat.le_of_ble_eq_true rfl)⟩) ⟨fun a U g mk q => by obtain ⟨q0, qP, qK, qT⟩ := q; exact ⟨q0, qP, va_K.moved (u := U) (U := U.calling g mk a) (Vm.Alike.refl U.vm) qK, ow_Th.same (u := U) (U := U.calling g mk a) rfl rfl qT⟩, va_recv hK hP (ci := 14) (q0 := 0) rfl rfl, fun U hU hW => ⟨rfl, by rw [hU]; exact hP, va_K.moved hW.alike hK, ow_Th.to hTh hS hW hU (fun q h => h)⟩⟩ rfl rfl hl.1 rfl (lv_room (Nat.le_of_ble_eq_true rfl)) dL_summand_4 ⟨(Nat.le_of_ble_eq_true rfl), (Nat.le_of_ble_eq_true rfl)⟩) hS (fun q _ h => h.elim) (fun q h => h.elim) (fun q _ h => h.elim) (fun E ce q9 u9 t H1 locs ht hvm hpx hBX hz1 hk1 hS hce hcv hcl => ?_) (fun r9 u9 t H1 locs ht hvm hw hB hz1 hk1 hS => absurd hw (fun h => h))
  subst hBX
  refine vx_catch (name := "java/lang/IndexOutOfBoundsException") hown [] ⟨0, 9, 12, 33⟩ [⟨0, 9, 15, 13⟩] htab (fun z hz => by cases hz) (by decide) (by decide) (hts (.classLink RL 33 "java/lang/IndexOutOfBoundsException") (by decide +kernel)) (va_Nw.use rfl hTh.2.2.2.2.2.2) hce hcv hcl ?_
  refine lv_astore_n (lv' := [(3, .ref q9), (0, .ref h0), (1, .int p0), (2, .ref qo)]) hx hb dL_summand_12 rfl hl (by decide) rfl (fun ls hl => ?_)
  refine lv_iconst (v := 1) hx hb dL_summand_13 (by decide) ?_
  refine W.widen (k := 1) (n := 6) (Nat.le_of_ble_eq_true rfl) (Nat.le_of_ble_eq_true rfl) ?_
  rw [hQQ]
  exact vx_ret (W.iret (v := 1) hx hb hr (fun t ht hW => ⟨⟨1, (), rfl, rfl, trivial⟩, hS.F ht⟩) hS.2.2 dL_summand_14)
