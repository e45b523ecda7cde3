theorem dlL_feed_0 : decode cL_feed 0 = .ok (.aload 6, 2) := by decide +kernel
theorem dlL_feed_2 : decode cL_feed 2 = .ok (.iconst 0, 1) := by decide +kernel
theorem dlL_feed_3 : decode cL_feed 3 = .ok (.aload_n 0, 1) := by decide +kernel
theorem dlL_feed_4 : decode cL_feed 4 = .ok (.iload_n 1, 1) := by decide +kernel
theorem dlL_feed_5 : decode cL_feed 5 = .ok (.iload_n 2, 1) := by decide +kernel
theorem dlL_feed_6 : decode cL_feed 6 = .ok (.iload_n 3, 1) := by decide +kernel
theorem dlL_feed_7 : decode cL_feed 7 = .ok (.iload 4, 2) := by decide +kernel
theorem dlL_feed_9 : decode cL_feed 9 = .ok (.iload 5, 2) := by decide +kernel
theorem dlL_feed_11 : decode cL_feed 11 = .ok (.invokevirtual 7, 3) := by decide +kernel
theorem dlL_feed_14 : decode cL_feed 14 = .ok (.i2l, 1) := by decide +kernel
theorem dlL_feed_15 : decode cL_feed 15 = .ok (.lastore, 1) := by decide +kernel
theorem dlL_feed_16 : decode cL_feed 16 = .ok (.goto 7, 3) := by decide +kernel
theorem dlL_feed_19 : decode cL_feed 19 = .ok (.astore 7, 2) := by decide +kernel
theorem dlL_feed_21 : decode cL_feed 21 = .ok (.iconst 1, 1) := by decide +kernel
theorem dlL_feed_22 : decode cL_feed 22 = .ok (.ireturn, 1) := by decide +kernel
theorem dlL_feed_23 : decode cL_feed 23 = .ok (.iconst 0, 1) := by decide +kernel
theorem dlL_feed_24 : decode cL_feed 24 = .ok (.ireturn, 1) := by decide +kernel
def le_L_feed (vl : Nat → Nat) (K : Nat) (r0 : Nat) (x1 : Int32) (x2 : Int32) (x3 : Int32) (x4 : Int32) (x5 : Int32) (z : ow_MS) : Option (Int32 × ow_MS) :=
 tc1 (ce_X11_feed vl K r0 x1 x2 x3 x4 x5 z) (fun k z => if k = 3 then some (1, z) else none) fun v3 z1 => ctJ (cX vl) z1 52001 0 v3.toInt64 fun z4 => some (0, z4)
abbrev wl_L_feed : List Cond := .codeWith yL_feed cL_feed 8 (some .int) [(0, 16, 19, 13)] :: wLL
set_option maxHeartbeats 4000000 in
set_option maxRecDepth 100000 in
theorem kl_L_feed (l : Launch) (D : va_G) (q : Nat → ClassId) (vl u : Nat → Nat) (hU0 : tw_inj (cX vl) u) (hlt : l.stackTraces = false) (sa : Nat → Nat) (K : Nat) (r0 : Nat) (x1 : Int32) (x2 : Int32) (x3 : Int32) (x4 : Int32) (x5 : Int32) (hr0 : cw_X11 r0) (z z1 : ow_MS) (r : Int32) (hq : le_L_feed vl K r0 x1 x2 x3 x4 x5 z = some (r, z1)) : vx_Met l yL_feed wl_L_feed ({ frames := 7, cells := 1, slots := 6, locals := 115 } : Room) (va_Pc [.ref (u r0), .int x1, .int x2, .int x3, .int x4, .int x5, .ref (u 52001)] (cw_preL D q vl u sa z)) (va_Qi (fun x (_ : Unit) => x = r) (fun _ t => va_P D vwCl (uw (cX vl) q u z1) t.heap) (tw_A (cX vl) u)) (vx_X (fun _ : Unit => False) (fun _ _ _ => True) (tw_A (cX vl) u)) 1 6 (tw_A (cX vl) u) := by
  refine vx_ofWH (cc := cL_feed) (maxL := 8) (ret := (some .int)) (hh := [(0, 16, 19, 13)]) (by decide) rfl ?_
  intro p e s m args below meth c s₁ B hml hv
  obtain ⟨rfl, hP, hK, hTh, hNc⟩ := hv
  have hx := B.exec
  have hb := B.bytes
  have hr := B.returns
  have hts := atoms_spec (ws := wl_L_feed) B.pre
  have htab := vx_table (x := yL_feed) B (hts _ List.mem_cons_self)
  have hT : ∀ w ∈ wC, w.before ([.ref (u r0), .int x1, .int x2, .int x3, .int x4, .int x5, .ref (u 52001)] : List Value).toArray s = true := fun w h => hts w (List.mem_cons_of_mem _ (wLL_C w h))
  have hown : s.vm.findClass RL = some m.cls := findClass_of_methodNamed B.named
  have hlocks := B.notSynchronized
  have hU : uw_inj (cX vl) u (tw_A (cX vl) u) := ⟨hU0, fun h hh => ⟨h, hh, rfl⟩⟩
  have hM : uw_M D vwCl (cX vl) q (tw_A (cX vl) u) s.heap u z s.heap [] := ⟨hP, va_S.rf⟩
  have hl := lv_entry ([.ref (u r0), .int x1, .int x2, .int x3, .int x4, .int x5, .ref (u 52001)]) (n := 8) (Nat.le_of_ble_eq_true rfl)
  rw [lg_entry_eq]
  generalize (lg_sl ([.ref (u r0), .int x1, .int x2, .int x3, .int x4, .int x5, .ref (u 52001)]) ++ List.replicate (8 - (lg_sl ([.ref (u r0), .int x1, .int x2, .int x3, .int x4, .int x5, .ref (u 52001)])).length) Slot.unset).toArray = ls at hl ⊢
  have hl : lv_has ls 8 [(0, .ref (u r0)), (1, .int x1), (2, .int x2), (3, .int x3), (4, .int x4), (5, .int x5), (6, .ref (u 52001))] := hl
  refine ow_named (fun QQ hQQ => ?_)
  generalize ([.ref (u r0), .int x1, .int x2, .int x3, .int x4, .int x5, .ref (u 52001)] : List Value).toArray = args at hts hT hQQ ⊢
  unfold le_L_feed at hq
  suffices key : ∀ (H : Heap) (locs : List Loc), uw_M D vwCl (cX vl) q (tw_A (cX vl) u) s.heap u z H locs → W p l e ({ frames := 7, cells := 1, slots := 6, locals := 115 } : Room) s m args below meth c H locs 0 0 QQ (F0 m 0 ls []) from key s.heap [] hM
  intro H locs hM
  refine lv_aload hx hb dlL_feed_0 (lv_at hl 6 rfl) ?_
  refine lv_iconst (v := 0) hx hb dlL_feed_2 (by decide) ?_
  refine lv_aload_n hx hb dlL_feed_3 rfl (lv_at hl 0 rfl) ?_
  refine lv_iload_n hx hb dlL_feed_4 rfl (lv_at hl 1 rfl) ?_
  refine lv_iload_n hx hb dlL_feed_5 rfl (lv_at hl 2 rfl) ?_
  refine lv_iload_n hx hb dlL_feed_6 rfl (lv_at hl 3 rfl) ?_
  refine lv_iload hx hb dlL_feed_7 (lv_at hl 4 rfl) ?_
  refine lv_iload hx hb dlL_feed_9 (lv_at hl 5 rfl) ?_
  obtain ⟨k2, v3, z1, hcq, hq⟩ := ct_tc1 hq
  refine ct_cali hU hM (vx_runV (As := [.int x1, .int x2, .int x3, .int x4, .int x5]) (rest := [.int 0, .ref (u 52001)]) ⟨hx, hb, hml, hown, hts⟩ (kc_X11_feed l D q vl u hU.1 hlt sa K r0 x1 x2 x3 x4 x5 hr0 z z1 k2 v3 hcq) (cwV 5 hts (tw_gV2 wLL_good wLL_T lq_4 lq_5 lq_6 (wLL_C _ xq_773) (wLL_C _ xq_765)) rfl rfl rfl cdd_X11_feed ⟨(Nat.le_of_ble_eq_true rfl), (Nat.le_of_ble_eq_true rfl)⟩) (ct_preV hK hTh hM (co_X11 hr0) rfl) rfl rfl hl.1 rfl (lv_room (Nat.le_of_ble_eq_true rfl)) dlL_feed_11 ⟨(Nat.le_of_ble_eq_true rfl), (Nat.le_of_ble_eq_true rfl)⟩) (fun E ce q9 H locs hk hE hM hce hcv hcl => ?_) (fun H locs hk hM => ?_)
  · have hq := tw_if hq hk
    by_cases hk3 : k2 = 3
    · have hq := tw_it hq hk3
      rw [hk3] at hE
      subst hE
      refine vx_catch (name := thN 3) hown [] ⟨0, 16, 19, 13⟩ [] htab (fun w hw => by cases hw) (by decide) (by decide) (hts _ (List.mem_cons_of_mem _ lq_2)) (va_Nw.use rfl (hTh _ (List.mem_of_getElem? (i := 0) rfl)).2.2.2.2.2.2) hce hcv hcl ?_
      refine lv_astore (lv' := [(7, .ref q9), (0, .ref (u r0)), (1, .int x1), (2, .int x2), (3, .int x3), (4, .int x4), (5, .int x5), (6, .ref (u 52001))]) hx hb dlL_feed_19 hl (by decide) rfl (fun ls hl => ?_)
      refine lv_iconst (v := 1) hx hb dlL_feed_21 (by decide) ?_
      exact ll_iret hx hb hr hlocks hM hq hQQ (Nat.le_of_ble_eq_true rfl) (Nat.le_of_ble_eq_true rfl) dlL_feed_22
    · have hq := tw_if hq hk3
      exact cw_no hq
  · have hq := tw_it hq hk
    refine lv_i2l hx hb dlL_feed_14 rfl ?_
    refine uw_last cX_ok hU hx hb hK hM cr_out hq dlL_feed_15 (fun z4 H locs hM hq => ?_)
    refine lv_goto (tgt := 23) hx hb dlL_feed_16 (by decide) ?_
    refine lv_iconst (v := 0) hx hb dlL_feed_23 (by decide) ?_
    exact ll_iret hx hb hr hlocks hM hq hQQ (Nat.le_of_ble_eq_true rfl) (Nat.le_of_ble_eq_true rfl) dlL_feed_24
theorem dlL_end_0 : decode cL_end 0 = .ok (.aload_n 0, 1) := by decide +kernel
theorem dlL_end_1 : decode cL_end 1 = .ok (.iload_n 1, 1) := by decide +kernel
theorem dlL_end_2 : decode cL_end 2 = .ok (.invokevirtual 15, 3) := by decide +kernel
theorem dlL_end_5 : decode cL_end 5 = .ok (.goto 6, 3) := by decide +kernel
theorem dlL_end_8 : decode cL_end 8 = .ok (.astore_n 2, 1) := by decide +kernel
theorem dlL_end_9 : decode cL_end 9 = .ok (.iconst 1, 1) := by decide +kernel
theorem dlL_end_10 : decode cL_end 10 = .ok (.ireturn, 1) := by decide +kernel
theorem dlL_end_11 : decode cL_end 11 = .ok (.iconst 0, 1) := by decide +kernel
theorem dlL_end_12 : decode cL_end 12 = .ok (.ireturn, 1) := by decide +kernel
def le_L_end (vl : Nat → Nat) (K : Nat) (r0 : Nat) (x1 : Int32) (z : ow_MS) : Option (Int32 × ow_MS) :=
 tc0 (ce_X11_end vl K r0 x1 z) (fun k z => if k = 2 then some (1, z) else none) fun z1 => some (0, z1)
abbrev wl_L_end : List Cond := .codeWith yL_end cL_end 3 (some .int) [(0, 5, 8, 19)] :: wLL
set_option maxHeartbeats 4000000 in
set_option maxRecDepth 100000 in
theorem kl_L_end (l : Launch) (D : va_G) (q : Nat → ClassId) (vl u : Nat → Nat) (hU0 : tw_inj (cX vl) u) (hlt : l.stackTraces = false) (sa : Nat → Nat) (K : Nat) (r0 : Nat) (x1 : Int32) (hr0 : cw_X11 r0) (z z1 : ow_MS) (r : Int32) (hq : le_L_end vl K r0 x1 z = some (r, z1)) : vx_Met l yL_end wl_L_end ({ frames := 7, cells := 1, slots := 6, locals := 111 } : Room) (va_Pc [.ref (u r0), .int x1] (cw_preL D q vl u sa z)) (va_Qi (fun x (_ : Unit) => x = r) (fun _ t => va_P D vwCl (uw (cX vl) q u z1) t.heap) (tw_A (cX vl) u)) (vx_X (fun _ : Unit => False) (fun _ _ _ => True) (tw_A (cX vl) u)) 1 6 (tw_A (cX vl) u) := by
  refine vx_ofWH (cc := cL_end) (maxL := 3) (ret := (some .int)) (hh := [(0, 5, 8, 19)]) (by decide) rfl ?_
  intro p e s m args below meth c s₁ B hml hv
  obtain ⟨rfl, hP, hK, hTh, hNc⟩ := hv
  have hx := B.exec
  have hb := B.bytes
  have hr := B.returns
  have hts := atoms_spec (ws := wl_L_end) B.pre
  have htab := vx_table (x := yL_end) B (hts _ List.mem_cons_self)
  have hT : ∀ w ∈ wC, w.before ([.ref (u r0), .int x1] : List Value).toArray s = true := fun w h => hts w (List.mem_cons_of_mem _ (wLL_C w h))
  have hown : s.vm.findClass RL = some m.cls := findClass_of_methodNamed B.named
  have hlocks := B.notSynchronized
  have hU : uw_inj (cX vl) u (tw_A (cX vl) u) := ⟨hU0, fun h hh => ⟨h, hh, rfl⟩⟩
  have hM : uw_M D vwCl (cX vl) q (tw_A (cX vl) u) s.heap u z s.heap [] := ⟨hP, va_S.rf⟩
  have hl := lv_entry ([.ref (u r0), .int x1]) (n := 3) (Nat.le_of_ble_eq_true rfl)
  rw [lg_entry_eq]
  generalize (lg_sl ([.ref (u r0), .int x1]) ++ List.replicate (3 - (lg_sl ([.ref (u r0), .int x1])).length) Slot.unset).toArray = ls at hl ⊢
  have hl : lv_has ls 3 [(0, .ref (u r0)), (1, .int x1)] := hl
  refine ow_named (fun QQ hQQ => ?_)
  generalize ([.ref (u r0), .int x1] : List Value).toArray = args at hts hT hQQ ⊢
  unfold le_L_end at hq
  suffices key : ∀ (H : Heap) (locs : List Loc), uw_M D vwCl (cX vl) q (tw_A (cX vl) u) s.heap u z H locs → W p l e ({ frames := 7, cells := 1, slots := 6, locals := 111 } : Room) s m args below meth c H locs 0 0 QQ (F0 m 0 ls []) from key s.heap [] hM
  intro H locs hM
  refine lv_aload_n hx hb dlL_end_0 rfl (lv_at hl 0 rfl) ?_
  refine lv_iload_n hx hb dlL_end_1 rfl (lv_at hl 1 rfl) ?_
  obtain ⟨k2, z1, hcq, hq⟩ := ct_tc0 hq
  refine ct_calv hU hM (vx_runV (As := [.int x1]) (rest := []) ⟨hx, hb, hml, hown, hts⟩ (kc_X11_end l D q vl u hU.1 hlt sa K r0 x1 hr0 z z1 k2 hcq) (cwV 1 hts (tw_gV2 wLL_good wLL_T lq_7 lq_8 lq_9 (wLL_C _ xq_773) (wLL_C _ xq_767)) rfl rfl rfl cdd_X11_end ⟨(Nat.le_of_ble_eq_true rfl), (Nat.le_of_ble_eq_true rfl)⟩) (ct_preV hK hTh hM (co_X11 hr0) rfl) rfl rfl hl.1 rfl (lv_room (Nat.le_of_ble_eq_true rfl)) dlL_end_2 ⟨(Nat.le_of_ble_eq_true rfl), (Nat.le_of_ble_eq_true rfl)⟩) (fun E ce q9 H locs hk hE hM hce hcv hcl => ?_) (fun H locs hk hM => ?_)
  · have hq := tw_if hq hk
    by_cases hk2 : k2 = 2
    · have hq := tw_it hq hk2
      rw [hk2] at hE
      subst hE
      refine vx_catch (name := thN 2) hown [] ⟨0, 5, 8, 19⟩ [] htab (fun w hw => by cases hw) (by decide) (by decide) (hts _ (List.mem_cons_of_mem _ lq_1)) (va_Nw.use rfl (hTh _ (List.mem_of_getElem? (i := 1) rfl)).2.2.2.2.2.2) hce hcv hcl ?_
      refine lv_astore_n (lv' := [(2, .ref q9), (0, .ref (u r0)), (1, .int x1)]) hx hb dlL_end_8 rfl hl (by decide) rfl (fun ls hl => ?_)
      refine lv_iconst (v := 1) hx hb dlL_end_9 (by decide) ?_
      exact ll_iret hx hb hr hlocks hM hq hQQ (Nat.le_of_ble_eq_true rfl) (Nat.le_of_ble_eq_true rfl) dlL_end_10
    · have hq := tw_if hq hk2
      exact cw_no hq
  · have hq := tw_it hq hk
    refine lv_goto (tgt := 11) hx hb dlL_end_5 (by decide) ?_
    refine lv_iconst (v := 0) hx hb dlL_end_11 (by decide) ?_
    exact ll_iret hx hb hr hlocks hM hq hQQ (Nat.le_of_ble_eq_true rfl) (Nat.le_of_ble_eq_true rfl) dlL_end_12
theorem dlL_diagram_0 : decode cL_diagram 0 = .ok (.aload_n 1, 1) := by decide +kernel
theorem dlL_diagram_1 : decode cL_diagram 1 = .ok (.iconst 0, 1) := by decide +kernel
theorem dlL_diagram_2 : decode cL_diagram 2 = .ok (.aload_n 0, 1) := by decide +kernel
theorem dlL_diagram_3 : decode cL_diagram 3 = .ok (.invokevirtual 21, 3) := by decide +kernel
theorem dlL_diagram_6 : decode cL_diagram 6 = .ok (.i2l, 1) := by decide +kernel
theorem dlL_diagram_7 : decode cL_diagram 7 = .ok (.lastore, 1) := by decide +kernel
theorem dlL_diagram_8 : decode cL_diagram 8 = .ok (.goto 6, 3) := by decide +kernel
theorem dlL_diagram_11 : decode cL_diagram 11 = .ok (.astore_n 2, 1) := by decide +kernel
theorem dlL_diagram_12 : decode cL_diagram 12 = .ok (.iconst 1, 1) := by decide +kernel
theorem dlL_diagram_13 : decode cL_diagram 13 = .ok (.ireturn, 1) := by decide +kernel
theorem dlL_diagram_14 : decode cL_diagram 14 = .ok (.iconst 0, 1) := by decide +kernel
theorem dlL_diagram_15 : decode cL_diagram 15 = .ok (.ireturn, 1) := by decide +kernel
def le_L_diagram (vl : Nat → Nat) (K : Nat) (r0 : Nat)  (z : ow_MS) : Option (Int32 × ow_MS) :=
 tc1 (ce_X11_diagram vl K r0 z) (fun k z => if k = 3 then some (1, z) else none) fun v3 z1 => ctJ (cX vl) z1 52001 0 v3.toInt64 fun z4 => some (0, z4)
abbrev wl_L_diagram : List Cond := .codeWith yL_diagram cL_diagram 3 (some .int) [(0, 8, 11, 13)] :: wLL
set_option maxHeartbeats 4000000 in
set_option maxRecDepth 100000 in
theorem kl_L_diagram (l : Launch) (D : va_G) (q : Nat → ClassId) (vl u : Nat → Nat) (hU0 : tw_inj (cX vl) u) (hlt : l.stackTraces = false) (sa : Nat → Nat) (K : Nat) (r0 : Nat)  (hr0 : cw_X11 r0) (z z1 : ow_MS) (r : Int32) (hq : le_L_diagram vl K r0  z = some (r, z1)) : vx_Met l yL_diagram wl_L_diagram ({ frames := 8, cells := 1, slots := 6, locals := 198 } : Room) (va_Pc [.ref (u r0), .ref (u 52001)] (cw_preL D q vl u sa z)) (va_Qi (fun x (_ : Unit) => x = r) (fun _ t => va_P D vwCl (uw (cX vl) q u z1) t.heap) (tw_A (cX vl) u)) (vx_X (fun _ : Unit => False) (fun _ _ _ => True) (tw_A (cX vl) u)) 1 6 (tw_A (cX vl) u) := by
  refine vx_ofWH (cc := cL_diagram) (maxL := 3) (ret := (some .int)) (hh := [(0, 8, 11, 13)]) (by decide) rfl ?_
  intro p e s m args below meth c s₁ B hml hv
  obtain ⟨rfl, hP, hK, hTh, hNc⟩ := hv
  have hx := B.exec
  have hb := B.bytes
  have hr := B.returns
  have hts := atoms_spec (ws := wl_L_diagram) B.pre
  have htab := vx_table (x := yL_diagram) B (hts _ List.mem_cons_self)
  have hT : ∀ w ∈ wC, w.before ([.ref (u r0), .ref (u 52001)] : List Value).toArray s = true := fun w h => hts w (List.mem_cons_of_mem _ (wLL_C w h))
  have hown : s.vm.findClass RL = some m.cls := findClass_of_methodNamed B.named
  have hlocks := B.notSynchronized
  have hU : uw_inj (cX vl) u (tw_A (cX vl) u) := ⟨hU0, fun h hh => ⟨h, hh, rfl⟩⟩
  have hM : uw_M D vwCl (cX vl) q (tw_A (cX vl) u) s.heap u z s.heap [] := ⟨hP, va_S.rf⟩
  have hl := lv_entry ([.ref (u r0), .ref (u 52001)]) (n := 3) (Nat.le_of_ble_eq_true rfl)
  rw [lg_entry_eq]
  generalize (lg_sl ([.ref (u r0), .ref (u 52001)]) ++ List.replicate (3 - (lg_sl ([.ref (u r0), .ref (u 52001)])).length) Slot.unset).toArray = ls at hl ⊢
  have hl : lv_has ls 3 [(0, .ref (u r0)), (1, .ref (u 52001))] := hl
  refine ow_named (fun QQ hQQ => ?_)
  generalize ([.ref (u r0), .ref (u 52001)] : List Value).toArray = args at hts hT hQQ ⊢
  unfold le_L_diagram at hq
  suffices key : ∀ (H : Heap) (locs : List Loc), uw_M D vwCl (cX vl) q (tw_A (cX vl) u) s.heap u z H locs → W p l e ({ frames := 8, cells := 1, slots := 6, locals := 198 } : Room) s m args below meth c H locs 0 0 QQ (F0 m 0 ls []) from key s.heap [] hM
  intro H locs hM
  refine lv_aload_n hx hb dlL_diagram_0 rfl (lv_at hl 1 rfl) ?_
  refine lv_iconst (v := 0) hx hb dlL_diagram_1 (by decide) ?_
  refine lv_aload_n hx hb dlL_diagram_2 rfl (lv_at hl 0 rfl) ?_
  obtain ⟨k2, v3, z1, hcq, hq⟩ := ct_tc1 hq
  refine ct_cali hU hM (vx_runV (As := []) (rest := [.int 0, .ref (u 52001)]) ⟨hx, hb, hml, hown, hts⟩ (kc_X11_diagram l D q vl u hU.1 hlt sa K r0 hr0 z z1 k2 v3 hcq) (cwV 0 hts (tw_gV2 wLL_good wLL_T lq_10 lq_11 lq_12 (wLL_C _ xq_773) (wLL_C _ xq_789)) rfl rfl rfl cdd_X11_diagram ⟨(Nat.le_of_ble_eq_true rfl), (Nat.le_of_ble_eq_true rfl)⟩) (ct_preV hK hTh hM (co_X11 hr0) rfl) rfl rfl hl.1 rfl (lv_room (Nat.le_of_ble_eq_true rfl)) dlL_diagram_3 ⟨(Nat.le_of_ble_eq_true rfl), (Nat.le_of_ble_eq_true rfl)⟩) (fun E ce q9 H locs hk hE hM hce hcv hcl => ?_) (fun H locs hk hM => ?_)
  · have hq := tw_if hq hk
    by_cases hk3 : k2 = 3
    · have hq := tw_it hq hk3
      rw [hk3] at hE
      subst hE
      refine vx_catch (name := thN 3) hown [] ⟨0, 8, 11, 13⟩ [] htab (fun w hw => by cases hw) (by decide) (by decide) (hts _ (List.mem_cons_of_mem _ lq_2)) (va_Nw.use rfl (hTh _ (List.mem_of_getElem? (i := 0) rfl)).2.2.2.2.2.2) hce hcv hcl ?_
      refine lv_astore_n (lv' := [(2, .ref q9), (0, .ref (u r0)), (1, .ref (u 52001))]) hx hb dlL_diagram_11 rfl hl (by decide) rfl (fun ls hl => ?_)
      refine lv_iconst (v := 1) hx hb dlL_diagram_12 (by decide) ?_
      exact ll_iret hx hb hr hlocks hM hq hQQ (Nat.le_of_ble_eq_true rfl) (Nat.le_of_ble_eq_true rfl) dlL_diagram_13
    · have hq := tw_if hq hk3
      exact cw_no hq
  · have hq := tw_it hq hk
    refine lv_i2l hx hb dlL_diagram_6 rfl ?_
    refine uw_last cX_ok hU hx hb hK hM cr_out hq dlL_diagram_7 (fun z4 H locs hM hq => ?_)
    refine lv_goto (tgt := 14) hx hb dlL_diagram_8 (by decide) ?_
    refine lv_iconst (v := 0) hx hb dlL_diagram_14 (by decide) ?_
    exact ll_iret hx hb hr hlocks hM hq hQQ (Nat.le_of_ble_eq_true rfl) (Nat.le_of_ble_eq_true rfl) dlL_diagram_15
theorem dlL_braid_0 : decode cL_braid 0 = .ok (.aload_n 2, 1) := by decide +kernel
theorem dlL_braid_1 : decode cL_braid 1 = .ok (.iconst 0, 1) := by decide +kernel
theorem dlL_braid_2 : decode cL_braid 2 = .ok (.aload_n 0, 1) := by decide +kernel
theorem dlL_braid_3 : decode cL_braid 3 = .ok (.iload_n 1, 1) := by decide +kernel
theorem dlL_braid_4 : decode cL_braid 4 = .ok (.invokevirtual 25, 3) := by decide +kernel
theorem dlL_braid_7 : decode cL_braid 7 = .ok (.i2l, 1) := by decide +kernel
theorem dlL_braid_8 : decode cL_braid 8 = .ok (.lastore, 1) := by decide +kernel
theorem dlL_braid_9 : decode cL_braid 9 = .ok (.goto 9, 3) := by decide +kernel
theorem dlL_braid_12 : decode cL_braid 12 = .ok (.astore_n 3, 1) := by decide +kernel
theorem dlL_braid_13 : decode cL_braid 13 = .ok (.iconst 1, 1) := by decide +kernel
theorem dlL_braid_14 : decode cL_braid 14 = .ok (.ireturn, 1) := by decide +kernel
theorem dlL_braid_15 : decode cL_braid 15 = .ok (.astore_n 3, 1) := by decide +kernel
theorem dlL_braid_16 : decode cL_braid 16 = .ok (.iconst 2, 1) := by decide +kernel
theorem dlL_braid_17 : decode cL_braid 17 = .ok (.ireturn, 1) := by decide +kernel
theorem dlL_braid_18 : decode cL_braid 18 = .ok (.iconst 0, 1) := by decide +kernel
theorem dlL_braid_19 : decode cL_braid 19 = .ok (.ireturn, 1) := by decide +kernel
def le_L_braid (vl : Nat → Nat) (K : Nat) (r0 : Nat) (x1 : Int32) (z : ow_MS) : Option (Int32 × ow_MS) :=
 tc1 (ce_X11_braid vl K r0 x1 z) (fun k z => if k = 2 then some (1, z) else if k = 3 then some (2, z) else none) fun v3 z1 => ctJ (cX vl) z1 52001 0 v3.toInt64 fun z4 => some (0, z4)
abbrev wl_L_braid : List Cond := .codeWith yL_braid cL_braid 4 (some .int) [(0, 9, 12, 19), (0, 9, 15, 13)] :: wLL
set_option maxHeartbeats 4000000 in
set_option maxRecDepth 100000 in
theorem kl_L_braid (l : Launch) (D : va_G) (q : Nat → ClassId) (vl u : Nat → Nat) (hU0 : tw_inj (cX vl) u) (hlt : l.stackTraces = false) (sa : Nat → Nat) (K : Nat) (r0 : Nat) (x1 : Int32) (hr0 : cw_X11 r0) (z z1 : ow_MS) (r : Int32) (hq : le_L_braid vl K r0 x1 z = some (r, z1)) : vx_Met l yL_braid wl_L_braid ({ frames := 8, cells := 2, slots := 12, locals := 135 } : Room) (va_Pc [.ref (u r0), .int x1, .ref (u 52001)] (cw_preL D q vl u sa z)) (va_Qi (fun x (_ : Unit) => x = r) (fun _ t => va_P D vwCl (uw (cX vl) q u z1) t.heap) (tw_A (cX vl) u)) (vx_X (fun _ : Unit => False) (fun _ _ _ => True) (tw_A (cX vl) u)) 2 12 (tw_A (cX vl) u) := by
  refine vx_ofWH (cc := cL_braid) (maxL := 4) (ret := (some .int)) (hh := [(0, 9, 12, 19), (0, 9, 15, 13)]) (by decide) rfl ?_
  intro p e s m args below meth c s₁ B hml hv
  obtain ⟨rfl, hP, hK, hTh, hNc⟩ := hv
  have hx := B.exec
  have hb := B.bytes
  have hr := B.returns
  have hts := atoms_spec (ws := wl_L_braid) B.pre
  have htab := vx_table (x := yL_braid) B (hts _ List.mem_cons_self)
  have hT : ∀ w ∈ wC, w.before ([.ref (u r0), .int x1, .ref (u 52001)] : List Value).toArray s = true := fun w h => hts w (List.mem_cons_of_mem _ (wLL_C w h))
  have hown : s.vm.findClass RL = some m.cls := findClass_of_methodNamed B.named
  have hlocks := B.notSynchronized
  have hU : uw_inj (cX vl) u (tw_A (cX vl) u) := ⟨hU0, fun h hh => ⟨h, hh, rfl⟩⟩
  have hM : uw_M D vwCl (cX vl) q (tw_A (cX vl) u) s.heap u z s.heap [] := ⟨hP, va_S.rf⟩
  have hl := lv_entry ([.ref (u r0), .int x1, .ref (u 52001)]) (n := 4) (Nat.le_of_ble_eq_true rfl)
  rw [lg_entry_eq]
  generalize (lg_sl ([.ref (u r0), .int x1, .ref (u 52001)]) ++ List.replicate (4 - (lg_sl ([.ref (u r0), .int x1, .ref (u 52001)])).length) Slot.unset).toArray = ls at hl ⊢
  have hl : lv_has ls 4 [(0, .ref (u r0)), (1, .int x1), (2, .ref (u 52001))] := hl
  refine ow_named (fun QQ hQQ => ?_)
  generalize ([.ref (u r0), .int x1, .ref (u 52001)] : List Value).toArray = args at hts hT hQQ ⊢
  unfold le_L_braid at hq
  suffices key : ∀ (H : Heap) (locs : List Loc), uw_M D vwCl (cX vl) q (tw_A (cX vl) u) s.heap u z H locs → W p l e ({ frames := 8, cells := 2, slots := 12, locals := 135 } : Room) s m args below meth c H locs 0 0 QQ (F0 m 0 ls []) from key s.heap [] hM
  intro H locs hM
  refine lv_aload_n hx hb dlL_braid_0 rfl (lv_at hl 2 rfl) ?_
  refine lv_iconst (v := 0) hx hb dlL_braid_1 (by decide) ?_
  refine lv_aload_n hx hb dlL_braid_2 rfl (lv_at hl 0 rfl) ?_
  refine lv_iload_n hx hb dlL_braid_3 rfl (lv_at hl 1 rfl) ?_
  obtain ⟨k2, v3, z1, hcq, hq⟩ := ct_tc1 hq
  refine ct_cali hU hM (vx_runV (As := [.int x1]) (rest := [.int 0, .ref (u 52001)]) ⟨hx, hb, hml, hown, hts⟩ (kc_X11_braid l D q vl u hU.1 hlt sa K r0 x1 hr0 z z1 k2 v3 hcq) (cwV 1 hts (tw_gV2 wLL_good wLL_T lq_13 lq_14 lq_15 (wLL_C _ xq_773) (wLL_C _ xq_800)) rfl rfl rfl cdd_X11_braid ⟨(Nat.le_of_ble_eq_true rfl), (Nat.le_of_ble_eq_true rfl)⟩) (ct_preV hK hTh hM (co_X11 hr0) rfl) rfl rfl hl.1 rfl (lv_room (Nat.le_of_ble_eq_true rfl)) dlL_braid_4 ⟨(Nat.le_of_ble_eq_true rfl), (Nat.le_of_ble_eq_true rfl)⟩) (fun E ce q9 H locs hk hE hM hce hcv hcl => ?_) (fun H locs hk hM => ?_)
  · have hq := tw_if hq hk
    by_cases hk2 : k2 = 2
    · have hq := tw_it hq hk2
      rw [hk2] at hE
      subst hE
      refine vx_catch (name := thN 2) hown [] ⟨0, 9, 12, 19⟩ [⟨0, 9, 15, 13⟩] htab (fun w hw => by cases hw) (by decide) (by decide) (hts _ (List.mem_cons_of_mem _ lq_1)) (va_Nw.use rfl (hTh _ (List.mem_of_getElem? (i := 1) rfl)).2.2.2.2.2.2) hce hcv hcl ?_
      refine lv_astore_n (lv' := [(3, .ref q9), (0, .ref (u r0)), (1, .int x1), (2, .ref (u 52001))]) hx hb dlL_braid_12 rfl hl (by decide) rfl (fun ls hl => ?_)
      refine lv_iconst (v := 1) hx hb dlL_braid_13 (by decide) ?_
      exact ll_iret hx hb hr hlocks hM hq hQQ (Nat.le_of_ble_eq_true rfl) (Nat.le_of_ble_eq_true rfl) dlL_braid_14
    · have hq := tw_if hq hk2
      by_cases hk3 : k2 = 3
      · have hq := tw_it hq hk3
        rw [hk3] at hE
        subst hE
        refine vx_catch (name := thN 3) hown [⟨0, 9, 12, 19⟩] ⟨0, 9, 15, 13⟩ [] htab (fun w hw => by
          simp only [List.mem_cons, List.not_mem_nil, or_false] at hw
          rcases hw with rfl
          · exact Or.inr ⟨by decide, thN 2, hts _ (List.mem_cons_of_mem _ lq_1), hNc 3 2 (by decide) (by decide) (by decide)⟩) (by decide) (by decide) (hts _ (List.mem_cons_of_mem _ lq_2)) (va_Nw.use rfl (hTh _ (List.mem_of_getElem? (i := 0) rfl)).2.2.2.2.2.2) hce hcv hcl ?_
        refine lv_astore_n (lv' := [(3, .ref q9), (0, .ref (u r0)), (1, .int x1), (2, .ref (u 52001))]) hx hb dlL_braid_15 rfl hl (by decide) rfl (fun ls hl => ?_)
        refine lv_iconst (v := 2) hx hb dlL_braid_16 (by decide) ?_
        exact ll_iret hx hb hr hlocks hM hq hQQ (Nat.le_of_ble_eq_true rfl) (Nat.le_of_ble_eq_true rfl) dlL_braid_17
      · have hq := tw_if hq hk3
        exact cw_no hq
  · have hq := tw_it hq hk
    refine lv_i2l hx hb dlL_braid_7 rfl ?_
    refine uw_last cX_ok hU hx hb hK hM cr_out hq dlL_braid_8 (fun z4 H locs hM hq => ?_)
    refine lv_goto (tgt := 18) hx hb dlL_braid_9 (by decide) ?_
    refine lv_iconst (v := 0) hx hb dlL_braid_18 (by decide) ?_
    exact ll_iret hx hb hr hlocks hM hq hQQ (Nat.le_of_ble_eq_true rfl) (Nat.le_of_ble_eq_true rfl) dlL_braid_19
theorem dlL_figure_0 : decode cL_figure 0 = .ok (.aload_n 3, 1) := by decide +kernel
theorem dlL_figure_1 : decode cL_figure 1 = .ok (.iconst 0, 1) := by decide +kernel
theorem dlL_figure_2 : decode cL_figure 2 = .ok (.aload_n 0, 1) := by decide +kernel
theorem dlL_figure_3 : decode cL_figure 3 = .ok (.iload_n 1, 1) := by decide +kernel
theorem dlL_figure_4 : decode cL_figure 4 = .ok (.iload_n 2, 1) := by decide +kernel
theorem dlL_figure_5 : decode cL_figure 5 = .ok (.invokevirtual 29, 3) := by decide +kernel
theorem dlL_figure_8 : decode cL_figure 8 = .ok (.i2l, 1) := by decide +kernel
theorem dlL_figure_9 : decode cL_figure 9 = .ok (.lastore, 1) := by decide +kernel
theorem dlL_figure_10 : decode cL_figure 10 = .ok (.goto 11, 3) := by decide +kernel
theorem dlL_figure_13 : decode cL_figure 13 = .ok (.astore 4, 2) := by decide +kernel
theorem dlL_figure_15 : decode cL_figure 15 = .ok (.iconst 1, 1) := by decide +kernel
theorem dlL_figure_16 : decode cL_figure 16 = .ok (.ireturn, 1) := by decide +kernel
theorem dlL_figure_17 : decode cL_figure 17 = .ok (.astore 4, 2) := by decide +kernel
theorem dlL_figure_19 : decode cL_figure 19 = .ok (.iconst 2, 1) := by decide +kernel
theorem dlL_figure_20 : decode cL_figure 20 = .ok (.ireturn, 1) := by decide +kernel
theorem dlL_figure_21 : decode cL_figure 21 = .ok (.iconst 0, 1) := by decide +kernel
theorem dlL_figure_22 : decode cL_figure 22 = .ok (.ireturn, 1) := by decide +kernel
def le_L_figure (vl : Nat → Nat) (K : Nat) (r0 : Nat) (x1 : Int32) (x2 : Int32) (z : ow_MS) : Option (Int32 × ow_MS) :=
 tc1 (ce_X11_figure vl K r0 x1 x2 z) (fun k z => if k = 1 then some (1, z) else if k = 2 then some (2, z) else none) fun v3 z1 => ctJ (cX vl) z1 52001 0 v3.toInt64 fun z4 => some (0, z4)
abbrev wl_L_figure : List Cond := .codeWith yL_figure cL_figure 5 (some .int) [(0, 10, 13, 33), (0, 10, 17, 19)] :: wLL
set_option maxHeartbeats 4000000 in
set_option maxRecDepth 100000 in
theorem kl_L_figure (l : Launch) (D : va_G) (q : Nat → ClassId) (vl u : Nat → Nat) (hU0 : tw_inj (cX vl) u) (hlt : l.stackTraces = false) (sa : Nat → Nat) (K : Nat) (r0 : Nat) (x1 : Int32) (x2 : Int32) (hr0 : cw_X11 r0) (z z1 : ow_MS) (r : Int32) (hq : le_L_figure vl K r0 x1 x2 z = some (r, z1)) : vx_Met l yL_figure wl_L_figure ({ frames := 8, cells := 2, slots := 12, locals := 133 } : Room) (va_Pc [.ref (u r0), .int x1, .int x2, .ref (u 52001)] (cw_preL D q vl u sa z)) (va_Qi (fun x (_ : Unit) => x = r) (fun _ t => va_P D vwCl (uw (cX vl) q u z1) t.heap) (tw_A (cX vl) u)) (vx_X (fun _ : Unit => False) (fun _ _ _ => True) (tw_A (cX vl) u)) 2 12 (tw_A (cX vl) u) := by
  refine vx_ofWH (cc := cL_figure) (maxL := 5) (ret := (some .int)) (hh := [(0, 10, 13, 33), (0, 10, 17, 19)]) (by decide) rfl ?_
  intro p e s m args below meth c s₁ B hml hv
  obtain ⟨rfl, hP, hK, hTh, hNc⟩ := hv
  have hx := B.exec
  have hb := B.bytes
  have hr := B.returns
  have hts := atoms_spec (ws := wl_L_figure) B.pre
  have htab := vx_table (x := yL_figure) B (hts _ List.mem_cons_self)
  have hT : ∀ w ∈ wC, w.before ([.ref (u r0), .int x1, .int x2, .ref (u 52001)] : List Value).toArray s = true := fun w h => hts w (List.mem_cons_of_mem _ (wLL_C w h))
  have hown : s.vm.findClass RL = some m.cls := findClass_of_methodNamed B.named
  have hlocks := B.notSynchronized
  have hU : uw_inj (cX vl) u (tw_A (cX vl) u) := ⟨hU0, fun h hh => ⟨h, hh, rfl⟩⟩
  have hM : uw_M D vwCl (cX vl) q (tw_A (cX vl) u) s.heap u z s.heap [] := ⟨hP, va_S.rf⟩
  have hl := lv_entry ([.ref (u r0), .int x1, .int x2, .ref (u 52001)]) (n := 5) (Nat.le_of_ble_eq_true rfl)
  rw [lg_entry_eq]
  generalize (lg_sl ([.ref (u r0), .int x1, .int x2, .ref (u 52001)]) ++ List.replicate (5 - (lg_sl ([.ref (u r0), .int x1, .int x2, .ref (u 52001)])).length) Slot.unset).toArray = ls at hl ⊢
  have hl : lv_has ls 5 [(0, .ref (u r0)), (1, .int x1), (2, .int x2), (3, .ref (u 52001))] := hl
  refine ow_named (fun QQ hQQ => ?_)
  generalize ([.ref (u r0), .int x1, .int x2, .ref (u 52001)] : List Value).toArray = args at hts hT hQQ ⊢
  unfold le_L_figure at hq
  suffices key : ∀ (H : Heap) (locs : List Loc), uw_M D vwCl (cX vl) q (tw_A (cX vl) u) s.heap u z H locs → W p l e ({ frames := 8, cells := 2, slots := 12, locals := 133 } : Room) s m args below meth c H locs 0 0 QQ (F0 m 0 ls []) from key s.heap [] hM
  intro H locs hM
  refine lv_aload_n hx hb dlL_figure_0 rfl (lv_at hl 3 rfl) ?_
  refine lv_iconst (v := 0) hx hb dlL_figure_1 (by decide) ?_
  refine lv_aload_n hx hb dlL_figure_2 rfl (lv_at hl 0 rfl) ?_
  refine lv_iload_n hx hb dlL_figure_3 rfl (lv_at hl 1 rfl) ?_
  refine lv_iload_n hx hb dlL_figure_4 rfl (lv_at hl 2 rfl) ?_
  obtain ⟨k2, v3, z1, hcq, hq⟩ := ct_tc1 hq
  refine ct_cali hU hM (vx_runV (As := [.int x1, .int x2]) (rest := [.int 0, .ref (u 52001)]) ⟨hx, hb, hml, hown, hts⟩ (kc_X11_figure l D q vl u hU.1 hlt sa K r0 x1 x2 hr0 z z1 k2 v3 hcq) (cwV 2 hts (tw_gV2 wLL_good wLL_T lq_16 lq_17 lq_18 (wLL_C _ xq_773) (wLL_C _ xq_827)) rfl rfl rfl cdd_X11_figure ⟨(Nat.le_of_ble_eq_true rfl), (Nat.le_of_ble_eq_true rfl)⟩) (ct_preV hK hTh hM (co_X11 hr0) rfl) rfl rfl hl.1 rfl (lv_room (Nat.le_of_ble_eq_true rfl)) dlL_figure_5 ⟨(Nat.le_of_ble_eq_true rfl), (Nat.le_of_ble_eq_true rfl)⟩) (fun E ce q9 H locs hk hE hM hce hcv hcl => ?_) (fun H locs hk hM => ?_)
  · have hq := tw_if hq hk
    by_cases hk1 : k2 = 1
    · have hq := tw_it hq hk1
      rw [hk1] at hE
      subst hE
      refine vx_catch (name := thN 1) hown [] ⟨0, 10, 13, 33⟩ [⟨0, 10, 17, 19⟩] htab (fun w hw => by cases hw) (by decide) (by decide) (hts _ (List.mem_cons_of_mem _ lq_0)) (va_Nw.use rfl (hTh _ (List.mem_of_getElem? (i := 3) rfl)).2.2.2.2.2.2) hce hcv hcl ?_
      refine lv_astore (lv' := [(4, .ref q9), (0, .ref (u r0)), (1, .int x1), (2, .int x2), (3, .ref (u 52001))]) hx hb dlL_figure_13 hl (by decide) rfl (fun ls hl => ?_)
      refine lv_iconst (v := 1) hx hb dlL_figure_15 (by decide) ?_
      exact ll_iret hx hb hr hlocks hM hq hQQ (Nat.le_of_ble_eq_true rfl) (Nat.le_of_ble_eq_true rfl) dlL_figure_16
    · have hq := tw_if hq hk1
      by_cases hk2 : k2 = 2
      · have hq := tw_it hq hk2
        rw [hk2] at hE
        subst hE
        refine vx_catch (name := thN 2) hown [⟨0, 10, 13, 33⟩] ⟨0, 10, 17, 19⟩ [] htab (fun w hw => by
          simp only [List.mem_cons, List.not_mem_nil, or_false] at hw
          rcases hw with rfl
          · exact Or.inr ⟨by decide, thN 1, hts _ (List.mem_cons_of_mem _ lq_0), hNc 2 1 (by decide) (by decide) (by decide)⟩) (by decide) (by decide) (hts _ (List.mem_cons_of_mem _ lq_1)) (va_Nw.use rfl (hTh _ (List.mem_of_getElem? (i := 1) rfl)).2.2.2.2.2.2) hce hcv hcl ?_
        refine lv_astore (lv' := [(4, .ref q9), (0, .ref (u r0)), (1, .int x1), (2, .int x2), (3, .ref (u 52001))]) hx hb dlL_figure_17 hl (by decide) rfl (fun ls hl => ?_)
        refine lv_iconst (v := 2) hx hb dlL_figure_19 (by decide) ?_
        exact ll_iret hx hb hr hlocks hM hq hQQ (Nat.le_of_ble_eq_true rfl) (Nat.le_of_ble_eq_true rfl) dlL_figure_20
      · have hq := tw_if hq hk2
        exact cw_no hq
  · have hq := tw_it hq hk
    refine lv_i2l hx hb dlL_figure_8 rfl ?_
    refine uw_last cX_ok hU hx hb hK hM cr_out hq dlL_figure_9 (fun z4 H locs hM hq => ?_)
    refine lv_goto (tgt := 21) hx hb dlL_figure_10 (by decide) ?_
    refine lv_iconst (v := 0) hx hb dlL_figure_21 (by decide) ?_
    exact ll_iret hx hb hr hlocks hM hq hQQ (Nat.le_of_ble_eq_true rfl) (Nat.le_of_ble_eq_true rfl) dlL_figure_22
theorem dlL_visit_0 : decode cL_visit 0 = .ok (.aload 4, 2) := by decide +kernel
theorem dlL_visit_2 : decode cL_visit 2 = .ok (.iconst 0, 1) := by decide +kernel
theorem dlL_visit_3 : decode cL_visit 3 = .ok (.aload_n 0, 1) := by decide +kernel
theorem dlL_visit_4 : decode cL_visit 4 = .ok (.iload_n 1, 1) := by decide +kernel
theorem dlL_visit_5 : decode cL_visit 5 = .ok (.iload_n 2, 1) := by decide +kernel
theorem dlL_visit_6 : decode cL_visit 6 = .ok (.iload_n 3, 1) := by decide +kernel
theorem dlL_visit_7 : decode cL_visit 7 = .ok (.invokevirtual 35, 3) := by decide +kernel
theorem dlL_visit_10 : decode cL_visit 10 = .ok (.i2l, 1) := by decide +kernel
theorem dlL_visit_11 : decode cL_visit 11 = .ok (.lastore, 1) := by decide +kernel
theorem dlL_visit_12 : decode cL_visit 12 = .ok (.goto 11, 3) := by decide +kernel
theorem dlL_visit_15 : decode cL_visit 15 = .ok (.astore 5, 2) := by decide +kernel
theorem dlL_visit_17 : decode cL_visit 17 = .ok (.iconst 1, 1) := by decide +kernel
theorem dlL_visit_18 : decode cL_visit 18 = .ok (.ireturn, 1) := by decide +kernel
theorem dlL_visit_19 : decode cL_visit 19 = .ok (.astore 5, 2) := by decide +kernel
theorem dlL_visit_21 : decode cL_visit 21 = .ok (.iconst 2, 1) := by decide +kernel
theorem dlL_visit_22 : decode cL_visit 22 = .ok (.ireturn, 1) := by decide +kernel
theorem dlL_visit_23 : decode cL_visit 23 = .ok (.iconst 0, 1) := by decide +kernel
theorem dlL_visit_24 : decode cL_visit 24 = .ok (.ireturn, 1) := by decide +kernel
def le_L_visit (vl : Nat → Nat) (K : Nat) (r0 : Nat) (x1 : Int32) (x2 : Int32) (x3 : Int32) (z : ow_MS) : Option (Int32 × ow_MS) :=
 tc1 (ce_X11_visit vl K r0 x1 x2 x3 z) (fun k z => if k = 1 then some (1, z) else if k = 2 then some (2, z) else none) fun v3 z1 => ctJ (cX vl) z1 52001 0 v3.toInt64 fun z4 => some (0, z4)
abbrev wl_L_visit : List Cond := .codeWith yL_visit cL_visit 6 (some .int) [(0, 12, 15, 33), (0, 12, 19, 19)] :: wLL
set_option maxHeartbeats 4000000 in
set_option maxRecDepth 100000 in
theorem kl_L_visit (l : Launch) (D : va_G) (q : Nat → ClassId) (vl u : Nat → Nat) (hU0 : tw_inj (cX vl) u) (hlt : l.stackTraces = false) (sa : Nat → Nat) (K : Nat) (r0 : Nat) (x1 : Int32) (x2 : Int32) (x3 : Int32) (hr0 : cw_X11 r0) (z z1 : ow_MS) (r : Int32) (hq : le_L_visit vl K r0 x1 x2 x3 z = some (r, z1)) : vx_Met l yL_visit wl_L_visit ({ frames := 8, cells := 2, slots := 12, locals := 135 } : Room) (va_Pc [.ref (u r0), .int x1, .int x2, .int x3, .ref (u 52001)] (cw_preL D q vl u sa z)) (va_Qi (fun x (_ : Unit) => x = r) (fun _ t => va_P D vwCl (uw (cX vl) q u z1) t.heap) (tw_A (cX vl) u)) (vx_X (fun _ : Unit => False) (fun _ _ _ => True) (tw_A (cX vl) u)) 2 12 (tw_A (cX vl) u) := by
  refine vx_ofWH (cc := cL_visit) (maxL := 6) (ret := (some .int)) (hh := [(0, 12, 15, 33), (0, 12, 19, 19)]) (by decide) rfl ?_
  intro p e s m args below meth c s₁ B hml hv
  obtain ⟨rfl, hP, hK, hTh, hNc⟩ := hv
  have hx := B.exec
  have hb := B.bytes
  have hr := B.returns
  have hts := atoms_spec (ws := wl_L_visit) B.pre
  have htab := vx_table (x := yL_visit) B (hts _ List.mem_cons_self)
  have hT : ∀ w ∈ wC, w.before ([.ref (u r0), .int x1, .int x2, .int x3, .ref (u 52001)] : List Value).toArray s = true := fun w h => hts w (List.mem_cons_of_mem _ (wLL_C w h))
  have hown : s.vm.findClass RL = some m.cls := findClass_of_methodNamed B.named
  have hlocks := B.notSynchronized
  have hU : uw_inj (cX vl) u (tw_A (cX vl) u) := ⟨hU0, fun h hh => ⟨h, hh, rfl⟩⟩
  have hM : uw_M D vwCl (cX vl) q (tw_A (cX vl) u) s.heap u z s.heap [] := ⟨hP, va_S.rf⟩
  have hl := lv_entry ([.ref (u r0), .int x1, .int x2, .int x3, .ref (u 52001)]) (n := 6) (Nat.le_of_ble_eq_true rfl)
  rw [lg_entry_eq]
  generalize (lg_sl ([.ref (u r0), .int x1, .int x2, .int x3, .ref (u 52001)]) ++ List.replicate (6 - (lg_sl ([.ref (u r0), .int x1, .int x2, .int x3, .ref (u 52001)])).length) Slot.unset).toArray = ls at hl ⊢
  have hl : lv_has ls 6 [(0, .ref (u r0)), (1, .int x1), (2, .int x2), (3, .int x3), (4, .ref (u 52001))] := hl
  refine ow_named (fun QQ hQQ => ?_)
  generalize ([.ref (u r0), .int x1, .int x2, .int x3, .ref (u 52001)] : List Value).toArray = args at hts hT hQQ ⊢
  unfold le_L_visit at hq
  suffices key : ∀ (H : Heap) (locs : List Loc), uw_M D vwCl (cX vl) q (tw_A (cX vl) u) s.heap u z H locs → W p l e ({ frames := 8, cells := 2, slots := 12, locals := 135 } : Room) s m args below meth c H locs 0 0 QQ (F0 m 0 ls []) from key s.heap [] hM
  intro H locs hM
  refine lv_aload hx hb dlL_visit_0 (lv_at hl 4 rfl) ?_
  refine lv_iconst (v := 0) hx hb dlL_visit_2 (by decide) ?_
  refine lv_aload_n hx hb dlL_visit_3 rfl (lv_at hl 0 rfl) ?_
  refine lv_iload_n hx hb dlL_visit_4 rfl (lv_at hl 1 rfl) ?_
  refine lv_iload_n hx hb dlL_visit_5 rfl (lv_at hl 2 rfl) ?_
  refine lv_iload_n hx hb dlL_visit_6 rfl (lv_at hl 3 rfl) ?_
  obtain ⟨k2, v3, z1, hcq, hq⟩ := ct_tc1 hq
  refine ct_cali hU hM (vx_runV (As := [.int x1, .int x2, .int x3]) (rest := [.int 0, .ref (u 52001)]) ⟨hx, hb, hml, hown, hts⟩ (kc_X11_visit l D q vl u hU.1 hlt sa K r0 x1 x2 x3 hr0 z z1 k2 v3 hcq) (cwV 3 hts (tw_gV2 wLL_good wLL_T lq_19 lq_20 lq_21 (wLL_C _ xq_773) (wLL_C _ xq_832)) rfl rfl rfl cdd_X11_visit ⟨(Nat.le_of_ble_eq_true rfl), (Nat.le_of_ble_eq_true rfl)⟩) (ct_preV hK hTh hM (co_X11 hr0) rfl) rfl rfl hl.1 rfl (lv_room (Nat.le_of_ble_eq_true rfl)) dlL_visit_7 ⟨(Nat.le_of_ble_eq_true rfl), (Nat.le_of_ble_eq_true rfl)⟩) (fun E ce q9 H locs hk hE hM hce hcv hcl => ?_) (fun H locs hk hM => ?_)
  · have hq := tw_if hq hk
    by_cases hk1 : k2 = 1
    · have hq := tw_it hq hk1
      rw [hk1] at hE
      subst hE
      refine vx_catch (name := thN 1) hown [] ⟨0, 12, 15, 33⟩ [⟨0, 12, 19, 19⟩] htab (fun w hw => by cases hw) (by decide) (by decide) (hts _ (List.mem_cons_of_mem _ lq_0)) (va_Nw.use rfl (hTh _ (List.mem_of_getElem? (i := 3) rfl)).2.2.2.2.2.2) hce hcv hcl ?_
      refine lv_astore (lv' := [(5, .ref q9), (0, .ref (u r0)), (1, .int x1), (2, .int x2), (3, .int x3), (4, .ref (u 52001))]) hx hb dlL_visit_15 hl (by decide) rfl (fun ls hl => ?_)
      refine lv_iconst (v := 1) hx hb dlL_visit_17 (by decide) ?_
      exact ll_iret hx hb hr hlocks hM hq hQQ (Nat.le_of_ble_eq_true rfl) (Nat.le_of_ble_eq_true rfl) dlL_visit_18
    · have hq := tw_if hq hk1
      by_cases hk2 : k2 = 2
      · have hq := tw_it hq hk2
        rw [hk2] at hE
        subst hE
        refine vx_catch (name := thN 2) hown [⟨0, 12, 15, 33⟩] ⟨0, 12, 19, 19⟩ [] htab (fun w hw => by
          simp only [List.mem_cons, List.not_mem_nil, or_false] at hw
          rcases hw with rfl
          · exact Or.inr ⟨by decide, thN 1, hts _ (List.mem_cons_of_mem _ lq_0), hNc 2 1 (by decide) (by decide) (by decide)⟩) (by decide) (by decide) (hts _ (List.mem_cons_of_mem _ lq_1)) (va_Nw.use rfl (hTh _ (List.mem_of_getElem? (i := 1) rfl)).2.2.2.2.2.2) hce hcv hcl ?_
        refine lv_astore (lv' := [(5, .ref q9), (0, .ref (u r0)), (1, .int x1), (2, .int x2), (3, .int x3), (4, .ref (u 52001))]) hx hb dlL_visit_19 hl (by decide) rfl (fun ls hl => ?_)
        refine lv_iconst (v := 2) hx hb dlL_visit_21 (by decide) ?_
        exact ll_iret hx hb hr hlocks hM hq hQQ (Nat.le_of_ble_eq_true rfl) (Nat.le_of_ble_eq_true rfl) dlL_visit_22
      · have hq := tw_if hq hk2
        exact cw_no hq
  · have hq := tw_it hq hk
    refine lv_i2l hx hb dlL_visit_10 rfl ?_
    refine uw_last cX_ok hU hx hb hK hM cr_out hq dlL_visit_11 (fun z4 H locs hM hq => ?_)
    refine lv_goto (tgt := 23) hx hb dlL_visit_12 (by decide) ?_
    refine lv_iconst (v := 0) hx hb dlL_visit_23 (by decide) ?_
    exact ll_iret hx hb hr hlocks hM hq hQQ (Nat.le_of_ble_eq_true rfl) (Nat.le_of_ble_eq_true rfl) dlL_visit_24
theorem dlL_linking_0 : decode cL_linking 0 = .ok (.aload 4, 2) := by decide +kernel
theorem dlL_linking_2 : decode cL_linking 2 = .ok (.iconst 0, 1) := by decide +kernel
theorem dlL_linking_3 : decode cL_linking 3 = .ok (.aload_n 0, 1) := by decide +kernel
theorem dlL_linking_4 : decode cL_linking 4 = .ok (.iload_n 1, 1) := by decide +kernel
theorem dlL_linking_5 : decode cL_linking 5 = .ok (.iload_n 2, 1) := by decide +kernel
theorem dlL_linking_6 : decode cL_linking 6 = .ok (.iload_n 3, 1) := by decide +kernel
theorem dlL_linking_7 : decode cL_linking 7 = .ok (.invokevirtual 39, 3) := by decide +kernel
theorem dlL_linking_10 : decode cL_linking 10 = .ok (.i2l, 1) := by decide +kernel
theorem dlL_linking_11 : decode cL_linking 11 = .ok (.lastore, 1) := by decide +kernel
theorem dlL_linking_12 : decode cL_linking 12 = .ok (.goto 11, 3) := by decide +kernel
theorem dlL_linking_15 : decode cL_linking 15 = .ok (.astore 5, 2) := by decide +kernel
theorem dlL_linking_17 : decode cL_linking 17 = .ok (.iconst 1, 1) := by decide +kernel
theorem dlL_linking_18 : decode cL_linking 18 = .ok (.ireturn, 1) := by decide +kernel
theorem dlL_linking_19 : decode cL_linking 19 = .ok (.astore 5, 2) := by decide +kernel
theorem dlL_linking_21 : decode cL_linking 21 = .ok (.iconst 2, 1) := by decide +kernel
theorem dlL_linking_22 : decode cL_linking 22 = .ok (.ireturn, 1) := by decide +kernel
theorem dlL_linking_23 : decode cL_linking 23 = .ok (.iconst 0, 1) := by decide +kernel
theorem dlL_linking_24 : decode cL_linking 24 = .ok (.ireturn, 1) := by decide +kernel
def le_L_linking (vl : Nat → Nat) (K : Nat) (r0 : Nat) (x1 : Int32) (x2 : Int32) (x3 : Int32) (z : ow_MS) : Option (Int32 × ow_MS) :=
 tc1 (ce_X11_linking vl K r0 x1 x2 x3 z) (fun k z => if k = 1 then some (1, z) else if k = 2 then some (2, z) else none) fun v3 z1 => ctJ (cX vl) z1 52001 0 v3.toInt64 fun z4 => some (0, z4)
abbrev wl_L_linking : List Cond := .codeWith yL_linking cL_linking 6 (some .int) [(0, 12, 15, 33), (0, 12, 19, 19)] :: wLL
set_option maxHeartbeats 4000000 in
set_option maxRecDepth 100000 in
theorem kl_L_linking (l : Launch) (D : va_G) (q : Nat → ClassId) (vl u : Nat → Nat) (hU0 : tw_inj (cX vl) u) (hlt : l.stackTraces = false) (sa : Nat → Nat) (K : Nat) (r0 : Nat) (x1 : Int32) (x2 : Int32) (x3 : Int32) (hr0 : cw_X11 r0) (z z1 : ow_MS) (r : Int32) (hq : le_L_linking vl K r0 x1 x2 x3 z = some (r, z1)) : vx_Met l yL_linking wl_L_linking ({ frames := 8, cells := 4, slots := 24, locals := 138 } : Room) (va_Pc [.ref (u r0), .int x1, .int x2, .int x3, .ref (u 52001)] (cw_preL D q vl u sa z)) (va_Qi (fun x (_ : Unit) => x = r) (fun _ t => va_P D vwCl (uw (cX vl) q u z1) t.heap) (tw_A (cX vl) u)) (vx_X (fun _ : Unit => False) (fun _ _ _ => True) (tw_A (cX vl) u)) 4 24 (tw_A (cX vl) u) := by
  refine vx_ofWH (cc := cL_linking) (maxL := 6) (ret := (some .int)) (hh := [(0, 12, 15, 33), (0, 12, 19, 19)]) (by decide) rfl ?_
  intro p e s m args below meth c s₁ B hml hv
  obtain ⟨rfl, hP, hK, hTh, hNc⟩ := hv
  have hx := B.exec
  have hb := B.bytes
  have hr := B.returns
  have hts := atoms_spec (ws := wl_L_linking) B.pre
  have htab := vx_table (x := yL_linking) B (hts _ List.mem_cons_self)
  have hT : ∀ w ∈ wC, w.before ([.ref (u r0), .int x1, .int x2, .int x3, .ref (u 52001)] : List Value).toArray s = true := fun w h => hts w (List.mem_cons_of_mem _ (wLL_C w h))
  have hown : s.vm.findClass RL = some m.cls := findClass_of_methodNamed B.named
  have hlocks := B.notSynchronized
  have hU : uw_inj (cX vl) u (tw_A (cX vl) u) := ⟨hU0, fun h hh => ⟨h, hh, rfl⟩⟩
  have hM : uw_M D vwCl (cX vl) q (tw_A (cX vl) u) s.heap u z s.heap [] := ⟨hP, va_S.rf⟩
  have hl := lv_entry ([.ref (u r0), .int x1, .int x2, .int x3, .ref (u 52001)]) (n := 6) (Nat.le_of_ble_eq_true rfl)
  rw [lg_entry_eq]
  generalize (lg_sl ([.ref (u r0), .int x1, .int x2, .int x3, .ref (u 52001)]) ++ List.replicate (6 - (lg_sl ([.ref (u r0), .int x1, .int x2, .int x3, .ref (u 52001)])).length) Slot.unset).toArray = ls at hl ⊢
  have hl : lv_has ls 6 [(0, .ref (u r0)), (1, .int x1), (2, .int x2), (3, .int x3), (4, .ref (u 52001))] := hl
  refine ow_named (fun QQ hQQ => ?_)
  generalize ([.ref (u r0), .int x1, .int x2, .int x3, .ref (u 52001)] : List Value).toArray = args at hts hT hQQ ⊢
  unfold le_L_linking at hq
  suffices key : ∀ (H : Heap) (locs : List Loc), uw_M D vwCl (cX vl) q (tw_A (cX vl) u) s.heap u z H locs → W p l e ({ frames := 8, cells := 4, slots := 24, locals := 138 } : Room) s m args below meth c H locs 0 0 QQ (F0 m 0 ls []) from key s.heap [] hM
  intro H locs hM
  refine lv_aload hx hb dlL_linking_0 (lv_at hl 4 rfl) ?_
  refine lv_iconst (v := 0) hx hb dlL_linking_2 (by decide) ?_
  refine lv_aload_n hx hb dlL_linking_3 rfl (lv_at hl 0 rfl) ?_
  refine lv_iload_n hx hb dlL_linking_4 rfl (lv_at hl 1 rfl) ?_
  refine lv_iload_n hx hb dlL_linking_5 rfl (lv_at hl 2 rfl) ?_
  refine lv_iload_n hx hb dlL_linking_6 rfl (lv_at hl 3 rfl) ?_
  obtain ⟨k2, v3, z1, hcq, hq⟩ := ct_tc1 hq
  refine ct_cali hU hM (vx_runV (As := [.int x1, .int x2, .int x3]) (rest := [.int 0, .ref (u 52001)]) ⟨hx, hb, hml, hown, hts⟩ (kc_X11_linking l D q vl u hU.1 hlt sa K r0 x1 x2 x3 hr0 z z1 k2 v3 hcq) (cwV 3 hts (tw_gV2 wLL_good wLL_T lq_22 lq_23 lq_24 (wLL_C _ xq_773) (wLL_C _ xq_837)) rfl rfl rfl cdd_X11_linking ⟨(Nat.le_of_ble_eq_true rfl), (Nat.le_of_ble_eq_true rfl)⟩) (ct_preV hK hTh hM (co_X11 hr0) rfl) rfl rfl hl.1 rfl (lv_room (Nat.le_of_ble_eq_true rfl)) dlL_linking_7 ⟨(Nat.le_of_ble_eq_true rfl), (Nat.le_of_ble_eq_true rfl)⟩) (fun E ce q9 H locs hk hE hM hce hcv hcl => ?_) (fun H locs hk hM => ?_)
  · have hq := tw_if hq hk
    by_cases hk1 : k2 = 1
    · have hq := tw_it hq hk1
      rw [hk1] at hE
      subst hE
      refine vx_catch (name := thN 1) hown [] ⟨0, 12, 15, 33⟩ [⟨0, 12, 19, 19⟩] htab (fun w hw => by cases hw) (by decide) (by decide) (hts _ (List.mem_cons_of_mem _ lq_0)) (va_Nw.use rfl (hTh _ (List.mem_of_getElem? (i := 3) rfl)).2.2.2.2.2.2) hce hcv hcl ?_
      refine lv_astore (lv' := [(5, .ref q9), (0, .ref (u r0)), (1, .int x1), (2, .int x2), (3, .int x3), (4, .ref (u 52001))]) hx hb dlL_linking_15 hl (by decide) rfl (fun ls hl => ?_)
      refine lv_iconst (v := 1) hx hb dlL_linking_17 (by decide) ?_
      exact ll_iret hx hb hr hlocks hM hq hQQ (Nat.le_of_ble_eq_true rfl) (Nat.le_of_ble_eq_true rfl) dlL_linking_18
    · have hq := tw_if hq hk1
      by_cases hk2 : k2 = 2
      · have hq := tw_it hq hk2
        rw [hk2] at hE
        subst hE
        refine vx_catch (name := thN 2) hown [⟨0, 12, 15, 33⟩] ⟨0, 12, 19, 19⟩ [] htab (fun w hw => by
          simp only [List.mem_cons, List.not_mem_nil, or_false] at hw
          rcases hw with rfl
          · exact Or.inr ⟨by decide, thN 1, hts _ (List.mem_cons_of_mem _ lq_0), hNc 2 1 (by decide) (by decide) (by decide)⟩) (by decide) (by decide) (hts _ (List.mem_cons_of_mem _ lq_1)) (va_Nw.use rfl (hTh _ (List.mem_of_getElem? (i := 1) rfl)).2.2.2.2.2.2) hce hcv hcl ?_
        refine lv_astore (lv' := [(5, .ref q9), (0, .ref (u r0)), (1, .int x1), (2, .int x2), (3, .int x3), (4, .ref (u 52001))]) hx hb dlL_linking_19 hl (by decide) rfl (fun ls hl => ?_)
        refine lv_iconst (v := 2) hx hb dlL_linking_21 (by decide) ?_
        exact ll_iret hx hb hr hlocks hM hq hQQ (Nat.le_of_ble_eq_true rfl) (Nat.le_of_ble_eq_true rfl) dlL_linking_22
      · have hq := tw_if hq hk2
        exact cw_no hq
  · have hq := tw_it hq hk
    refine lv_i2l hx hb dlL_linking_10 rfl ?_
    refine uw_last cX_ok hU hx hb hK hM cr_out hq dlL_linking_11 (fun z4 H locs hM hq => ?_)
    refine lv_goto (tgt := 23) hx hb dlL_linking_12 (by decide) ?_
    refine lv_iconst (v := 0) hx hb dlL_linking_23 (by decide) ?_
    exact ll_iret hx hb hr hlocks hM hq hQQ (Nat.le_of_ble_eq_true rfl) (Nat.le_of_ble_eq_true rfl) dlL_linking_24
theorem dlL_mirror_0 : decode cL_mirror 0 = .ok (.aload_n 2, 1) := by decide +kernel
theorem dlL_mirror_1 : decode cL_mirror 1 = .ok (.iconst 0, 1) := by decide +kernel
theorem dlL_mirror_2 : decode cL_mirror 2 = .ok (.aload_n 0, 1) := by decide +kernel
theorem dlL_mirror_3 : decode cL_mirror 3 = .ok (.iload_n 1, 1) := by decide +kernel
theorem dlL_mirror_4 : decode cL_mirror 4 = .ok (.invokevirtual 42, 3) := by decide +kernel
theorem dlL_mirror_7 : decode cL_mirror 7 = .ok (.i2l, 1) := by decide +kernel
theorem dlL_mirror_8 : decode cL_mirror 8 = .ok (.lastore, 1) := by decide +kernel
theorem dlL_mirror_9 : decode cL_mirror 9 = .ok (.goto 9, 3) := by decide +kernel
theorem dlL_mirror_12 : decode cL_mirror 12 = .ok (.astore_n 3, 1) := by decide +kernel
theorem dlL_mirror_13 : decode cL_mirror 13 = .ok (.iconst 1, 1) := by decide +kernel
theorem dlL_mirror_14 : decode cL_mirror 14 = .ok (.ireturn, 1) := by decide +kernel
theorem dlL_mirror_15 : decode cL_mirror 15 = .ok (.astore_n 3, 1) := by decide +kernel
theorem dlL_mirror_16 : decode cL_mirror 16 = .ok (.iconst 2, 1) := by decide +kernel
theorem dlL_mirror_17 : decode cL_mirror 17 = .ok (.ireturn, 1) := by decide +kernel
theorem dlL_mirror_18 : decode cL_mirror 18 = .ok (.iconst 0, 1) := by decide +kernel
theorem dlL_mirror_19 : decode cL_mirror 19 = .ok (.ireturn, 1) := by decide +kernel
def le_L_mirror (vl : Nat → Nat) (K : Nat) (r0 : Nat) (x1 : Int32) (z : ow_MS) : Option (Int32 × ow_MS) :=
 tc1 (ce_X11_mirror vl K r0 x1 z) (fun k z => if k = 1 then some (1, z) else if k = 3 then some (2, z) else none) fun v3 z1 => ctJ (cX vl) z1 52001 0 v3.toInt64 fun z4 => some (0, z4)
abbrev wl_L_mirror : List Cond := .codeWith yL_mirror cL_mirror 4 (some .int) [(0, 9, 12, 33), (0, 9, 15, 13)] :: wLL
set_option maxHeartbeats 4000000 in
set_option maxRecDepth 100000 in
theorem kl_L_mirror (l : Launch) (D : va_G) (q : Nat → ClassId) (vl u : Nat → Nat) (hU0 : tw_inj (cX vl) u) (hlt : l.stackTraces = false) (sa : Nat → Nat) (K : Nat) (r0 : Nat) (x1 : Int32) (hr0 : cw_X11 r0) (z z1 : ow_MS) (r : Int32) (hq : le_L_mirror vl K r0 x1 z = some (r, z1)) : vx_Met l yL_mirror wl_L_mirror ({ frames := 8, cells := 2, slots := 12, locals := 199 } : Room) (va_Pc [.ref (u r0), .int x1, .ref (u 52001)] (cw_preL D q vl u sa z)) (va_Qi (fun x (_ : Unit) => x = r) (fun _ t => va_P D vwCl (uw (cX vl) q u z1) t.heap) (tw_A (cX vl) u)) (vx_X (fun _ : Unit => False) (fun _ _ _ => True) (tw_A (cX vl) u)) 2 12 (tw_A (cX vl) u) := by
  refine vx_ofWH (cc := cL_mirror) (maxL := 4) (ret := (some .int)) (hh := [(0, 9, 12, 33), (0, 9, 15, 13)]) (by decide) rfl ?_
  intro p e s m args below meth c s₁ B hml hv
  obtain ⟨rfl, hP, hK, hTh, hNc⟩ := hv
  have hx := B.exec
  have hb := B.bytes
  have hr := B.returns
  have hts := atoms_spec (ws := wl_L_mirror) B.pre
  have htab := vx_table (x := yL_mirror) B (hts _ List.mem_cons_self)
  have hT : ∀ w ∈ wC, w.before ([.ref (u r0), .int x1, .ref (u 52001)] : List Value).toArray s = true := fun w h => hts w (List.mem_cons_of_mem _ (wLL_C w h))
  have hown : s.vm.findClass RL = some m.cls := findClass_of_methodNamed B.named
  have hlocks := B.notSynchronized
  have hU : uw_inj (cX vl) u (tw_A (cX vl) u) := ⟨hU0, fun h hh => ⟨h, hh, rfl⟩⟩
  have hM : uw_M D vwCl (cX vl) q (tw_A (cX vl) u) s.heap u z s.heap [] := ⟨hP, va_S.rf⟩
  have hl := lv_entry ([.ref (u r0), .int x1, .ref (u 52001)]) (n := 4) (Nat.le_of_ble_eq_true rfl)
  rw [lg_entry_eq]
  generalize (lg_sl ([.ref (u r0), .int x1, .ref (u 52001)]) ++ List.replicate (4 - (lg_sl ([.ref (u r0), .int x1, .ref (u 52001)])).length) Slot.unset).toArray = ls at hl ⊢
  have hl : lv_has ls 4 [(0, .ref (u r0)), (1, .int x1), (2, .ref (u 52001))] := hl
  refine ow_named (fun QQ hQQ => ?_)
  generalize ([.ref (u r0), .int x1, .ref (u 52001)] : List Value).toArray = args at hts hT hQQ ⊢
  unfold le_L_mirror at hq
  suffices key : ∀ (H : Heap) (locs : List Loc), uw_M D vwCl (cX vl) q (tw_A (cX vl) u) s.heap u z H locs → W p l e ({ frames := 8, cells := 2, slots := 12, locals := 199 } : Room) s m args below meth c H locs 0 0 QQ (F0 m 0 ls []) from key s.heap [] hM
  intro H locs hM
  refine lv_aload_n hx hb dlL_mirror_0 rfl (lv_at hl 2 rfl) ?_
  refine lv_iconst (v := 0) hx hb dlL_mirror_1 (by decide) ?_
  refine lv_aload_n hx hb dlL_mirror_2 rfl (lv_at hl 0 rfl) ?_
  refine lv_iload_n hx hb dlL_mirror_3 rfl (lv_at hl 1 rfl) ?_
  obtain ⟨k2, v3, z1, hcq, hq⟩ := ct_tc1 hq
  refine ct_cali hU hM (vx_runV (As := [.int x1]) (rest := [.int 0, .ref (u 52001)]) ⟨hx, hb, hml, hown, hts⟩ (kc_X11_mirror l D q vl u hU.1 hlt sa K r0 x1 hr0 z z1 k2 v3 hcq) (cwV 1 hts (tw_gV2 wLL_good wLL_T lq_25 lq_26 lq_27 (wLL_C _ xq_773) (wLL_C _ xq_842)) rfl rfl rfl cdd_X11_mirror ⟨(Nat.le_of_ble_eq_true rfl), (Nat.le_of_ble_eq_true rfl)⟩) (ct_preV hK hTh hM (co_X11 hr0) rfl) rfl rfl hl.1 rfl (lv_room (Nat.le_of_ble_eq_true rfl)) dlL_mirror_4 ⟨(Nat.le_of_ble_eq_true rfl), (Nat.le_of_ble_eq_true rfl)⟩) (fun E ce q9 H locs hk hE hM hce hcv hcl => ?_) (fun H locs hk hM => ?_)
  · have hq := tw_if hq hk
    by_cases hk1 : k2 = 1
    · have hq := tw_it hq hk1
      rw [hk1] at hE
      subst hE
      refine vx_catch (name := thN 1) hown [] ⟨0, 9, 12, 33⟩ [⟨0, 9, 15, 13⟩] htab (fun w hw => by cases hw) (by decide) (by decide) (hts _ (List.mem_cons_of_mem _ lq_0)) (va_Nw.use rfl (hTh _ (List.mem_of_getElem? (i := 3) rfl)).2.2.2.2.2.2) hce hcv hcl ?_
      refine lv_astore_n (lv' := [(3, .ref q9), (0, .ref (u r0)), (1, .int x1), (2, .ref (u 52001))]) hx hb dlL_mirror_12 rfl hl (by decide) rfl (fun ls hl => ?_)
      refine lv_iconst (v := 1) hx hb dlL_mirror_13 (by decide) ?_
      exact ll_iret hx hb hr hlocks hM hq hQQ (Nat.le_of_ble_eq_true rfl) (Nat.le_of_ble_eq_true rfl) dlL_mirror_14
    · have hq := tw_if hq hk1
      by_cases hk3 : k2 = 3
      · have hq := tw_it hq hk3
        rw [hk3] at hE
        subst hE
        refine vx_catch (name := thN 3) hown [⟨0, 9, 12, 33⟩] ⟨0, 9, 15, 13⟩ [] htab (fun w hw => by
          simp only [List.mem_cons, List.not_mem_nil, or_false] at hw
          rcases hw with rfl
          · exact Or.inr ⟨by decide, thN 1, hts _ (List.mem_cons_of_mem _ lq_0), hNc 3 1 (by decide) (by decide) (by decide)⟩) (by decide) (by decide) (hts _ (List.mem_cons_of_mem _ lq_2)) (va_Nw.use rfl (hTh _ (List.mem_of_getElem? (i := 0) rfl)).2.2.2.2.2.2) hce hcv hcl ?_
        refine lv_astore_n (lv' := [(3, .ref q9), (0, .ref (u r0)), (1, .int x1), (2, .ref (u 52001))]) hx hb dlL_mirror_15 rfl hl (by decide) rfl (fun ls hl => ?_)
        refine lv_iconst (v := 2) hx hb dlL_mirror_16 (by decide) ?_
        exact ll_iret hx hb hr hlocks hM hq hQQ (Nat.le_of_ble_eq_true rfl) (Nat.le_of_ble_eq_true rfl) dlL_mirror_17
      · have hq := tw_if hq hk3
        exact cw_no hq
  · have hq := tw_it hq hk
    refine lv_i2l hx hb dlL_mirror_7 rfl ?_
    refine uw_last cX_ok hU hx hb hK hM cr_out hq dlL_mirror_8 (fun z4 H locs hM hq => ?_)
    refine lv_goto (tgt := 18) hx hb dlL_mirror_9 (by decide) ?_
    refine lv_iconst (v := 0) hx hb dlL_mirror_18 (by decide) ?_
    exact ll_iret hx hb hr hlocks hM hq hQQ (Nat.le_of_ble_eq_true rfl) (Nat.le_of_ble_eq_true rfl) dlL_mirror_19
theorem dlL_reverse_0 : decode cL_reverse 0 = .ok (.aload_n 3, 1) := by decide +kernel
theorem dlL_reverse_1 : decode cL_reverse 1 = .ok (.iconst 0, 1) := by decide +kernel
theorem dlL_reverse_2 : decode cL_reverse 2 = .ok (.aload_n 0, 1) := by decide +kernel
theorem dlL_reverse_3 : decode cL_reverse 3 = .ok (.iload_n 1, 1) := by decide +kernel
theorem dlL_reverse_4 : decode cL_reverse 4 = .ok (.iload_n 2, 1) := by decide +kernel
theorem dlL_reverse_5 : decode cL_reverse 5 = .ok (.invokevirtual 45, 3) := by decide +kernel
theorem dlL_reverse_8 : decode cL_reverse 8 = .ok (.i2l, 1) := by decide +kernel
theorem dlL_reverse_9 : decode cL_reverse 9 = .ok (.lastore, 1) := by decide +kernel
theorem dlL_reverse_10 : decode cL_reverse 10 = .ok (.goto 11, 3) := by decide +kernel
theorem dlL_reverse_13 : decode cL_reverse 13 = .ok (.astore 4, 2) := by decide +kernel
theorem dlL_reverse_15 : decode cL_reverse 15 = .ok (.iconst 1, 1) := by decide +kernel
theorem dlL_reverse_16 : decode cL_reverse 16 = .ok (.ireturn, 1) := by decide +kernel
theorem dlL_reverse_17 : decode cL_reverse 17 = .ok (.astore 4, 2) := by decide +kernel
theorem dlL_reverse_19 : decode cL_reverse 19 = .ok (.iconst 2, 1) := by decide +kernel
theorem dlL_reverse_20 : decode cL_reverse 20 = .ok (.ireturn, 1) := by decide +kernel
theorem dlL_reverse_21 : decode cL_reverse 21 = .ok (.iconst 0, 1) := by decide +kernel
theorem dlL_reverse_22 : decode cL_reverse 22 = .ok (.ireturn, 1) := by decide +kernel
def le_L_reverse (vl : Nat → Nat) (K : Nat) (r0 : Nat) (x1 : Int32) (x2 : Int32) (z : ow_MS) : Option (Int32 × ow_MS) :=
 tc1 (ce_X11_reverse vl K r0 x1 x2 z) (fun k z => if k = 1 then some (1, z) else if k = 3 then some (2, z) else none) fun v3 z1 => ctJ (cX vl) z1 52001 0 v3.toInt64 fun z4 => some (0, z4)
abbrev wl_L_reverse : List Cond := .codeWith yL_reverse cL_reverse 5 (some .int) [(0, 10, 13, 33), (0, 10, 17, 13)] :: wLL
set_option maxHeartbeats 4000000 in
set_option maxRecDepth 100000 in
theorem kl_L_reverse (l : Launch) (D : va_G) (q : Nat → ClassId) (vl u : Nat → Nat) (hU0 : tw_inj (cX vl) u) (hlt : l.stackTraces = false) (sa : Nat → Nat) (K : Nat) (r0 : Nat) (x1 : Int32) (x2 : Int32) (hr0 : cw_X11 r0) (z z1 : ow_MS) (r : Int32) (hq : le_L_reverse vl K r0 x1 x2 z = some (r, z1)) : vx_Met l yL_reverse wl_L_reverse ({ frames := 8, cells := 3, slots := 18, locals := 199 } : Room) (va_Pc [.ref (u r0), .int x1, .int x2, .ref (u 52001)] (cw_preL D q vl u sa z)) (va_Qi (fun x (_ : Unit) => x = r) (fun _ t => va_P D vwCl (uw (cX vl) q u z1) t.heap) (tw_A (cX vl) u)) (vx_X (fun _ : Unit => False) (fun _ _ _ => True) (tw_A (cX vl) u)) 3 18 (tw_A (cX vl) u) := by
  refine vx_ofWH (cc := cL_reverse) (maxL := 5) (ret := (some .int)) (hh := [(0, 10, 13, 33), (0, 10, 17, 13)]) (by decide) rfl ?_
  intro p e s m args below meth c s₁ B hml hv
  obtain ⟨rfl, hP, hK, hTh, hNc⟩ := hv
  have hx := B.exec
  have hb := B.bytes
  have hr := B.returns
  have hts := atoms_spec (ws := wl_L_reverse) B.pre
  have htab := vx_table (x := yL_reverse) B (hts _ List.mem_cons_self)
  have hT : ∀ w ∈ wC, w.before ([.ref (u r0), .int x1, .int x2, .ref (u 52001)] : List Value).toArray s = true := fun w h => hts w (List.mem_cons_of_mem _ (wLL_C w h))
  have hown : s.vm.findClass RL = some m.cls := findClass_of_methodNamed B.named
  have hlocks := B.notSynchronized
  have hU : uw_inj (cX vl) u (tw_A (cX vl) u) := ⟨hU0, fun h hh => ⟨h, hh, rfl⟩⟩
  have hM : uw_M D vwCl (cX vl) q (tw_A (cX vl) u) s.heap u z s.heap [] := ⟨hP, va_S.rf⟩
  have hl := lv_entry ([.ref (u r0), .int x1, .int x2, .ref (u 52001)]) (n := 5) (Nat.le_of_ble_eq_true rfl)
  rw [lg_entry_eq]
  generalize (lg_sl ([.ref (u r0), .int x1, .int x2, .ref (u 52001)]) ++ List.replicate (5 - (lg_sl ([.ref (u r0), .int x1, .int x2, .ref (u 52001)])).length) Slot.unset).toArray = ls at hl ⊢
  have hl : lv_has ls 5 [(0, .ref (u r0)), (1, .int x1), (2, .int x2), (3, .ref (u 52001))] := hl
  refine ow_named (fun QQ hQQ => ?_)
  generalize ([.ref (u r0), .int x1, .int x2, .ref (u 52001)] : List Value).toArray = args at hts hT hQQ ⊢
  unfold le_L_reverse at hq
  suffices key : ∀ (H : Heap) (locs : List Loc), uw_M D vwCl (cX vl) q (tw_A (cX vl) u) s.heap u z H locs → W p l e ({ frames := 8, cells := 3, slots := 18, locals := 199 } : Room) s m args below meth c H locs 0 0 QQ (F0 m 0 ls []) from key s.heap [] hM
  intro H locs hM
  refine lv_aload_n hx hb dlL_reverse_0 rfl (lv_at hl 3 rfl) ?_
  refine lv_iconst (v := 0) hx hb dlL_reverse_1 (by decide) ?_
  refine lv_aload_n hx hb dlL_reverse_2 rfl (lv_at hl 0 rfl) ?_
  refine lv_iload_n hx hb dlL_reverse_3 rfl (lv_at hl 1 rfl) ?_
  refine lv_iload_n hx hb dlL_reverse_4 rfl (lv_at hl 2 rfl) ?_
  obtain ⟨k2, v3, z1, hcq, hq⟩ := ct_tc1 hq
  refine ct_cali hU hM (vx_runV (As := [.int x1, .int x2]) (rest := [.int 0, .ref (u 52001)]) ⟨hx, hb, hml, hown, hts⟩ (kc_X11_reverse l D q vl u hU.1 hlt sa K r0 x1 x2 hr0 z z1 k2 v3 hcq) (cwV 2 hts (tw_gV2 wLL_good wLL_T lq_28 lq_29 lq_30 (wLL_C _ xq_773) (wLL_C _ xq_846)) rfl rfl rfl cdd_X11_reverse ⟨(Nat.le_of_ble_eq_true rfl), (Nat.le_of_ble_eq_true rfl)⟩) (ct_preV hK hTh hM (co_X11 hr0) rfl) rfl rfl hl.1 rfl (lv_room (Nat.le_of_ble_eq_true rfl)) dlL_reverse_5 ⟨(Nat.le_of_ble_eq_true rfl), (Nat.le_of_ble_eq_true rfl)⟩) (fun E ce q9 H locs hk hE hM hce hcv hcl => ?_) (fun H locs hk hM => ?_)
  · have hq := tw_if hq hk
    by_cases hk1 : k2 = 1
    · have hq := tw_it hq hk1
      rw [hk1] at hE
      subst hE
      refine vx_catch (name := thN 1) hown [] ⟨0, 10, 13, 33⟩ [⟨0, 10, 17, 13⟩] htab (fun w hw => by cases hw) (by decide) (by decide) (hts _ (List.mem_cons_of_mem _ lq_0)) (va_Nw.use rfl (hTh _ (List.mem_of_getElem? (i := 3) rfl)).2.2.2.2.2.2) hce hcv hcl ?_
      refine lv_astore (lv' := [(4, .ref q9), (0, .ref (u r0)), (1, .int x1), (2, .int x2), (3, .ref (u 52001))]) hx hb dlL_reverse_13 hl (by decide) rfl (fun ls hl => ?_)
      refine lv_iconst (v := 1) hx hb dlL_reverse_15 (by decide) ?_
      exact ll_iret hx hb hr hlocks hM hq hQQ (Nat.le_of_ble_eq_true rfl) (Nat.le_of_ble_eq_true rfl) dlL_reverse_16
    · have hq := tw_if hq hk1
      by_cases hk3 : k2 = 3
      · have hq := tw_it hq hk3
        rw [hk3] at hE
        subst hE
        refine vx_catch (name := thN 3) hown [⟨0, 10, 13, 33⟩] ⟨0, 10, 17, 13⟩ [] htab (fun w hw => by
          simp only [List.mem_cons, List.not_mem_nil, or_false] at hw
          rcases hw with rfl
          · exact Or.inr ⟨by decide, thN 1, hts _ (List.mem_cons_of_mem _ lq_0), hNc 3 1 (by decide) (by decide) (by decide)⟩) (by decide) (by decide) (hts _ (List.mem_cons_of_mem _ lq_2)) (va_Nw.use rfl (hTh _ (List.mem_of_getElem? (i := 0) rfl)).2.2.2.2.2.2) hce hcv hcl ?_
        refine lv_astore (lv' := [(4, .ref q9), (0, .ref (u r0)), (1, .int x1), (2, .int x2), (3, .ref (u 52001))]) hx hb dlL_reverse_17 hl (by decide) rfl (fun ls hl => ?_)
        refine lv_iconst (v := 2) hx hb dlL_reverse_19 (by decide) ?_
        exact ll_iret hx hb hr hlocks hM hq hQQ (Nat.le_of_ble_eq_true rfl) (Nat.le_of_ble_eq_true rfl) dlL_reverse_20
      · have hq := tw_if hq hk3
        exact cw_no hq
  · have hq := tw_it hq hk
    refine lv_i2l hx hb dlL_reverse_8 rfl ?_
    refine uw_last cX_ok hU hx hb hK hM cr_out hq dlL_reverse_9 (fun z4 H locs hM hq => ?_)
    refine lv_goto (tgt := 21) hx hb dlL_reverse_10 (by decide) ?_
    refine lv_iconst (v := 0) hx hb dlL_reverse_21 (by decide) ?_
    exact ll_iret hx hb hr hlocks hM hq hQQ (Nat.le_of_ble_eq_true rfl) (Nat.le_of_ble_eq_true rfl) dlL_reverse_22
theorem dlL_change_0 : decode cL_change 0 = .ok (.aload_n 3, 1) := by decide +kernel
theorem dlL_change_1 : decode cL_change 1 = .ok (.iconst 0, 1) := by decide +kernel
theorem dlL_change_2 : decode cL_change 2 = .ok (.aload_n 0, 1) := by decide +kernel
theorem dlL_change_3 : decode cL_change 3 = .ok (.iload_n 1, 1) := by decide +kernel
theorem dlL_change_4 : decode cL_change 4 = .ok (.iload_n 2, 1) := by decide +kernel
theorem dlL_change_5 : decode cL_change 5 = .ok (.invokevirtual 48, 3) := by decide +kernel
theorem dlL_change_8 : decode cL_change 8 = .ok (.i2l, 1) := by decide +kernel
theorem dlL_change_9 : decode cL_change 9 = .ok (.lastore, 1) := by decide +kernel
theorem dlL_change_10 : decode cL_change 10 = .ok (.goto 11, 3) := by decide +kernel
theorem dlL_change_13 : decode cL_change 13 = .ok (.astore 4, 2) := by decide +kernel
theorem dlL_change_15 : decode cL_change 15 = .ok (.iconst 1, 1) := by decide +kernel
theorem dlL_change_16 : decode cL_change 16 = .ok (.ireturn, 1) := by decide +kernel
theorem dlL_change_17 : decode cL_change 17 = .ok (.astore 4, 2) := by decide +kernel
theorem dlL_change_19 : decode cL_change 19 = .ok (.iconst 2, 1) := by decide +kernel
theorem dlL_change_20 : decode cL_change 20 = .ok (.ireturn, 1) := by decide +kernel
theorem dlL_change_21 : decode cL_change 21 = .ok (.iconst 0, 1) := by decide +kernel
theorem dlL_change_22 : decode cL_change 22 = .ok (.ireturn, 1) := by decide +kernel
def le_L_change (vl : Nat → Nat) (K : Nat) (r0 : Nat) (x1 : Int32) (x2 : Int32) (z : ow_MS) : Option (Int32 × ow_MS) :=
 tc1 (ce_X11_change vl K r0 x1 x2 z) (fun k z => if k = 1 then some (1, z) else if k = 3 then some (2, z) else none) fun v3 z1 => ctJ (cX vl) z1 52001 0 v3.toInt64 fun z4 => some (0, z4)
abbrev wl_L_change : List Cond := .codeWith yL_change cL_change 5 (some .int) [(0, 10, 13, 33), (0, 10, 17, 13)] :: wLL
set_option maxHeartbeats 4000000 in
set_option maxRecDepth 100000 in
theorem kl_L_change (l : Launch) (D : va_G) (q : Nat → ClassId) (vl u : Nat → Nat) (hU0 : tw_inj (cX vl) u) (hlt : l.stackTraces = false) (sa : Nat → Nat) (K : Nat) (r0 : Nat) (x1 : Int32) (x2 : Int32) (hr0 : cw_X11 r0) (z z1 : ow_MS) (r : Int32) (hq : le_L_change vl K r0 x1 x2 z = some (r, z1)) : vx_Met l yL_change wl_L_change ({ frames := 8, cells := 3, slots := 18, locals := 199 } : Room) (va_Pc [.ref (u r0), .int x1, .int x2, .ref (u 52001)] (cw_preL D q vl u sa z)) (va_Qi (fun x (_ : Unit) => x = r) (fun _ t => va_P D vwCl (uw (cX vl) q u z1) t.heap) (tw_A (cX vl) u)) (vx_X (fun _ : Unit => False) (fun _ _ _ => True) (tw_A (cX vl) u)) 3 18 (tw_A (cX vl) u) := by
  refine vx_ofWH (cc := cL_change) (maxL := 5) (ret := (some .int)) (hh := [(0, 10, 13, 33), (0, 10, 17, 13)]) (by decide) rfl ?_
  intro p e s m args below meth c s₁ B hml hv
  obtain ⟨rfl, hP, hK, hTh, hNc⟩ := hv
  have hx := B.exec
  have hb := B.bytes
  have hr := B.returns
  have hts := atoms_spec (ws := wl_L_change) B.pre
  have htab := vx_table (x := yL_change) B (hts _ List.mem_cons_self)
  have hT : ∀ w ∈ wC, w.before ([.ref (u r0), .int x1, .int x2, .ref (u 52001)] : List Value).toArray s = true := fun w h => hts w (List.mem_cons_of_mem _ (wLL_C w h))
  have hown : s.vm.findClass RL = some m.cls := findClass_of_methodNamed B.named
  have hlocks := B.notSynchronized
  have hU : uw_inj (cX vl) u (tw_A (cX vl) u) := ⟨hU0, fun h hh => ⟨h, hh, rfl⟩⟩
  have hM : uw_M D vwCl (cX vl) q (tw_A (cX vl) u) s.heap u z s.heap [] := ⟨hP, va_S.rf⟩
  have hl := lv_entry ([.ref (u r0), .int x1, .int x2, .ref (u 52001)]) (n := 5) (Nat.le_of_ble_eq_true rfl)
  rw [lg_entry_eq]
  generalize (lg_sl ([.ref (u r0), .int x1, .int x2, .ref (u 52001)]) ++ List.replicate (5 - (lg_sl ([.ref (u r0), .int x1, .int x2, .ref (u 52001)])).length) Slot.unset).toArray = ls at hl ⊢
  have hl : lv_has ls 5 [(0, .ref (u r0)), (1, .int x1), (2, .int x2), (3, .ref (u 52001))] := hl
  refine ow_named (fun QQ hQQ => ?_)
  generalize ([.ref (u r0), .int x1, .int x2, .ref (u 52001)] : List Value).toArray = args at hts hT hQQ ⊢
  unfold le_L_change at hq
  suffices key : ∀ (H : Heap) (locs : List Loc), uw_M D vwCl (cX vl) q (tw_A (cX vl) u) s.heap u z H locs → W p l e ({ frames := 8, cells := 3, slots := 18, locals := 199 } : Room) s m args below meth c H locs 0 0 QQ (F0 m 0 ls []) from key s.heap [] hM
  intro H locs hM
  refine lv_aload_n hx hb dlL_change_0 rfl (lv_at hl 3 rfl) ?_
  refine lv_iconst (v := 0) hx hb dlL_change_1 (by decide) ?_
  refine lv_aload_n hx hb dlL_change_2 rfl (lv_at hl 0 rfl) ?_
  refine lv_iload_n hx hb dlL_change_3 rfl (lv_at hl 1 rfl) ?_
  refine lv_iload_n hx hb dlL_change_4 rfl (lv_at hl 2 rfl) ?_
  obtain ⟨k2, v3, z1, hcq, hq⟩ := ct_tc1 hq
  refine ct_cali hU hM (vx_runV (As := [.int x1, .int x2]) (rest := [.int 0, .ref (u 52001)]) ⟨hx, hb, hml, hown, hts⟩ (kc_X11_change l D q vl u hU.1 hlt sa K r0 x1 x2 hr0 z z1 k2 v3 hcq) (cwV 2 hts (tw_gV2 wLL_good wLL_T lq_31 lq_32 lq_33 (wLL_C _ xq_773) (wLL_C _ xq_850)) rfl rfl rfl cdd_X11_change ⟨(Nat.le_of_ble_eq_true rfl), (Nat.le_of_ble_eq_true rfl)⟩) (ct_preV hK hTh hM (co_X11 hr0) rfl) rfl rfl hl.1 rfl (lv_room (Nat.le_of_ble_eq_true rfl)) dlL_change_5 ⟨(Nat.le_of_ble_eq_true rfl), (Nat.le_of_ble_eq_true rfl)⟩) (fun E ce q9 H locs hk hE hM hce hcv hcl => ?_) (fun H locs hk hM => ?_)
  · have hq := tw_if hq hk
    by_cases hk1 : k2 = 1
    · have hq := tw_it hq hk1
      rw [hk1] at hE
      subst hE
      refine vx_catch (name := thN 1) hown [] ⟨0, 10, 13, 33⟩ [⟨0, 10, 17, 13⟩] htab (fun w hw => by cases hw) (by decide) (by decide) (hts _ (List.mem_cons_of_mem _ lq_0)) (va_Nw.use rfl (hTh _ (List.mem_of_getElem? (i := 3) rfl)).2.2.2.2.2.2) hce hcv hcl ?_
      refine lv_astore (lv' := [(4, .ref q9), (0, .ref (u r0)), (1, .int x1), (2, .int x2), (3, .ref (u 52001))]) hx hb dlL_change_13 hl (by decide) rfl (fun ls hl => ?_)
      refine lv_iconst (v := 1) hx hb dlL_change_15 (by decide) ?_
      exact ll_iret hx hb hr hlocks hM hq hQQ (Nat.le_of_ble_eq_true rfl) (Nat.le_of_ble_eq_true rfl) dlL_change_16
    · have hq := tw_if hq hk1
      by_cases hk3 : k2 = 3
      · have hq := tw_it hq hk3
        rw [hk3] at hE
        subst hE
        refine vx_catch (name := thN 3) hown [⟨0, 10, 13, 33⟩] ⟨0, 10, 17, 13⟩ [] htab (fun w hw => by
          simp only [List.mem_cons, List.not_mem_nil, or_false] at hw
          rcases hw with rfl
          · exact Or.inr ⟨by decide, thN 1, hts _ (List.mem_cons_of_mem _ lq_0), hNc 3 1 (by decide) (by decide) (by decide)⟩) (by decide) (by decide) (hts _ (List.mem_cons_of_mem _ lq_2)) (va_Nw.use rfl (hTh _ (List.mem_of_getElem? (i := 0) rfl)).2.2.2.2.2.2) hce hcv hcl ?_
        refine lv_astore (lv' := [(4, .ref q9), (0, .ref (u r0)), (1, .int x1), (2, .int x2), (3, .ref (u 52001))]) hx hb dlL_change_17 hl (by decide) rfl (fun ls hl => ?_)
        refine lv_iconst (v := 2) hx hb dlL_change_19 (by decide) ?_
        exact ll_iret hx hb hr hlocks hM hq hQQ (Nat.le_of_ble_eq_true rfl) (Nat.le_of_ble_eq_true rfl) dlL_change_20
      · have hq := tw_if hq hk3
        exact cw_no hq
  · have hq := tw_it hq hk
    refine lv_i2l hx hb dlL_change_8 rfl ?_
    refine uw_last cX_ok hU hx hb hK hM cr_out hq dlL_change_9 (fun z4 H locs hM hq => ?_)
    refine lv_goto (tgt := 21) hx hb dlL_change_10 (by decide) ?_
    refine lv_iconst (v := 0) hx hb dlL_change_21 (by decide) ?_
    exact ll_iret hx hb hr hlocks hM hq hQQ (Nat.le_of_ble_eq_true rfl) (Nat.le_of_ble_eq_true rfl) dlL_change_22
theorem dlL_smooth_0 : decode cL_smooth 0 = .ok (.aload_n 3, 1) := by decide +kernel
theorem dlL_smooth_1 : decode cL_smooth 1 = .ok (.iconst 0, 1) := by decide +kernel
theorem dlL_smooth_2 : decode cL_smooth 2 = .ok (.aload_n 0, 1) := by decide +kernel
theorem dlL_smooth_3 : decode cL_smooth 3 = .ok (.iload_n 1, 1) := by decide +kernel
theorem dlL_smooth_4 : decode cL_smooth 4 = .ok (.iload_n 2, 1) := by decide +kernel
theorem dlL_smooth_5 : decode cL_smooth 5 = .ok (.invokevirtual 51, 3) := by decide +kernel
theorem dlL_smooth_8 : decode cL_smooth 8 = .ok (.i2l, 1) := by decide +kernel
theorem dlL_smooth_9 : decode cL_smooth 9 = .ok (.lastore, 1) := by decide +kernel
theorem dlL_smooth_10 : decode cL_smooth 10 = .ok (.goto 15, 3) := by decide +kernel
theorem dlL_smooth_13 : decode cL_smooth 13 = .ok (.astore 4, 2) := by decide +kernel
theorem dlL_smooth_15 : decode cL_smooth 15 = .ok (.iconst 1, 1) := by decide +kernel
theorem dlL_smooth_16 : decode cL_smooth 16 = .ok (.ireturn, 1) := by decide +kernel
theorem dlL_smooth_17 : decode cL_smooth 17 = .ok (.astore 4, 2) := by decide +kernel
theorem dlL_smooth_19 : decode cL_smooth 19 = .ok (.iconst 2, 1) := by decide +kernel
theorem dlL_smooth_20 : decode cL_smooth 20 = .ok (.ireturn, 1) := by decide +kernel
theorem dlL_smooth_21 : decode cL_smooth 21 = .ok (.astore 4, 2) := by decide +kernel
theorem dlL_smooth_23 : decode cL_smooth 23 = .ok (.iconst 3, 1) := by decide +kernel
theorem dlL_smooth_24 : decode cL_smooth 24 = .ok (.ireturn, 1) := by decide +kernel
theorem dlL_smooth_25 : decode cL_smooth 25 = .ok (.iconst 0, 1) := by decide +kernel
theorem dlL_smooth_26 : decode cL_smooth 26 = .ok (.ireturn, 1) := by decide +kernel
def le_L_smooth (vl : Nat → Nat) (K : Nat) (r0 : Nat) (x1 : Int32) (x2 : Int32) (z : ow_MS) : Option (Int32 × ow_MS) :=
 tc1 (ce_X11_smooth vl K r0 x1 x2 z) (fun k z => if k = 1 then some (1, z) else if k = 4 then some (2, z) else if k = 3 then some (3, z) else none) fun v3 z1 => ctJ (cX vl) z1 52001 0 v3.toInt64 fun z4 => some (0, z4)
abbrev wl_L_smooth : List Cond := .codeWith yL_smooth cL_smooth 5 (some .int) [(0, 10, 13, 33), (0, 10, 17, 54), (0, 10, 21, 13)] :: wLL
set_option maxHeartbeats 4000000 in
set_option maxRecDepth 100000 in
theorem kl_L_smooth (l : Launch) (D : va_G) (q : Nat → ClassId) (vl u : Nat → Nat) (hU0 : tw_inj (cX vl) u) (hlt : l.stackTraces = false) (sa : Nat → Nat) (K : Nat) (r0 : Nat) (x1 : Int32) (x2 : Int32) (hr0 : cw_X11 r0) (z z1 : ow_MS) (r : Int32) (hq : le_L_smooth vl K r0 x1 x2 z = some (r, z1)) : vx_Met l yL_smooth wl_L_smooth ({ frames := 8, cells := 4, slots := 24, locals := 198 } : Room) (va_Pc [.ref (u r0), .int x1, .int x2, .ref (u 52001)] (cw_preL D q vl u sa z)) (va_Qi (fun x (_ : Unit) => x = r) (fun _ t => va_P D vwCl (uw (cX vl) q u z1) t.heap) (tw_A (cX vl) u)) (vx_X (fun _ : Unit => False) (fun _ _ _ => True) (tw_A (cX vl) u)) 4 24 (tw_A (cX vl) u) := by
  refine vx_ofWH (cc := cL_smooth) (maxL := 5) (ret := (some .int)) (hh := [(0, 10, 13, 33), (0, 10, 17, 54), (0, 10, 21, 13)]) (by decide) rfl ?_
  intro p e s m args below meth c s₁ B hml hv
  obtain ⟨rfl, hP, hK, hTh, hNc⟩ := hv
  have hx := B.exec
  have hb := B.bytes
  have hr := B.returns
  have hts := atoms_spec (ws := wl_L_smooth) B.pre
  have htab := vx_table (x := yL_smooth) B (hts _ List.mem_cons_self)
  have hT : ∀ w ∈ wC, w.before ([.ref (u r0), .int x1, .int x2, .ref (u 52001)] : List Value).toArray s = true := fun w h => hts w (List.mem_cons_of_mem _ (wLL_C w h))
  have hown : s.vm.findClass RL = some m.cls := findClass_of_methodNamed B.named
  have hlocks := B.notSynchronized
  have hU : uw_inj (cX vl) u (tw_A (cX vl) u) := ⟨hU0, fun h hh => ⟨h, hh, rfl⟩⟩
  have hM : uw_M D vwCl (cX vl) q (tw_A (cX vl) u) s.heap u z s.heap [] := ⟨hP, va_S.rf⟩
  have hl := lv_entry ([.ref (u r0), .int x1, .int x2, .ref (u 52001)]) (n := 5) (Nat.le_of_ble_eq_true rfl)
  rw [lg_entry_eq]
  generalize (lg_sl ([.ref (u r0), .int x1, .int x2, .ref (u 52001)]) ++ List.replicate (5 - (lg_sl ([.ref (u r0), .int x1, .int x2, .ref (u 52001)])).length) Slot.unset).toArray = ls at hl ⊢
  have hl : lv_has ls 5 [(0, .ref (u r0)), (1, .int x1), (2, .int x2), (3, .ref (u 52001))] := hl
  refine ow_named (fun QQ hQQ => ?_)
  generalize ([.ref (u r0), .int x1, .int x2, .ref (u 52001)] : List Value).toArray = args at hts hT hQQ ⊢
  unfold le_L_smooth at hq
  suffices key : ∀ (H : Heap) (locs : List Loc), uw_M D vwCl (cX vl) q (tw_A (cX vl) u) s.heap u z H locs → W p l e ({ frames := 8, cells := 4, slots := 24, locals := 198 } : Room) s m args below meth c H locs 0 0 QQ (F0 m 0 ls []) from key s.heap [] hM
  intro H locs hM
  refine lv_aload_n hx hb dlL_smooth_0 rfl (lv_at hl 3 rfl) ?_
  refine lv_iconst (v := 0) hx hb dlL_smooth_1 (by decide) ?_
  refine lv_aload_n hx hb dlL_smooth_2 rfl (lv_at hl 0 rfl) ?_
  refine lv_iload_n hx hb dlL_smooth_3 rfl (lv_at hl 1 rfl) ?_
  refine lv_iload_n hx hb dlL_smooth_4 rfl (lv_at hl 2 rfl) ?_
  obtain ⟨k2, v3, z1, hcq, hq⟩ := ct_tc1 hq
  refine ct_cali hU hM (vx_runV (As := [.int x1, .int x2]) (rest := [.int 0, .ref (u 52001)]) ⟨hx, hb, hml, hown, hts⟩ (kc_X11_smooth l D q vl u hU.1 hlt sa K r0 x1 x2 hr0 z z1 k2 v3 hcq) (cwV 2 hts (tw_gV2 wLL_good wLL_T lq_34 lq_35 lq_36 (wLL_C _ xq_773) (wLL_C _ xq_854)) rfl rfl rfl cdd_X11_smooth ⟨(Nat.le_of_ble_eq_true rfl), (Nat.le_of_ble_eq_true rfl)⟩) (ct_preV hK hTh hM (co_X11 hr0) rfl) rfl rfl hl.1 rfl (lv_room (Nat.le_of_ble_eq_true rfl)) dlL_smooth_5 ⟨(Nat.le_of_ble_eq_true rfl), (Nat.le_of_ble_eq_true rfl)⟩) (fun E ce q9 H locs hk hE hM hce hcv hcl => ?_) (fun H locs hk hM => ?_)
  · have hq := tw_if hq hk
    by_cases hk1 : k2 = 1
    · have hq := tw_it hq hk1
      rw [hk1] at hE
      subst hE
      refine vx_catch (name := thN 1) hown [] ⟨0, 10, 13, 33⟩ [⟨0, 10, 17, 54⟩, ⟨0, 10, 21, 13⟩] htab (fun w hw => by cases hw) (by decide) (by decide) (hts _ (List.mem_cons_of_mem _ lq_0)) (va_Nw.use rfl (hTh _ (List.mem_of_getElem? (i := 3) rfl)).2.2.2.2.2.2) hce hcv hcl ?_
      refine lv_astore (lv' := [(4, .ref q9), (0, .ref (u r0)), (1, .int x1), (2, .int x2), (3, .ref (u 52001))]) hx hb dlL_smooth_13 hl (by decide) rfl (fun ls hl => ?_)
      refine lv_iconst (v := 1) hx hb dlL_smooth_15 (by decide) ?_
      exact ll_iret hx hb hr hlocks hM hq hQQ (Nat.le_of_ble_eq_true rfl) (Nat.le_of_ble_eq_true rfl) dlL_smooth_16
    · have hq := tw_if hq hk1
      by_cases hk4 : k2 = 4
      · have hq := tw_it hq hk4
        rw [hk4] at hE
        subst hE
        refine vx_catch (name := thN 4) hown [⟨0, 10, 13, 33⟩] ⟨0, 10, 17, 54⟩ [⟨0, 10, 21, 13⟩] htab (fun w hw => by
          simp only [List.mem_cons, List.not_mem_nil, or_false] at hw
          rcases hw with rfl
          · exact Or.inr ⟨by decide, thN 1, hts _ (List.mem_cons_of_mem _ lq_0), hNc 4 1 (by decide) (by decide) (by decide)⟩) (by decide) (by decide) (hts _ (List.mem_cons_of_mem _ lq_3)) (va_Nw.use rfl (hTh _ (List.mem_of_getElem? (i := 13) rfl)).2.2.2.2.2.2) hce hcv hcl ?_
        refine lv_astore (lv' := [(4, .ref q9), (0, .ref (u r0)), (1, .int x1), (2, .int x2), (3, .ref (u 52001))]) hx hb dlL_smooth_17 hl (by decide) rfl (fun ls hl => ?_)
        refine lv_iconst (v := 2) hx hb dlL_smooth_19 (by decide) ?_
        exact ll_iret hx hb hr hlocks hM hq hQQ (Nat.le_of_ble_eq_true rfl) (Nat.le_of_ble_eq_true rfl) dlL_smooth_20
      · have hq := tw_if hq hk4
        by_cases hk3 : k2 = 3
        · have hq := tw_it hq hk3
          rw [hk3] at hE
          subst hE
          refine vx_catch (name := thN 3) hown [⟨0, 10, 13, 33⟩, ⟨0, 10, 17, 54⟩] ⟨0, 10, 21, 13⟩ [] htab (fun w hw => by
            simp only [List.mem_cons, List.not_mem_nil, or_false] at hw
            rcases hw with rfl | rfl
            · exact Or.inr ⟨by decide, thN 1, hts _ (List.mem_cons_of_mem _ lq_0), hNc 3 1 (by decide) (by decide) (by decide)⟩
            · exact Or.inr ⟨by decide, thN 4, hts _ (List.mem_cons_of_mem _ lq_3), hNc 3 4 (by decide) (by decide) (by decide)⟩) (by decide) (by decide) (hts _ (List.mem_cons_of_mem _ lq_2)) (va_Nw.use rfl (hTh _ (List.mem_of_getElem? (i := 0) rfl)).2.2.2.2.2.2) hce hcv hcl ?_
          refine lv_astore (lv' := [(4, .ref q9), (0, .ref (u r0)), (1, .int x1), (2, .int x2), (3, .ref (u 52001))]) hx hb dlL_smooth_21 hl (by decide) rfl (fun ls hl => ?_)
          refine lv_iconst (v := 3) hx hb dlL_smooth_23 (by decide) ?_
          exact ll_iret hx hb hr hlocks hM hq hQQ (Nat.le_of_ble_eq_true rfl) (Nat.le_of_ble_eq_true rfl) dlL_smooth_24
        · have hq := tw_if hq hk3
          exact cw_no hq
  · have hq := tw_it hq hk
    refine lv_i2l hx hb dlL_smooth_8 rfl ?_
    refine uw_last cX_ok hU hx hb hK hM cr_out hq dlL_smooth_9 (fun z4 H locs hM hq => ?_)
    refine lv_goto (tgt := 25) hx hb dlL_smooth_10 (by decide) ?_
    refine lv_iconst (v := 0) hx hb dlL_smooth_25 (by decide) ?_
    exact ll_iret hx hb hr hlocks hM hq hQQ (Nat.le_of_ble_eq_true rfl) (Nat.le_of_ble_eq_true rfl) dlL_smooth_26
theorem dlL_apart_0 : decode cL_apart 0 = .ok (.aload_n 3, 1) := by decide +kernel
theorem dlL_apart_1 : decode cL_apart 1 = .ok (.iconst 0, 1) := by decide +kernel
theorem dlL_apart_2 : decode cL_apart 2 = .ok (.aload_n 0, 1) := by decide +kernel
theorem dlL_apart_3 : decode cL_apart 3 = .ok (.iload_n 1, 1) := by decide +kernel
theorem dlL_apart_4 : decode cL_apart 4 = .ok (.iload_n 2, 1) := by decide +kernel
theorem dlL_apart_5 : decode cL_apart 5 = .ok (.invokevirtual 56, 3) := by decide +kernel
theorem dlL_apart_8 : decode cL_apart 8 = .ok (.i2l, 1) := by decide +kernel
theorem dlL_apart_9 : decode cL_apart 9 = .ok (.lastore, 1) := by decide +kernel
theorem dlL_apart_10 : decode cL_apart 10 = .ok (.goto 15, 3) := by decide +kernel
theorem dlL_apart_13 : decode cL_apart 13 = .ok (.astore 4, 2) := by decide +kernel
theorem dlL_apart_15 : decode cL_apart 15 = .ok (.iconst 1, 1) := by decide +kernel
theorem dlL_apart_16 : decode cL_apart 16 = .ok (.ireturn, 1) := by decide +kernel
theorem dlL_apart_17 : decode cL_apart 17 = .ok (.astore 4, 2) := by decide +kernel
theorem dlL_apart_19 : decode cL_apart 19 = .ok (.iconst 2, 1) := by decide +kernel
theorem dlL_apart_20 : decode cL_apart 20 = .ok (.ireturn, 1) := by decide +kernel
theorem dlL_apart_21 : decode cL_apart 21 = .ok (.astore 4, 2) := by decide +kernel
theorem dlL_apart_23 : decode cL_apart 23 = .ok (.iconst 3, 1) := by decide +kernel
theorem dlL_apart_24 : decode cL_apart 24 = .ok (.ireturn, 1) := by decide +kernel
theorem dlL_apart_25 : decode cL_apart 25 = .ok (.iconst 0, 1) := by decide +kernel
theorem dlL_apart_26 : decode cL_apart 26 = .ok (.ireturn, 1) := by decide +kernel
def le_L_apart (vl : Nat → Nat) (K : Nat) (r0 : Nat) (x1 : Int32) (x2 : Int32) (z : ow_MS) : Option (Int32 × ow_MS) :=
 tc1 (ce_X11_apart vl K r0 x1 x2 z) (fun k z => if k = 1 then some (1, z) else if k = 4 then some (2, z) else if k = 3 then some (3, z) else none) fun v3 z1 => ctJ (cX vl) z1 52001 0 v3.toInt64 fun z4 => some (0, z4)
abbrev wl_L_apart : List Cond := .codeWith yL_apart cL_apart 5 (some .int) [(0, 10, 13, 33), (0, 10, 17, 54), (0, 10, 21, 13)] :: wLL
set_option maxHeartbeats 4000000 in
set_option maxRecDepth 100000 in
theorem kl_L_apart (l : Launch) (D : va_G) (q : Nat → ClassId) (vl u : Nat → Nat) (hU0 : tw_inj (cX vl) u) (hlt : l.stackTraces = false) (sa : Nat → Nat) (K : Nat) (r0 : Nat) (x1 : Int32) (x2 : Int32) (hr0 : cw_X11 r0) (z z1 : ow_MS) (r : Int32) (hq : le_L_apart vl K r0 x1 x2 z = some (r, z1)) : vx_Met l yL_apart wl_L_apart ({ frames := 8, cells := 4, slots := 24, locals := 199 } : Room) (va_Pc [.ref (u r0), .int x1, .int x2, .ref (u 52001)] (cw_preL D q vl u sa z)) (va_Qi (fun x (_ : Unit) => x = r) (fun _ t => va_P D vwCl (uw (cX vl) q u z1) t.heap) (tw_A (cX vl) u)) (vx_X (fun _ : Unit => False) (fun _ _ _ => True) (tw_A (cX vl) u)) 4 24 (tw_A (cX vl) u) := by
  refine vx_ofWH (cc := cL_apart) (maxL := 5) (ret := (some .int)) (hh := [(0, 10, 13, 33), (0, 10, 17, 54), (0, 10, 21, 13)]) (by decide) rfl ?_
  intro p e s m args below meth c s₁ B hml hv
  obtain ⟨rfl, hP, hK, hTh, hNc⟩ := hv
  have hx := B.exec
  have hb := B.bytes
  have hr := B.returns
  have hts := atoms_spec (ws := wl_L_apart) B.pre
  have htab := vx_table (x := yL_apart) B (hts _ List.mem_cons_self)
  have hT : ∀ w ∈ wC, w.before ([.ref (u r0), .int x1, .int x2, .ref (u 52001)] : List Value).toArray s = true := fun w h => hts w (List.mem_cons_of_mem _ (wLL_C w h))
  have hown : s.vm.findClass RL = some m.cls := findClass_of_methodNamed B.named
  have hlocks := B.notSynchronized
  have hU : uw_inj (cX vl) u (tw_A (cX vl) u) := ⟨hU0, fun h hh => ⟨h, hh, rfl⟩⟩
  have hM : uw_M D vwCl (cX vl) q (tw_A (cX vl) u) s.heap u z s.heap [] := ⟨hP, va_S.rf⟩
  have hl := lv_entry ([.ref (u r0), .int x1, .int x2, .ref (u 52001)]) (n := 5) (Nat.le_of_ble_eq_true rfl)
  rw [lg_entry_eq]
  generalize (lg_sl ([.ref (u r0), .int x1, .int x2, .ref (u 52001)]) ++ List.replicate (5 - (lg_sl ([.ref (u r0), .int x1, .int x2, .ref (u 52001)])).length) Slot.unset).toArray = ls at hl ⊢
  have hl : lv_has ls 5 [(0, .ref (u r0)), (1, .int x1), (2, .int x2), (3, .ref (u 52001))] := hl
  refine ow_named (fun QQ hQQ => ?_)
  generalize ([.ref (u r0), .int x1, .int x2, .ref (u 52001)] : List Value).toArray = args at hts hT hQQ ⊢
  unfold le_L_apart at hq
  suffices key : ∀ (H : Heap) (locs : List Loc), uw_M D vwCl (cX vl) q (tw_A (cX vl) u) s.heap u z H locs → W p l e ({ frames := 8, cells := 4, slots := 24, locals := 199 } : Room) s m args below meth c H locs 0 0 QQ (F0 m 0 ls []) from key s.heap [] hM
  intro H locs hM
  refine lv_aload_n hx hb dlL_apart_0 rfl (lv_at hl 3 rfl) ?_
  refine lv_iconst (v := 0) hx hb dlL_apart_1 (by decide) ?_
  refine lv_aload_n hx hb dlL_apart_2 rfl (lv_at hl 0 rfl) ?_
  refine lv_iload_n hx hb dlL_apart_3 rfl (lv_at hl 1 rfl) ?_
  refine lv_iload_n hx hb dlL_apart_4 rfl (lv_at hl 2 rfl) ?_
  obtain ⟨k2, v3, z1, hcq, hq⟩ := ct_tc1 hq
  refine ct_cali hU hM (vx_runV (As := [.int x1, .int x2]) (rest := [.int 0, .ref (u 52001)]) ⟨hx, hb, hml, hown, hts⟩ (kc_X11_apart l D q vl u hU.1 hlt sa K r0 x1 x2 hr0 z z1 k2 v3 hcq) (cwV 2 hts (tw_gV2 wLL_good wLL_T lq_37 lq_38 lq_39 (wLL_C _ xq_773) (wLL_C _ xq_863)) rfl rfl rfl cdd_X11_apart ⟨(Nat.le_of_ble_eq_true rfl), (Nat.le_of_ble_eq_true rfl)⟩) (ct_preV hK hTh hM (co_X11 hr0) rfl) rfl rfl hl.1 rfl (lv_room (Nat.le_of_ble_eq_true rfl)) dlL_apart_5 ⟨(Nat.le_of_ble_eq_true rfl), (Nat.le_of_ble_eq_true rfl)⟩) (fun E ce q9 H locs hk hE hM hce hcv hcl => ?_) (fun H locs hk hM => ?_)
  · have hq := tw_if hq hk
    by_cases hk1 : k2 = 1
    · have hq := tw_it hq hk1
      rw [hk1] at hE
      subst hE
      refine vx_catch (name := thN 1) hown [] ⟨0, 10, 13, 33⟩ [⟨0, 10, 17, 54⟩, ⟨0, 10, 21, 13⟩] htab (fun w hw => by cases hw) (by decide) (by decide) (hts _ (List.mem_cons_of_mem _ lq_0)) (va_Nw.use rfl (hTh _ (List.mem_of_getElem? (i := 3) rfl)).2.2.2.2.2.2) hce hcv hcl ?_
      refine lv_astore (lv' := [(4, .ref q9), (0, .ref (u r0)), (1, .int x1), (2, .int x2), (3, .ref (u 52001))]) hx hb dlL_apart_13 hl (by decide) rfl (fun ls hl => ?_)
      refine lv_iconst (v := 1) hx hb dlL_apart_15 (by decide) ?_
      exact ll_iret hx hb hr hlocks hM hq hQQ (Nat.le_of_ble_eq_true rfl) (Nat.le_of_ble_eq_true rfl) dlL_apart_16
    · have hq := tw_if hq hk1
      by_cases hk4 : k2 = 4
      · have hq := tw_it hq hk4
        rw [hk4] at hE
        subst hE
        refine vx_catch (name := thN 4) hown [⟨0, 10, 13, 33⟩] ⟨0, 10, 17, 54⟩ [⟨0, 10, 21, 13⟩] htab (fun w hw => by
          simp only [List.mem_cons, List.not_mem_nil, or_false] at hw
          rcases hw with rfl
          · exact Or.inr ⟨by decide, thN 1, hts _ (List.mem_cons_of_mem _ lq_0), hNc 4 1 (by decide) (by decide) (by decide)⟩) (by decide) (by decide) (hts _ (List.mem_cons_of_mem _ lq_3)) (va_Nw.use rfl (hTh _ (List.mem_of_getElem? (i := 13) rfl)).2.2.2.2.2.2) hce hcv hcl ?_
        refine lv_astore (lv' := [(4, .ref q9), (0, .ref (u r0)), (1, .int x1), (2, .int x2), (3, .ref (u 52001))]) hx hb dlL_apart_17 hl (by decide) rfl (fun ls hl => ?_)
        refine lv_iconst (v := 2) hx hb dlL_apart_19 (by decide) ?_
        exact ll_iret hx hb hr hlocks hM hq hQQ (Nat.le_of_ble_eq_true rfl) (Nat.le_of_ble_eq_true rfl) dlL_apart_20
      · have hq := tw_if hq hk4
        by_cases hk3 : k2 = 3
        · have hq := tw_it hq hk3
          rw [hk3] at hE
          subst hE
          refine vx_catch (name := thN 3) hown [⟨0, 10, 13, 33⟩, ⟨0, 10, 17, 54⟩] ⟨0, 10, 21, 13⟩ [] htab (fun w hw => by
            simp only [List.mem_cons, List.not_mem_nil, or_false] at hw
            rcases hw with rfl | rfl
            · exact Or.inr ⟨by decide, thN 1, hts _ (List.mem_cons_of_mem _ lq_0), hNc 3 1 (by decide) (by decide) (by decide)⟩
            · exact Or.inr ⟨by decide, thN 4, hts _ (List.mem_cons_of_mem _ lq_3), hNc 3 4 (by decide) (by decide) (by decide)⟩) (by decide) (by decide) (hts _ (List.mem_cons_of_mem _ lq_2)) (va_Nw.use rfl (hTh _ (List.mem_of_getElem? (i := 0) rfl)).2.2.2.2.2.2) hce hcv hcl ?_
          refine lv_astore (lv' := [(4, .ref q9), (0, .ref (u r0)), (1, .int x1), (2, .int x2), (3, .ref (u 52001))]) hx hb dlL_apart_21 hl (by decide) rfl (fun ls hl => ?_)
          refine lv_iconst (v := 3) hx hb dlL_apart_23 (by decide) ?_
          exact ll_iret hx hb hr hlocks hM hq hQQ (Nat.le_of_ble_eq_true rfl) (Nat.le_of_ble_eq_true rfl) dlL_apart_24
        · have hq := tw_if hq hk3
          exact cw_no hq
  · have hq := tw_it hq hk
    refine lv_i2l hx hb dlL_apart_8 rfl ?_
    refine uw_last cX_ok hU hx hb hK hM cr_out hq dlL_apart_9 (fun z4 H locs hM hq => ?_)
    refine lv_goto (tgt := 25) hx hb dlL_apart_10 (by decide) ?_
    refine lv_iconst (v := 0) hx hb dlL_apart_25 (by decide) ?_
    exact ll_iret hx hb hr hlocks hM hq hQQ (Nat.le_of_ble_eq_true rfl) (Nat.le_of_ble_eq_true rfl) dlL_apart_26
theorem dlL_join_0 : decode cL_join 0 = .ok (.aload 5, 2) := by decide +kernel
theorem dlL_join_2 : decode cL_join 2 = .ok (.iconst 0, 1) := by decide +kernel
theorem dlL_join_3 : decode cL_join 3 = .ok (.aload_n 0, 1) := by decide +kernel
theorem dlL_join_4 : decode cL_join 4 = .ok (.iload_n 1, 1) := by decide +kernel
theorem dlL_join_5 : decode cL_join 5 = .ok (.iload_n 2, 1) := by decide +kernel
theorem dlL_join_6 : decode cL_join 6 = .ok (.iload_n 3, 1) := by decide +kernel
theorem dlL_join_7 : decode cL_join 7 = .ok (.iload 4, 2) := by decide +kernel
theorem dlL_join_9 : decode cL_join 9 = .ok (.invokevirtual 59, 3) := by decide +kernel
theorem dlL_join_12 : decode cL_join 12 = .ok (.i2l, 1) := by decide +kernel
theorem dlL_join_13 : decode cL_join 13 = .ok (.lastore, 1) := by decide +kernel
theorem dlL_join_14 : decode cL_join 14 = .ok (.goto 15, 3) := by decide +kernel
theorem dlL_join_17 : decode cL_join 17 = .ok (.astore 6, 2) := by decide +kernel
theorem dlL_join_19 : decode cL_join 19 = .ok (.iconst 1, 1) := by decide +kernel
theorem dlL_join_20 : decode cL_join 20 = .ok (.ireturn, 1) := by decide +kernel
theorem dlL_join_21 : decode cL_join 21 = .ok (.astore 6, 2) := by decide +kernel
theorem dlL_join_23 : decode cL_join 23 = .ok (.iconst 2, 1) := by decide +kernel
theorem dlL_join_24 : decode cL_join 24 = .ok (.ireturn, 1) := by decide +kernel
theorem dlL_join_25 : decode cL_join 25 = .ok (.astore 6, 2) := by decide +kernel
theorem dlL_join_27 : decode cL_join 27 = .ok (.iconst 3, 1) := by decide +kernel
theorem dlL_join_28 : decode cL_join 28 = .ok (.ireturn, 1) := by decide +kernel
theorem dlL_join_29 : decode cL_join 29 = .ok (.iconst 0, 1) := by decide +kernel
theorem dlL_join_30 : decode cL_join 30 = .ok (.ireturn, 1) := by decide +kernel
def le_L_join (vl : Nat → Nat) (K : Nat) (r0 : Nat) (x1 : Int32) (x2 : Int32) (x3 : Int32) (x4 : Int32) (z : ow_MS) : Option (Int32 × ow_MS) :=
 tc1 (ce_X11_join vl K r0 x1 x2 x3 x4 z) (fun k z => if k = 1 then some (1, z) else if k = 4 then some (2, z) else if k = 3 then some (3, z) else none) fun v3 z1 => ctJ (cX vl) z1 52001 0 v3.toInt64 fun z4 => some (0, z4)
abbrev wl_L_join : List Cond := .codeWith yL_join cL_join 7 (some .int) [(0, 14, 17, 33), (0, 14, 21, 54), (0, 14, 25, 13)] :: wLL
set_option maxHeartbeats 4000000 in
set_option maxRecDepth 100000 in
theorem kl_L_join (l : Launch) (D : va_G) (q : Nat → ClassId) (vl u : Nat → Nat) (hU0 : tw_inj (cX vl) u) (hlt : l.stackTraces = false) (sa : Nat → Nat) (K : Nat) (r0 : Nat) (x1 : Int32) (x2 : Int32) (x3 : Int32) (x4 : Int32) (hr0 : cw_X11 r0) (z z1 : ow_MS) (r : Int32) (hq : le_L_join vl K r0 x1 x2 x3 x4 z = some (r, z1)) : vx_Met l yL_join wl_L_join ({ frames := 8, cells := 5, slots := 30, locals := 203 } : Room) (va_Pc [.ref (u r0), .int x1, .int x2, .int x3, .int x4, .ref (u 52001)] (cw_preL D q vl u sa z)) (va_Qi (fun x (_ : Unit) => x = r) (fun _ t => va_P D vwCl (uw (cX vl) q u z1) t.heap) (tw_A (cX vl) u)) (vx_X (fun _ : Unit => False) (fun _ _ _ => True) (tw_A (cX vl) u)) 5 30 (tw_A (cX vl) u) := by
  refine vx_ofWH (cc := cL_join) (maxL := 7) (ret := (some .int)) (hh := [(0, 14, 17, 33), (0, 14, 21, 54), (0, 14, 25, 13)]) (by decide) rfl ?_
  intro p e s m args below meth c s₁ B hml hv
  obtain ⟨rfl, hP, hK, hTh, hNc⟩ := hv
  have hx := B.exec
  have hb := B.bytes
  have hr := B.returns
  have hts := atoms_spec (ws := wl_L_join) B.pre
  have htab := vx_table (x := yL_join) B (hts _ List.mem_cons_self)
  have hT : ∀ w ∈ wC, w.before ([.ref (u r0), .int x1, .int x2, .int x3, .int x4, .ref (u 52001)] : List Value).toArray s = true := fun w h => hts w (List.mem_cons_of_mem _ (wLL_C w h))
  have hown : s.vm.findClass RL = some m.cls := findClass_of_methodNamed B.named
  have hlocks := B.notSynchronized
  have hU : uw_inj (cX vl) u (tw_A (cX vl) u) := ⟨hU0, fun h hh => ⟨h, hh, rfl⟩⟩
  have hM : uw_M D vwCl (cX vl) q (tw_A (cX vl) u) s.heap u z s.heap [] := ⟨hP, va_S.rf⟩
  have hl := lv_entry ([.ref (u r0), .int x1, .int x2, .int x3, .int x4, .ref (u 52001)]) (n := 7) (Nat.le_of_ble_eq_true rfl)
  rw [lg_entry_eq]
  generalize (lg_sl ([.ref (u r0), .int x1, .int x2, .int x3, .int x4, .ref (u 52001)]) ++ List.replicate (7 - (lg_sl ([.ref (u r0), .int x1, .int x2, .int x3, .int x4, .ref (u 52001)])).length) Slot.unset).toArray = ls at hl ⊢
  have hl : lv_has ls 7 [(0, .ref (u r0)), (1, .int x1), (2, .int x2), (3, .int x3), (4, .int x4), (5, .ref (u 52001))] := hl
  refine ow_named (fun QQ hQQ => ?_)
  generalize ([.ref (u r0), .int x1, .int x2, .int x3, .int x4, .ref (u 52001)] : List Value).toArray = args at hts hT hQQ ⊢
  unfold le_L_join at hq
  suffices key : ∀ (H : Heap) (locs : List Loc), uw_M D vwCl (cX vl) q (tw_A (cX vl) u) s.heap u z H locs → W p l e ({ frames := 8, cells := 5, slots := 30, locals := 203 } : Room) s m args below meth c H locs 0 0 QQ (F0 m 0 ls []) from key s.heap [] hM
  intro H locs hM
  refine lv_aload hx hb dlL_join_0 (lv_at hl 5 rfl) ?_
  refine lv_iconst (v := 0) hx hb dlL_join_2 (by decide) ?_
  refine lv_aload_n hx hb dlL_join_3 rfl (lv_at hl 0 rfl) ?_
  refine lv_iload_n hx hb dlL_join_4 rfl (lv_at hl 1 rfl) ?_
  refine lv_iload_n hx hb dlL_join_5 rfl (lv_at hl 2 rfl) ?_
  refine lv_iload_n hx hb dlL_join_6 rfl (lv_at hl 3 rfl) ?_
  refine lv_iload hx hb dlL_join_7 (lv_at hl 4 rfl) ?_
  obtain ⟨k2, v3, z1, hcq, hq⟩ := ct_tc1 hq
  refine ct_cali hU hM (vx_runV (As := [.int x1, .int x2, .int x3, .int x4]) (rest := [.int 0, .ref (u 52001)]) ⟨hx, hb, hml, hown, hts⟩ (kc_X11_join l D q vl u hU.1 hlt sa K r0 x1 x2 x3 x4 hr0 z z1 k2 v3 hcq) (cwV 4 hts (tw_gV2 wLL_good wLL_T lq_40 lq_41 lq_42 (wLL_C _ xq_773) (wLL_C _ xq_865)) rfl rfl rfl cdd_X11_join ⟨(Nat.le_of_ble_eq_true rfl), (Nat.le_of_ble_eq_true rfl)⟩) (ct_preV hK hTh hM (co_X11 hr0) rfl) rfl rfl hl.1 rfl (lv_room (Nat.le_of_ble_eq_true rfl)) dlL_join_9 ⟨(Nat.le_of_ble_eq_true rfl), (Nat.le_of_ble_eq_true rfl)⟩) (fun E ce q9 H locs hk hE hM hce hcv hcl => ?_) (fun H locs hk hM => ?_)
  · have hq := tw_if hq hk
    by_cases hk1 : k2 = 1
    · have hq := tw_it hq hk1
      rw [hk1] at hE
      subst hE
      refine vx_catch (name := thN 1) hown [] ⟨0, 14, 17, 33⟩ [⟨0, 14, 21, 54⟩, ⟨0, 14, 25, 13⟩] htab (fun w hw => by cases hw) (by decide) (by decide) (hts _ (List.mem_cons_of_mem _ lq_0)) (va_Nw.use rfl (hTh _ (List.mem_of_getElem? (i := 3) rfl)).2.2.2.2.2.2) hce hcv hcl ?_
      refine lv_astore (lv' := [(6, .ref q9), (0, .ref (u r0)), (1, .int x1), (2, .int x2), (3, .int x3), (4, .int x4), (5, .ref (u 52001))]) hx hb dlL_join_17 hl (by decide) rfl (fun ls hl => ?_)
      refine lv_iconst (v := 1) hx hb dlL_join_19 (by decide) ?_
      exact ll_iret hx hb hr hlocks hM hq hQQ (Nat.le_of_ble_eq_true rfl) (Nat.le_of_ble_eq_true rfl) dlL_join_20
    · have hq := tw_if hq hk1
      by_cases hk4 : k2 = 4
      · have hq := tw_it hq hk4
        rw [hk4] at hE
        subst hE
        refine vx_catch (name := thN 4) hown [⟨0, 14, 17, 33⟩] ⟨0, 14, 21, 54⟩ [⟨0, 14, 25, 13⟩] htab (fun w hw => by
          simp only [List.mem_cons, List.not_mem_nil, or_false] at hw
          rcases hw with rfl
          · exact Or.inr ⟨by decide, thN 1, hts _ (List.mem_cons_of_mem _ lq_0), hNc 4 1 (by decide) (by decide) (by decide)⟩) (by decide) (by decide) (hts _ (List.mem_cons_of_mem _ lq_3)) (va_Nw.use rfl (hTh _ (List.mem_of_getElem? (i := 13) rfl)).2.2.2.2.2.2) hce hcv hcl ?_
        refine lv_astore (lv' := [(6, .ref q9), (0, .ref (u r0)), (1, .int x1), (2, .int x2), (3, .int x3), (4, .int x4), (5, .ref (u 52001))]) hx hb dlL_join_21 hl (by decide) rfl (fun ls hl => ?_)
        refine lv_iconst (v := 2) hx hb dlL_join_23 (by decide) ?_
        exact ll_iret hx hb hr hlocks hM hq hQQ (Nat.le_of_ble_eq_true rfl) (Nat.le_of_ble_eq_true rfl) dlL_join_24
      · have hq := tw_if hq hk4
        by_cases hk3 : k2 = 3
        · have hq := tw_it hq hk3
          rw [hk3] at hE
          subst hE
          refine vx_catch (name := thN 3) hown [⟨0, 14, 17, 33⟩, ⟨0, 14, 21, 54⟩] ⟨0, 14, 25, 13⟩ [] htab (fun w hw => by
            simp only [List.mem_cons, List.not_mem_nil, or_false] at hw
            rcases hw with rfl | rfl
            · exact Or.inr ⟨by decide, thN 1, hts _ (List.mem_cons_of_mem _ lq_0), hNc 3 1 (by decide) (by decide) (by decide)⟩
            · exact Or.inr ⟨by decide, thN 4, hts _ (List.mem_cons_of_mem _ lq_3), hNc 3 4 (by decide) (by decide) (by decide)⟩) (by decide) (by decide) (hts _ (List.mem_cons_of_mem _ lq_2)) (va_Nw.use rfl (hTh _ (List.mem_of_getElem? (i := 0) rfl)).2.2.2.2.2.2) hce hcv hcl ?_
          refine lv_astore (lv' := [(6, .ref q9), (0, .ref (u r0)), (1, .int x1), (2, .int x2), (3, .int x3), (4, .int x4), (5, .ref (u 52001))]) hx hb dlL_join_25 hl (by decide) rfl (fun ls hl => ?_)
          refine lv_iconst (v := 3) hx hb dlL_join_27 (by decide) ?_
          exact ll_iret hx hb hr hlocks hM hq hQQ (Nat.le_of_ble_eq_true rfl) (Nat.le_of_ble_eq_true rfl) dlL_join_28
        · have hq := tw_if hq hk3
          exact cw_no hq
  · have hq := tw_it hq hk
    refine lv_i2l hx hb dlL_join_12 rfl ?_
    refine uw_last cX_ok hU hx hb hK hM cr_out hq dlL_join_13 (fun z4 H locs hM hq => ?_)
    refine lv_goto (tgt := 29) hx hb dlL_join_14 (by decide) ?_
    refine lv_iconst (v := 0) hx hb dlL_join_29 (by decide) ?_
    exact ll_iret hx hb hr hlocks hM hq hQQ (Nat.le_of_ble_eq_true rfl) (Nat.le_of_ble_eq_true rfl) dlL_join_30
theorem dlL_moves_0 : decode cL_moves 0 = .ok (.aload_n 3, 1) := by decide +kernel
theorem dlL_moves_1 : decode cL_moves 1 = .ok (.iconst 0, 1) := by decide +kernel
theorem dlL_moves_2 : decode cL_moves 2 = .ok (.aload_n 0, 1) := by decide +kernel
theorem dlL_moves_3 : decode cL_moves 3 = .ok (.iload_n 1, 1) := by decide +kernel
theorem dlL_moves_4 : decode cL_moves 4 = .ok (.iload_n 2, 1) := by decide +kernel
theorem dlL_moves_5 : decode cL_moves 5 = .ok (.invokevirtual 63, 3) := by decide +kernel
theorem dlL_moves_8 : decode cL_moves 8 = .ok (.i2l, 1) := by decide +kernel
theorem dlL_moves_9 : decode cL_moves 9 = .ok (.lastore, 1) := by decide +kernel
theorem dlL_moves_10 : decode cL_moves 10 = .ok (.goto 11, 3) := by decide +kernel
theorem dlL_moves_13 : decode cL_moves 13 = .ok (.astore 4, 2) := by decide +kernel
theorem dlL_moves_15 : decode cL_moves 15 = .ok (.iconst 1, 1) := by decide +kernel
theorem dlL_moves_16 : decode cL_moves 16 = .ok (.ireturn, 1) := by decide +kernel
theorem dlL_moves_17 : decode cL_moves 17 = .ok (.astore 4, 2) := by decide +kernel
theorem dlL_moves_19 : decode cL_moves 19 = .ok (.iconst 2, 1) := by decide +kernel
theorem dlL_moves_20 : decode cL_moves 20 = .ok (.ireturn, 1) := by decide +kernel
theorem dlL_moves_21 : decode cL_moves 21 = .ok (.iconst 0, 1) := by decide +kernel
theorem dlL_moves_22 : decode cL_moves 22 = .ok (.ireturn, 1) := by decide +kernel
def le_L_moves (vl : Nat → Nat) (K : Nat) (r0 : Nat) (x1 : Int32) (x2 : Int32) (z : ow_MS) : Option (Int32 × ow_MS) :=
 tc1 (ce_X11_moves vl K r0 x1 x2 z) (fun k z => if k = 1 then some (1, z) else if k = 2 then some (2, z) else none) fun v3 z1 => ctJ (cX vl) z1 52001 0 v3.toInt64 fun z4 => some (0, z4)
abbrev wl_L_moves : List Cond := .codeWith yL_moves cL_moves 5 (some .int) [(0, 10, 13, 33), (0, 10, 17, 19)] :: wLL
set_option maxHeartbeats 4000000 in
set_option maxRecDepth 100000 in
theorem kl_L_moves (l : Launch) (D : va_G) (q : Nat → ClassId) (vl u : Nat → Nat) (hU0 : tw_inj (cX vl) u) (hlt : l.stackTraces = false) (sa : Nat → Nat) (K : Nat) (r0 : Nat) (x1 : Int32) (x2 : Int32) (hr0 : cw_X11 r0) (z z1 : ow_MS) (r : Int32) (hq : le_L_moves vl K r0 x1 x2 z = some (r, z1)) : vx_Met l yL_moves wl_L_moves ({ frames := 8, cells := 2, slots := 12, locals := 203 } : Room) (va_Pc [.ref (u r0), .int x1, .int x2, .ref (u 52001)] (cw_preL D q vl u sa z)) (va_Qi (fun x (_ : Unit) => x = r) (fun _ t => va_P D vwCl (uw (cX vl) q u z1) t.heap) (tw_A (cX vl) u)) (vx_X (fun _ : Unit => False) (fun _ _ _ => True) (tw_A (cX vl) u)) 2 12 (tw_A (cX vl) u) := by
  refine vx_ofWH (cc := cL_moves) (maxL := 5) (ret := (some .int)) (hh := [(0, 10, 13, 33), (0, 10, 17, 19)]) (by decide) rfl ?_
  intro p e s m args below meth c s₁ B hml hv
  obtain ⟨rfl, hP, hK, hTh, hNc⟩ := hv
  have hx := B.exec
  have hb := B.bytes
  have hr := B.returns
  have hts := atoms_spec (ws := wl_L_moves) B.pre
  have htab := vx_table (x := yL_moves) B (hts _ List.mem_cons_self)
  have hT : ∀ w ∈ wC, w.before ([.ref (u r0), .int x1, .int x2, .ref (u 52001)] : List Value).toArray s = true := fun w h => hts w (List.mem_cons_of_mem _ (wLL_C w h))
  have hown : s.vm.findClass RL = some m.cls := findClass_of_methodNamed B.named
  have hlocks := B.notSynchronized
  have hU : uw_inj (cX vl) u (tw_A (cX vl) u) := ⟨hU0, fun h hh => ⟨h, hh, rfl⟩⟩
  have hM : uw_M D vwCl (cX vl) q (tw_A (cX vl) u) s.heap u z s.heap [] := ⟨hP, va_S.rf⟩
  have hl := lv_entry ([.ref (u r0), .int x1, .int x2, .ref (u 52001)]) (n := 5) (Nat.le_of_ble_eq_true rfl)
  rw [lg_entry_eq]
  generalize (lg_sl ([.ref (u r0), .int x1, .int x2, .ref (u 52001)]) ++ List.replicate (5 - (lg_sl ([.ref (u r0), .int x1, .int x2, .ref (u 52001)])).length) Slot.unset).toArray = ls at hl ⊢
  have hl : lv_has ls 5 [(0, .ref (u r0)), (1, .int x1), (2, .int x2), (3, .ref (u 52001))] := hl
  refine ow_named (fun QQ hQQ => ?_)
  generalize ([.ref (u r0), .int x1, .int x2, .ref (u 52001)] : List Value).toArray = args at hts hT hQQ ⊢
  unfold le_L_moves at hq
  suffices key : ∀ (H : Heap) (locs : List Loc), uw_M D vwCl (cX vl) q (tw_A (cX vl) u) s.heap u z H locs → W p l e ({ frames := 8, cells := 2, slots := 12, locals := 203 } : Room) s m args below meth c H locs 0 0 QQ (F0 m 0 ls []) from key s.heap [] hM
  intro H locs hM
  refine lv_aload_n hx hb dlL_moves_0 rfl (lv_at hl 3 rfl) ?_
  refine lv_iconst (v := 0) hx hb dlL_moves_1 (by decide) ?_
  refine lv_aload_n hx hb dlL_moves_2 rfl (lv_at hl 0 rfl) ?_
  refine lv_iload_n hx hb dlL_moves_3 rfl (lv_at hl 1 rfl) ?_
  refine lv_iload_n hx hb dlL_moves_4 rfl (lv_at hl 2 rfl) ?_
  obtain ⟨k2, v3, z1, hcq, hq⟩ := ct_tc1 hq
  refine ct_cali hU hM (vx_runV (As := [.int x1, .int x2]) (rest := [.int 0, .ref (u 52001)]) ⟨hx, hb, hml, hown, hts⟩ (kc_X11_moves l D q vl u hU.1 hlt sa K r0 x1 x2 hr0 z z1 k2 v3 hcq) (cwV 2 hts (tw_gV2 wLL_good wLL_T lq_43 lq_44 lq_45 (wLL_C _ xq_773) (wLL_C _ xq_870)) rfl rfl rfl cdd_X11_moves ⟨(Nat.le_of_ble_eq_true rfl), (Nat.le_of_ble_eq_true rfl)⟩) (ct_preV hK hTh hM (co_X11 hr0) rfl) rfl rfl hl.1 rfl (lv_room (Nat.le_of_ble_eq_true rfl)) dlL_moves_5 ⟨(Nat.le_of_ble_eq_true rfl), (Nat.le_of_ble_eq_true rfl)⟩) (fun E ce q9 H locs hk hE hM hce hcv hcl => ?_) (fun H locs hk hM => ?_)
  · have hq := tw_if hq hk
    by_cases hk1 : k2 = 1
    · have hq := tw_it hq hk1
      rw [hk1] at hE
      subst hE
      refine vx_catch (name := thN 1) hown [] ⟨0, 10, 13, 33⟩ [⟨0, 10, 17, 19⟩] htab (fun w hw => by cases hw) (by decide) (by decide) (hts _ (List.mem_cons_of_mem _ lq_0)) (va_Nw.use rfl (hTh _ (List.mem_of_getElem? (i := 3) rfl)).2.2.2.2.2.2) hce hcv hcl ?_
      refine lv_astore (lv' := [(4, .ref q9), (0, .ref (u r0)), (1, .int x1), (2, .int x2), (3, .ref (u 52001))]) hx hb dlL_moves_13 hl (by decide) rfl (fun ls hl => ?_)
      refine lv_iconst (v := 1) hx hb dlL_moves_15 (by decide) ?_
      exact ll_iret hx hb hr hlocks hM hq hQQ (Nat.le_of_ble_eq_true rfl) (Nat.le_of_ble_eq_true rfl) dlL_moves_16
    · have hq := tw_if hq hk1
      by_cases hk2 : k2 = 2
      · have hq := tw_it hq hk2
        rw [hk2] at hE
        subst hE
        refine vx_catch (name := thN 2) hown [⟨0, 10, 13, 33⟩] ⟨0, 10, 17, 19⟩ [] htab (fun w hw => by
          simp only [List.mem_cons, List.not_mem_nil, or_false] at hw
          rcases hw with rfl
          · exact Or.inr ⟨by decide, thN 1, hts _ (List.mem_cons_of_mem _ lq_0), hNc 2 1 (by decide) (by decide) (by decide)⟩) (by decide) (by decide) (hts _ (List.mem_cons_of_mem _ lq_1)) (va_Nw.use rfl (hTh _ (List.mem_of_getElem? (i := 1) rfl)).2.2.2.2.2.2) hce hcv hcl ?_
        refine lv_astore (lv' := [(4, .ref q9), (0, .ref (u r0)), (1, .int x1), (2, .int x2), (3, .ref (u 52001))]) hx hb dlL_moves_17 hl (by decide) rfl (fun ls hl => ?_)
        refine lv_iconst (v := 2) hx hb dlL_moves_19 (by decide) ?_
        exact ll_iret hx hb hr hlocks hM hq hQQ (Nat.le_of_ble_eq_true rfl) (Nat.le_of_ble_eq_true rfl) dlL_moves_20
      · have hq := tw_if hq hk2
        exact cw_no hq
  · have hq := tw_it hq hk
    refine lv_i2l hx hb dlL_moves_8 rfl ?_
    refine uw_last cX_ok hU hx hb hK hM cr_out hq dlL_moves_9 (fun z4 H locs hM hq => ?_)
    refine lv_goto (tgt := 21) hx hb dlL_moves_10 (by decide) ?_
    refine lv_iconst (v := 0) hx hb dlL_moves_21 (by decide) ?_
    exact ll_iret hx hb hr hlocks hM hq hQQ (Nat.le_of_ble_eq_true rfl) (Nat.le_of_ble_eq_true rfl) dlL_moves_22
theorem dlL_moved_0 : decode cL_moved 0 = .ok (.aload_n 2, 1) := by decide +kernel
theorem dlL_moved_1 : decode cL_moved 1 = .ok (.iconst 0, 1) := by decide +kernel
theorem dlL_moved_2 : decode cL_moved 2 = .ok (.aload_n 0, 1) := by decide +kernel
theorem dlL_moved_3 : decode cL_moved 3 = .ok (.iload_n 1, 1) := by decide +kernel
theorem dlL_moved_4 : decode cL_moved 4 = .ok (.invokevirtual 66, 3) := by decide +kernel
theorem dlL_moved_7 : decode cL_moved 7 = .ok (.i2l, 1) := by decide +kernel
theorem dlL_moved_8 : decode cL_moved 8 = .ok (.lastore, 1) := by decide +kernel
theorem dlL_moved_9 : decode cL_moved 9 = .ok (.goto 9, 3) := by decide +kernel
theorem dlL_moved_12 : decode cL_moved 12 = .ok (.astore_n 3, 1) := by decide +kernel
theorem dlL_moved_13 : decode cL_moved 13 = .ok (.iconst 1, 1) := by decide +kernel
theorem dlL_moved_14 : decode cL_moved 14 = .ok (.ireturn, 1) := by decide +kernel
theorem dlL_moved_15 : decode cL_moved 15 = .ok (.astore_n 3, 1) := by decide +kernel
theorem dlL_moved_16 : decode cL_moved 16 = .ok (.iconst 2, 1) := by decide +kernel
theorem dlL_moved_17 : decode cL_moved 17 = .ok (.ireturn, 1) := by decide +kernel
theorem dlL_moved_18 : decode cL_moved 18 = .ok (.iconst 0, 1) := by decide +kernel
theorem dlL_moved_19 : decode cL_moved 19 = .ok (.ireturn, 1) := by decide +kernel
def le_L_moved (vl : Nat → Nat) (K : Nat) (r0 : Nat) (x1 : Int32) (z : ow_MS) : Option (Int32 × ow_MS) :=
 tc1 (ce_X11_moved vl K r0 x1 z) (fun k z => if k = 1 then some (1, z) else if k = 3 then some (2, z) else none) fun v3 z1 => ctJ (cX vl) z1 52001 0 v3.toInt64 fun z4 => some (0, z4)
abbrev wl_L_moved : List Cond := .codeWith yL_moved cL_moved 4 (some .int) [(0, 9, 12, 33), (0, 9, 15, 13)] :: wLL
set_option maxHeartbeats 4000000 in
set_option maxRecDepth 100000 in
theorem kl_L_moved (l : Launch) (D : va_G) (q : Nat → ClassId) (vl u : Nat → Nat) (hU0 : tw_inj (cX vl) u) (hlt : l.stackTraces = false) (sa : Nat → Nat) (K : Nat) (r0 : Nat) (x1 : Int32) (hr0 : cw_X11 r0) (z z1 : ow_MS) (r : Int32) (hq : le_L_moved vl K r0 x1 z = some (r, z1)) : vx_Met l yL_moved wl_L_moved ({ frames := 9, cells := 2, slots := 12, locals := 155 } : Room) (va_Pc [.ref (u r0), .int x1, .ref (u 52001)] (cw_preL D q vl u sa z)) (va_Qi (fun x (_ : Unit) => x = r) (fun _ t => va_P D vwCl (uw (cX vl) q u z1) t.heap) (tw_A (cX vl) u)) (vx_X (fun _ : Unit => False) (fun _ _ _ => True) (tw_A (cX vl) u)) 2 12 (tw_A (cX vl) u) := by
  refine vx_ofWH (cc := cL_moved) (maxL := 4) (ret := (some .int)) (hh := [(0, 9, 12, 33), (0, 9, 15, 13)]) (by decide) rfl ?_
  intro p e s m args below meth c s₁ B hml hv
  obtain ⟨rfl, hP, hK, hTh, hNc⟩ := hv
  have hx := B.exec
  have hb := B.bytes
  have hr := B.returns
  have hts := atoms_spec (ws := wl_L_moved) B.pre
  have htab := vx_table (x := yL_moved) B (hts _ List.mem_cons_self)
  have hT : ∀ w ∈ wC, w.before ([.ref (u r0), .int x1, .ref (u 52001)] : List Value).toArray s = true := fun w h => hts w (List.mem_cons_of_mem _ (wLL_C w h))
  have hown : s.vm.findClass RL = some m.cls := findClass_of_methodNamed B.named
  have hlocks := B.notSynchronized
  have hU : uw_inj (cX vl) u (tw_A (cX vl) u) := ⟨hU0, fun h hh => ⟨h, hh, rfl⟩⟩
  have hM : uw_M D vwCl (cX vl) q (tw_A (cX vl) u) s.heap u z s.heap [] := ⟨hP, va_S.rf⟩
  have hl := lv_entry ([.ref (u r0), .int x1, .ref (u 52001)]) (n := 4) (Nat.le_of_ble_eq_true rfl)
  rw [lg_entry_eq]
  generalize (lg_sl ([.ref (u r0), .int x1, .ref (u 52001)]) ++ List.replicate (4 - (lg_sl ([.ref (u r0), .int x1, .ref (u 52001)])).length) Slot.unset).toArray = ls at hl ⊢
  have hl : lv_has ls 4 [(0, .ref (u r0)), (1, .int x1), (2, .ref (u 52001))] := hl
  refine ow_named (fun QQ hQQ => ?_)
  generalize ([.ref (u r0), .int x1, .ref (u 52001)] : List Value).toArray = args at hts hT hQQ ⊢
  unfold le_L_moved at hq
  suffices key : ∀ (H : Heap) (locs : List Loc), uw_M D vwCl (cX vl) q (tw_A (cX vl) u) s.heap u z H locs → W p l e ({ frames := 9, cells := 2, slots := 12, locals := 155 } : Room) s m args below meth c H locs 0 0 QQ (F0 m 0 ls []) from key s.heap [] hM
  intro H locs hM
  refine lv_aload_n hx hb dlL_moved_0 rfl (lv_at hl 2 rfl) ?_
  refine lv_iconst (v := 0) hx hb dlL_moved_1 (by decide) ?_
  refine lv_aload_n hx hb dlL_moved_2 rfl (lv_at hl 0 rfl) ?_
  refine lv_iload_n hx hb dlL_moved_3 rfl (lv_at hl 1 rfl) ?_
  obtain ⟨k2, v3, z1, hcq, hq⟩ := ct_tc1 hq
  refine ct_cali hU hM (vx_runV (As := [.int x1]) (rest := [.int 0, .ref (u 52001)]) ⟨hx, hb, hml, hown, hts⟩ (kc_X11_moved l D q vl u hU.1 hlt sa K r0 x1 hr0 z z1 k2 v3 hcq) (cwV 1 hts (tw_gV2 wLL_good wLL_T lq_46 lq_47 lq_48 (wLL_C _ xq_773) (wLL_C _ xq_876)) rfl rfl rfl cdd_X11_moved ⟨(Nat.le_of_ble_eq_true rfl), (Nat.le_of_ble_eq_true rfl)⟩) (ct_preV hK hTh hM (co_X11 hr0) rfl) rfl rfl hl.1 rfl (lv_room (Nat.le_of_ble_eq_true rfl)) dlL_moved_4 ⟨(Nat.le_of_ble_eq_true rfl), (Nat.le_of_ble_eq_true rfl)⟩) (fun E ce q9 H locs hk hE hM hce hcv hcl => ?_) (fun H locs hk hM => ?_)
  · have hq := tw_if hq hk
    by_cases hk1 : k2 = 1
    · have hq := tw_it hq hk1
      rw [hk1] at hE
      subst hE
      refine vx_catch (name := thN 1) hown [] ⟨0, 9, 12, 33⟩ [⟨0, 9, 15, 13⟩] htab (fun w hw => by cases hw) (by decide) (by decide) (hts _ (List.mem_cons_of_mem _ lq_0)) (va_Nw.use rfl (hTh _ (List.mem_of_getElem? (i := 3) rfl)).2.2.2.2.2.2) hce hcv hcl ?_
      refine lv_astore_n (lv' := [(3, .ref q9), (0, .ref (u r0)), (1, .int x1), (2, .ref (u 52001))]) hx hb dlL_moved_12 rfl hl (by decide) rfl (fun ls hl => ?_)
      refine lv_iconst (v := 1) hx hb dlL_moved_13 (by decide) ?_
      exact ll_iret hx hb hr hlocks hM hq hQQ (Nat.le_of_ble_eq_true rfl) (Nat.le_of_ble_eq_true rfl) dlL_moved_14
    · have hq := tw_if hq hk1
      by_cases hk3 : k2 = 3
      · have hq := tw_it hq hk3
        rw [hk3] at hE
        subst hE
        refine vx_catch (name := thN 3) hown [⟨0, 9, 12, 33⟩] ⟨0, 9, 15, 13⟩ [] htab (fun w hw => by
          simp only [List.mem_cons, List.not_mem_nil, or_false] at hw
          rcases hw with rfl
          · exact Or.inr ⟨by decide, thN 1, hts _ (List.mem_cons_of_mem _ lq_0), hNc 3 1 (by decide) (by decide) (by decide)⟩) (by decide) (by decide) (hts _ (List.mem_cons_of_mem _ lq_2)) (va_Nw.use rfl (hTh _ (List.mem_of_getElem? (i := 0) rfl)).2.2.2.2.2.2) hce hcv hcl ?_
        refine lv_astore_n (lv' := [(3, .ref q9), (0, .ref (u r0)), (1, .int x1), (2, .ref (u 52001))]) hx hb dlL_moved_15 rfl hl (by decide) rfl (fun ls hl => ?_)
        refine lv_iconst (v := 2) hx hb dlL_moved_16 (by decide) ?_
        exact ll_iret hx hb hr hlocks hM hq hQQ (Nat.le_of_ble_eq_true rfl) (Nat.le_of_ble_eq_true rfl) dlL_moved_17
      · have hq := tw_if hq hk3
        exact cw_no hq
  · have hq := tw_it hq hk
    refine lv_i2l hx hb dlL_moved_7 rfl ?_
    refine uw_last cX_ok hU hx hb hK hM cr_out hq dlL_moved_8 (fun z4 H locs hM hq => ?_)
    refine lv_goto (tgt := 18) hx hb dlL_moved_9 (by decide) ?_
    refine lv_iconst (v := 0) hx hb dlL_moved_18 (by decide) ?_
    exact ll_iret hx hb hr hlocks hM hq hQQ (Nat.le_of_ble_eq_true rfl) (Nat.le_of_ble_eq_true rfl) dlL_moved_19
theorem dlL_simplify_0 : decode cL_simplify 0 = .ok (.aload_n 2, 1) := by decide +kernel
theorem dlL_simplify_1 : decode cL_simplify 1 = .ok (.iconst 0, 1) := by decide +kernel
theorem dlL_simplify_2 : decode cL_simplify 2 = .ok (.aload_n 0, 1) := by decide +kernel
theorem dlL_simplify_3 : decode cL_simplify 3 = .ok (.iload_n 1, 1) := by decide +kernel
theorem dlL_simplify_4 : decode cL_simplify 4 = .ok (.invokevirtual 69, 3) := by decide +kernel
theorem dlL_simplify_7 : decode cL_simplify 7 = .ok (.i2l, 1) := by decide +kernel
theorem dlL_simplify_8 : decode cL_simplify 8 = .ok (.lastore, 1) := by decide +kernel
theorem dlL_simplify_9 : decode cL_simplify 9 = .ok (.goto 9, 3) := by decide +kernel
theorem dlL_simplify_12 : decode cL_simplify 12 = .ok (.astore_n 3, 1) := by decide +kernel
theorem dlL_simplify_13 : decode cL_simplify 13 = .ok (.iconst 1, 1) := by decide +kernel
theorem dlL_simplify_14 : decode cL_simplify 14 = .ok (.ireturn, 1) := by decide +kernel
theorem dlL_simplify_15 : decode cL_simplify 15 = .ok (.astore_n 3, 1) := by decide +kernel
theorem dlL_simplify_16 : decode cL_simplify 16 = .ok (.iconst 2, 1) := by decide +kernel
theorem dlL_simplify_17 : decode cL_simplify 17 = .ok (.ireturn, 1) := by decide +kernel
theorem dlL_simplify_18 : decode cL_simplify 18 = .ok (.iconst 0, 1) := by decide +kernel
theorem dlL_simplify_19 : decode cL_simplify 19 = .ok (.ireturn, 1) := by decide +kernel
def le_L_simplify (vl : Nat → Nat) (K : Nat) (r0 : Nat) (x1 : Int32) (z : ow_MS) : Option (Int32 × ow_MS) :=
 tc1 (ce_X11_simplify vl K r0 x1 z) (fun k z => if k = 1 then some (1, z) else if k = 3 then some (2, z) else none) fun v3 z1 => ctJ (cX vl) z1 52001 0 v3.toInt64 fun z4 => some (0, z4)
abbrev wl_L_simplify : List Cond := .codeWith yL_simplify cL_simplify 4 (some .int) [(0, 9, 12, 33), (0, 9, 15, 13)] :: wLL
set_option maxHeartbeats 4000000 in
set_option maxRecDepth 100000 in
theorem kl_L_simplify (l : Launch) (D : va_G) (q : Nat → ClassId) (vl u : Nat → Nat) (hU0 : tw_inj (cX vl) u) (hlt : l.stackTraces = false) (sa : Nat → Nat) (K : Nat) (r0 : Nat) (x1 : Int32) (hr0 : cw_X11 r0) (z z1 : ow_MS) (r : Int32) (hq : le_L_simplify vl K r0 x1 z = some (r, z1)) : vx_Met l yL_simplify wl_L_simplify ({ frames := 9, cells := 2, slots := 12, locals := 227 } : Room) (va_Pc [.ref (u r0), .int x1, .ref (u 52001)] (cw_preL D q vl u sa z)) (va_Qi (fun x (_ : Unit) => x = r) (fun _ t => va_P D vwCl (uw (cX vl) q u z1) t.heap) (tw_A (cX vl) u)) (vx_X (fun _ : Unit => False) (fun _ _ _ => True) (tw_A (cX vl) u)) 2 12 (tw_A (cX vl) u) := by
  refine vx_ofWH (cc := cL_simplify) (maxL := 4) (ret := (some .int)) (hh := [(0, 9, 12, 33), (0, 9, 15, 13)]) (by decide) rfl ?_
  intro p e s m args below meth c s₁ B hml hv
  obtain ⟨rfl, hP, hK, hTh, hNc⟩ := hv
  have hx := B.exec
  have hb := B.bytes
  have hr := B.returns
  have hts := atoms_spec (ws := wl_L_simplify) B.pre
  have htab := vx_table (x := yL_simplify) B (hts _ List.mem_cons_self)
  have hT : ∀ w ∈ wC, w.before ([.ref (u r0), .int x1, .ref (u 52001)] : List Value).toArray s = true := fun w h => hts w (List.mem_cons_of_mem _ (wLL_C w h))
  have hown : s.vm.findClass RL = some m.cls := findClass_of_methodNamed B.named
  have hlocks := B.notSynchronized
  have hU : uw_inj (cX vl) u (tw_A (cX vl) u) := ⟨hU0, fun h hh => ⟨h, hh, rfl⟩⟩
  have hM : uw_M D vwCl (cX vl) q (tw_A (cX vl) u) s.heap u z s.heap [] := ⟨hP, va_S.rf⟩
  have hl := lv_entry ([.ref (u r0), .int x1, .ref (u 52001)]) (n := 4) (Nat.le_of_ble_eq_true rfl)
  rw [lg_entry_eq]
  generalize (lg_sl ([.ref (u r0), .int x1, .ref (u 52001)]) ++ List.replicate (4 - (lg_sl ([.ref (u r0), .int x1, .ref (u 52001)])).length) Slot.unset).toArray = ls at hl ⊢
  have hl : lv_has ls 4 [(0, .ref (u r0)), (1, .int x1), (2, .ref (u 52001))] := hl
  refine ow_named (fun QQ hQQ => ?_)
  generalize ([.ref (u r0), .int x1, .ref (u 52001)] : List Value).toArray = args at hts hT hQQ ⊢
  unfold le_L_simplify at hq
  suffices key : ∀ (H : Heap) (locs : List Loc), uw_M D vwCl (cX vl) q (tw_A (cX vl) u) s.heap u z H locs → W p l e ({ frames := 9, cells := 2, slots := 12, locals := 227 } : Room) s m args below meth c H locs 0 0 QQ (F0 m 0 ls []) from key s.heap [] hM
  intro H locs hM
  refine lv_aload_n hx hb dlL_simplify_0 rfl (lv_at hl 2 rfl) ?_
  refine lv_iconst (v := 0) hx hb dlL_simplify_1 (by decide) ?_
  refine lv_aload_n hx hb dlL_simplify_2 rfl (lv_at hl 0 rfl) ?_
  refine lv_iload_n hx hb dlL_simplify_3 rfl (lv_at hl 1 rfl) ?_
  obtain ⟨k2, v3, z1, hcq, hq⟩ := ct_tc1 hq
  refine ct_cali hU hM (vx_runV (As := [.int x1]) (rest := [.int 0, .ref (u 52001)]) ⟨hx, hb, hml, hown, hts⟩ (kc_X11_simplify l D q vl u hU.1 hlt sa K r0 x1 hr0 z z1 k2 v3 hcq) (cwV 1 hts (tw_gV2 wLL_good wLL_T lq_49 lq_50 lq_51 (wLL_C _ xq_773) (wLL_C _ xq_881)) rfl rfl rfl cdd_X11_simplify ⟨(Nat.le_of_ble_eq_true rfl), (Nat.le_of_ble_eq_true rfl)⟩) (ct_preV hK hTh hM (co_X11 hr0) rfl) rfl rfl hl.1 rfl (lv_room (Nat.le_of_ble_eq_true rfl)) dlL_simplify_4 ⟨(Nat.le_of_ble_eq_true rfl), (Nat.le_of_ble_eq_true rfl)⟩) (fun E ce q9 H locs hk hE hM hce hcv hcl => ?_) (fun H locs hk hM => ?_)
  · have hq := tw_if hq hk
    by_cases hk1 : k2 = 1
    · have hq := tw_it hq hk1
      rw [hk1] at hE
      subst hE
      refine vx_catch (name := thN 1) hown [] ⟨0, 9, 12, 33⟩ [⟨0, 9, 15, 13⟩] htab (fun w hw => by cases hw) (by decide) (by decide) (hts _ (List.mem_cons_of_mem _ lq_0)) (va_Nw.use rfl (hTh _ (List.mem_of_getElem? (i := 3) rfl)).2.2.2.2.2.2) hce hcv hcl ?_
      refine lv_astore_n (lv' := [(3, .ref q9), (0, .ref (u r0)), (1, .int x1), (2, .ref (u 52001))]) hx hb dlL_simplify_12 rfl hl (by decide) rfl (fun ls hl => ?_)
      refine lv_iconst (v := 1) hx hb dlL_simplify_13 (by decide) ?_
      exact ll_iret hx hb hr hlocks hM hq hQQ (Nat.le_of_ble_eq_true rfl) (Nat.le_of_ble_eq_true rfl) dlL_simplify_14
    · have hq := tw_if hq hk1
      by_cases hk3 : k2 = 3
      · have hq := tw_it hq hk3
        rw [hk3] at hE
        subst hE
        refine vx_catch (name := thN 3) hown [⟨0, 9, 12, 33⟩] ⟨0, 9, 15, 13⟩ [] htab (fun w hw => by
          simp only [List.mem_cons, List.not_mem_nil, or_false] at hw
          rcases hw with rfl
          · exact Or.inr ⟨by decide, thN 1, hts _ (List.mem_cons_of_mem _ lq_0), hNc 3 1 (by decide) (by decide) (by decide)⟩) (by decide) (by decide) (hts _ (List.mem_cons_of_mem _ lq_2)) (va_Nw.use rfl (hTh _ (List.mem_of_getElem? (i := 0) rfl)).2.2.2.2.2.2) hce hcv hcl ?_
        refine lv_astore_n (lv' := [(3, .ref q9), (0, .ref (u r0)), (1, .int x1), (2, .ref (u 52001))]) hx hb dlL_simplify_15 rfl hl (by decide) rfl (fun ls hl => ?_)
        refine lv_iconst (v := 2) hx hb dlL_simplify_16 (by decide) ?_
        exact ll_iret hx hb hr hlocks hM hq hQQ (Nat.le_of_ble_eq_true rfl) (Nat.le_of_ble_eq_true rfl) dlL_simplify_17
      · have hq := tw_if hq hk3
        exact cw_no hq
  · have hq := tw_it hq hk
    refine lv_i2l hx hb dlL_simplify_7 rfl ?_
    refine uw_last cX_ok hU hx hb hK hM cr_out hq dlL_simplify_8 (fun z4 H locs hM hq => ?_)
    refine lv_goto (tgt := 18) hx hb dlL_simplify_9 (by decide) ?_
    refine lv_iconst (v := 0) hx hb dlL_simplify_18 (by decide) ?_
    exact ll_iret hx hb hr hlocks hM hq hQQ (Nat.le_of_ble_eq_true rfl) (Nat.le_of_ble_eq_true rfl) dlL_simplify_19
theorem dlL_way_0 : decode cL_way 0 = .ok (.aload_n 3, 1) := by decide +kernel
theorem dlL_way_1 : decode cL_way 1 = .ok (.iconst 0, 1) := by decide +kernel
theorem dlL_way_2 : decode cL_way 2 = .ok (.aload_n 0, 1) := by decide +kernel
theorem dlL_way_3 : decode cL_way 3 = .ok (.iload_n 1, 1) := by decide +kernel
theorem dlL_way_4 : decode cL_way 4 = .ok (.iload_n 2, 1) := by decide +kernel
theorem dlL_way_5 : decode cL_way 5 = .ok (.invokevirtual 72, 3) := by decide +kernel
theorem dlL_way_8 : decode cL_way 8 = .ok (.i2l, 1) := by decide +kernel
theorem dlL_way_9 : decode cL_way 9 = .ok (.lastore, 1) := by decide +kernel
theorem dlL_way_10 : decode cL_way 10 = .ok (.goto 11, 3) := by decide +kernel
theorem dlL_way_13 : decode cL_way 13 = .ok (.astore 4, 2) := by decide +kernel
theorem dlL_way_15 : decode cL_way 15 = .ok (.iconst 1, 1) := by decide +kernel
theorem dlL_way_16 : decode cL_way 16 = .ok (.ireturn, 1) := by decide +kernel
theorem dlL_way_17 : decode cL_way 17 = .ok (.astore 4, 2) := by decide +kernel
theorem dlL_way_19 : decode cL_way 19 = .ok (.iconst 2, 1) := by decide +kernel
theorem dlL_way_20 : decode cL_way 20 = .ok (.ireturn, 1) := by decide +kernel
theorem dlL_way_21 : decode cL_way 21 = .ok (.iconst 0, 1) := by decide +kernel
theorem dlL_way_22 : decode cL_way 22 = .ok (.ireturn, 1) := by decide +kernel
def le_L_way (vl : Nat → Nat) (K : Nat) (r0 : Nat) (x1 : Int32) (x2 : Int32) (z : ow_MS) : Option (Int32 × ow_MS) :=
 tc1 (ce_X11_way vl K r0 x1 x2 z) (fun k z => if k = 1 then some (1, z) else if k = 4 then some (2, z) else none) fun v3 z1 => ctJ (cX vl) z1 52001 0 v3.toInt64 fun z4 => some (0, z4)
abbrev wl_L_way : List Cond := .codeWith yL_way cL_way 5 (some .int) [(0, 10, 13, 33), (0, 10, 17, 54)] :: wLL
set_option maxHeartbeats 4000000 in
set_option maxRecDepth 100000 in
theorem kl_L_way (l : Launch) (D : va_G) (q : Nat → ClassId) (vl u : Nat → Nat) (hU0 : tw_inj (cX vl) u) (hlt : l.stackTraces = false) (sa : Nat → Nat) (K : Nat) (r0 : Nat) (x1 : Int32) (x2 : Int32) (hr0 : cw_X11 r0) (z z1 : ow_MS) (r : Int32) (hq : le_L_way vl K r0 x1 x2 z = some (r, z1)) : vx_Met l yL_way wl_L_way ({ frames := 9, cells := 3, slots := 18, locals := 227 } : Room) (va_Pc [.ref (u r0), .int x1, .int x2, .ref (u 52001)] (cw_preL D q vl u sa z)) (va_Qi (fun x (_ : Unit) => x = r) (fun _ t => va_P D vwCl (uw (cX vl) q u z1) t.heap) (tw_A (cX vl) u)) (vx_X (fun _ : Unit => False) (fun _ _ _ => True) (tw_A (cX vl) u)) 3 18 (tw_A (cX vl) u) := by
  refine vx_ofWH (cc := cL_way) (maxL := 5) (ret := (some .int)) (hh := [(0, 10, 13, 33), (0, 10, 17, 54)]) (by decide) rfl ?_
  intro p e s m args below meth c s₁ B hml hv
  obtain ⟨rfl, hP, hK, hTh, hNc⟩ := hv
  have hx := B.exec
  have hb := B.bytes
  have hr := B.returns
  have hts := atoms_spec (ws := wl_L_way) B.pre
  have htab := vx_table (x := yL_way) B (hts _ List.mem_cons_self)
  have hT : ∀ w ∈ wC, w.before ([.ref (u r0), .int x1, .int x2, .ref (u 52001)] : List Value).toArray s = true := fun w h => hts w (List.mem_cons_of_mem _ (wLL_C w h))
  have hown : s.vm.findClass RL = some m.cls := findClass_of_methodNamed B.named
  have hlocks := B.notSynchronized
  have hU : uw_inj (cX vl) u (tw_A (cX vl) u) := ⟨hU0, fun h hh => ⟨h, hh, rfl⟩⟩
  have hM : uw_M D vwCl (cX vl) q (tw_A (cX vl) u) s.heap u z s.heap [] := ⟨hP, va_S.rf⟩
  have hl := lv_entry ([.ref (u r0), .int x1, .int x2, .ref (u 52001)]) (n := 5) (Nat.le_of_ble_eq_true rfl)
  rw [lg_entry_eq]
  generalize (lg_sl ([.ref (u r0), .int x1, .int x2, .ref (u 52001)]) ++ List.replicate (5 - (lg_sl ([.ref (u r0), .int x1, .int x2, .ref (u 52001)])).length) Slot.unset).toArray = ls at hl ⊢
  have hl : lv_has ls 5 [(0, .ref (u r0)), (1, .int x1), (2, .int x2), (3, .ref (u 52001))] := hl
  refine ow_named (fun QQ hQQ => ?_)
  generalize ([.ref (u r0), .int x1, .int x2, .ref (u 52001)] : List Value).toArray = args at hts hT hQQ ⊢
  unfold le_L_way at hq
  suffices key : ∀ (H : Heap) (locs : List Loc), uw_M D vwCl (cX vl) q (tw_A (cX vl) u) s.heap u z H locs → W p l e ({ frames := 9, cells := 3, slots := 18, locals := 227 } : Room) s m args below meth c H locs 0 0 QQ (F0 m 0 ls []) from key s.heap [] hM
  intro H locs hM
  refine lv_aload_n hx hb dlL_way_0 rfl (lv_at hl 3 rfl) ?_
  refine lv_iconst (v := 0) hx hb dlL_way_1 (by decide) ?_
  refine lv_aload_n hx hb dlL_way_2 rfl (lv_at hl 0 rfl) ?_
  refine lv_iload_n hx hb dlL_way_3 rfl (lv_at hl 1 rfl) ?_
  refine lv_iload_n hx hb dlL_way_4 rfl (lv_at hl 2 rfl) ?_
  obtain ⟨k2, v3, z1, hcq, hq⟩ := ct_tc1 hq
  refine ct_cali hU hM (vx_runV (As := [.int x1, .int x2]) (rest := [.int 0, .ref (u 52001)]) ⟨hx, hb, hml, hown, hts⟩ (kc_X11_way l D q vl u hU.1 hlt sa K r0 x1 x2 hr0 z z1 k2 v3 hcq) (cwV 2 hts (tw_gV2 wLL_good wLL_T lq_52 lq_53 lq_54 (wLL_C _ xq_773) (wLL_C _ xq_891)) rfl rfl rfl cdd_X11_way ⟨(Nat.le_of_ble_eq_true rfl), (Nat.le_of_ble_eq_true rfl)⟩) (ct_preV hK hTh hM (co_X11 hr0) rfl) rfl rfl hl.1 rfl (lv_room (Nat.le_of_ble_eq_true rfl)) dlL_way_5 ⟨(Nat.le_of_ble_eq_true rfl), (Nat.le_of_ble_eq_true rfl)⟩) (fun E ce q9 H locs hk hE hM hce hcv hcl => ?_) (fun H locs hk hM => ?_)
  · have hq := tw_if hq hk
    by_cases hk1 : k2 = 1
    · have hq := tw_it hq hk1
      rw [hk1] at hE
      subst hE
      refine vx_catch (name := thN 1) hown [] ⟨0, 10, 13, 33⟩ [⟨0, 10, 17, 54⟩] htab (fun w hw => by cases hw) (by decide) (by decide) (hts _ (List.mem_cons_of_mem _ lq_0)) (va_Nw.use rfl (hTh _ (List.mem_of_getElem? (i := 3) rfl)).2.2.2.2.2.2) hce hcv hcl ?_
      refine lv_astore (lv' := [(4, .ref q9), (0, .ref (u r0)), (1, .int x1), (2, .int x2), (3, .ref (u 52001))]) hx hb dlL_way_13 hl (by decide) rfl (fun ls hl => ?_)
      refine lv_iconst (v := 1) hx hb dlL_way_15 (by decide) ?_
      exact ll_iret hx hb hr hlocks hM hq hQQ (Nat.le_of_ble_eq_true rfl) (Nat.le_of_ble_eq_true rfl) dlL_way_16
    · have hq := tw_if hq hk1
      by_cases hk4 : k2 = 4
      · have hq := tw_it hq hk4
        rw [hk4] at hE
        subst hE
        refine vx_catch (name := thN 4) hown [⟨0, 10, 13, 33⟩] ⟨0, 10, 17, 54⟩ [] htab (fun w hw => by
          simp only [List.mem_cons, List.not_mem_nil, or_false] at hw
          rcases hw with rfl
          · exact Or.inr ⟨by decide, thN 1, hts _ (List.mem_cons_of_mem _ lq_0), hNc 4 1 (by decide) (by decide) (by decide)⟩) (by decide) (by decide) (hts _ (List.mem_cons_of_mem _ lq_3)) (va_Nw.use rfl (hTh _ (List.mem_of_getElem? (i := 13) rfl)).2.2.2.2.2.2) hce hcv hcl ?_
        refine lv_astore (lv' := [(4, .ref q9), (0, .ref (u r0)), (1, .int x1), (2, .int x2), (3, .ref (u 52001))]) hx hb dlL_way_17 hl (by decide) rfl (fun ls hl => ?_)
        refine lv_iconst (v := 2) hx hb dlL_way_19 (by decide) ?_
        exact ll_iret hx hb hr hlocks hM hq hQQ (Nat.le_of_ble_eq_true rfl) (Nat.le_of_ble_eq_true rfl) dlL_way_20
      · have hq := tw_if hq hk4
        exact cw_no hq
  · have hq := tw_it hq hk
    refine lv_i2l hx hb dlL_way_8 rfl ?_
    refine uw_last cX_ok hU hx hb hK hM cr_out hq dlL_way_9 (fun z4 H locs hM hq => ?_)
    refine lv_goto (tgt := 21) hx hb dlL_way_10 (by decide) ?_
    refine lv_iconst (v := 0) hx hb dlL_way_21 (by decide) ?_
    exact ll_iret hx hb hr hlocks hM hq hQQ (Nat.le_of_ble_eq_true rfl) (Nat.le_of_ble_eq_true rfl) dlL_way_22
theorem dlL_summands_0 : decode cL_summands 0 = .ok (.aload_n 2, 1) := by decide +kernel
theorem dlL_summands_1 : decode cL_summands 1 = .ok (.iconst 0, 1) := by decide +kernel
theorem dlL_summands_2 : decode cL_summands 2 = .ok (.aload_n 0, 1) := by decide +kernel
theorem dlL_summands_3 : decode cL_summands 3 = .ok (.iload_n 1, 1) := by decide +kernel
theorem dlL_summands_4 : decode cL_summands 4 = .ok (.invokevirtual 75, 3) := by decide +kernel
theorem dlL_summands_7 : decode cL_summands 7 = .ok (.i2l, 1) := by decide +kernel
theorem dlL_summands_8 : decode cL_summands 8 = .ok (.lastore, 1) := by decide +kernel
theorem dlL_summands_9 : decode cL_summands 9 = .ok (.goto 6, 3) := by decide +kernel
theorem dlL_summands_12 : decode cL_summands 12 = .ok (.astore_n 3, 1) := by decide +kernel
theorem dlL_summands_13 : decode cL_summands 13 = .ok (.iconst 1, 1) := by decide +kernel
theorem dlL_summands_14 : decode cL_summands 14 = .ok (.ireturn, 1) := by decide +kernel
theorem dlL_summands_15 : decode cL_summands 15 = .ok (.iconst 0, 1) := by decide +kernel
theorem dlL_summands_16 : decode cL_summands 16 = .ok (.ireturn, 1) := by decide +kernel
def le_L_summands (vl : Nat → Nat) (K : Nat) (r0 : Nat) (x1 : Int32) (z : ow_MS) : Option (Int32 × ow_MS) :=
 tc1 (ce_X11_summands vl K r0 x1 z) (fun k z => if k = 1 then some (1, z) else none) fun v3 z1 => ctJ (cX vl) z1 52001 0 v3.toInt64 fun z4 => some (0, z4)
abbrev wl_L_summands : List Cond := .codeWith yL_summands cL_summands 4 (some .int) [(0, 9, 12, 33)] :: wLL
set_option maxHeartbeats 4000000 in
set_option maxRecDepth 100000 in
theorem kl_L_summands (l : Launch) (D : va_G) (q : Nat → ClassId) (vl u : Nat → Nat) (hU0 : tw_inj (cX vl) u) (hlt : l.stackTraces = false) (sa : Nat → Nat) (K : Nat) (r0 : Nat) (x1 : Int32) (hr0 : cw_X11 r0) (z z1 : ow_MS) (r : Int32) (hq : le_L_summands vl K r0 x1 z = some (r, z1)) : vx_Met l yL_summands wl_L_summands ({ frames := 8, cells := 1, slots := 6, locals := 151 } : Room) (va_Pc [.ref (u r0), .int x1, .ref (u 52001)] (cw_preL D q vl u sa z)) (va_Qi (fun x (_ : Unit) => x = r) (fun _ t => va_P D vwCl (uw (cX vl) q u z1) t.heap) (tw_A (cX vl) u)) (vx_X (fun _ : Unit => False) (fun _ _ _ => True) (tw_A (cX vl) u)) 1 6 (tw_A (cX vl) u) := by
  refine vx_ofWH (cc := cL_summands) (maxL := 4) (ret := (some .int)) (hh := [(0, 9, 12, 33)]) (by decide) rfl ?_
  intro p e s m args below meth c s₁ B hml hv
  obtain ⟨rfl, hP, hK, hTh, hNc⟩ := hv
  have hx := B.exec
  have hb := B.bytes
  have hr := B.returns
  have hts := atoms_spec (ws := wl_L_summands) B.pre
  have htab := vx_table (x := yL_summands) B (hts _ List.mem_cons_self)
  have hT : ∀ w ∈ wC, w.before ([.ref (u r0), .int x1, .ref (u 52001)] : List Value).toArray s = true := fun w h => hts w (List.mem_cons_of_mem _ (wLL_C w h))
  have hown : s.vm.findClass RL = some m.cls := findClass_of_methodNamed B.named
  have hlocks := B.notSynchronized
  have hU : uw_inj (cX vl) u (tw_A (cX vl) u) := ⟨hU0, fun h hh => ⟨h, hh, rfl⟩⟩
  have hM : uw_M D vwCl (cX vl) q (tw_A (cX vl) u) s.heap u z s.heap [] := ⟨hP, va_S.rf⟩
  have hl := lv_entry ([.ref (u r0), .int x1, .ref (u 52001)]) (n := 4) (Nat.le_of_ble_eq_true rfl)
  rw [lg_entry_eq]
  generalize (lg_sl ([.ref (u r0), .int x1, .ref (u 52001)]) ++ List.replicate (4 - (lg_sl ([.ref (u r0), .int x1, .ref (u 52001)])).length) Slot.unset).toArray = ls at hl ⊢
  have hl : lv_has ls 4 [(0, .ref (u r0)), (1, .int x1), (2, .ref (u 52001))] := hl
  refine ow_named (fun QQ hQQ => ?_)
  generalize ([.ref (u r0), .int x1, .ref (u 52001)] : List Value).toArray = args at hts hT hQQ ⊢
  unfold le_L_summands at hq
  suffices key : ∀ (H : Heap) (locs : List Loc), uw_M D vwCl (cX vl) q (tw_A (cX vl) u) s.heap u z H locs → W p l e ({ frames := 8, cells := 1, slots := 6, locals := 151 } : Room) s m args below meth c H locs 0 0 QQ (F0 m 0 ls []) from key s.heap [] hM
  intro H locs hM
  refine lv_aload_n hx hb dlL_summands_0 rfl (lv_at hl 2 rfl) ?_
  refine lv_iconst (v := 0) hx hb dlL_summands_1 (by decide) ?_
  refine lv_aload_n hx hb dlL_summands_2 rfl (lv_at hl 0 rfl) ?_
  refine lv_iload_n hx hb dlL_summands_3 rfl (lv_at hl 1 rfl) ?_
  obtain ⟨k2, v3, z1, hcq, hq⟩ := ct_tc1 hq
  refine ct_cali hU hM (vx_runV (As := [.int x1]) (rest := [.int 0, .ref (u 52001)]) ⟨hx, hb, hml, hown, hts⟩ (kc_X11_summands l D q vl u hU.1 hlt sa K r0 x1 hr0 z z1 k2 v3 hcq) (cwV 1 hts (tw_gV2 wLL_good wLL_T lq_55 lq_56 lq_57 (wLL_C _ xq_773) (wLL_C _ xq_897)) rfl rfl rfl cdd_X11_summands ⟨(Nat.le_of_ble_eq_true rfl), (Nat.le_of_ble_eq_true rfl)⟩) (ct_preV hK hTh hM (co_X11 hr0) rfl) rfl rfl hl.1 rfl (lv_room (Nat.le_of_ble_eq_true rfl)) dlL_summands_4 ⟨(Nat.le_of_ble_eq_true rfl), (Nat.le_of_ble_eq_true rfl)⟩) (fun E ce q9 H locs hk hE hM hce hcv hcl => ?_) (fun H locs hk hM => ?_)
  · have hq := tw_if hq hk
    by_cases hk1 : k2 = 1
    · have hq := tw_it hq hk1
      rw [hk1] at hE
      subst hE
      refine vx_catch (name := thN 1) hown [] ⟨0, 9, 12, 33⟩ [] htab (fun w hw => by cases hw) (by decide) (by decide) (hts _ (List.mem_cons_of_mem _ lq_0)) (va_Nw.use rfl (hTh _ (List.mem_of_getElem? (i := 3) rfl)).2.2.2.2.2.2) hce hcv hcl ?_
      refine lv_astore_n (lv' := [(3, .ref q9), (0, .ref (u r0)), (1, .int x1), (2, .ref (u 52001))]) hx hb dlL_summands_12 rfl hl (by decide) rfl (fun ls hl => ?_)
      refine lv_iconst (v := 1) hx hb dlL_summands_13 (by decide) ?_
      exact ll_iret hx hb hr hlocks hM hq hQQ (Nat.le_of_ble_eq_true rfl) (Nat.le_of_ble_eq_true rfl) dlL_summands_14
    · have hq := tw_if hq hk1
      exact cw_no hq
  · have hq := tw_it hq hk
    refine lv_i2l hx hb dlL_summands_7 rfl ?_
    refine uw_last cX_ok hU hx hb hK hM cr_out hq dlL_summands_8 (fun z4 H locs hM hq => ?_)
    refine lv_goto (tgt := 15) hx hb dlL_summands_9 (by decide) ?_
    refine lv_iconst (v := 0) hx hb dlL_summands_15 (by decide) ?_
    exact ll_iret hx hb hr hlocks hM hq hQQ (Nat.le_of_ble_eq_true rfl) (Nat.le_of_ble_eq_true rfl) dlL_summands_16
theorem dlL_summand_0 : decode cL_summand 0 = .ok (.aload_n 2, 1) := by decide +kernel
theorem dlL_summand_1 : decode cL_summand 1 = .ok (.iconst 0, 1) := by decide +kernel
theorem dlL_summand_2 : decode cL_summand 2 = .ok (.aload_n 0, 1) := by decide +kernel
theorem dlL_summand_3 : decode cL_summand 3 = .ok (.iload_n 1, 1) := by decide +kernel
theorem dlL_summand_4 : decode cL_summand 4 = .ok (.invokevirtual 78, 3) := by decide +kernel
theorem dlL_summand_7 : decode cL_summand 7 = .ok (.i2l, 1) := by decide +kernel
theorem dlL_summand_8 : decode cL_summand 8 = .ok (.lastore, 1) := by decide +kernel
theorem dlL_summand_9 : decode cL_summand 9 = .ok (.goto 9, 3) := by decide +kernel
theorem dlL_summand_12 : decode cL_summand 12 = .ok (.astore_n 3, 1) := by decide +kernel
theorem dlL_summand_13 : decode cL_summand 13 = .ok (.iconst 1, 1) := by decide +kernel
theorem dlL_summand_14 : decode cL_summand 14 = .ok (.ireturn, 1) := by decide +kernel
theorem dlL_summand_15 : decode cL_summand 15 = .ok (.astore_n 3, 1) := by decide +kernel
theorem dlL_summand_16 : decode cL_summand 16 = .ok (.iconst 2, 1) := by decide +kernel
theorem dlL_summand_17 : decode cL_summand 17 = .ok (.ireturn, 1) := by decide +kernel
theorem dlL_summand_18 : decode cL_summand 18 = .ok (.iconst 0, 1) := by decide +kernel
theorem dlL_summand_19 : decode cL_summand 19 = .ok (.ireturn, 1) := by decide +kernel
def le_L_summand (vl : Nat → Nat) (K : Nat) (r0 : Nat) (x1 : Int32) (z : ow_MS) : Option (Int32 × ow_MS) :=
 tc1 (ce_X11_summand vl K r0 x1 z) (fun k z => if k = 1 then some (1, z) else if k = 3 then some (2, z) else none) fun v3 z1 => ctJ (cX vl) z1 52001 0 v3.toInt64 fun z4 => some (0, z4)
abbrev wl_L_summand : List Cond := .codeWith yL_summand cL_summand 4 (some .int) [(0, 9, 12, 33), (0, 9, 15, 13)] :: wLL
set_option maxHeartbeats 4000000 in
set_option maxRecDepth 100000 in
theorem kl_L_summand (l : Launch) (D : va_G) (q : Nat → ClassId) (vl u : Nat → Nat) (hU0 : tw_inj (cX vl) u) (hlt : l.stackTraces = false) (sa : Nat → Nat) (K : Nat) (r0 : Nat) (x1 : Int32) (hr0 : cw_X11 r0) (z z1 : ow_MS) (r : Int32) (hq : le_L_summand vl K r0 x1 z = some (r, z1)) : vx_Met l yL_summand wl_L_summand ({ frames := 9, cells := 2, slots := 12, locals := 155 } : Room) (va_Pc [.ref (u r0), .int x1, .ref (u 52001)] (cw_preL D q vl u sa z)) (va_Qi (fun x (_ : Unit) => x = r) (fun _ t => va_P D vwCl (uw (cX vl) q u z1) t.heap) (tw_A (cX vl) u)) (vx_X (fun _ : Unit => False) (fun _ _ _ => True) (tw_A (cX vl) u)) 2 12 (tw_A (cX vl) u) := by
  refine vx_ofWH (cc := cL_summand) (maxL := 4) (ret := (some .int)) (hh := [(0, 9, 12, 33), (0, 9, 15, 13)]) (by decide) rfl ?_
  intro p e s m args below meth c s₁ B hml hv
  obtain ⟨rfl, hP, hK, hTh, hNc⟩ := hv
  have hx := B.exec
  have hb := B.bytes
  have hr := B.returns
  have hts := atoms_spec (ws := wl_L_summand) B.pre
  have htab := vx_table (x := yL_summand) B (hts _ List.mem_cons_self)
  have hT : ∀ w ∈ wC, w.before ([.ref (u r0), .int x1, .ref (u 52001)] : List Value).toArray s = true := fun w h => hts w (List.mem_cons_of_mem _ (wLL_C w h))
  have hown : s.vm.findClass RL = some m.cls := findClass_of_methodNamed B.named
  have hlocks := B.notSynchronized
  have hU : uw_inj (cX vl) u (tw_A (cX vl) u) := ⟨hU0, fun h hh => ⟨h, hh, rfl⟩⟩
  have hM : uw_M D vwCl (cX vl) q (tw_A (cX vl) u) s.heap u z s.heap [] := ⟨hP, va_S.rf⟩
  have hl := lv_entry ([.ref (u r0), .int x1, .ref (u 52001)]) (n := 4) (Nat.le_of_ble_eq_true rfl)
  rw [lg_entry_eq]
  generalize (lg_sl ([.ref (u r0), .int x1, .ref (u 52001)]) ++ List.replicate (4 - (lg_sl ([.ref (u r0), .int x1, .ref (u 52001)])).length) Slot.unset).toArray = ls at hl ⊢
  have hl : lv_has ls 4 [(0, .ref (u r0)), (1, .int x1), (2, .ref (u 52001))] := hl
  refine ow_named (fun QQ hQQ => ?_)
  generalize ([.ref (u r0), .int x1, .ref (u 52001)] : List Value).toArray = args at hts hT hQQ ⊢
  unfold le_L_summand at hq
  suffices key : ∀ (H : Heap) (locs : List Loc), uw_M D vwCl (cX vl) q (tw_A (cX vl) u) s.heap u z H locs → W p l e ({ frames := 9, cells := 2, slots := 12, locals := 155 } : Room) s m args below meth c H locs 0 0 QQ (F0 m 0 ls []) from key s.heap [] hM
  intro H locs hM
  refine lv_aload_n hx hb dlL_summand_0 rfl (lv_at hl 2 rfl) ?_
  refine lv_iconst (v := 0) hx hb dlL_summand_1 (by decide) ?_
  refine lv_aload_n hx hb dlL_summand_2 rfl (lv_at hl 0 rfl) ?_
  refine lv_iload_n hx hb dlL_summand_3 rfl (lv_at hl 1 rfl) ?_
  obtain ⟨k2, v3, z1, hcq, hq⟩ := ct_tc1 hq
  refine ct_cali hU hM (vx_runV (As := [.int x1]) (rest := [.int 0, .ref (u 52001)]) ⟨hx, hb, hml, hown, hts⟩ (kc_X11_summand l D q vl u hU.1 hlt sa K r0 x1 hr0 z z1 k2 v3 hcq) (cwV 1 hts (tw_gV2 wLL_good wLL_T lq_58 lq_59 lq_60 (wLL_C _ xq_773) (wLL_C _ xq_898)) rfl rfl rfl cdd_X11_summand ⟨(Nat.le_of_ble_eq_true rfl), (Nat.le_of_ble_eq_true rfl)⟩) (ct_preV hK hTh hM (co_X11 hr0) rfl) rfl rfl hl.1 rfl (lv_room (Nat.le_of_ble_eq_true rfl)) dlL_summand_4 ⟨(Nat.le_of_ble_eq_true rfl), (Nat.le_of_ble_eq_true rfl)⟩) (fun E ce q9 H locs hk hE hM hce hcv hcl => ?_) (fun H locs hk hM => ?_)
  · have hq := tw_if hq hk
    by_cases hk1 : k2 = 1
    · have hq := tw_it hq hk1
      rw [hk1] at hE
      subst hE
      refine vx_catch (name := thN 1) hown [] ⟨0, 9, 12, 33⟩ [⟨0, 9, 15, 13⟩] htab (fun w hw => by cases hw) (by decide) (by decide) (hts _ (List.mem_cons_of_mem _ lq_0)) (va_Nw.use rfl (hTh _ (List.mem_of_getElem? (i := 3) rfl)).2.2.2.2.2.2) hce hcv hcl ?_
      refine lv_astore_n (lv' := [(3, .ref q9), (0, .ref (u r0)), (1, .int x1), (2, .ref (u 52001))]) hx hb dlL_summand_12 rfl hl (by decide) rfl (fun ls hl => ?_)
      refine lv_iconst (v := 1) hx hb dlL_summand_13 (by decide) ?_
      exact ll_iret hx hb hr hlocks hM hq hQQ (Nat.le_of_ble_eq_true rfl) (Nat.le_of_ble_eq_true rfl) dlL_summand_14
    · have hq := tw_if hq hk1
      by_cases hk3 : k2 = 3
      · have hq := tw_it hq hk3
        rw [hk3] at hE
        subst hE
        refine vx_catch (name := thN 3) hown [⟨0, 9, 12, 33⟩] ⟨0, 9, 15, 13⟩ [] htab (fun w hw => by
          simp only [List.mem_cons, List.not_mem_nil, or_false] at hw
          rcases hw with rfl
          · exact Or.inr ⟨by decide, thN 1, hts _ (List.mem_cons_of_mem _ lq_0), hNc 3 1 (by decide) (by decide) (by decide)⟩) (by decide) (by decide) (hts _ (List.mem_cons_of_mem _ lq_2)) (va_Nw.use rfl (hTh _ (List.mem_of_getElem? (i := 0) rfl)).2.2.2.2.2.2) hce hcv hcl ?_
        refine lv_astore_n (lv' := [(3, .ref q9), (0, .ref (u r0)), (1, .int x1), (2, .ref (u 52001))]) hx hb dlL_summand_15 rfl hl (by decide) rfl (fun ls hl => ?_)
        refine lv_iconst (v := 2) hx hb dlL_summand_16 (by decide) ?_
        exact ll_iret hx hb hr hlocks hM hq hQQ (Nat.le_of_ble_eq_true rfl) (Nat.le_of_ble_eq_true rfl) dlL_summand_17
      · have hq := tw_if hq hk3
        exact cw_no hq
  · have hq := tw_it hq hk
    refine lv_i2l hx hb dlL_summand_7 rfl ?_
    refine uw_last cX_ok hU hx hb hK hM cr_out hq dlL_summand_8 (fun z4 H locs hM hq => ?_)
    refine lv_goto (tgt := 18) hx hb dlL_summand_9 (by decide) ?_
    refine lv_iconst (v := 0) hx hb dlL_summand_18 (by decide) ?_
    exact ll_iret hx hb hr hlocks hM hq hQQ (Nat.le_of_ble_eq_true rfl) (Nat.le_of_ble_eq_true rfl) dlL_summand_19
theorem dlL_conway_0 : decode cL_conway 0 = .ok (.aload_n 3, 1) := by decide +kernel
theorem dlL_conway_1 : decode cL_conway 1 = .ok (.iconst 0, 1) := by decide +kernel
theorem dlL_conway_2 : decode cL_conway 2 = .ok (.aload_n 0, 1) := by decide +kernel
theorem dlL_conway_3 : decode cL_conway 3 = .ok (.iload_n 1, 1) := by decide +kernel
theorem dlL_conway_4 : decode cL_conway 4 = .ok (.iload_n 2, 1) := by decide +kernel
theorem dlL_conway_5 : decode cL_conway 5 = .ok (.invokevirtual 81, 3) := by decide +kernel
theorem dlL_conway_8 : decode cL_conway 8 = .ok (.i2l, 1) := by decide +kernel
theorem dlL_conway_9 : decode cL_conway 9 = .ok (.lastore, 1) := by decide +kernel
theorem dlL_conway_10 : decode cL_conway 10 = .ok (.goto 7, 3) := by decide +kernel
theorem dlL_conway_13 : decode cL_conway 13 = .ok (.astore 4, 2) := by decide +kernel
theorem dlL_conway_15 : decode cL_conway 15 = .ok (.iconst 1, 1) := by decide +kernel
theorem dlL_conway_16 : decode cL_conway 16 = .ok (.ireturn, 1) := by decide +kernel
theorem dlL_conway_17 : decode cL_conway 17 = .ok (.iconst 0, 1) := by decide +kernel
theorem dlL_conway_18 : decode cL_conway 18 = .ok (.ireturn, 1) := by decide +kernel
def le_L_conway (vl : Nat → Nat) (K : Nat) (r0 : Nat) (x1 : Int32) (x2 : Int32) (z : ow_MS) : Option (Int32 × ow_MS) :=
 tc1 (ce_X11_conway vl K r0 x1 x2 z) (fun k z => if k = 1 then some (1, z) else none) fun v3 z1 => ctJ (cX vl) z1 52001 0 v3.toInt64 fun z4 => some (0, z4)
abbrev wl_L_conway : List Cond := .codeWith yL_conway cL_conway 5 (some .int) [(0, 10, 13, 33)] :: wLL
set_option maxHeartbeats 4000000 in
set_option maxRecDepth 100000 in
theorem kl_L_conway (l : Launch) (D : va_G) (q : Nat → ClassId) (vl u : Nat → Nat) (hU0 : tw_inj (cX vl) u) (hlt : l.stackTraces = false) (sa : Nat → Nat) (K : Nat) (r0 : Nat) (x1 : Int32) (x2 : Int32) (hr0 : cw_X11 r0) (z z1 : ow_MS) (r : Int32) (hq : le_L_conway vl K r0 x1 x2 z = some (r, z1)) : vx_Met l yL_conway wl_L_conway ({ frames := 22, cells := 1, slots := 6, locals := 690 } : Room) (va_Pc [.ref (u r0), .int x1, .int x2, .ref (u 52001)] (cw_preL D q vl u sa z)) (va_Qi (fun x (_ : Unit) => x = r) (fun _ t => va_P D vwCl (uw (cX vl) q u z1) t.heap) (tw_A (cX vl) u)) (vx_X (fun _ : Unit => False) (fun _ _ _ => True) (tw_A (cX vl) u)) 1 6 (tw_A (cX vl) u) := by
  refine vx_ofWH (cc := cL_conway) (maxL := 5) (ret := (some .int)) (hh := [(0, 10, 13, 33)]) (by decide) rfl ?_
  intro p e s m args below meth c s₁ B hml hv
  obtain ⟨rfl, hP, hK, hTh, hNc⟩ := hv
  have hx := B.exec
  have hb := B.bytes
  have hr := B.returns
  have hts := atoms_spec (ws := wl_L_conway) B.pre
  have htab := vx_table (x := yL_conway) B (hts _ List.mem_cons_self)
  have hT : ∀ w ∈ wC, w.before ([.ref (u r0), .int x1, .int x2, .ref (u 52001)] : List Value).toArray s = true := fun w h => hts w (List.mem_cons_of_mem _ (wLL_C w h))
  have hown : s.vm.findClass RL = some m.cls := findClass_of_methodNamed B.named
  have hlocks := B.notSynchronized
  have hU : uw_inj (cX vl) u (tw_A (cX vl) u) := ⟨hU0, fun h hh => ⟨h, hh, rfl⟩⟩
  have hM : uw_M D vwCl (cX vl) q (tw_A (cX vl) u) s.heap u z s.heap [] := ⟨hP, va_S.rf⟩
  have hl := lv_entry ([.ref (u r0), .int x1, .int x2, .ref (u 52001)]) (n := 5) (Nat.le_of_ble_eq_true rfl)
  rw [lg_entry_eq]
  generalize (lg_sl ([.ref (u r0), .int x1, .int x2, .ref (u 52001)]) ++ List.replicate (5 - (lg_sl ([.ref (u r0), .int x1, .int x2, .ref (u 52001)])).length) Slot.unset).toArray = ls at hl ⊢
  have hl : lv_has ls 5 [(0, .ref (u r0)), (1, .int x1), (2, .int x2), (3, .ref (u 52001))] := hl
  refine ow_named (fun QQ hQQ => ?_)
  generalize ([.ref (u r0), .int x1, .int x2, .ref (u 52001)] : List Value).toArray = args at hts hT hQQ ⊢
  unfold le_L_conway at hq
  suffices key : ∀ (H : Heap) (locs : List Loc), uw_M D vwCl (cX vl) q (tw_A (cX vl) u) s.heap u z H locs → W p l e ({ frames := 22, cells := 1, slots := 6, locals := 690 } : Room) s m args below meth c H locs 0 0 QQ (F0 m 0 ls []) from key s.heap [] hM
  intro H locs hM
  refine lv_aload_n hx hb dlL_conway_0 rfl (lv_at hl 3 rfl) ?_
  refine lv_iconst (v := 0) hx hb dlL_conway_1 (by decide) ?_
  refine lv_aload_n hx hb dlL_conway_2 rfl (lv_at hl 0 rfl) ?_
  refine lv_iload_n hx hb dlL_conway_3 rfl (lv_at hl 1 rfl) ?_
  refine lv_iload_n hx hb dlL_conway_4 rfl (lv_at hl 2 rfl) ?_
  obtain ⟨k2, v3, z1, hcq, hq⟩ := ct_tc1 hq
  refine ct_cali hU hM (vx_runV (As := [.int x1, .int x2]) (rest := [.int 0, .ref (u 52001)]) ⟨hx, hb, hml, hown, hts⟩ (kc_X11_conway l D q vl u hU.1 hlt sa K r0 x1 x2 hr0 z z1 k2 v3 hcq) (cwV 2 hts (tw_gV2 wLL_good wLL_T lq_61 lq_62 lq_63 (wLL_C _ xq_773) (wLL_C _ xq_906)) rfl rfl rfl cdd_X11_conway ⟨(Nat.le_of_ble_eq_true rfl), (Nat.le_of_ble_eq_true rfl)⟩) (ct_preV hK hTh hM (co_X11 hr0) rfl) rfl rfl hl.1 rfl (lv_room (Nat.le_of_ble_eq_true rfl)) dlL_conway_5 ⟨(Nat.le_of_ble_eq_true rfl), (Nat.le_of_ble_eq_true rfl)⟩) (fun E ce q9 H locs hk hE hM hce hcv hcl => ?_) (fun H locs hk hM => ?_)
  · have hq := tw_if hq hk
    by_cases hk1 : k2 = 1
    · have hq := tw_it hq hk1
      rw [hk1] at hE
      subst hE
      refine vx_catch (name := thN 1) hown [] ⟨0, 10, 13, 33⟩ [] htab (fun w hw => by cases hw) (by decide) (by decide) (hts _ (List.mem_cons_of_mem _ lq_0)) (va_Nw.use rfl (hTh _ (List.mem_of_getElem? (i := 3) rfl)).2.2.2.2.2.2) hce hcv hcl ?_
      refine lv_astore (lv' := [(4, .ref q9), (0, .ref (u r0)), (1, .int x1), (2, .int x2), (3, .ref (u 52001))]) hx hb dlL_conway_13 hl (by decide) rfl (fun ls hl => ?_)
      refine lv_iconst (v := 1) hx hb dlL_conway_15 (by decide) ?_
      exact ll_iret hx hb hr hlocks hM hq hQQ (Nat.le_of_ble_eq_true rfl) (Nat.le_of_ble_eq_true rfl) dlL_conway_16
    · have hq := tw_if hq hk1
      exact cw_no hq
  · have hq := tw_it hq hk
    refine lv_i2l hx hb dlL_conway_8 rfl ?_
    refine uw_last cX_ok hU hx hb hK hM cr_out hq dlL_conway_9 (fun z4 H locs hM hq => ?_)
    refine lv_goto (tgt := 17) hx hb dlL_conway_10 (by decide) ?_
    refine lv_iconst (v := 0) hx hb dlL_conway_17 (by decide) ?_
    exact ll_iret hx hb hr hlocks hM hq hQQ (Nat.le_of_ble_eq_true rfl) (Nat.le_of_ble_eq_true rfl) dlL_conway_18
theorem dlL_jones_0 : decode cL_jones 0 = .ok (.aload_n 3, 1) := by decide +kernel
theorem dlL_jones_1 : decode cL_jones 1 = .ok (.iconst 0, 1) := by decide +kernel
theorem dlL_jones_2 : decode cL_jones 2 = .ok (.aload_n 0, 1) := by decide +kernel
theorem dlL_jones_3 : decode cL_jones 3 = .ok (.iload_n 1, 1) := by decide +kernel
theorem dlL_jones_4 : decode cL_jones 4 = .ok (.iload_n 2, 1) := by decide +kernel
theorem dlL_jones_5 : decode cL_jones 5 = .ok (.invokevirtual 84, 3) := by decide +kernel
theorem dlL_jones_8 : decode cL_jones 8 = .ok (.i2l, 1) := by decide +kernel
theorem dlL_jones_9 : decode cL_jones 9 = .ok (.lastore, 1) := by decide +kernel
theorem dlL_jones_10 : decode cL_jones 10 = .ok (.goto 7, 3) := by decide +kernel
theorem dlL_jones_13 : decode cL_jones 13 = .ok (.astore 4, 2) := by decide +kernel
theorem dlL_jones_15 : decode cL_jones 15 = .ok (.iconst 1, 1) := by decide +kernel
theorem dlL_jones_16 : decode cL_jones 16 = .ok (.ireturn, 1) := by decide +kernel
theorem dlL_jones_17 : decode cL_jones 17 = .ok (.iconst 0, 1) := by decide +kernel
theorem dlL_jones_18 : decode cL_jones 18 = .ok (.ireturn, 1) := by decide +kernel
def le_L_jones (vl : Nat → Nat) (K : Nat) (r0 : Nat) (x1 : Int32) (x2 : Int32) (z : ow_MS) : Option (Int32 × ow_MS) :=
 tc1 (ce_X11_jones vl K r0 x1 x2 z) (fun k z => if k = 1 then some (1, z) else none) fun v3 z1 => ctJ (cX vl) z1 52001 0 v3.toInt64 fun z4 => some (0, z4)
abbrev wl_L_jones : List Cond := .codeWith yL_jones cL_jones 5 (some .int) [(0, 10, 13, 33)] :: wLL
set_option maxHeartbeats 4000000 in
set_option maxRecDepth 100000 in
theorem kl_L_jones (l : Launch) (D : va_G) (q : Nat → ClassId) (vl u : Nat → Nat) (hU0 : tw_inj (cX vl) u) (hlt : l.stackTraces = false) (sa : Nat → Nat) (K : Nat) (r0 : Nat) (x1 : Int32) (x2 : Int32) (hr0 : cw_X11 r0) (z z1 : ow_MS) (r : Int32) (hq : le_L_jones vl K r0 x1 x2 z = some (r, z1)) : vx_Met l yL_jones wl_L_jones ({ frames := 18, cells := 1, slots := 6, locals := 547 } : Room) (va_Pc [.ref (u r0), .int x1, .int x2, .ref (u 52001)] (cw_preL D q vl u sa z)) (va_Qi (fun x (_ : Unit) => x = r) (fun _ t => va_P D vwCl (uw (cX vl) q u z1) t.heap) (tw_A (cX vl) u)) (vx_X (fun _ : Unit => False) (fun _ _ _ => True) (tw_A (cX vl) u)) 1 6 (tw_A (cX vl) u) := by
  refine vx_ofWH (cc := cL_jones) (maxL := 5) (ret := (some .int)) (hh := [(0, 10, 13, 33)]) (by decide) rfl ?_
  intro p e s m args below meth c s₁ B hml hv
  obtain ⟨rfl, hP, hK, hTh, hNc⟩ := hv
  have hx := B.exec
  have hb := B.bytes
  have hr := B.returns
  have hts := atoms_spec (ws := wl_L_jones) B.pre
  have htab := vx_table (x := yL_jones) B (hts _ List.mem_cons_self)
  have hT : ∀ w ∈ wC, w.before ([.ref (u r0), .int x1, .int x2, .ref (u 52001)] : List Value).toArray s = true := fun w h => hts w (List.mem_cons_of_mem _ (wLL_C w h))
  have hown : s.vm.findClass RL = some m.cls := findClass_of_methodNamed B.named
  have hlocks := B.notSynchronized
  have hU : uw_inj (cX vl) u (tw_A (cX vl) u) := ⟨hU0, fun h hh => ⟨h, hh, rfl⟩⟩
  have hM : uw_M D vwCl (cX vl) q (tw_A (cX vl) u) s.heap u z s.heap [] := ⟨hP, va_S.rf⟩
  have hl := lv_entry ([.ref (u r0), .int x1, .int x2, .ref (u 52001)]) (n := 5) (Nat.le_of_ble_eq_true rfl)
  rw [lg_entry_eq]
  generalize (lg_sl ([.ref (u r0), .int x1, .int x2, .ref (u 52001)]) ++ List.replicate (5 - (lg_sl ([.ref (u r0), .int x1, .int x2, .ref (u 52001)])).length) Slot.unset).toArray = ls at hl ⊢
  have hl : lv_has ls 5 [(0, .ref (u r0)), (1, .int x1), (2, .int x2), (3, .ref (u 52001))] := hl
  refine ow_named (fun QQ hQQ => ?_)
  generalize ([.ref (u r0), .int x1, .int x2, .ref (u 52001)] : List Value).toArray = args at hts hT hQQ ⊢
  unfold le_L_jones at hq
  suffices key : ∀ (H : Heap) (locs : List Loc), uw_M D vwCl (cX vl) q (tw_A (cX vl) u) s.heap u z H locs → W p l e ({ frames := 18, cells := 1, slots := 6, locals := 547 } : Room) s m args below meth c H locs 0 0 QQ (F0 m 0 ls []) from key s.heap [] hM
  intro H locs hM
  refine lv_aload_n hx hb dlL_jones_0 rfl (lv_at hl 3 rfl) ?_
  refine lv_iconst (v := 0) hx hb dlL_jones_1 (by decide) ?_
  refine lv_aload_n hx hb dlL_jones_2 rfl (lv_at hl 0 rfl) ?_
  refine lv_iload_n hx hb dlL_jones_3 rfl (lv_at hl 1 rfl) ?_
  refine lv_iload_n hx hb dlL_jones_4 rfl (lv_at hl 2 rfl) ?_
  obtain ⟨k2, v3, z1, hcq, hq⟩ := ct_tc1 hq
  refine ct_cali hU hM (vx_runV (As := [.int x1, .int x2]) (rest := [.int 0, .ref (u 52001)]) ⟨hx, hb, hml, hown, hts⟩ (kc_X11_jones l D q vl u hU.1 hlt sa K r0 x1 x2 hr0 z z1 k2 v3 hcq) (cwV 2 hts (tw_gV2 wLL_good wLL_T lq_64 lq_65 lq_66 (wLL_C _ xq_773) (wLL_C _ xq_913)) rfl rfl rfl cdd_X11_jones ⟨(Nat.le_of_ble_eq_true rfl), (Nat.le_of_ble_eq_true rfl)⟩) (ct_preV hK hTh hM (co_X11 hr0) rfl) rfl rfl hl.1 rfl (lv_room (Nat.le_of_ble_eq_true rfl)) dlL_jones_5 ⟨(Nat.le_of_ble_eq_true rfl), (Nat.le_of_ble_eq_true rfl)⟩) (fun E ce q9 H locs hk hE hM hce hcv hcl => ?_) (fun H locs hk hM => ?_)
  · have hq := tw_if hq hk
    by_cases hk1 : k2 = 1
    · have hq := tw_it hq hk1
      rw [hk1] at hE
      subst hE
      refine vx_catch (name := thN 1) hown [] ⟨0, 10, 13, 33⟩ [] htab (fun w hw => by cases hw) (by decide) (by decide) (hts _ (List.mem_cons_of_mem _ lq_0)) (va_Nw.use rfl (hTh _ (List.mem_of_getElem? (i := 3) rfl)).2.2.2.2.2.2) hce hcv hcl ?_
      refine lv_astore (lv' := [(4, .ref q9), (0, .ref (u r0)), (1, .int x1), (2, .int x2), (3, .ref (u 52001))]) hx hb dlL_jones_13 hl (by decide) rfl (fun ls hl => ?_)
      refine lv_iconst (v := 1) hx hb dlL_jones_15 (by decide) ?_
      exact ll_iret hx hb hr hlocks hM hq hQQ (Nat.le_of_ble_eq_true rfl) (Nat.le_of_ble_eq_true rfl) dlL_jones_16
    · have hq := tw_if hq hk1
      exact cw_no hq
  · have hq := tw_it hq hk
    refine lv_i2l hx hb dlL_jones_8 rfl ?_
    refine uw_last cX_ok hU hx hb hK hM cr_out hq dlL_jones_9 (fun z4 H locs hM hq => ?_)
    refine lv_goto (tgt := 17) hx hb dlL_jones_10 (by decide) ?_
    refine lv_iconst (v := 0) hx hb dlL_jones_17 (by decide) ?_
    exact ll_iret hx hb hr hlocks hM hq hQQ (Nat.le_of_ble_eq_true rfl) (Nat.le_of_ble_eq_true rfl) dlL_jones_18
theorem dlL_signature_0 : decode cL_signature 0 = .ok (.aload_n 2, 1) := by decide +kernel
theorem dlL_signature_1 : decode cL_signature 1 = .ok (.iconst 0, 1) := by decide +kernel
theorem dlL_signature_2 : decode cL_signature 2 = .ok (.aload_n 0, 1) := by decide +kernel
theorem dlL_signature_3 : decode cL_signature 3 = .ok (.iload_n 1, 1) := by decide +kernel
theorem dlL_signature_4 : decode cL_signature 4 = .ok (.invokevirtual 87, 3) := by decide +kernel
theorem dlL_signature_7 : decode cL_signature 7 = .ok (.i2l, 1) := by decide +kernel
theorem dlL_signature_8 : decode cL_signature 8 = .ok (.lastore, 1) := by decide +kernel
theorem dlL_signature_9 : decode cL_signature 9 = .ok (.goto 6, 3) := by decide +kernel
theorem dlL_signature_12 : decode cL_signature 12 = .ok (.astore_n 3, 1) := by decide +kernel
theorem dlL_signature_13 : decode cL_signature 13 = .ok (.iconst 1, 1) := by decide +kernel
theorem dlL_signature_14 : decode cL_signature 14 = .ok (.ireturn, 1) := by decide +kernel
theorem dlL_signature_15 : decode cL_signature 15 = .ok (.iconst 0, 1) := by decide +kernel
theorem dlL_signature_16 : decode cL_signature 16 = .ok (.ireturn, 1) := by decide +kernel
def le_L_signature (vl : Nat → Nat) (K : Nat) (r0 : Nat) (x1 : Int32) (z : ow_MS) : Option (Int32 × ow_MS) :=
 tc1 (ce_X11_signature vl K r0 x1 z) (fun k z => if k = 1 then some (1, z) else none) fun v3 z1 => ctJ (cX vl) z1 52001 0 v3.toInt64 fun z4 => some (0, z4)
abbrev wl_L_signature : List Cond := .codeWith yL_signature cL_signature 4 (some .int) [(0, 9, 12, 33)] :: wLL
set_option maxHeartbeats 4000000 in
set_option maxRecDepth 100000 in
theorem kl_L_signature (l : Launch) (D : va_G) (q : Nat → ClassId) (vl u : Nat → Nat) (hU0 : tw_inj (cX vl) u) (hlt : l.stackTraces = false) (sa : Nat → Nat) (K : Nat) (r0 : Nat) (x1 : Int32) (hr0 : cw_X11 r0) (z z1 : ow_MS) (r : Int32) (hq : le_L_signature vl K r0 x1 z = some (r, z1)) : vx_Met l yL_signature wl_L_signature ({ frames := 8, cells := 1, slots := 6, locals := 184 } : Room) (va_Pc [.ref (u r0), .int x1, .ref (u 52001)] (cw_preL D q vl u sa z)) (va_Qi (fun x (_ : Unit) => x = r) (fun _ t => va_P D vwCl (uw (cX vl) q u z1) t.heap) (tw_A (cX vl) u)) (vx_X (fun _ : Unit => False) (fun _ _ _ => True) (tw_A (cX vl) u)) 1 6 (tw_A (cX vl) u) := by
  refine vx_ofWH (cc := cL_signature) (maxL := 4) (ret := (some .int)) (hh := [(0, 9, 12, 33)]) (by decide) rfl ?_
  intro p e s m args below meth c s₁ B hml hv
  obtain ⟨rfl, hP, hK, hTh, hNc⟩ := hv
  have hx := B.exec
  have hb := B.bytes
  have hr := B.returns
  have hts := atoms_spec (ws := wl_L_signature) B.pre
  have htab := vx_table (x := yL_signature) B (hts _ List.mem_cons_self)
  have hT : ∀ w ∈ wC, w.before ([.ref (u r0), .int x1, .ref (u 52001)] : List Value).toArray s = true := fun w h => hts w (List.mem_cons_of_mem _ (wLL_C w h))
  have hown : s.vm.findClass RL = some m.cls := findClass_of_methodNamed B.named
  have hlocks := B.notSynchronized
  have hU : uw_inj (cX vl) u (tw_A (cX vl) u) := ⟨hU0, fun h hh => ⟨h, hh, rfl⟩⟩
  have hM : uw_M D vwCl (cX vl) q (tw_A (cX vl) u) s.heap u z s.heap [] := ⟨hP, va_S.rf⟩
  have hl := lv_entry ([.ref (u r0), .int x1, .ref (u 52001)]) (n := 4) (Nat.le_of_ble_eq_true rfl)
  rw [lg_entry_eq]
  generalize (lg_sl ([.ref (u r0), .int x1, .ref (u 52001)]) ++ List.replicate (4 - (lg_sl ([.ref (u r0), .int x1, .ref (u 52001)])).length) Slot.unset).toArray = ls at hl ⊢
  have hl : lv_has ls 4 [(0, .ref (u r0)), (1, .int x1), (2, .ref (u 52001))] := hl
  refine ow_named (fun QQ hQQ => ?_)
  generalize ([.ref (u r0), .int x1, .ref (u 52001)] : List Value).toArray = args at hts hT hQQ ⊢
  unfold le_L_signature at hq
  suffices key : ∀ (H : Heap) (locs : List Loc), uw_M D vwCl (cX vl) q (tw_A (cX vl) u) s.heap u z H locs → W p l e ({ frames := 8, cells := 1, slots := 6, locals := 184 } : Room) s m args below meth c H locs 0 0 QQ (F0 m 0 ls []) from key s.heap [] hM
  intro H locs hM
  refine lv_aload_n hx hb dlL_signature_0 rfl (lv_at hl 2 rfl) ?_
  refine lv_iconst (v := 0) hx hb dlL_signature_1 (by decide) ?_
  refine lv_aload_n hx hb dlL_signature_2 rfl (lv_at hl 0 rfl) ?_
  refine lv_iload_n hx hb dlL_signature_3 rfl (lv_at hl 1 rfl) ?_
  obtain ⟨k2, v3, z1, hcq, hq⟩ := ct_tc1 hq
  refine ct_cali hU hM (vx_runV (As := [.int x1]) (rest := [.int 0, .ref (u 52001)]) ⟨hx, hb, hml, hown, hts⟩ (kc_X11_signature l D q vl u hU.1 hlt sa K r0 x1 hr0 z z1 k2 v3 hcq) (cwV 1 hts (tw_gV2 wLL_good wLL_T lq_67 lq_68 lq_69 (wLL_C _ xq_773) (wLL_C _ xq_917)) rfl rfl rfl cdd_X11_signature ⟨(Nat.le_of_ble_eq_true rfl), (Nat.le_of_ble_eq_true rfl)⟩) (ct_preV hK hTh hM (co_X11 hr0) rfl) rfl rfl hl.1 rfl (lv_room (Nat.le_of_ble_eq_true rfl)) dlL_signature_4 ⟨(Nat.le_of_ble_eq_true rfl), (Nat.le_of_ble_eq_true rfl)⟩) (fun E ce q9 H locs hk hE hM hce hcv hcl => ?_) (fun H locs hk hM => ?_)
  · have hq := tw_if hq hk
    by_cases hk1 : k2 = 1
    · have hq := tw_it hq hk1
      rw [hk1] at hE
      subst hE
      refine vx_catch (name := thN 1) hown [] ⟨0, 9, 12, 33⟩ [] htab (fun w hw => by cases hw) (by decide) (by decide) (hts _ (List.mem_cons_of_mem _ lq_0)) (va_Nw.use rfl (hTh _ (List.mem_of_getElem? (i := 3) rfl)).2.2.2.2.2.2) hce hcv hcl ?_
      refine lv_astore_n (lv' := [(3, .ref q9), (0, .ref (u r0)), (1, .int x1), (2, .ref (u 52001))]) hx hb dlL_signature_12 rfl hl (by decide) rfl (fun ls hl => ?_)
      refine lv_iconst (v := 1) hx hb dlL_signature_13 (by decide) ?_
      exact ll_iret hx hb hr hlocks hM hq hQQ (Nat.le_of_ble_eq_true rfl) (Nat.le_of_ble_eq_true rfl) dlL_signature_14
    · have hq := tw_if hq hk1
      exact cw_no hq
  · have hq := tw_it hq hk
    refine lv_i2l hx hb dlL_signature_7 rfl ?_
    refine uw_last cX_ok hU hx hb hK hM cr_out hq dlL_signature_8 (fun z4 H locs hM hq => ?_)
    refine lv_goto (tgt := 15) hx hb dlL_signature_9 (by decide) ?_
    refine lv_iconst (v := 0) hx hb dlL_signature_15 (by decide) ?_
    exact ll_iret hx hb hr hlocks hM hq hQQ (Nat.le_of_ble_eq_true rfl) (Nat.le_of_ble_eq_true rfl) dlL_signature_16
theorem dlL_cover_0 : decode cL_cover 0 = .ok (.aload_n 3, 1) := by decide +kernel
theorem dlL_cover_1 : decode cL_cover 1 = .ok (.iconst 0, 1) := by decide +kernel
theorem dlL_cover_2 : decode cL_cover 2 = .ok (.aload_n 0, 1) := by decide +kernel
theorem dlL_cover_3 : decode cL_cover 3 = .ok (.iload_n 1, 1) := by decide +kernel
theorem dlL_cover_4 : decode cL_cover 4 = .ok (.iload_n 2, 1) := by decide +kernel
theorem dlL_cover_5 : decode cL_cover 5 = .ok (.invokevirtual 90, 3) := by decide +kernel
theorem dlL_cover_8 : decode cL_cover 8 = .ok (.i2l, 1) := by decide +kernel
theorem dlL_cover_9 : decode cL_cover 9 = .ok (.lastore, 1) := by decide +kernel
theorem dlL_cover_10 : decode cL_cover 10 = .ok (.goto 7, 3) := by decide +kernel
theorem dlL_cover_13 : decode cL_cover 13 = .ok (.astore 4, 2) := by decide +kernel
theorem dlL_cover_15 : decode cL_cover 15 = .ok (.iconst 1, 1) := by decide +kernel
theorem dlL_cover_16 : decode cL_cover 16 = .ok (.ireturn, 1) := by decide +kernel
theorem dlL_cover_17 : decode cL_cover 17 = .ok (.iconst 0, 1) := by decide +kernel
theorem dlL_cover_18 : decode cL_cover 18 = .ok (.ireturn, 1) := by decide +kernel
def le_L_cover (vl : Nat → Nat) (K : Nat) (r0 : Nat) (x1 : Int32) (x2 : Int32) (z : ow_MS) : Option (Int32 × ow_MS) :=
 tc1 (ce_X11_cover vl K r0 x1 x2 z) (fun k z => if k = 1 then some (1, z) else none) fun v3 z1 => ctJ (cX vl) z1 52001 0 v3.toInt64 fun z4 => some (0, z4)
abbrev wl_L_cover : List Cond := .codeWith yL_cover cL_cover 5 (some .int) [(0, 10, 13, 33)] :: wLL
set_option maxHeartbeats 4000000 in
set_option maxRecDepth 100000 in
theorem kl_L_cover (l : Launch) (D : va_G) (q : Nat → ClassId) (vl u : Nat → Nat) (hU0 : tw_inj (cX vl) u) (hlt : l.stackTraces = false) (sa : Nat → Nat) (K : Nat) (r0 : Nat) (x1 : Int32) (x2 : Int32) (hr0 : cw_X11 r0) (z z1 : ow_MS) (r : Int32) (hq : le_L_cover vl K r0 x1 x2 z = some (r, z1)) : vx_Met l yL_cover wl_L_cover ({ frames := 8, cells := 1, slots := 6, locals := 133 } : Room) (va_Pc [.ref (u r0), .int x1, .int x2, .ref (u 52001)] (cw_preL D q vl u sa z)) (va_Qi (fun x (_ : Unit) => x = r) (fun _ t => va_P D vwCl (uw (cX vl) q u z1) t.heap) (tw_A (cX vl) u)) (vx_X (fun _ : Unit => False) (fun _ _ _ => True) (tw_A (cX vl) u)) 1 6 (tw_A (cX vl) u) := by
  refine vx_ofWH (cc := cL_cover) (maxL := 5) (ret := (some .int)) (hh := [(0, 10, 13, 33)]) (by decide) rfl ?_
  intro p e s m args below meth c s₁ B hml hv
  obtain ⟨rfl, hP, hK, hTh, hNc⟩ := hv
  have hx := B.exec
  have hb := B.bytes
  have hr := B.returns
  have hts := atoms_spec (ws := wl_L_cover) B.pre
  have htab := vx_table (x := yL_cover) B (hts _ List.mem_cons_self)
  have hT : ∀ w ∈ wC, w.before ([.ref (u r0), .int x1, .int x2, .ref (u 52001)] : List Value).toArray s = true := fun w h => hts w (List.mem_cons_of_mem _ (wLL_C w h))
  have hown : s.vm.findClass RL = some m.cls := findClass_of_methodNamed B.named
  have hlocks := B.notSynchronized
  have hU : uw_inj (cX vl) u (tw_A (cX vl) u) := ⟨hU0, fun h hh => ⟨h, hh, rfl⟩⟩
  have hM : uw_M D vwCl (cX vl) q (tw_A (cX vl) u) s.heap u z s.heap [] := ⟨hP, va_S.rf⟩
  have hl := lv_entry ([.ref (u r0), .int x1, .int x2, .ref (u 52001)]) (n := 5) (Nat.le_of_ble_eq_true rfl)
  rw [lg_entry_eq]
  generalize (lg_sl ([.ref (u r0), .int x1, .int x2, .ref (u 52001)]) ++ List.replicate (5 - (lg_sl ([.ref (u r0), .int x1, .int x2, .ref (u 52001)])).length) Slot.unset).toArray = ls at hl ⊢
  have hl : lv_has ls 5 [(0, .ref (u r0)), (1, .int x1), (2, .int x2), (3, .ref (u 52001))] := hl
  refine ow_named (fun QQ hQQ => ?_)
  generalize ([.ref (u r0), .int x1, .int x2, .ref (u 52001)] : List Value).toArray = args at hts hT hQQ ⊢
  unfold le_L_cover at hq
  suffices key : ∀ (H : Heap) (locs : List Loc), uw_M D vwCl (cX vl) q (tw_A (cX vl) u) s.heap u z H locs → W p l e ({ frames := 8, cells := 1, slots := 6, locals := 133 } : Room) s m args below meth c H locs 0 0 QQ (F0 m 0 ls []) from key s.heap [] hM
  intro H locs hM
  refine lv_aload_n hx hb dlL_cover_0 rfl (lv_at hl 3 rfl) ?_
  refine lv_iconst (v := 0) hx hb dlL_cover_1 (by decide) ?_
  refine lv_aload_n hx hb dlL_cover_2 rfl (lv_at hl 0 rfl) ?_
  refine lv_iload_n hx hb dlL_cover_3 rfl (lv_at hl 1 rfl) ?_
  refine lv_iload_n hx hb dlL_cover_4 rfl (lv_at hl 2 rfl) ?_
  obtain ⟨k2, v3, z1, hcq, hq⟩ := ct_tc1 hq
  refine ct_cali hU hM (vx_runV (As := [.int x1, .int x2]) (rest := [.int 0, .ref (u 52001)]) ⟨hx, hb, hml, hown, hts⟩ (kc_X11_cover l D q vl u hU.1 hlt sa K r0 x1 x2 hr0 z z1 k2 v3 hcq) (cwV 2 hts (tw_gV2 wLL_good wLL_T lq_70 lq_71 lq_72 (wLL_C _ xq_773) (wLL_C _ xq_925)) rfl rfl rfl cdd_X11_cover ⟨(Nat.le_of_ble_eq_true rfl), (Nat.le_of_ble_eq_true rfl)⟩) (ct_preV hK hTh hM (co_X11 hr0) rfl) rfl rfl hl.1 rfl (lv_room (Nat.le_of_ble_eq_true rfl)) dlL_cover_5 ⟨(Nat.le_of_ble_eq_true rfl), (Nat.le_of_ble_eq_true rfl)⟩) (fun E ce q9 H locs hk hE hM hce hcv hcl => ?_) (fun H locs hk hM => ?_)
  · have hq := tw_if hq hk
    by_cases hk1 : k2 = 1
    · have hq := tw_it hq hk1
      rw [hk1] at hE
      subst hE
      refine vx_catch (name := thN 1) hown [] ⟨0, 10, 13, 33⟩ [] htab (fun w hw => by cases hw) (by decide) (by decide) (hts _ (List.mem_cons_of_mem _ lq_0)) (va_Nw.use rfl (hTh _ (List.mem_of_getElem? (i := 3) rfl)).2.2.2.2.2.2) hce hcv hcl ?_
      refine lv_astore (lv' := [(4, .ref q9), (0, .ref (u r0)), (1, .int x1), (2, .int x2), (3, .ref (u 52001))]) hx hb dlL_cover_13 hl (by decide) rfl (fun ls hl => ?_)
      refine lv_iconst (v := 1) hx hb dlL_cover_15 (by decide) ?_
      exact ll_iret hx hb hr hlocks hM hq hQQ (Nat.le_of_ble_eq_true rfl) (Nat.le_of_ble_eq_true rfl) dlL_cover_16
    · have hq := tw_if hq hk1
      exact cw_no hq
  · have hq := tw_it hq hk
    refine lv_i2l hx hb dlL_cover_8 rfl ?_
    refine uw_last cX_ok hU hx hb hK hM cr_out hq dlL_cover_9 (fun z4 H locs hM hq => ?_)
    refine lv_goto (tgt := 17) hx hb dlL_cover_10 (by decide) ?_
    refine lv_iconst (v := 0) hx hb dlL_cover_17 (by decide) ?_
    exact ll_iret hx hb hr hlocks hM hq hQQ (Nat.le_of_ble_eq_true rfl) (Nat.le_of_ble_eq_true rfl) dlL_cover_18
theorem dlL_colours_0 : decode cL_colours 0 = .ok (.aload_n 3, 1) := by decide +kernel
theorem dlL_colours_1 : decode cL_colours 1 = .ok (.iconst 0, 1) := by decide +kernel
theorem dlL_colours_2 : decode cL_colours 2 = .ok (.aload_n 0, 1) := by decide +kernel
theorem dlL_colours_3 : decode cL_colours 3 = .ok (.iload_n 1, 1) := by decide +kernel
theorem dlL_colours_4 : decode cL_colours 4 = .ok (.iload_n 2, 1) := by decide +kernel
theorem dlL_colours_5 : decode cL_colours 5 = .ok (.invokevirtual 93, 3) := by decide +kernel
theorem dlL_colours_8 : decode cL_colours 8 = .ok (.lastore, 1) := by decide +kernel
theorem dlL_colours_9 : decode cL_colours 9 = .ok (.goto 11, 3) := by decide +kernel
theorem dlL_colours_12 : decode cL_colours 12 = .ok (.astore 4, 2) := by decide +kernel
theorem dlL_colours_14 : decode cL_colours 14 = .ok (.iconst 1, 1) := by decide +kernel
theorem dlL_colours_15 : decode cL_colours 15 = .ok (.ireturn, 1) := by decide +kernel
theorem dlL_colours_16 : decode cL_colours 16 = .ok (.astore 4, 2) := by decide +kernel
theorem dlL_colours_18 : decode cL_colours 18 = .ok (.iconst 2, 1) := by decide +kernel
theorem dlL_colours_19 : decode cL_colours 19 = .ok (.ireturn, 1) := by decide +kernel
theorem dlL_colours_20 : decode cL_colours 20 = .ok (.iconst 0, 1) := by decide +kernel
theorem dlL_colours_21 : decode cL_colours 21 = .ok (.ireturn, 1) := by decide +kernel
def le_L_colours (vl : Nat → Nat) (K : Nat) (r0 : Nat) (x1 : Int32) (x2 : Int32) (z : ow_MS) : Option (Int32 × ow_MS) :=
 tc1 (ce_X11_colours vl K r0 x1 x2 z) (fun k z => if k = 1 then some (1, z) else if k = 2 then some (2, z) else none) fun v3 z1 => ctJ (cX vl) z1 52001 0 v3 fun z4 => some (0, z4)
abbrev wl_L_colours : List Cond := .codeWith yL_colours cL_colours 5 (some .int) [(0, 9, 12, 33), (0, 9, 16, 19)] :: wLL
set_option maxHeartbeats 4000000 in
set_option maxRecDepth 100000 in
theorem kl_L_colours (l : Launch) (D : va_G) (q : Nat → ClassId) (vl u : Nat → Nat) (hU0 : tw_inj (cX vl) u) (hlt : l.stackTraces = false) (sa : Nat → Nat) (K : Nat) (r0 : Nat) (x1 : Int32) (x2 : Int32) (hr0 : cw_X11 r0) (z z1 : ow_MS) (r : Int32) (hq : le_L_colours vl K r0 x1 x2 z = some (r, z1)) : vx_Met l yL_colours wl_L_colours ({ frames := 8, cells := 2, slots := 12, locals := 133 } : Room) (va_Pc [.ref (u r0), .int x1, .int x2, .ref (u 52001)] (cw_preL D q vl u sa z)) (va_Qi (fun x (_ : Unit) => x = r) (fun _ t => va_P D vwCl (uw (cX vl) q u z1) t.heap) (tw_A (cX vl) u)) (vx_X (fun _ : Unit => False) (fun _ _ _ => True) (tw_A (cX vl) u)) 2 12 (tw_A (cX vl) u) := by
  refine vx_ofWH (cc := cL_colours) (maxL := 5) (ret := (some .int)) (hh := [(0, 9, 12, 33), (0, 9, 16, 19)]) (by decide) rfl ?_
  intro p e s m args below meth c s₁ B hml hv
  obtain ⟨rfl, hP, hK, hTh, hNc⟩ := hv
  have hx := B.exec
  have hb := B.bytes
  have hr := B.returns
  have hts := atoms_spec (ws := wl_L_colours) B.pre
  have htab := vx_table (x := yL_colours) B (hts _ List.mem_cons_self)
  have hT : ∀ w ∈ wC, w.before ([.ref (u r0), .int x1, .int x2, .ref (u 52001)] : List Value).toArray s = true := fun w h => hts w (List.mem_cons_of_mem _ (wLL_C w h))
  have hown : s.vm.findClass RL = some m.cls := findClass_of_methodNamed B.named
  have hlocks := B.notSynchronized
  have hU : uw_inj (cX vl) u (tw_A (cX vl) u) := ⟨hU0, fun h hh => ⟨h, hh, rfl⟩⟩
  have hM : uw_M D vwCl (cX vl) q (tw_A (cX vl) u) s.heap u z s.heap [] := ⟨hP, va_S.rf⟩
  have hl := lv_entry ([.ref (u r0), .int x1, .int x2, .ref (u 52001)]) (n := 5) (Nat.le_of_ble_eq_true rfl)
  rw [lg_entry_eq]
  generalize (lg_sl ([.ref (u r0), .int x1, .int x2, .ref (u 52001)]) ++ List.replicate (5 - (lg_sl ([.ref (u r0), .int x1, .int x2, .ref (u 52001)])).length) Slot.unset).toArray = ls at hl ⊢
  have hl : lv_has ls 5 [(0, .ref (u r0)), (1, .int x1), (2, .int x2), (3, .ref (u 52001))] := hl
  refine ow_named (fun QQ hQQ => ?_)
  generalize ([.ref (u r0), .int x1, .int x2, .ref (u 52001)] : List Value).toArray = args at hts hT hQQ ⊢
  unfold le_L_colours at hq
  suffices key : ∀ (H : Heap) (locs : List Loc), uw_M D vwCl (cX vl) q (tw_A (cX vl) u) s.heap u z H locs → W p l e ({ frames := 8, cells := 2, slots := 12, locals := 133 } : Room) s m args below meth c H locs 0 0 QQ (F0 m 0 ls []) from key s.heap [] hM
  intro H locs hM
  refine lv_aload_n hx hb dlL_colours_0 rfl (lv_at hl 3 rfl) ?_
  refine lv_iconst (v := 0) hx hb dlL_colours_1 (by decide) ?_
  refine lv_aload_n hx hb dlL_colours_2 rfl (lv_at hl 0 rfl) ?_
  refine lv_iload_n hx hb dlL_colours_3 rfl (lv_at hl 1 rfl) ?_
  refine lv_iload_n hx hb dlL_colours_4 rfl (lv_at hl 2 rfl) ?_
  obtain ⟨k2, v3, z1, hcq, hq⟩ := ct_tc1 hq
  refine ct_call hU hM (vx_runV (As := [.int x1, .int x2]) (rest := [.int 0, .ref (u 52001)]) ⟨hx, hb, hml, hown, hts⟩ (kc_X11_colours l D q vl u hU.1 hlt sa K r0 x1 x2 hr0 z z1 k2 v3 hcq) (cwV 2 hts (tw_gV2 wLL_good wLL_T lq_73 lq_74 lq_75 (wLL_C _ xq_773) (wLL_C _ xq_929)) rfl rfl rfl cdd_X11_colours ⟨(Nat.le_of_ble_eq_true rfl), (Nat.le_of_ble_eq_true rfl)⟩) (ct_preV hK hTh hM (co_X11 hr0) rfl) rfl rfl hl.1 rfl (lv_room (Nat.le_of_ble_eq_true rfl)) dlL_colours_5 ⟨(Nat.le_of_ble_eq_true rfl), (Nat.le_of_ble_eq_true rfl)⟩) (fun E ce q9 H locs hk hE hM hce hcv hcl => ?_) (fun H locs hk hM => ?_)
  · have hq := tw_if hq hk
    by_cases hk1 : k2 = 1
    · have hq := tw_it hq hk1
      rw [hk1] at hE
      subst hE
      refine vx_catch (name := thN 1) hown [] ⟨0, 9, 12, 33⟩ [⟨0, 9, 16, 19⟩] htab (fun w hw => by cases hw) (by decide) (by decide) (hts _ (List.mem_cons_of_mem _ lq_0)) (va_Nw.use rfl (hTh _ (List.mem_of_getElem? (i := 3) rfl)).2.2.2.2.2.2) hce hcv hcl ?_
      refine lv_astore (lv' := [(4, .ref q9), (0, .ref (u r0)), (1, .int x1), (2, .int x2), (3, .ref (u 52001))]) hx hb dlL_colours_12 hl (by decide) rfl (fun ls hl => ?_)
      refine lv_iconst (v := 1) hx hb dlL_colours_14 (by decide) ?_
      exact ll_iret hx hb hr hlocks hM hq hQQ (Nat.le_of_ble_eq_true rfl) (Nat.le_of_ble_eq_true rfl) dlL_colours_15
    · have hq := tw_if hq hk1
      by_cases hk2 : k2 = 2
      · have hq := tw_it hq hk2
        rw [hk2] at hE
        subst hE
        refine vx_catch (name := thN 2) hown [⟨0, 9, 12, 33⟩] ⟨0, 9, 16, 19⟩ [] htab (fun w hw => by
          simp only [List.mem_cons, List.not_mem_nil, or_false] at hw
          rcases hw with rfl
          · exact Or.inr ⟨by decide, thN 1, hts _ (List.mem_cons_of_mem _ lq_0), hNc 2 1 (by decide) (by decide) (by decide)⟩) (by decide) (by decide) (hts _ (List.mem_cons_of_mem _ lq_1)) (va_Nw.use rfl (hTh _ (List.mem_of_getElem? (i := 1) rfl)).2.2.2.2.2.2) hce hcv hcl ?_
        refine lv_astore (lv' := [(4, .ref q9), (0, .ref (u r0)), (1, .int x1), (2, .int x2), (3, .ref (u 52001))]) hx hb dlL_colours_16 hl (by decide) rfl (fun ls hl => ?_)
        refine lv_iconst (v := 2) hx hb dlL_colours_18 (by decide) ?_
        exact ll_iret hx hb hr hlocks hM hq hQQ (Nat.le_of_ble_eq_true rfl) (Nat.le_of_ble_eq_true rfl) dlL_colours_19
      · have hq := tw_if hq hk2
        exact cw_no hq
  · have hq := tw_it hq hk
    refine uw_last cX_ok hU hx hb hK hM cr_out hq dlL_colours_8 (fun z4 H locs hM hq => ?_)
    refine lv_goto (tgt := 20) hx hb dlL_colours_9 (by decide) ?_
    refine lv_iconst (v := 0) hx hb dlL_colours_20 (by decide) ?_
    exact ll_iret hx hb hr hlocks hM hq hQQ (Nat.le_of_ble_eq_true rfl) (Nat.le_of_ble_eq_true rfl) dlL_colours_21
theorem dlL_maps_0 : decode cL_maps 0 = .ok (.aload_n 3, 1) := by decide +kernel
theorem dlL_maps_1 : decode cL_maps 1 = .ok (.iconst 0, 1) := by decide +kernel
theorem dlL_maps_2 : decode cL_maps 2 = .ok (.aload_n 0, 1) := by decide +kernel
theorem dlL_maps_3 : decode cL_maps 3 = .ok (.iload_n 1, 1) := by decide +kernel
theorem dlL_maps_4 : decode cL_maps 4 = .ok (.iload_n 2, 1) := by decide +kernel
theorem dlL_maps_5 : decode cL_maps 5 = .ok (.invokevirtual 97, 3) := by decide +kernel
theorem dlL_maps_8 : decode cL_maps 8 = .ok (.i2l, 1) := by decide +kernel
theorem dlL_maps_9 : decode cL_maps 9 = .ok (.lastore, 1) := by decide +kernel
theorem dlL_maps_10 : decode cL_maps 10 = .ok (.goto 15, 3) := by decide +kernel
theorem dlL_maps_13 : decode cL_maps 13 = .ok (.astore 4, 2) := by decide +kernel
theorem dlL_maps_15 : decode cL_maps 15 = .ok (.iconst 1, 1) := by decide +kernel
theorem dlL_maps_16 : decode cL_maps 16 = .ok (.ireturn, 1) := by decide +kernel
theorem dlL_maps_17 : decode cL_maps 17 = .ok (.astore 4, 2) := by decide +kernel
theorem dlL_maps_19 : decode cL_maps 19 = .ok (.iconst 2, 1) := by decide +kernel
theorem dlL_maps_20 : decode cL_maps 20 = .ok (.ireturn, 1) := by decide +kernel
theorem dlL_maps_21 : decode cL_maps 21 = .ok (.astore 4, 2) := by decide +kernel
theorem dlL_maps_23 : decode cL_maps 23 = .ok (.iconst 3, 1) := by decide +kernel
theorem dlL_maps_24 : decode cL_maps 24 = .ok (.ireturn, 1) := by decide +kernel
theorem dlL_maps_25 : decode cL_maps 25 = .ok (.iconst 0, 1) := by decide +kernel
theorem dlL_maps_26 : decode cL_maps 26 = .ok (.ireturn, 1) := by decide +kernel
def le_L_maps (vl : Nat → Nat) (K : Nat) (r0 : Nat) (x1 : Int32) (x2 : Int32) (z : ow_MS) : Option (Int32 × ow_MS) :=
 tc1 (ce_X11_maps vl K r0 x1 x2 z) (fun k z => if k = 1 then some (1, z) else if k = 2 then some (2, z) else if k = 4 then some (3, z) else none) fun v3 z1 => ctJ (cX vl) z1 52001 0 v3.toInt64 fun z4 => some (0, z4)
abbrev wl_L_maps : List Cond := .codeWith yL_maps cL_maps 5 (some .int) [(0, 10, 13, 33), (0, 10, 17, 19), (0, 10, 21, 54)] :: wLL
set_option maxHeartbeats 4000000 in
set_option maxRecDepth 100000 in
theorem kl_L_maps (l : Launch) (D : va_G) (q : Nat → ClassId) (vl u : Nat → Nat) (hU0 : tw_inj (cX vl) u) (hlt : l.stackTraces = false) (sa : Nat → Nat) (K : Nat) (r0 : Nat) (x1 : Int32) (x2 : Int32) (hr0 : cw_X11 r0) (z z1 : ow_MS) (r : Int32) (hq : le_L_maps vl K r0 x1 x2 z = some (r, z1)) : vx_Met l yL_maps wl_L_maps ({ frames := 24, cells := 2, slots := 12, locals := 664 } : Room) (va_Pc [.ref (u r0), .int x1, .int x2, .ref (u 52001)] (cw_preL D q vl u sa z)) (va_Qi (fun x (_ : Unit) => x = r) (fun _ t => va_P D vwCl (uw (cX vl) q u z1) t.heap) (tw_A (cX vl) u)) (vx_X (fun _ : Unit => False) (fun _ _ _ => True) (tw_A (cX vl) u)) 2 12 (tw_A (cX vl) u) := by
  refine vx_ofWH (cc := cL_maps) (maxL := 5) (ret := (some .int)) (hh := [(0, 10, 13, 33), (0, 10, 17, 19), (0, 10, 21, 54)]) (by decide) rfl ?_
  intro p e s m args below meth c s₁ B hml hv
  obtain ⟨rfl, hP, hK, hTh, hNc⟩ := hv
  have hx := B.exec
  have hb := B.bytes
  have hr := B.returns
  have hts := atoms_spec (ws := wl_L_maps) B.pre
  have htab := vx_table (x := yL_maps) B (hts _ List.mem_cons_self)
  have hT : ∀ w ∈ wC, w.before ([.ref (u r0), .int x1, .int x2, .ref (u 52001)] : List Value).toArray s = true := fun w h => hts w (List.mem_cons_of_mem _ (wLL_C w h))
  have hown : s.vm.findClass RL = some m.cls := findClass_of_methodNamed B.named
  have hlocks := B.notSynchronized
  have hU : uw_inj (cX vl) u (tw_A (cX vl) u) := ⟨hU0, fun h hh => ⟨h, hh, rfl⟩⟩
  have hM : uw_M D vwCl (cX vl) q (tw_A (cX vl) u) s.heap u z s.heap [] := ⟨hP, va_S.rf⟩
  have hl := lv_entry ([.ref (u r0), .int x1, .int x2, .ref (u 52001)]) (n := 5) (Nat.le_of_ble_eq_true rfl)
  rw [lg_entry_eq]
  generalize (lg_sl ([.ref (u r0), .int x1, .int x2, .ref (u 52001)]) ++ List.replicate (5 - (lg_sl ([.ref (u r0), .int x1, .int x2, .ref (u 52001)])).length) Slot.unset).toArray = ls at hl ⊢
  have hl : lv_has ls 5 [(0, .ref (u r0)), (1, .int x1), (2, .int x2), (3, .ref (u 52001))] := hl
  refine ow_named (fun QQ hQQ => ?_)
  generalize ([.ref (u r0), .int x1, .int x2, .ref (u 52001)] : List Value).toArray = args at hts hT hQQ ⊢
  unfold le_L_maps at hq
  suffices key : ∀ (H : Heap) (locs : List Loc), uw_M D vwCl (cX vl) q (tw_A (cX vl) u) s.heap u z H locs → W p l e ({ frames := 24, cells := 2, slots := 12, locals := 664 } : Room) s m args below meth c H locs 0 0 QQ (F0 m 0 ls []) from key s.heap [] hM
  intro H locs hM
  refine lv_aload_n hx hb dlL_maps_0 rfl (lv_at hl 3 rfl) ?_
  refine lv_iconst (v := 0) hx hb dlL_maps_1 (by decide) ?_
  refine lv_aload_n hx hb dlL_maps_2 rfl (lv_at hl 0 rfl) ?_
  refine lv_iload_n hx hb dlL_maps_3 rfl (lv_at hl 1 rfl) ?_
  refine lv_iload_n hx hb dlL_maps_4 rfl (lv_at hl 2 rfl) ?_
  obtain ⟨k2, v3, z1, hcq, hq⟩ := ct_tc1 hq
  refine ct_cali hU hM (vx_runV (As := [.int x1, .int x2]) (rest := [.int 0, .ref (u 52001)]) ⟨hx, hb, hml, hown, hts⟩ (kc_X11_maps l D q vl u hU.1 hlt sa K r0 x1 x2 hr0 z z1 k2 v3 hcq) (cwV 2 hts (tw_gV2 wLL_good wLL_T lq_76 lq_77 lq_78 (wLL_C _ xq_773) (wLL_C _ xq_933)) rfl rfl rfl cdd_X11_maps ⟨(Nat.le_of_ble_eq_true rfl), (Nat.le_of_ble_eq_true rfl)⟩) (ct_preV hK hTh hM (co_X11 hr0) rfl) rfl rfl hl.1 rfl (lv_room (Nat.le_of_ble_eq_true rfl)) dlL_maps_5 ⟨(Nat.le_of_ble_eq_true rfl), (Nat.le_of_ble_eq_true rfl)⟩) (fun E ce q9 H locs hk hE hM hce hcv hcl => ?_) (fun H locs hk hM => ?_)
  · have hq := tw_if hq hk
    by_cases hk1 : k2 = 1
    · have hq := tw_it hq hk1
      rw [hk1] at hE
      subst hE
      refine vx_catch (name := thN 1) hown [] ⟨0, 10, 13, 33⟩ [⟨0, 10, 17, 19⟩, ⟨0, 10, 21, 54⟩] htab (fun w hw => by cases hw) (by decide) (by decide) (hts _ (List.mem_cons_of_mem _ lq_0)) (va_Nw.use rfl (hTh _ (List.mem_of_getElem? (i := 3) rfl)).2.2.2.2.2.2) hce hcv hcl ?_
      refine lv_astore (lv' := [(4, .ref q9), (0, .ref (u r0)), (1, .int x1), (2, .int x2), (3, .ref (u 52001))]) hx hb dlL_maps_13 hl (by decide) rfl (fun ls hl => ?_)
      refine lv_iconst (v := 1) hx hb dlL_maps_15 (by decide) ?_
      exact ll_iret hx hb hr hlocks hM hq hQQ (Nat.le_of_ble_eq_true rfl) (Nat.le_of_ble_eq_true rfl) dlL_maps_16
    · have hq := tw_if hq hk1
      by_cases hk2 : k2 = 2
      · have hq := tw_it hq hk2
        rw [hk2] at hE
        subst hE
        refine vx_catch (name := thN 2) hown [⟨0, 10, 13, 33⟩] ⟨0, 10, 17, 19⟩ [⟨0, 10, 21, 54⟩] htab (fun w hw => by
          simp only [List.mem_cons, List.not_mem_nil, or_false] at hw
          rcases hw with rfl
          · exact Or.inr ⟨by decide, thN 1, hts _ (List.mem_cons_of_mem _ lq_0), hNc 2 1 (by decide) (by decide) (by decide)⟩) (by decide) (by decide) (hts _ (List.mem_cons_of_mem _ lq_1)) (va_Nw.use rfl (hTh _ (List.mem_of_getElem? (i := 1) rfl)).2.2.2.2.2.2) hce hcv hcl ?_
        refine lv_astore (lv' := [(4, .ref q9), (0, .ref (u r0)), (1, .int x1), (2, .int x2), (3, .ref (u 52001))]) hx hb dlL_maps_17 hl (by decide) rfl (fun ls hl => ?_)
        refine lv_iconst (v := 2) hx hb dlL_maps_19 (by decide) ?_
        exact ll_iret hx hb hr hlocks hM hq hQQ (Nat.le_of_ble_eq_true rfl) (Nat.le_of_ble_eq_true rfl) dlL_maps_20
      · have hq := tw_if hq hk2
        by_cases hk4 : k2 = 4
        · have hq := tw_it hq hk4
          rw [hk4] at hE
          subst hE
          refine vx_catch (name := thN 4) hown [⟨0, 10, 13, 33⟩, ⟨0, 10, 17, 19⟩] ⟨0, 10, 21, 54⟩ [] htab (fun w hw => by
            simp only [List.mem_cons, List.not_mem_nil, or_false] at hw
            rcases hw with rfl | rfl
            · exact Or.inr ⟨by decide, thN 1, hts _ (List.mem_cons_of_mem _ lq_0), hNc 4 1 (by decide) (by decide) (by decide)⟩
            · exact Or.inr ⟨by decide, thN 2, hts _ (List.mem_cons_of_mem _ lq_1), hNc 4 2 (by decide) (by decide) (by decide)⟩) (by decide) (by decide) (hts _ (List.mem_cons_of_mem _ lq_3)) (va_Nw.use rfl (hTh _ (List.mem_of_getElem? (i := 13) rfl)).2.2.2.2.2.2) hce hcv hcl ?_
          refine lv_astore (lv' := [(4, .ref q9), (0, .ref (u r0)), (1, .int x1), (2, .int x2), (3, .ref (u 52001))]) hx hb dlL_maps_21 hl (by decide) rfl (fun ls hl => ?_)
          refine lv_iconst (v := 3) hx hb dlL_maps_23 (by decide) ?_
          exact ll_iret hx hb hr hlocks hM hq hQQ (Nat.le_of_ble_eq_true rfl) (Nat.le_of_ble_eq_true rfl) dlL_maps_24
        · have hq := tw_if hq hk4
          exact cw_no hq
  · have hq := tw_it hq hk
    refine lv_i2l hx hb dlL_maps_8 rfl ?_
    refine uw_last cX_ok hU hx hb hK hM cr_out hq dlL_maps_9 (fun z4 H locs hM hq => ?_)
    refine lv_goto (tgt := 25) hx hb dlL_maps_10 (by decide) ?_
    refine lv_iconst (v := 0) hx hb dlL_maps_25 (by decide) ?_
    exact ll_iret hx hb hr hlocks hM hq hQQ (Nat.le_of_ble_eq_true rfl) (Nat.le_of_ble_eq_true rfl) dlL_maps_26
theorem dlL_closure_0 : decode cL_closure 0 = .ok (.aload_n 2, 1) := by decide +kernel
theorem dlL_closure_1 : decode cL_closure 1 = .ok (.iconst 0, 1) := by decide +kernel
theorem dlL_closure_2 : decode cL_closure 2 = .ok (.aload_n 0, 1) := by decide +kernel
theorem dlL_closure_3 : decode cL_closure 3 = .ok (.iload_n 1, 1) := by decide +kernel
theorem dlL_closure_4 : decode cL_closure 4 = .ok (.invokevirtual 103, 3) := by decide +kernel
theorem dlL_closure_7 : decode cL_closure 7 = .ok (.i2l, 1) := by decide +kernel
theorem dlL_closure_8 : decode cL_closure 8 = .ok (.lastore, 1) := by decide +kernel
theorem dlL_closure_9 : decode cL_closure 9 = .ok (.goto 12, 3) := by decide +kernel
theorem dlL_closure_12 : decode cL_closure 12 = .ok (.astore_n 3, 1) := by decide +kernel
theorem dlL_closure_13 : decode cL_closure 13 = .ok (.iconst 1, 1) := by decide +kernel
theorem dlL_closure_14 : decode cL_closure 14 = .ok (.ireturn, 1) := by decide +kernel
theorem dlL_closure_15 : decode cL_closure 15 = .ok (.astore_n 3, 1) := by decide +kernel
theorem dlL_closure_16 : decode cL_closure 16 = .ok (.iconst 2, 1) := by decide +kernel
theorem dlL_closure_17 : decode cL_closure 17 = .ok (.ireturn, 1) := by decide +kernel
theorem dlL_closure_18 : decode cL_closure 18 = .ok (.astore_n 3, 1) := by decide +kernel
theorem dlL_closure_19 : decode cL_closure 19 = .ok (.iconst 3, 1) := by decide +kernel
theorem dlL_closure_20 : decode cL_closure 20 = .ok (.ireturn, 1) := by decide +kernel
theorem dlL_closure_21 : decode cL_closure 21 = .ok (.iconst 0, 1) := by decide +kernel
theorem dlL_closure_22 : decode cL_closure 22 = .ok (.ireturn, 1) := by decide +kernel
def le_L_closure (vl : Nat → Nat) (K : Nat) (r0 : Nat) (x1 : Int32) (z : ow_MS) : Option (Int32 × ow_MS) :=
 tc1 (ce_X11_closure vl K r0 x1 z) (fun k z => if k = 1 then some (1, z) else if k = 4 then some (2, z) else if k = 3 then some (3, z) else none) fun v3 z1 => ctJ (cX vl) z1 52001 0 v3.toInt64 fun z4 => some (0, z4)
abbrev wl_L_closure : List Cond := .codeWith yL_closure cL_closure 4 (some .int) [(0, 9, 12, 33), (0, 9, 15, 54), (0, 9, 18, 13)] :: wLL
set_option maxHeartbeats 4000000 in
set_option maxRecDepth 100000 in
theorem kl_L_closure (l : Launch) (D : va_G) (q : Nat → ClassId) (vl u : Nat → Nat) (hU0 : tw_inj (cX vl) u) (hlt : l.stackTraces = false) (sa : Nat → Nat) (K : Nat) (r0 : Nat) (x1 : Int32) (hr0 : cw_X11 r0) (z z1 : ow_MS) (r : Int32) (hq : le_L_closure vl K r0 x1 z = some (r, z1)) : vx_Met l yL_closure wl_L_closure ({ frames := 8, cells := 3, slots := 18, locals := 198 } : Room) (va_Pc [.ref (u r0), .int x1, .ref (u 52001)] (cw_preL D q vl u sa z)) (va_Qi (fun x (_ : Unit) => x = r) (fun _ t => va_P D vwCl (uw (cX vl) q u z1) t.heap) (tw_A (cX vl) u)) (vx_X (fun _ : Unit => False) (fun _ _ _ => True) (tw_A (cX vl) u)) 3 18 (tw_A (cX vl) u) := by
  refine vx_ofWH (cc := cL_closure) (maxL := 4) (ret := (some .int)) (hh := [(0, 9, 12, 33), (0, 9, 15, 54), (0, 9, 18, 13)]) (by decide) rfl ?_
  intro p e s m args below meth c s₁ B hml hv
  obtain ⟨rfl, hP, hK, hTh, hNc⟩ := hv
  have hx := B.exec
  have hb := B.bytes
  have hr := B.returns
  have hts := atoms_spec (ws := wl_L_closure) B.pre
  have htab := vx_table (x := yL_closure) B (hts _ List.mem_cons_self)
  have hT : ∀ w ∈ wC, w.before ([.ref (u r0), .int x1, .ref (u 52001)] : List Value).toArray s = true := fun w h => hts w (List.mem_cons_of_mem _ (wLL_C w h))
  have hown : s.vm.findClass RL = some m.cls := findClass_of_methodNamed B.named
  have hlocks := B.notSynchronized
  have hU : uw_inj (cX vl) u (tw_A (cX vl) u) := ⟨hU0, fun h hh => ⟨h, hh, rfl⟩⟩
  have hM : uw_M D vwCl (cX vl) q (tw_A (cX vl) u) s.heap u z s.heap [] := ⟨hP, va_S.rf⟩
  have hl := lv_entry ([.ref (u r0), .int x1, .ref (u 52001)]) (n := 4) (Nat.le_of_ble_eq_true rfl)
  rw [lg_entry_eq]
  generalize (lg_sl ([.ref (u r0), .int x1, .ref (u 52001)]) ++ List.replicate (4 - (lg_sl ([.ref (u r0), .int x1, .ref (u 52001)])).length) Slot.unset).toArray = ls at hl ⊢
  have hl : lv_has ls 4 [(0, .ref (u r0)), (1, .int x1), (2, .ref (u 52001))] := hl
  refine ow_named (fun QQ hQQ => ?_)
  generalize ([.ref (u r0), .int x1, .ref (u 52001)] : List Value).toArray = args at hts hT hQQ ⊢
  unfold le_L_closure at hq
  suffices key : ∀ (H : Heap) (locs : List Loc), uw_M D vwCl (cX vl) q (tw_A (cX vl) u) s.heap u z H locs → W p l e ({ frames := 8, cells := 3, slots := 18, locals := 198 } : Room) s m args below meth c H locs 0 0 QQ (F0 m 0 ls []) from key s.heap [] hM
  intro H locs hM
  refine lv_aload_n hx hb dlL_closure_0 rfl (lv_at hl 2 rfl) ?_
  refine lv_iconst (v := 0) hx hb dlL_closure_1 (by decide) ?_
  refine lv_aload_n hx hb dlL_closure_2 rfl (lv_at hl 0 rfl) ?_
  refine lv_iload_n hx hb dlL_closure_3 rfl (lv_at hl 1 rfl) ?_
  obtain ⟨k2, v3, z1, hcq, hq⟩ := ct_tc1 hq
  refine ct_cali hU hM (vx_runV (As := [.int x1]) (rest := [.int 0, .ref (u 52001)]) ⟨hx, hb, hml, hown, hts⟩ (kc_X11_closure l D q vl u hU.1 hlt sa K r0 x1 hr0 z z1 k2 v3 hcq) (cwV 1 hts (tw_gV2 wLL_good wLL_T lq_82 lq_83 lq_84 (wLL_C _ xq_773) (wLL_C _ xq_952)) rfl rfl rfl cdd_X11_closure ⟨(Nat.le_of_ble_eq_true rfl), (Nat.le_of_ble_eq_true rfl)⟩) (ct_preV hK hTh hM (co_X11 hr0) rfl) rfl rfl hl.1 rfl (lv_room (Nat.le_of_ble_eq_true rfl)) dlL_closure_4 ⟨(Nat.le_of_ble_eq_true rfl), (Nat.le_of_ble_eq_true rfl)⟩) (fun E ce q9 H locs hk hE hM hce hcv hcl => ?_) (fun H locs hk hM => ?_)
  · have hq := tw_if hq hk
    by_cases hk1 : k2 = 1
    · have hq := tw_it hq hk1
      rw [hk1] at hE
      subst hE
      refine vx_catch (name := thN 1) hown [] ⟨0, 9, 12, 33⟩ [⟨0, 9, 15, 54⟩, ⟨0, 9, 18, 13⟩] htab (fun w hw => by cases hw) (by decide) (by decide) (hts _ (List.mem_cons_of_mem _ lq_0)) (va_Nw.use rfl (hTh _ (List.mem_of_getElem? (i := 3) rfl)).2.2.2.2.2.2) hce hcv hcl ?_
      refine lv_astore_n (lv' := [(3, .ref q9), (0, .ref (u r0)), (1, .int x1), (2, .ref (u 52001))]) hx hb dlL_closure_12 rfl hl (by decide) rfl (fun ls hl => ?_)
      refine lv_iconst (v := 1) hx hb dlL_closure_13 (by decide) ?_
      exact ll_iret hx hb hr hlocks hM hq hQQ (Nat.le_of_ble_eq_true rfl) (Nat.le_of_ble_eq_true rfl) dlL_closure_14
    · have hq := tw_if hq hk1
      by_cases hk4 : k2 = 4
      · have hq := tw_it hq hk4
        rw [hk4] at hE
        subst hE
        refine vx_catch (name := thN 4) hown [⟨0, 9, 12, 33⟩] ⟨0, 9, 15, 54⟩ [⟨0, 9, 18, 13⟩] htab (fun w hw => by
          simp only [List.mem_cons, List.not_mem_nil, or_false] at hw
          rcases hw with rfl
          · exact Or.inr ⟨by decide, thN 1, hts _ (List.mem_cons_of_mem _ lq_0), hNc 4 1 (by decide) (by decide) (by decide)⟩) (by decide) (by decide) (hts _ (List.mem_cons_of_mem _ lq_3)) (va_Nw.use rfl (hTh _ (List.mem_of_getElem? (i := 13) rfl)).2.2.2.2.2.2) hce hcv hcl ?_
        refine lv_astore_n (lv' := [(3, .ref q9), (0, .ref (u r0)), (1, .int x1), (2, .ref (u 52001))]) hx hb dlL_closure_15 rfl hl (by decide) rfl (fun ls hl => ?_)
        refine lv_iconst (v := 2) hx hb dlL_closure_16 (by decide) ?_
        exact ll_iret hx hb hr hlocks hM hq hQQ (Nat.le_of_ble_eq_true rfl) (Nat.le_of_ble_eq_true rfl) dlL_closure_17
      · have hq := tw_if hq hk4
        by_cases hk3 : k2 = 3
        · have hq := tw_it hq hk3
          rw [hk3] at hE
          subst hE
          refine vx_catch (name := thN 3) hown [⟨0, 9, 12, 33⟩, ⟨0, 9, 15, 54⟩] ⟨0, 9, 18, 13⟩ [] htab (fun w hw => by
            simp only [List.mem_cons, List.not_mem_nil, or_false] at hw
            rcases hw with rfl | rfl
            · exact Or.inr ⟨by decide, thN 1, hts _ (List.mem_cons_of_mem _ lq_0), hNc 3 1 (by decide) (by decide) (by decide)⟩
            · exact Or.inr ⟨by decide, thN 4, hts _ (List.mem_cons_of_mem _ lq_3), hNc 3 4 (by decide) (by decide) (by decide)⟩) (by decide) (by decide) (hts _ (List.mem_cons_of_mem _ lq_2)) (va_Nw.use rfl (hTh _ (List.mem_of_getElem? (i := 0) rfl)).2.2.2.2.2.2) hce hcv hcl ?_
          refine lv_astore_n (lv' := [(3, .ref q9), (0, .ref (u r0)), (1, .int x1), (2, .ref (u 52001))]) hx hb dlL_closure_18 rfl hl (by decide) rfl (fun ls hl => ?_)
          refine lv_iconst (v := 3) hx hb dlL_closure_19 (by decide) ?_
          exact ll_iret hx hb hr hlocks hM hq hQQ (Nat.le_of_ble_eq_true rfl) (Nat.le_of_ble_eq_true rfl) dlL_closure_20
        · have hq := tw_if hq hk3
          exact cw_no hq
  · have hq := tw_it hq hk
    refine lv_i2l hx hb dlL_closure_7 rfl ?_
    refine uw_last cX_ok hU hx hb hK hM cr_out hq dlL_closure_8 (fun z4 H locs hM hq => ?_)
    refine lv_goto (tgt := 21) hx hb dlL_closure_9 (by decide) ?_
    refine lv_iconst (v := 0) hx hb dlL_closure_21 (by decide) ?_
    exact ll_iret hx hb hr hlocks hM hq hQQ (Nat.le_of_ble_eq_true rfl) (Nat.le_of_ble_eq_true rfl) dlL_closure_22
theorem dlL_product_0 : decode cL_product 0 = .ok (.aload_n 3, 1) := by decide +kernel
theorem dlL_product_1 : decode cL_product 1 = .ok (.iconst 0, 1) := by decide +kernel
theorem dlL_product_2 : decode cL_product 2 = .ok (.aload_n 0, 1) := by decide +kernel
theorem dlL_product_3 : decode cL_product 3 = .ok (.iload_n 1, 1) := by decide +kernel
theorem dlL_product_4 : decode cL_product 4 = .ok (.iload_n 2, 1) := by decide +kernel
theorem dlL_product_5 : decode cL_product 5 = .ok (.invokevirtual 106, 3) := by decide +kernel
theorem dlL_product_8 : decode cL_product 8 = .ok (.i2l, 1) := by decide +kernel
theorem dlL_product_9 : decode cL_product 9 = .ok (.lastore, 1) := by decide +kernel
theorem dlL_product_10 : decode cL_product 10 = .ok (.goto 19, 3) := by decide +kernel
theorem dlL_product_13 : decode cL_product 13 = .ok (.astore 4, 2) := by decide +kernel
theorem dlL_product_15 : decode cL_product 15 = .ok (.iconst 1, 1) := by decide +kernel
theorem dlL_product_16 : decode cL_product 16 = .ok (.ireturn, 1) := by decide +kernel
theorem dlL_product_17 : decode cL_product 17 = .ok (.astore 4, 2) := by decide +kernel
theorem dlL_product_19 : decode cL_product 19 = .ok (.iconst 2, 1) := by decide +kernel
theorem dlL_product_20 : decode cL_product 20 = .ok (.ireturn, 1) := by decide +kernel
theorem dlL_product_21 : decode cL_product 21 = .ok (.astore 4, 2) := by decide +kernel
theorem dlL_product_23 : decode cL_product 23 = .ok (.iconst 3, 1) := by decide +kernel
theorem dlL_product_24 : decode cL_product 24 = .ok (.ireturn, 1) := by decide +kernel
theorem dlL_product_25 : decode cL_product 25 = .ok (.astore 4, 2) := by decide +kernel
theorem dlL_product_27 : decode cL_product 27 = .ok (.iconst 4, 1) := by decide +kernel
theorem dlL_product_28 : decode cL_product 28 = .ok (.ireturn, 1) := by decide +kernel
theorem dlL_product_29 : decode cL_product 29 = .ok (.iconst 0, 1) := by decide +kernel
theorem dlL_product_30 : decode cL_product 30 = .ok (.ireturn, 1) := by decide +kernel
def le_L_product (vl : Nat → Nat) (K : Nat) (r0 : Nat) (x1 : Int32) (x2 : Int32) (z : ow_MS) : Option (Int32 × ow_MS) :=
 tc1 (ce_X11_product vl K r0 x1 x2 z) (fun k z => if k = 1 then some (1, z) else if k = 2 then some (2, z) else if k = 4 then some (3, z) else if k = 3 then some (4, z) else none) fun v3 z1 => ctJ (cX vl) z1 52001 0 v3.toInt64 fun z4 => some (0, z4)
abbrev wl_L_product : List Cond := .codeWith yL_product cL_product 5 (some .int) [(0, 10, 13, 33), (0, 10, 17, 19), (0, 10, 21, 54), (0, 10, 25, 13)] :: wLL
set_option maxHeartbeats 4000000 in
set_option maxRecDepth 100000 in
theorem kl_L_product (l : Launch) (D : va_G) (q : Nat → ClassId) (vl u : Nat → Nat) (hU0 : tw_inj (cX vl) u) (hlt : l.stackTraces = false) (sa : Nat → Nat) (K : Nat) (r0 : Nat) (x1 : Int32) (x2 : Int32) (hr0 : cw_X11 r0) (z z1 : ow_MS) (r : Int32) (hq : le_L_product vl K r0 x1 x2 z = some (r, z1)) : vx_Met l yL_product wl_L_product ({ frames := 8, cells := 4, slots := 24, locals := 135 } : Room) (va_Pc [.ref (u r0), .int x1, .int x2, .ref (u 52001)] (cw_preL D q vl u sa z)) (va_Qi (fun x (_ : Unit) => x = r) (fun _ t => va_P D vwCl (uw (cX vl) q u z1) t.heap) (tw_A (cX vl) u)) (vx_X (fun _ : Unit => False) (fun _ _ _ => True) (tw_A (cX vl) u)) 4 24 (tw_A (cX vl) u) := by
  refine vx_ofWH (cc := cL_product) (maxL := 5) (ret := (some .int)) (hh := [(0, 10, 13, 33), (0, 10, 17, 19), (0, 10, 21, 54), (0, 10, 25, 13)]) (by decide) rfl ?_
  intro p e s m args below meth c s₁ B hml hv
  obtain ⟨rfl, hP, hK, hTh, hNc⟩ := hv
  have hx := B.exec
  have hb := B.bytes
  have hr := B.returns
  have hts := atoms_spec (ws := wl_L_product) B.pre
  have htab := vx_table (x := yL_product) B (hts _ List.mem_cons_self)
  have hT : ∀ w ∈ wC, w.before ([.ref (u r0), .int x1, .int x2, .ref (u 52001)] : List Value).toArray s = true := fun w h => hts w (List.mem_cons_of_mem _ (wLL_C w h))
  have hown : s.vm.findClass RL = some m.cls := findClass_of_methodNamed B.named
  have hlocks := B.notSynchronized
  have hU : uw_inj (cX vl) u (tw_A (cX vl) u) := ⟨hU0, fun h hh => ⟨h, hh, rfl⟩⟩
  have hM : uw_M D vwCl (cX vl) q (tw_A (cX vl) u) s.heap u z s.heap [] := ⟨hP, va_S.rf⟩
  have hl := lv_entry ([.ref (u r0), .int x1, .int x2, .ref (u 52001)]) (n := 5) (Nat.le_of_ble_eq_true rfl)
  rw [lg_entry_eq]
  generalize (lg_sl ([.ref (u r0), .int x1, .int x2, .ref (u 52001)]) ++ List.replicate (5 - (lg_sl ([.ref (u r0), .int x1, .int x2, .ref (u 52001)])).length) Slot.unset).toArray = ls at hl ⊢
  have hl : lv_has ls 5 [(0, .ref (u r0)), (1, .int x1), (2, .int x2), (3, .ref (u 52001))] := hl
  refine ow_named (fun QQ hQQ => ?_)
  generalize ([.ref (u r0), .int x1, .int x2, .ref (u 52001)] : List Value).toArray = args at hts hT hQQ ⊢
  unfold le_L_product at hq
  suffices key : ∀ (H : Heap) (locs : List Loc), uw_M D vwCl (cX vl) q (tw_A (cX vl) u) s.heap u z H locs → W p l e ({ frames := 8, cells := 4, slots := 24, locals := 135 } : Room) s m args below meth c H locs 0 0 QQ (F0 m 0 ls []) from key s.heap [] hM
  intro H locs hM
  refine lv_aload_n hx hb dlL_product_0 rfl (lv_at hl 3 rfl) ?_
  refine lv_iconst (v := 0) hx hb dlL_product_1 (by decide) ?_
  refine lv_aload_n hx hb dlL_product_2 rfl (lv_at hl 0 rfl) ?_
  refine lv_iload_n hx hb dlL_product_3 rfl (lv_at hl 1 rfl) ?_
  refine lv_iload_n hx hb dlL_product_4 rfl (lv_at hl 2 rfl) ?_
  obtain ⟨k2, v3, z1, hcq, hq⟩ := ct_tc1 hq
  refine ct_cali hU hM (vx_runV (As := [.int x1, .int x2]) (rest := [.int 0, .ref (u 52001)]) ⟨hx, hb, hml, hown, hts⟩ (kc_X11_product l D q vl u hU.1 hlt sa K r0 x1 x2 hr0 z z1 k2 v3 hcq) (cwV 2 hts (tw_gV2 wLL_good wLL_T lq_85 lq_86 lq_87 (wLL_C _ xq_773) (wLL_C _ xq_954)) rfl rfl rfl cdd_X11_product ⟨(Nat.le_of_ble_eq_true rfl), (Nat.le_of_ble_eq_true rfl)⟩) (ct_preV hK hTh hM (co_X11 hr0) rfl) rfl rfl hl.1 rfl (lv_room (Nat.le_of_ble_eq_true rfl)) dlL_product_5 ⟨(Nat.le_of_ble_eq_true rfl), (Nat.le_of_ble_eq_true rfl)⟩) (fun E ce q9 H locs hk hE hM hce hcv hcl => ?_) (fun H locs hk hM => ?_)
  · have hq := tw_if hq hk
    by_cases hk1 : k2 = 1
    · have hq := tw_it hq hk1
      rw [hk1] at hE
      subst hE
      refine vx_catch (name := thN 1) hown [] ⟨0, 10, 13, 33⟩ [⟨0, 10, 17, 19⟩, ⟨0, 10, 21, 54⟩, ⟨0, 10, 25, 13⟩] htab (fun w hw => by cases hw) (by decide) (by decide) (hts _ (List.mem_cons_of_mem _ lq_0)) (va_Nw.use rfl (hTh _ (List.mem_of_getElem? (i := 3) rfl)).2.2.2.2.2.2) hce hcv hcl ?_
      refine lv_astore (lv' := [(4, .ref q9), (0, .ref (u r0)), (1, .int x1), (2, .int x2), (3, .ref (u 52001))]) hx hb dlL_product_13 hl (by decide) rfl (fun ls hl => ?_)
      refine lv_iconst (v := 1) hx hb dlL_product_15 (by decide) ?_
      exact ll_iret hx hb hr hlocks hM hq hQQ (Nat.le_of_ble_eq_true rfl) (Nat.le_of_ble_eq_true rfl) dlL_product_16
    · have hq := tw_if hq hk1
      by_cases hk2 : k2 = 2
      · have hq := tw_it hq hk2
        rw [hk2] at hE
        subst hE
        refine vx_catch (name := thN 2) hown [⟨0, 10, 13, 33⟩] ⟨0, 10, 17, 19⟩ [⟨0, 10, 21, 54⟩, ⟨0, 10, 25, 13⟩] htab (fun w hw => by
          simp only [List.mem_cons, List.not_mem_nil, or_false] at hw
          rcases hw with rfl
          · exact Or.inr ⟨by decide, thN 1, hts _ (List.mem_cons_of_mem _ lq_0), hNc 2 1 (by decide) (by decide) (by decide)⟩) (by decide) (by decide) (hts _ (List.mem_cons_of_mem _ lq_1)) (va_Nw.use rfl (hTh _ (List.mem_of_getElem? (i := 1) rfl)).2.2.2.2.2.2) hce hcv hcl ?_
        refine lv_astore (lv' := [(4, .ref q9), (0, .ref (u r0)), (1, .int x1), (2, .int x2), (3, .ref (u 52001))]) hx hb dlL_product_17 hl (by decide) rfl (fun ls hl => ?_)
        refine lv_iconst (v := 2) hx hb dlL_product_19 (by decide) ?_
        exact ll_iret hx hb hr hlocks hM hq hQQ (Nat.le_of_ble_eq_true rfl) (Nat.le_of_ble_eq_true rfl) dlL_product_20
      · have hq := tw_if hq hk2
        by_cases hk4 : k2 = 4
        · have hq := tw_it hq hk4
          rw [hk4] at hE
          subst hE
          refine vx_catch (name := thN 4) hown [⟨0, 10, 13, 33⟩, ⟨0, 10, 17, 19⟩] ⟨0, 10, 21, 54⟩ [⟨0, 10, 25, 13⟩] htab (fun w hw => by
            simp only [List.mem_cons, List.not_mem_nil, or_false] at hw
            rcases hw with rfl | rfl
            · exact Or.inr ⟨by decide, thN 1, hts _ (List.mem_cons_of_mem _ lq_0), hNc 4 1 (by decide) (by decide) (by decide)⟩
            · exact Or.inr ⟨by decide, thN 2, hts _ (List.mem_cons_of_mem _ lq_1), hNc 4 2 (by decide) (by decide) (by decide)⟩) (by decide) (by decide) (hts _ (List.mem_cons_of_mem _ lq_3)) (va_Nw.use rfl (hTh _ (List.mem_of_getElem? (i := 13) rfl)).2.2.2.2.2.2) hce hcv hcl ?_
          refine lv_astore (lv' := [(4, .ref q9), (0, .ref (u r0)), (1, .int x1), (2, .int x2), (3, .ref (u 52001))]) hx hb dlL_product_21 hl (by decide) rfl (fun ls hl => ?_)
          refine lv_iconst (v := 3) hx hb dlL_product_23 (by decide) ?_
          exact ll_iret hx hb hr hlocks hM hq hQQ (Nat.le_of_ble_eq_true rfl) (Nat.le_of_ble_eq_true rfl) dlL_product_24
        · have hq := tw_if hq hk4
          by_cases hk3 : k2 = 3
          · have hq := tw_it hq hk3
            rw [hk3] at hE
            subst hE
            refine vx_catch (name := thN 3) hown [⟨0, 10, 13, 33⟩, ⟨0, 10, 17, 19⟩, ⟨0, 10, 21, 54⟩] ⟨0, 10, 25, 13⟩ [] htab (fun w hw => by
              simp only [List.mem_cons, List.not_mem_nil, or_false] at hw
              rcases hw with rfl | rfl | rfl
              · exact Or.inr ⟨by decide, thN 1, hts _ (List.mem_cons_of_mem _ lq_0), hNc 3 1 (by decide) (by decide) (by decide)⟩
              · exact Or.inr ⟨by decide, thN 2, hts _ (List.mem_cons_of_mem _ lq_1), hNc 3 2 (by decide) (by decide) (by decide)⟩
              · exact Or.inr ⟨by decide, thN 4, hts _ (List.mem_cons_of_mem _ lq_3), hNc 3 4 (by decide) (by decide) (by decide)⟩) (by decide) (by decide) (hts _ (List.mem_cons_of_mem _ lq_2)) (va_Nw.use rfl (hTh _ (List.mem_of_getElem? (i := 0) rfl)).2.2.2.2.2.2) hce hcv hcl ?_
            refine lv_astore (lv' := [(4, .ref q9), (0, .ref (u r0)), (1, .int x1), (2, .int x2), (3, .ref (u 52001))]) hx hb dlL_product_25 hl (by decide) rfl (fun ls hl => ?_)
            refine lv_iconst (v := 4) hx hb dlL_product_27 (by decide) ?_
            exact ll_iret hx hb hr hlocks hM hq hQQ (Nat.le_of_ble_eq_true rfl) (Nat.le_of_ble_eq_true rfl) dlL_product_28
          · have hq := tw_if hq hk3
            exact cw_no hq
  · have hq := tw_it hq hk
    refine lv_i2l hx hb dlL_product_8 rfl ?_
    refine uw_last cX_ok hU hx hb hK hM cr_out hq dlL_product_9 (fun z4 H locs hM hq => ?_)
    refine lv_goto (tgt := 29) hx hb dlL_product_10 (by decide) ?_
    refine lv_iconst (v := 0) hx hb dlL_product_29 (by decide) ?_
    exact ll_iret hx hb hr hlocks hM hq hQQ (Nat.le_of_ble_eq_true rfl) (Nat.le_of_ble_eq_true rfl) dlL_product_30
theorem dlL_inverse_0 : decode cL_inverse 0 = .ok (.aload_n 2, 1) := by decide +kernel
theorem dlL_inverse_1 : decode cL_inverse 1 = .ok (.iconst 0, 1) := by decide +kernel
theorem dlL_inverse_2 : decode cL_inverse 2 = .ok (.aload_n 0, 1) := by decide +kernel
theorem dlL_inverse_3 : decode cL_inverse 3 = .ok (.iload_n 1, 1) := by decide +kernel
theorem dlL_inverse_4 : decode cL_inverse 4 = .ok (.invokevirtual 109, 3) := by decide +kernel
theorem dlL_inverse_7 : decode cL_inverse 7 = .ok (.i2l, 1) := by decide +kernel
theorem dlL_inverse_8 : decode cL_inverse 8 = .ok (.lastore, 1) := by decide +kernel
theorem dlL_inverse_9 : decode cL_inverse 9 = .ok (.goto 9, 3) := by decide +kernel
theorem dlL_inverse_12 : decode cL_inverse 12 = .ok (.astore_n 3, 1) := by decide +kernel
theorem dlL_inverse_13 : decode cL_inverse 13 = .ok (.iconst 1, 1) := by decide +kernel
theorem dlL_inverse_14 : decode cL_inverse 14 = .ok (.ireturn, 1) := by decide +kernel
theorem dlL_inverse_15 : decode cL_inverse 15 = .ok (.astore_n 3, 1) := by decide +kernel
theorem dlL_inverse_16 : decode cL_inverse 16 = .ok (.iconst 2, 1) := by decide +kernel
theorem dlL_inverse_17 : decode cL_inverse 17 = .ok (.ireturn, 1) := by decide +kernel
theorem dlL_inverse_18 : decode cL_inverse 18 = .ok (.iconst 0, 1) := by decide +kernel
theorem dlL_inverse_19 : decode cL_inverse 19 = .ok (.ireturn, 1) := by decide +kernel
def le_L_inverse (vl : Nat → Nat) (K : Nat) (r0 : Nat) (x1 : Int32) (z : ow_MS) : Option (Int32 × ow_MS) :=
 tc1 (ce_X11_inverse vl K r0 x1 z) (fun k z => if k = 1 then some (1, z) else if k = 3 then some (2, z) else none) fun v3 z1 => ctJ (cX vl) z1 52001 0 v3.toInt64 fun z4 => some (0, z4)
abbrev wl_L_inverse : List Cond := .codeWith yL_inverse cL_inverse 4 (some .int) [(0, 9, 12, 33), (0, 9, 15, 13)] :: wLL
set_option maxHeartbeats 4000000 in
set_option maxRecDepth 100000 in
theorem kl_L_inverse (l : Launch) (D : va_G) (q : Nat → ClassId) (vl u : Nat → Nat) (hU0 : tw_inj (cX vl) u) (hlt : l.stackTraces = false) (sa : Nat → Nat) (K : Nat) (r0 : Nat) (x1 : Int32) (hr0 : cw_X11 r0) (z z1 : ow_MS) (r : Int32) (hq : le_L_inverse vl K r0 x1 z = some (r, z1)) : vx_Met l yL_inverse wl_L_inverse ({ frames := 8, cells := 2, slots := 12, locals := 135 } : Room) (va_Pc [.ref (u r0), .int x1, .ref (u 52001)] (cw_preL D q vl u sa z)) (va_Qi (fun x (_ : Unit) => x = r) (fun _ t => va_P D vwCl (uw (cX vl) q u z1) t.heap) (tw_A (cX vl) u)) (vx_X (fun _ : Unit => False) (fun _ _ _ => True) (tw_A (cX vl) u)) 2 12 (tw_A (cX vl) u) := by
  refine vx_ofWH (cc := cL_inverse) (maxL := 4) (ret := (some .int)) (hh := [(0, 9, 12, 33), (0, 9, 15, 13)]) (by decide) rfl ?_
  intro p e s m args below meth c s₁ B hml hv
  obtain ⟨rfl, hP, hK, hTh, hNc⟩ := hv
  have hx := B.exec
  have hb := B.bytes
  have hr := B.returns
  have hts := atoms_spec (ws := wl_L_inverse) B.pre
  have htab := vx_table (x := yL_inverse) B (hts _ List.mem_cons_self)
  have hT : ∀ w ∈ wC, w.before ([.ref (u r0), .int x1, .ref (u 52001)] : List Value).toArray s = true := fun w h => hts w (List.mem_cons_of_mem _ (wLL_C w h))
  have hown : s.vm.findClass RL = some m.cls := findClass_of_methodNamed B.named
  have hlocks := B.notSynchronized
  have hU : uw_inj (cX vl) u (tw_A (cX vl) u) := ⟨hU0, fun h hh => ⟨h, hh, rfl⟩⟩
  have hM : uw_M D vwCl (cX vl) q (tw_A (cX vl) u) s.heap u z s.heap [] := ⟨hP, va_S.rf⟩
  have hl := lv_entry ([.ref (u r0), .int x1, .ref (u 52001)]) (n := 4) (Nat.le_of_ble_eq_true rfl)
  rw [lg_entry_eq]
  generalize (lg_sl ([.ref (u r0), .int x1, .ref (u 52001)]) ++ List.replicate (4 - (lg_sl ([.ref (u r0), .int x1, .ref (u 52001)])).length) Slot.unset).toArray = ls at hl ⊢
  have hl : lv_has ls 4 [(0, .ref (u r0)), (1, .int x1), (2, .ref (u 52001))] := hl
  refine ow_named (fun QQ hQQ => ?_)
  generalize ([.ref (u r0), .int x1, .ref (u 52001)] : List Value).toArray = args at hts hT hQQ ⊢
  unfold le_L_inverse at hq
  suffices key : ∀ (H : Heap) (locs : List Loc), uw_M D vwCl (cX vl) q (tw_A (cX vl) u) s.heap u z H locs → W p l e ({ frames := 8, cells := 2, slots := 12, locals := 135 } : Room) s m args below meth c H locs 0 0 QQ (F0 m 0 ls []) from key s.heap [] hM
  intro H locs hM
  refine lv_aload_n hx hb dlL_inverse_0 rfl (lv_at hl 2 rfl) ?_
  refine lv_iconst (v := 0) hx hb dlL_inverse_1 (by decide) ?_
  refine lv_aload_n hx hb dlL_inverse_2 rfl (lv_at hl 0 rfl) ?_
  refine lv_iload_n hx hb dlL_inverse_3 rfl (lv_at hl 1 rfl) ?_
  obtain ⟨k2, v3, z1, hcq, hq⟩ := ct_tc1 hq
  refine ct_cali hU hM (vx_runV (As := [.int x1]) (rest := [.int 0, .ref (u 52001)]) ⟨hx, hb, hml, hown, hts⟩ (kc_X11_inverse l D q vl u hU.1 hlt sa K r0 x1 hr0 z z1 k2 v3 hcq) (cwV 1 hts (tw_gV2 wLL_good wLL_T lq_88 lq_89 lq_90 (wLL_C _ xq_773) (wLL_C _ xq_955)) rfl rfl rfl cdd_X11_inverse ⟨(Nat.le_of_ble_eq_true rfl), (Nat.le_of_ble_eq_true rfl)⟩) (ct_preV hK hTh hM (co_X11 hr0) rfl) rfl rfl hl.1 rfl (lv_room (Nat.le_of_ble_eq_true rfl)) dlL_inverse_4 ⟨(Nat.le_of_ble_eq_true rfl), (Nat.le_of_ble_eq_true rfl)⟩) (fun E ce q9 H locs hk hE hM hce hcv hcl => ?_) (fun H locs hk hM => ?_)
  · have hq := tw_if hq hk
    by_cases hk1 : k2 = 1
    · have hq := tw_it hq hk1
      rw [hk1] at hE
      subst hE
      refine vx_catch (name := thN 1) hown [] ⟨0, 9, 12, 33⟩ [⟨0, 9, 15, 13⟩] htab (fun w hw => by cases hw) (by decide) (by decide) (hts _ (List.mem_cons_of_mem _ lq_0)) (va_Nw.use rfl (hTh _ (List.mem_of_getElem? (i := 3) rfl)).2.2.2.2.2.2) hce hcv hcl ?_
      refine lv_astore_n (lv' := [(3, .ref q9), (0, .ref (u r0)), (1, .int x1), (2, .ref (u 52001))]) hx hb dlL_inverse_12 rfl hl (by decide) rfl (fun ls hl => ?_)
      refine lv_iconst (v := 1) hx hb dlL_inverse_13 (by decide) ?_
      exact ll_iret hx hb hr hlocks hM hq hQQ (Nat.le_of_ble_eq_true rfl) (Nat.le_of_ble_eq_true rfl) dlL_inverse_14
    · have hq := tw_if hq hk1
      by_cases hk3 : k2 = 3
      · have hq := tw_it hq hk3
        rw [hk3] at hE
        subst hE
        refine vx_catch (name := thN 3) hown [⟨0, 9, 12, 33⟩] ⟨0, 9, 15, 13⟩ [] htab (fun w hw => by
          simp only [List.mem_cons, List.not_mem_nil, or_false] at hw
          rcases hw with rfl
          · exact Or.inr ⟨by decide, thN 1, hts _ (List.mem_cons_of_mem _ lq_0), hNc 3 1 (by decide) (by decide) (by decide)⟩) (by decide) (by decide) (hts _ (List.mem_cons_of_mem _ lq_2)) (va_Nw.use rfl (hTh _ (List.mem_of_getElem? (i := 0) rfl)).2.2.2.2.2.2) hce hcv hcl ?_
        refine lv_astore_n (lv' := [(3, .ref q9), (0, .ref (u r0)), (1, .int x1), (2, .ref (u 52001))]) hx hb dlL_inverse_15 rfl hl (by decide) rfl (fun ls hl => ?_)
        refine lv_iconst (v := 2) hx hb dlL_inverse_16 (by decide) ?_
        exact ll_iret hx hb hr hlocks hM hq hQQ (Nat.le_of_ble_eq_true rfl) (Nat.le_of_ble_eq_true rfl) dlL_inverse_17
      · have hq := tw_if hq hk3
        exact cw_no hq
  · have hq := tw_it hq hk
    refine lv_i2l hx hb dlL_inverse_7 rfl ?_
    refine uw_last cX_ok hU hx hb hK hM cr_out hq dlL_inverse_8 (fun z4 H locs hM hq => ?_)
    refine lv_goto (tgt := 18) hx hb dlL_inverse_9 (by decide) ?_
    refine lv_iconst (v := 0) hx hb dlL_inverse_18 (by decide) ?_
    exact ll_iret hx hb hr hlocks hM hq hQQ (Nat.le_of_ble_eq_true rfl) (Nat.le_of_ble_eq_true rfl) dlL_inverse_19
theorem dlL_normal_0 : decode cL_normal 0 = .ok (.aload_n 3, 1) := by decide +kernel
theorem dlL_normal_1 : decode cL_normal 1 = .ok (.iconst 0, 1) := by decide +kernel
theorem dlL_normal_2 : decode cL_normal 2 = .ok (.aload_n 0, 1) := by decide +kernel
theorem dlL_normal_3 : decode cL_normal 3 = .ok (.iload_n 1, 1) := by decide +kernel
theorem dlL_normal_4 : decode cL_normal 4 = .ok (.iload_n 2, 1) := by decide +kernel
theorem dlL_normal_5 : decode cL_normal 5 = .ok (.invokevirtual 112, 3) := by decide +kernel
theorem dlL_normal_8 : decode cL_normal 8 = .ok (.i2l, 1) := by decide +kernel
theorem dlL_normal_9 : decode cL_normal 9 = .ok (.lastore, 1) := by decide +kernel
theorem dlL_normal_10 : decode cL_normal 10 = .ok (.goto 11, 3) := by decide +kernel
theorem dlL_normal_13 : decode cL_normal 13 = .ok (.astore 4, 2) := by decide +kernel
theorem dlL_normal_15 : decode cL_normal 15 = .ok (.iconst 1, 1) := by decide +kernel
theorem dlL_normal_16 : decode cL_normal 16 = .ok (.ireturn, 1) := by decide +kernel
theorem dlL_normal_17 : decode cL_normal 17 = .ok (.astore 4, 2) := by decide +kernel
theorem dlL_normal_19 : decode cL_normal 19 = .ok (.iconst 2, 1) := by decide +kernel
theorem dlL_normal_20 : decode cL_normal 20 = .ok (.ireturn, 1) := by decide +kernel
theorem dlL_normal_21 : decode cL_normal 21 = .ok (.iconst 0, 1) := by decide +kernel
theorem dlL_normal_22 : decode cL_normal 22 = .ok (.ireturn, 1) := by decide +kernel
def le_L_normal (vl : Nat → Nat) (K : Nat) (r0 : Nat) (x1 : Int32) (x2 : Int32) (z : ow_MS) : Option (Int32 × ow_MS) :=
 tc1 (ce_X11_normal vl K r0 x1 x2 z) (fun k z => if k = 1 then some (1, z) else if k = 2 then some (2, z) else none) fun v3 z1 => ctJ (cX vl) z1 52001 0 v3.toInt64 fun z4 => some (0, z4)
abbrev wl_L_normal : List Cond := .codeWith yL_normal cL_normal 5 (some .int) [(0, 10, 13, 33), (0, 10, 17, 19)] :: wLL
set_option maxHeartbeats 4000000 in
set_option maxRecDepth 100000 in
theorem kl_L_normal (l : Launch) (D : va_G) (q : Nat → ClassId) (vl u : Nat → Nat) (hU0 : tw_inj (cX vl) u) (hlt : l.stackTraces = false) (sa : Nat → Nat) (K : Nat) (r0 : Nat) (x1 : Int32) (x2 : Int32) (hr0 : cw_X11 r0) (z z1 : ow_MS) (r : Int32) (hq : le_L_normal vl K r0 x1 x2 z = some (r, z1)) : vx_Met l yL_normal wl_L_normal ({ frames := 8, cells := 2, slots := 12, locals := 172 } : Room) (va_Pc [.ref (u r0), .int x1, .int x2, .ref (u 52001)] (cw_preL D q vl u sa z)) (va_Qi (fun x (_ : Unit) => x = r) (fun _ t => va_P D vwCl (uw (cX vl) q u z1) t.heap) (tw_A (cX vl) u)) (vx_X (fun _ : Unit => False) (fun _ _ _ => True) (tw_A (cX vl) u)) 2 12 (tw_A (cX vl) u) := by
  refine vx_ofWH (cc := cL_normal) (maxL := 5) (ret := (some .int)) (hh := [(0, 10, 13, 33), (0, 10, 17, 19)]) (by decide) rfl ?_
  intro p e s m args below meth c s₁ B hml hv
  obtain ⟨rfl, hP, hK, hTh, hNc⟩ := hv
  have hx := B.exec
  have hb := B.bytes
  have hr := B.returns
  have hts := atoms_spec (ws := wl_L_normal) B.pre
  have htab := vx_table (x := yL_normal) B (hts _ List.mem_cons_self)
  have hT : ∀ w ∈ wC, w.before ([.ref (u r0), .int x1, .int x2, .ref (u 52001)] : List Value).toArray s = true := fun w h => hts w (List.mem_cons_of_mem _ (wLL_C w h))
  have hown : s.vm.findClass RL = some m.cls := findClass_of_methodNamed B.named
  have hlocks := B.notSynchronized
  have hU : uw_inj (cX vl) u (tw_A (cX vl) u) := ⟨hU0, fun h hh => ⟨h, hh, rfl⟩⟩
  have hM : uw_M D vwCl (cX vl) q (tw_A (cX vl) u) s.heap u z s.heap [] := ⟨hP, va_S.rf⟩
  have hl := lv_entry ([.ref (u r0), .int x1, .int x2, .ref (u 52001)]) (n := 5) (Nat.le_of_ble_eq_true rfl)
  rw [lg_entry_eq]
  generalize (lg_sl ([.ref (u r0), .int x1, .int x2, .ref (u 52001)]) ++ List.replicate (5 - (lg_sl ([.ref (u r0), .int x1, .int x2, .ref (u 52001)])).length) Slot.unset).toArray = ls at hl ⊢
  have hl : lv_has ls 5 [(0, .ref (u r0)), (1, .int x1), (2, .int x2), (3, .ref (u 52001))] := hl
  refine ow_named (fun QQ hQQ => ?_)
  generalize ([.ref (u r0), .int x1, .int x2, .ref (u 52001)] : List Value).toArray = args at hts hT hQQ ⊢
  unfold le_L_normal at hq
  suffices key : ∀ (H : Heap) (locs : List Loc), uw_M D vwCl (cX vl) q (tw_A (cX vl) u) s.heap u z H locs → W p l e ({ frames := 8, cells := 2, slots := 12, locals := 172 } : Room) s m args below meth c H locs 0 0 QQ (F0 m 0 ls []) from key s.heap [] hM
  intro H locs hM
  refine lv_aload_n hx hb dlL_normal_0 rfl (lv_at hl 3 rfl) ?_
  refine lv_iconst (v := 0) hx hb dlL_normal_1 (by decide) ?_
  refine lv_aload_n hx hb dlL_normal_2 rfl (lv_at hl 0 rfl) ?_
  refine lv_iload_n hx hb dlL_normal_3 rfl (lv_at hl 1 rfl) ?_
  refine lv_iload_n hx hb dlL_normal_4 rfl (lv_at hl 2 rfl) ?_
  obtain ⟨k2, v3, z1, hcq, hq⟩ := ct_tc1 hq
  refine ct_cali hU hM (vx_runV (As := [.int x1, .int x2]) (rest := [.int 0, .ref (u 52001)]) ⟨hx, hb, hml, hown, hts⟩ (kc_X11_normal l D q vl u hU.1 hlt sa K r0 x1 x2 hr0 z z1 k2 v3 hcq) (cwV 2 hts (tw_gV2 wLL_good wLL_T lq_91 lq_92 lq_93 (wLL_C _ xq_773) (wLL_C _ xq_967)) rfl rfl rfl cdd_X11_normal ⟨(Nat.le_of_ble_eq_true rfl), (Nat.le_of_ble_eq_true rfl)⟩) (ct_preV hK hTh hM (co_X11 hr0) rfl) rfl rfl hl.1 rfl (lv_room (Nat.le_of_ble_eq_true rfl)) dlL_normal_5 ⟨(Nat.le_of_ble_eq_true rfl), (Nat.le_of_ble_eq_true rfl)⟩) (fun E ce q9 H locs hk hE hM hce hcv hcl => ?_) (fun H locs hk hM => ?_)
  · have hq := tw_if hq hk
    by_cases hk1 : k2 = 1
    · have hq := tw_it hq hk1
      rw [hk1] at hE
      subst hE
      refine vx_catch (name := thN 1) hown [] ⟨0, 10, 13, 33⟩ [⟨0, 10, 17, 19⟩] htab (fun w hw => by cases hw) (by decide) (by decide) (hts _ (List.mem_cons_of_mem _ lq_0)) (va_Nw.use rfl (hTh _ (List.mem_of_getElem? (i := 3) rfl)).2.2.2.2.2.2) hce hcv hcl ?_
      refine lv_astore (lv' := [(4, .ref q9), (0, .ref (u r0)), (1, .int x1), (2, .int x2), (3, .ref (u 52001))]) hx hb dlL_normal_13 hl (by decide) rfl (fun ls hl => ?_)
      refine lv_iconst (v := 1) hx hb dlL_normal_15 (by decide) ?_
      exact ll_iret hx hb hr hlocks hM hq hQQ (Nat.le_of_ble_eq_true rfl) (Nat.le_of_ble_eq_true rfl) dlL_normal_16
    · have hq := tw_if hq hk1
      by_cases hk2 : k2 = 2
      · have hq := tw_it hq hk2
        rw [hk2] at hE
        subst hE
        refine vx_catch (name := thN 2) hown [⟨0, 10, 13, 33⟩] ⟨0, 10, 17, 19⟩ [] htab (fun w hw => by
          simp only [List.mem_cons, List.not_mem_nil, or_false] at hw
          rcases hw with rfl
          · exact Or.inr ⟨by decide, thN 1, hts _ (List.mem_cons_of_mem _ lq_0), hNc 2 1 (by decide) (by decide) (by decide)⟩) (by decide) (by decide) (hts _ (List.mem_cons_of_mem _ lq_1)) (va_Nw.use rfl (hTh _ (List.mem_of_getElem? (i := 1) rfl)).2.2.2.2.2.2) hce hcv hcl ?_
        refine lv_astore (lv' := [(4, .ref q9), (0, .ref (u r0)), (1, .int x1), (2, .int x2), (3, .ref (u 52001))]) hx hb dlL_normal_17 hl (by decide) rfl (fun ls hl => ?_)
        refine lv_iconst (v := 2) hx hb dlL_normal_19 (by decide) ?_
        exact ll_iret hx hb hr hlocks hM hq hQQ (Nat.le_of_ble_eq_true rfl) (Nat.le_of_ble_eq_true rfl) dlL_normal_20
      · have hq := tw_if hq hk2
        exact cw_no hq
  · have hq := tw_it hq hk
    refine lv_i2l hx hb dlL_normal_8 rfl ?_
    refine uw_last cX_ok hU hx hb hK hM cr_out hq dlL_normal_9 (fun z4 H locs hM hq => ?_)
    refine lv_goto (tgt := 21) hx hb dlL_normal_10 (by decide) ?_
    refine lv_iconst (v := 0) hx hb dlL_normal_21 (by decide) ?_
    exact ll_iret hx hb hr hlocks hM hq hQQ (Nat.le_of_ble_eq_true rfl) (Nat.le_of_ble_eq_true rfl) dlL_normal_22
theorem dlL_factor_0 : decode cL_factor 0 = .ok (.aload 4, 2) := by decide +kernel
theorem dlL_factor_2 : decode cL_factor 2 = .ok (.iconst 0, 1) := by decide +kernel
theorem dlL_factor_3 : decode cL_factor 3 = .ok (.aload_n 0, 1) := by decide +kernel
theorem dlL_factor_4 : decode cL_factor 4 = .ok (.iload_n 1, 1) := by decide +kernel
theorem dlL_factor_5 : decode cL_factor 5 = .ok (.iload_n 2, 1) := by decide +kernel
theorem dlL_factor_6 : decode cL_factor 6 = .ok (.iload_n 3, 1) := by decide +kernel
theorem dlL_factor_7 : decode cL_factor 7 = .ok (.invokevirtual 115, 3) := by decide +kernel
theorem dlL_factor_10 : decode cL_factor 10 = .ok (.i2l, 1) := by decide +kernel
theorem dlL_factor_11 : decode cL_factor 11 = .ok (.lastore, 1) := by decide +kernel
theorem dlL_factor_12 : decode cL_factor 12 = .ok (.goto 7, 3) := by decide +kernel
theorem dlL_factor_15 : decode cL_factor 15 = .ok (.astore 5, 2) := by decide +kernel
theorem dlL_factor_17 : decode cL_factor 17 = .ok (.iconst 1, 1) := by decide +kernel
theorem dlL_factor_18 : decode cL_factor 18 = .ok (.ireturn, 1) := by decide +kernel
theorem dlL_factor_19 : decode cL_factor 19 = .ok (.iconst 0, 1) := by decide +kernel
theorem dlL_factor_20 : decode cL_factor 20 = .ok (.ireturn, 1) := by decide +kernel
def le_L_factor (vl : Nat → Nat) (K : Nat) (r0 : Nat) (x1 : Int32) (x2 : Int32) (x3 : Int32) (z : ow_MS) : Option (Int32 × ow_MS) :=
 tc1 (ce_X11_factor vl K r0 x1 x2 x3 z) (fun k z => if k = 1 then some (1, z) else none) fun v3 z1 => ctJ (cX vl) z1 52001 0 v3.toInt64 fun z4 => some (0, z4)
abbrev wl_L_factor : List Cond := .codeWith yL_factor cL_factor 6 (some .int) [(0, 12, 15, 33)] :: wLL
set_option maxHeartbeats 4000000 in
set_option maxRecDepth 100000 in
theorem kl_L_factor (l : Launch) (D : va_G) (q : Nat → ClassId) (vl u : Nat → Nat) (hU0 : tw_inj (cX vl) u) (hlt : l.stackTraces = false) (sa : Nat → Nat) (K : Nat) (r0 : Nat) (x1 : Int32) (x2 : Int32) (x3 : Int32) (hr0 : cw_X11 r0) (z z1 : ow_MS) (r : Int32) (hq : le_L_factor vl K r0 x1 x2 x3 z = some (r, z1)) : vx_Met l yL_factor wl_L_factor ({ frames := 8, cells := 1, slots := 6, locals := 173 } : Room) (va_Pc [.ref (u r0), .int x1, .int x2, .int x3, .ref (u 52001)] (cw_preL D q vl u sa z)) (va_Qi (fun x (_ : Unit) => x = r) (fun _ t => va_P D vwCl (uw (cX vl) q u z1) t.heap) (tw_A (cX vl) u)) (vx_X (fun _ : Unit => False) (fun _ _ _ => True) (tw_A (cX vl) u)) 1 6 (tw_A (cX vl) u) := by
  refine vx_ofWH (cc := cL_factor) (maxL := 6) (ret := (some .int)) (hh := [(0, 12, 15, 33)]) (by decide) rfl ?_
  intro p e s m args below meth c s₁ B hml hv
  obtain ⟨rfl, hP, hK, hTh, hNc⟩ := hv
  have hx := B.exec
  have hb := B.bytes
  have hr := B.returns
  have hts := atoms_spec (ws := wl_L_factor) B.pre
  have htab := vx_table (x := yL_factor) B (hts _ List.mem_cons_self)
  have hT : ∀ w ∈ wC, w.before ([.ref (u r0), .int x1, .int x2, .int x3, .ref (u 52001)] : List Value).toArray s = true := fun w h => hts w (List.mem_cons_of_mem _ (wLL_C w h))
  have hown : s.vm.findClass RL = some m.cls := findClass_of_methodNamed B.named
  have hlocks := B.notSynchronized
  have hU : uw_inj (cX vl) u (tw_A (cX vl) u) := ⟨hU0, fun h hh => ⟨h, hh, rfl⟩⟩
  have hM : uw_M D vwCl (cX vl) q (tw_A (cX vl) u) s.heap u z s.heap [] := ⟨hP, va_S.rf⟩
  have hl := lv_entry ([.ref (u r0), .int x1, .int x2, .int x3, .ref (u 52001)]) (n := 6) (Nat.le_of_ble_eq_true rfl)
  rw [lg_entry_eq]
  generalize (lg_sl ([.ref (u r0), .int x1, .int x2, .int x3, .ref (u 52001)]) ++ List.replicate (6 - (lg_sl ([.ref (u r0), .int x1, .int x2, .int x3, .ref (u 52001)])).length) Slot.unset).toArray = ls at hl ⊢
  have hl : lv_has ls 6 [(0, .ref (u r0)), (1, .int x1), (2, .int x2), (3, .int x3), (4, .ref (u 52001))] := hl
  refine ow_named (fun QQ hQQ => ?_)
  generalize ([.ref (u r0), .int x1, .int x2, .int x3, .ref (u 52001)] : List Value).toArray = args at hts hT hQQ ⊢
  unfold le_L_factor at hq
  suffices key : ∀ (H : Heap) (locs : List Loc), uw_M D vwCl (cX vl) q (tw_A (cX vl) u) s.heap u z H locs → W p l e ({ frames := 8, cells := 1, slots := 6, locals := 173 } : Room) s m args below meth c H locs 0 0 QQ (F0 m 0 ls []) from key s.heap [] hM
  intro H locs hM
  refine lv_aload hx hb dlL_factor_0 (lv_at hl 4 rfl) ?_
  refine lv_iconst (v := 0) hx hb dlL_factor_2 (by decide) ?_
  refine lv_aload_n hx hb dlL_factor_3 rfl (lv_at hl 0 rfl) ?_
  refine lv_iload_n hx hb dlL_factor_4 rfl (lv_at hl 1 rfl) ?_
  refine lv_iload_n hx hb dlL_factor_5 rfl (lv_at hl 2 rfl) ?_
  refine lv_iload_n hx hb dlL_factor_6 rfl (lv_at hl 3 rfl) ?_
  obtain ⟨k2, v3, z1, hcq, hq⟩ := ct_tc1 hq
  refine ct_cali hU hM (vx_runV (As := [.int x1, .int x2, .int x3]) (rest := [.int 0, .ref (u 52001)]) ⟨hx, hb, hml, hown, hts⟩ (kc_X11_factor l D q vl u hU.1 hlt sa K r0 x1 x2 x3 hr0 z z1 k2 v3 hcq) (cwV 3 hts (tw_gV2 wLL_good wLL_T lq_94 lq_95 lq_96 (wLL_C _ xq_773) (wLL_C _ xq_970)) rfl rfl rfl cdd_X11_factor ⟨(Nat.le_of_ble_eq_true rfl), (Nat.le_of_ble_eq_true rfl)⟩) (ct_preV hK hTh hM (co_X11 hr0) rfl) rfl rfl hl.1 rfl (lv_room (Nat.le_of_ble_eq_true rfl)) dlL_factor_7 ⟨(Nat.le_of_ble_eq_true rfl), (Nat.le_of_ble_eq_true rfl)⟩) (fun E ce q9 H locs hk hE hM hce hcv hcl => ?_) (fun H locs hk hM => ?_)
  · have hq := tw_if hq hk
    by_cases hk1 : k2 = 1
    · have hq := tw_it hq hk1
      rw [hk1] at hE
      subst hE
      refine vx_catch (name := thN 1) hown [] ⟨0, 12, 15, 33⟩ [] htab (fun w hw => by cases hw) (by decide) (by decide) (hts _ (List.mem_cons_of_mem _ lq_0)) (va_Nw.use rfl (hTh _ (List.mem_of_getElem? (i := 3) rfl)).2.2.2.2.2.2) hce hcv hcl ?_
      refine lv_astore (lv' := [(5, .ref q9), (0, .ref (u r0)), (1, .int x1), (2, .int x2), (3, .int x3), (4, .ref (u 52001))]) hx hb dlL_factor_15 hl (by decide) rfl (fun ls hl => ?_)
      refine lv_iconst (v := 1) hx hb dlL_factor_17 (by decide) ?_
      exact ll_iret hx hb hr hlocks hM hq hQQ (Nat.le_of_ble_eq_true rfl) (Nat.le_of_ble_eq_true rfl) dlL_factor_18
    · have hq := tw_if hq hk1
      exact cw_no hq
  · have hq := tw_it hq hk
    refine lv_i2l hx hb dlL_factor_10 rfl ?_
    refine uw_last cX_ok hU hx hb hK hM cr_out hq dlL_factor_11 (fun z4 H locs hM hq => ?_)
    refine lv_goto (tgt := 19) hx hb dlL_factor_12 (by decide) ?_
    refine lv_iconst (v := 0) hx hb dlL_factor_19 (by decide) ?_
    exact ll_iret hx hb hr hlocks hM hq hQQ (Nat.le_of_ble_eq_true rfl) (Nat.le_of_ble_eq_true rfl) dlL_factor_20
theorem dlL_summit_0 : decode cL_summit 0 = .ok (.aload_n 2, 1) := by decide +kernel
theorem dlL_summit_1 : decode cL_summit 1 = .ok (.iconst 0, 1) := by decide +kernel
theorem dlL_summit_2 : decode cL_summit 2 = .ok (.aload_n 0, 1) := by decide +kernel
theorem dlL_summit_3 : decode cL_summit 3 = .ok (.iload_n 1, 1) := by decide +kernel
theorem dlL_summit_4 : decode cL_summit 4 = .ok (.invokevirtual 118, 3) := by decide +kernel
theorem dlL_summit_7 : decode cL_summit 7 = .ok (.i2l, 1) := by decide +kernel
theorem dlL_summit_8 : decode cL_summit 8 = .ok (.lastore, 1) := by decide +kernel
theorem dlL_summit_9 : decode cL_summit 9 = .ok (.goto 9, 3) := by decide +kernel
theorem dlL_summit_12 : decode cL_summit 12 = .ok (.astore_n 3, 1) := by decide +kernel
theorem dlL_summit_13 : decode cL_summit 13 = .ok (.iconst 1, 1) := by decide +kernel
theorem dlL_summit_14 : decode cL_summit 14 = .ok (.ireturn, 1) := by decide +kernel
theorem dlL_summit_15 : decode cL_summit 15 = .ok (.astore_n 3, 1) := by decide +kernel
theorem dlL_summit_16 : decode cL_summit 16 = .ok (.iconst 2, 1) := by decide +kernel
theorem dlL_summit_17 : decode cL_summit 17 = .ok (.ireturn, 1) := by decide +kernel
theorem dlL_summit_18 : decode cL_summit 18 = .ok (.iconst 0, 1) := by decide +kernel
theorem dlL_summit_19 : decode cL_summit 19 = .ok (.ireturn, 1) := by decide +kernel
def le_L_summit (vl : Nat → Nat) (K : Nat) (r0 : Nat) (x1 : Int32) (z : ow_MS) : Option (Int32 × ow_MS) :=
 tc1 (ce_X11_summit vl K r0 x1 z) (fun k z => if k = 1 then some (1, z) else if k = 4 then some (2, z) else none) fun v3 z1 => ctJ (cX vl) z1 52001 0 v3.toInt64 fun z4 => some (0, z4)
abbrev wl_L_summit : List Cond := .codeWith yL_summit cL_summit 4 (some .int) [(0, 9, 12, 33), (0, 9, 15, 54)] :: wLL
set_option maxHeartbeats 4000000 in
set_option maxRecDepth 100000 in
theorem kl_L_summit (l : Launch) (D : va_G) (q : Nat → ClassId) (vl u : Nat → Nat) (hU0 : tw_inj (cX vl) u) (hlt : l.stackTraces = false) (sa : Nat → Nat) (K : Nat) (r0 : Nat) (x1 : Int32) (hr0 : cw_X11 r0) (z z1 : ow_MS) (r : Int32) (hq : le_L_summit vl K r0 x1 z = some (r, z1)) : vx_Met l yL_summit wl_L_summit ({ frames := 8, cells := 2, slots := 12, locals := 194 } : Room) (va_Pc [.ref (u r0), .int x1, .ref (u 52001)] (cw_preL D q vl u sa z)) (va_Qi (fun x (_ : Unit) => x = r) (fun _ t => va_P D vwCl (uw (cX vl) q u z1) t.heap) (tw_A (cX vl) u)) (vx_X (fun _ : Unit => False) (fun _ _ _ => True) (tw_A (cX vl) u)) 2 12 (tw_A (cX vl) u) := by
  refine vx_ofWH (cc := cL_summit) (maxL := 4) (ret := (some .int)) (hh := [(0, 9, 12, 33), (0, 9, 15, 54)]) (by decide) rfl ?_
  intro p e s m args below meth c s₁ B hml hv
  obtain ⟨rfl, hP, hK, hTh, hNc⟩ := hv
  have hx := B.exec
  have hb := B.bytes
  have hr := B.returns
  have hts := atoms_spec (ws := wl_L_summit) B.pre
  have htab := vx_table (x := yL_summit) B (hts _ List.mem_cons_self)
  have hT : ∀ w ∈ wC, w.before ([.ref (u r0), .int x1, .ref (u 52001)] : List Value).toArray s = true := fun w h => hts w (List.mem_cons_of_mem _ (wLL_C w h))
  have hown : s.vm.findClass RL = some m.cls := findClass_of_methodNamed B.named
  have hlocks := B.notSynchronized
  have hU : uw_inj (cX vl) u (tw_A (cX vl) u) := ⟨hU0, fun h hh => ⟨h, hh, rfl⟩⟩
  have hM : uw_M D vwCl (cX vl) q (tw_A (cX vl) u) s.heap u z s.heap [] := ⟨hP, va_S.rf⟩
  have hl := lv_entry ([.ref (u r0), .int x1, .ref (u 52001)]) (n := 4) (Nat.le_of_ble_eq_true rfl)
  rw [lg_entry_eq]
  generalize (lg_sl ([.ref (u r0), .int x1, .ref (u 52001)]) ++ List.replicate (4 - (lg_sl ([.ref (u r0), .int x1, .ref (u 52001)])).length) Slot.unset).toArray = ls at hl ⊢
  have hl : lv_has ls 4 [(0, .ref (u r0)), (1, .int x1), (2, .ref (u 52001))] := hl
  refine ow_named (fun QQ hQQ => ?_)
  generalize ([.ref (u r0), .int x1, .ref (u 52001)] : List Value).toArray = args at hts hT hQQ ⊢
  unfold le_L_summit at hq
  suffices key : ∀ (H : Heap) (locs : List Loc), uw_M D vwCl (cX vl) q (tw_A (cX vl) u) s.heap u z H locs → W p l e ({ frames := 8, cells := 2, slots := 12, locals := 194 } : Room) s m args below meth c H locs 0 0 QQ (F0 m 0 ls []) from key s.heap [] hM
  intro H locs hM
  refine lv_aload_n hx hb dlL_summit_0 rfl (lv_at hl 2 rfl) ?_
  refine lv_iconst (v := 0) hx hb dlL_summit_1 (by decide) ?_
  refine lv_aload_n hx hb dlL_summit_2 rfl (lv_at hl 0 rfl) ?_
  refine lv_iload_n hx hb dlL_summit_3 rfl (lv_at hl 1 rfl) ?_
  obtain ⟨k2, v3, z1, hcq, hq⟩ := ct_tc1 hq
  refine ct_cali hU hM (vx_runV (As := [.int x1]) (rest := [.int 0, .ref (u 52001)]) ⟨hx, hb, hml, hown, hts⟩ (kc_X11_summit l D q vl u hU.1 hlt sa K r0 x1 hr0 z z1 k2 v3 hcq) (cwV 1 hts (tw_gV2 wLL_good wLL_T lq_97 lq_98 lq_99 (wLL_C _ xq_773) (wLL_C _ xq_984)) rfl rfl rfl cdd_X11_summit ⟨(Nat.le_of_ble_eq_true rfl), (Nat.le_of_ble_eq_true rfl)⟩) (ct_preV hK hTh hM (co_X11 hr0) rfl) rfl rfl hl.1 rfl (lv_room (Nat.le_of_ble_eq_true rfl)) dlL_summit_4 ⟨(Nat.le_of_ble_eq_true rfl), (Nat.le_of_ble_eq_true rfl)⟩) (fun E ce q9 H locs hk hE hM hce hcv hcl => ?_) (fun H locs hk hM => ?_)
  · have hq := tw_if hq hk
    by_cases hk1 : k2 = 1
    · have hq := tw_it hq hk1
      rw [hk1] at hE
      subst hE
      refine vx_catch (name := thN 1) hown [] ⟨0, 9, 12, 33⟩ [⟨0, 9, 15, 54⟩] htab (fun w hw => by cases hw) (by decide) (by decide) (hts _ (List.mem_cons_of_mem _ lq_0)) (va_Nw.use rfl (hTh _ (List.mem_of_getElem? (i := 3) rfl)).2.2.2.2.2.2) hce hcv hcl ?_
      refine lv_astore_n (lv' := [(3, .ref q9), (0, .ref (u r0)), (1, .int x1), (2, .ref (u 52001))]) hx hb dlL_summit_12 rfl hl (by decide) rfl (fun ls hl => ?_)
      refine lv_iconst (v := 1) hx hb dlL_summit_13 (by decide) ?_
      exact ll_iret hx hb hr hlocks hM hq hQQ (Nat.le_of_ble_eq_true rfl) (Nat.le_of_ble_eq_true rfl) dlL_summit_14
    · have hq := tw_if hq hk1
      by_cases hk4 : k2 = 4
      · have hq := tw_it hq hk4
        rw [hk4] at hE
        subst hE
        refine vx_catch (name := thN 4) hown [⟨0, 9, 12, 33⟩] ⟨0, 9, 15, 54⟩ [] htab (fun w hw => by
          simp only [List.mem_cons, List.not_mem_nil, or_false] at hw
          rcases hw with rfl
          · exact Or.inr ⟨by decide, thN 1, hts _ (List.mem_cons_of_mem _ lq_0), hNc 4 1 (by decide) (by decide) (by decide)⟩) (by decide) (by decide) (hts _ (List.mem_cons_of_mem _ lq_3)) (va_Nw.use rfl (hTh _ (List.mem_of_getElem? (i := 13) rfl)).2.2.2.2.2.2) hce hcv hcl ?_
        refine lv_astore_n (lv' := [(3, .ref q9), (0, .ref (u r0)), (1, .int x1), (2, .ref (u 52001))]) hx hb dlL_summit_15 rfl hl (by decide) rfl (fun ls hl => ?_)
        refine lv_iconst (v := 2) hx hb dlL_summit_16 (by decide) ?_
        exact ll_iret hx hb hr hlocks hM hq hQQ (Nat.le_of_ble_eq_true rfl) (Nat.le_of_ble_eq_true rfl) dlL_summit_17
      · have hq := tw_if hq hk4
        exact cw_no hq
  · have hq := tw_it hq hk
    refine lv_i2l hx hb dlL_summit_7 rfl ?_
    refine uw_last cX_ok hU hx hb hK hM cr_out hq dlL_summit_8 (fun z4 H locs hM hq => ?_)
    refine lv_goto (tgt := 18) hx hb dlL_summit_9 (by decide) ?_
    refine lv_iconst (v := 0) hx hb dlL_summit_18 (by decide) ?_
    exact ll_iret hx hb hr hlocks hM hq hQQ (Nat.le_of_ble_eq_true rfl) (Nat.le_of_ble_eq_true rfl) dlL_summit_19
theorem dlL_conjugate_0 : decode cL_conjugate 0 = .ok (.aload_n 3, 1) := by decide +kernel
theorem dlL_conjugate_1 : decode cL_conjugate 1 = .ok (.iconst 0, 1) := by decide +kernel
theorem dlL_conjugate_2 : decode cL_conjugate 2 = .ok (.aload_n 0, 1) := by decide +kernel
theorem dlL_conjugate_3 : decode cL_conjugate 3 = .ok (.iload_n 1, 1) := by decide +kernel
theorem dlL_conjugate_4 : decode cL_conjugate 4 = .ok (.iload_n 2, 1) := by decide +kernel
theorem dlL_conjugate_5 : decode cL_conjugate 5 = .ok (.invokevirtual 121, 3) := by decide +kernel
theorem dlL_conjugate_8 : decode cL_conjugate 8 = .ok (.i2l, 1) := by decide +kernel
theorem dlL_conjugate_9 : decode cL_conjugate 9 = .ok (.lastore, 1) := by decide +kernel
theorem dlL_conjugate_10 : decode cL_conjugate 10 = .ok (.goto 15, 3) := by decide +kernel
theorem dlL_conjugate_13 : decode cL_conjugate 13 = .ok (.astore 4, 2) := by decide +kernel
theorem dlL_conjugate_15 : decode cL_conjugate 15 = .ok (.iconst 1, 1) := by decide +kernel
theorem dlL_conjugate_16 : decode cL_conjugate 16 = .ok (.ireturn, 1) := by decide +kernel
theorem dlL_conjugate_17 : decode cL_conjugate 17 = .ok (.astore 4, 2) := by decide +kernel
theorem dlL_conjugate_19 : decode cL_conjugate 19 = .ok (.iconst 2, 1) := by decide +kernel
theorem dlL_conjugate_20 : decode cL_conjugate 20 = .ok (.ireturn, 1) := by decide +kernel
theorem dlL_conjugate_21 : decode cL_conjugate 21 = .ok (.astore 4, 2) := by decide +kernel
theorem dlL_conjugate_23 : decode cL_conjugate 23 = .ok (.iconst 3, 1) := by decide +kernel
theorem dlL_conjugate_24 : decode cL_conjugate 24 = .ok (.ireturn, 1) := by decide +kernel
theorem dlL_conjugate_25 : decode cL_conjugate 25 = .ok (.iconst 0, 1) := by decide +kernel
theorem dlL_conjugate_26 : decode cL_conjugate 26 = .ok (.ireturn, 1) := by decide +kernel
def le_L_conjugate (vl : Nat → Nat) (K : Nat) (r0 : Nat) (x1 : Int32) (x2 : Int32) (z : ow_MS) : Option (Int32 × ow_MS) :=
 tc1 (ce_X11_conjugate vl K r0 x1 x2 z) (fun k z => if k = 1 then some (1, z) else if k = 2 then some (2, z) else if k = 4 then some (3, z) else none) fun v3 z1 => ctJ (cX vl) z1 52001 0 v3.toInt64 fun z4 => some (0, z4)
abbrev wl_L_conjugate : List Cond := .codeWith yL_conjugate cL_conjugate 5 (some .int) [(0, 10, 13, 33), (0, 10, 17, 19), (0, 10, 21, 54)] :: wLL
set_option maxHeartbeats 4000000 in
set_option maxRecDepth 100000 in
theorem kl_L_conjugate (l : Launch) (D : va_G) (q : Nat → ClassId) (vl u : Nat → Nat) (hU0 : tw_inj (cX vl) u) (hlt : l.stackTraces = false) (sa : Nat → Nat) (K : Nat) (r0 : Nat) (x1 : Int32) (x2 : Int32) (hr0 : cw_X11 r0) (z z1 : ow_MS) (r : Int32) (hq : le_L_conjugate vl K r0 x1 x2 z = some (r, z1)) : vx_Met l yL_conjugate wl_L_conjugate ({ frames := 8, cells := 4, slots := 24, locals := 197 } : Room) (va_Pc [.ref (u r0), .int x1, .int x2, .ref (u 52001)] (cw_preL D q vl u sa z)) (va_Qi (fun x (_ : Unit) => x = r) (fun _ t => va_P D vwCl (uw (cX vl) q u z1) t.heap) (tw_A (cX vl) u)) (vx_X (fun _ : Unit => False) (fun _ _ _ => True) (tw_A (cX vl) u)) 4 24 (tw_A (cX vl) u) := by
  refine vx_ofWH (cc := cL_conjugate) (maxL := 5) (ret := (some .int)) (hh := [(0, 10, 13, 33), (0, 10, 17, 19), (0, 10, 21, 54)]) (by decide) rfl ?_
  intro p e s m args below meth c s₁ B hml hv
  obtain ⟨rfl, hP, hK, hTh, hNc⟩ := hv
  have hx := B.exec
  have hb := B.bytes
  have hr := B.returns
  have hts := atoms_spec (ws := wl_L_conjugate) B.pre
  have htab := vx_table (x := yL_conjugate) B (hts _ List.mem_cons_self)
  have hT : ∀ w ∈ wC, w.before ([.ref (u r0), .int x1, .int x2, .ref (u 52001)] : List Value).toArray s = true := fun w h => hts w (List.mem_cons_of_mem _ (wLL_C w h))
  have hown : s.vm.findClass RL = some m.cls := findClass_of_methodNamed B.named
  have hlocks := B.notSynchronized
  have hU : uw_inj (cX vl) u (tw_A (cX vl) u) := ⟨hU0, fun h hh => ⟨h, hh, rfl⟩⟩
  have hM : uw_M D vwCl (cX vl) q (tw_A (cX vl) u) s.heap u z s.heap [] := ⟨hP, va_S.rf⟩
  have hl := lv_entry ([.ref (u r0), .int x1, .int x2, .ref (u 52001)]) (n := 5) (Nat.le_of_ble_eq_true rfl)
  rw [lg_entry_eq]
  generalize (lg_sl ([.ref (u r0), .int x1, .int x2, .ref (u 52001)]) ++ List.replicate (5 - (lg_sl ([.ref (u r0), .int x1, .int x2, .ref (u 52001)])).length) Slot.unset).toArray = ls at hl ⊢
  have hl : lv_has ls 5 [(0, .ref (u r0)), (1, .int x1), (2, .int x2), (3, .ref (u 52001))] := hl
  refine ow_named (fun QQ hQQ => ?_)
  generalize ([.ref (u r0), .int x1, .int x2, .ref (u 52001)] : List Value).toArray = args at hts hT hQQ ⊢
  unfold le_L_conjugate at hq
  suffices key : ∀ (H : Heap) (locs : List Loc), uw_M D vwCl (cX vl) q (tw_A (cX vl) u) s.heap u z H locs → W p l e ({ frames := 8, cells := 4, slots := 24, locals := 197 } : Room) s m args below meth c H locs 0 0 QQ (F0 m 0 ls []) from key s.heap [] hM
  intro H locs hM
  refine lv_aload_n hx hb dlL_conjugate_0 rfl (lv_at hl 3 rfl) ?_
  refine lv_iconst (v := 0) hx hb dlL_conjugate_1 (by decide) ?_
  refine lv_aload_n hx hb dlL_conjugate_2 rfl (lv_at hl 0 rfl) ?_
  refine lv_iload_n hx hb dlL_conjugate_3 rfl (lv_at hl 1 rfl) ?_
  refine lv_iload_n hx hb dlL_conjugate_4 rfl (lv_at hl 2 rfl) ?_
  obtain ⟨k2, v3, z1, hcq, hq⟩ := ct_tc1 hq
  refine ct_cali hU hM (vx_runV (As := [.int x1, .int x2]) (rest := [.int 0, .ref (u 52001)]) ⟨hx, hb, hml, hown, hts⟩ (kc_X11_conjugate l D q vl u hU.1 hlt sa K r0 x1 x2 hr0 z z1 k2 v3 hcq) (cwV 2 hts (tw_gV2 wLL_good wLL_T lq_100 lq_101 lq_102 (wLL_C _ xq_773) (wLL_C _ xq_989)) rfl rfl rfl cdd_X11_conjugate ⟨(Nat.le_of_ble_eq_true rfl), (Nat.le_of_ble_eq_true rfl)⟩) (ct_preV hK hTh hM (co_X11 hr0) rfl) rfl rfl hl.1 rfl (lv_room (Nat.le_of_ble_eq_true rfl)) dlL_conjugate_5 ⟨(Nat.le_of_ble_eq_true rfl), (Nat.le_of_ble_eq_true rfl)⟩) (fun E ce q9 H locs hk hE hM hce hcv hcl => ?_) (fun H locs hk hM => ?_)
  · have hq := tw_if hq hk
    by_cases hk1 : k2 = 1
    · have hq := tw_it hq hk1
      rw [hk1] at hE
      subst hE
      refine vx_catch (name := thN 1) hown [] ⟨0, 10, 13, 33⟩ [⟨0, 10, 17, 19⟩, ⟨0, 10, 21, 54⟩] htab (fun w hw => by cases hw) (by decide) (by decide) (hts _ (List.mem_cons_of_mem _ lq_0)) (va_Nw.use rfl (hTh _ (List.mem_of_getElem? (i := 3) rfl)).2.2.2.2.2.2) hce hcv hcl ?_
      refine lv_astore (lv' := [(4, .ref q9), (0, .ref (u r0)), (1, .int x1), (2, .int x2), (3, .ref (u 52001))]) hx hb dlL_conjugate_13 hl (by decide) rfl (fun ls hl => ?_)
      refine lv_iconst (v := 1) hx hb dlL_conjugate_15 (by decide) ?_
      exact ll_iret hx hb hr hlocks hM hq hQQ (Nat.le_of_ble_eq_true rfl) (Nat.le_of_ble_eq_true rfl) dlL_conjugate_16
    · have hq := tw_if hq hk1
      by_cases hk2 : k2 = 2
      · have hq := tw_it hq hk2
        rw [hk2] at hE
        subst hE
        refine vx_catch (name := thN 2) hown [⟨0, 10, 13, 33⟩] ⟨0, 10, 17, 19⟩ [⟨0, 10, 21, 54⟩] htab (fun w hw => by
          simp only [List.mem_cons, List.not_mem_nil, or_false] at hw
          rcases hw with rfl
          · exact Or.inr ⟨by decide, thN 1, hts _ (List.mem_cons_of_mem _ lq_0), hNc 2 1 (by decide) (by decide) (by decide)⟩) (by decide) (by decide) (hts _ (List.mem_cons_of_mem _ lq_1)) (va_Nw.use rfl (hTh _ (List.mem_of_getElem? (i := 1) rfl)).2.2.2.2.2.2) hce hcv hcl ?_
        refine lv_astore (lv' := [(4, .ref q9), (0, .ref (u r0)), (1, .int x1), (2, .int x2), (3, .ref (u 52001))]) hx hb dlL_conjugate_17 hl (by decide) rfl (fun ls hl => ?_)
        refine lv_iconst (v := 2) hx hb dlL_conjugate_19 (by decide) ?_
        exact ll_iret hx hb hr hlocks hM hq hQQ (Nat.le_of_ble_eq_true rfl) (Nat.le_of_ble_eq_true rfl) dlL_conjugate_20
      · have hq := tw_if hq hk2
        by_cases hk4 : k2 = 4
        · have hq := tw_it hq hk4
          rw [hk4] at hE
          subst hE
          refine vx_catch (name := thN 4) hown [⟨0, 10, 13, 33⟩, ⟨0, 10, 17, 19⟩] ⟨0, 10, 21, 54⟩ [] htab (fun w hw => by
            simp only [List.mem_cons, List.not_mem_nil, or_false] at hw
            rcases hw with rfl | rfl
            · exact Or.inr ⟨by decide, thN 1, hts _ (List.mem_cons_of_mem _ lq_0), hNc 4 1 (by decide) (by decide) (by decide)⟩
            · exact Or.inr ⟨by decide, thN 2, hts _ (List.mem_cons_of_mem _ lq_1), hNc 4 2 (by decide) (by decide) (by decide)⟩) (by decide) (by decide) (hts _ (List.mem_cons_of_mem _ lq_3)) (va_Nw.use rfl (hTh _ (List.mem_of_getElem? (i := 13) rfl)).2.2.2.2.2.2) hce hcv hcl ?_
          refine lv_astore (lv' := [(4, .ref q9), (0, .ref (u r0)), (1, .int x1), (2, .int x2), (3, .ref (u 52001))]) hx hb dlL_conjugate_21 hl (by decide) rfl (fun ls hl => ?_)
          refine lv_iconst (v := 3) hx hb dlL_conjugate_23 (by decide) ?_
          exact ll_iret hx hb hr hlocks hM hq hQQ (Nat.le_of_ble_eq_true rfl) (Nat.le_of_ble_eq_true rfl) dlL_conjugate_24
        · have hq := tw_if hq hk4
          exact cw_no hq
  · have hq := tw_it hq hk
    refine lv_i2l hx hb dlL_conjugate_8 rfl ?_
    refine uw_last cX_ok hU hx hb hK hM cr_out hq dlL_conjugate_9 (fun z4 H locs hM hq => ?_)
    refine lv_goto (tgt := 25) hx hb dlL_conjugate_10 (by decide) ?_
    refine lv_iconst (v := 0) hx hb dlL_conjugate_25 (by decide) ?_
    exact ll_iret hx hb hr hlocks hM hq hQQ (Nat.le_of_ble_eq_true rfl) (Nat.le_of_ble_eq_true rfl) dlL_conjugate_26
theorem dlL_two_0 : decode cL_two 0 = .ok (.aload 4, 2) := by decide +kernel
theorem dlL_two_2 : decode cL_two 2 = .ok (.iconst 0, 1) := by decide +kernel
theorem dlL_two_3 : decode cL_two 3 = .ok (.aload_n 0, 1) := by decide +kernel
theorem dlL_two_4 : decode cL_two 4 = .ok (.iload_n 1, 1) := by decide +kernel
theorem dlL_two_5 : decode cL_two 5 = .ok (.iload_n 2, 1) := by decide +kernel
theorem dlL_two_6 : decode cL_two 6 = .ok (.iload_n 3, 1) := by decide +kernel
theorem dlL_two_7 : decode cL_two 7 = .ok (.invokevirtual 124, 3) := by decide +kernel
theorem dlL_two_10 : decode cL_two 10 = .ok (.i2l, 1) := by decide +kernel
theorem dlL_two_11 : decode cL_two 11 = .ok (.lastore, 1) := by decide +kernel
theorem dlL_two_12 : decode cL_two 12 = .ok (.goto 11, 3) := by decide +kernel
theorem dlL_two_15 : decode cL_two 15 = .ok (.astore 5, 2) := by decide +kernel
theorem dlL_two_17 : decode cL_two 17 = .ok (.iconst 1, 1) := by decide +kernel
theorem dlL_two_18 : decode cL_two 18 = .ok (.ireturn, 1) := by decide +kernel
theorem dlL_two_19 : decode cL_two 19 = .ok (.astore 5, 2) := by decide +kernel
theorem dlL_two_21 : decode cL_two 21 = .ok (.iconst 2, 1) := by decide +kernel
theorem dlL_two_22 : decode cL_two 22 = .ok (.ireturn, 1) := by decide +kernel
theorem dlL_two_23 : decode cL_two 23 = .ok (.iconst 0, 1) := by decide +kernel
theorem dlL_two_24 : decode cL_two 24 = .ok (.ireturn, 1) := by decide +kernel
def le_L_two (vl : Nat → Nat) (K : Nat) (r0 : Nat) (x1 : Int32) (x2 : Int32) (x3 : Int32) (z : ow_MS) : Option (Int32 × ow_MS) :=
 tc1 (ce_X11_two vl K r0 x1 x2 x3 z) (fun k z => if k = 1 then some (1, z) else if k = 4 then some (2, z) else none) fun v3 z1 => ctJ (cX vl) z1 52001 0 v3.toInt64 fun z4 => some (0, z4)
abbrev wl_L_two : List Cond := .codeWith yL_two cL_two 6 (some .int) [(0, 12, 15, 33), (0, 12, 19, 54)] :: wLL
set_option maxHeartbeats 4000000 in
set_option maxRecDepth 100000 in
theorem kl_L_two (l : Launch) (D : va_G) (q : Nat → ClassId) (vl u : Nat → Nat) (hU0 : tw_inj (cX vl) u) (hlt : l.stackTraces = false) (sa : Nat → Nat) (K : Nat) (r0 : Nat) (x1 : Int32) (x2 : Int32) (x3 : Int32) (hr0 : cw_X11 r0) (z z1 : ow_MS) (r : Int32) (hq : le_L_two vl K r0 x1 x2 x3 z = some (r, z1)) : vx_Met l yL_two wl_L_two ({ frames := 22, cells := 2, slots := 12, locals := 691 } : Room) (va_Pc [.ref (u r0), .int x1, .int x2, .int x3, .ref (u 52001)] (cw_preL D q vl u sa z)) (va_Qi (fun x (_ : Unit) => x = r) (fun _ t => va_P D vwCl (uw (cX vl) q u z1) t.heap) (tw_A (cX vl) u)) (vx_X (fun _ : Unit => False) (fun _ _ _ => True) (tw_A (cX vl) u)) 2 12 (tw_A (cX vl) u) := by
  refine vx_ofWH (cc := cL_two) (maxL := 6) (ret := (some .int)) (hh := [(0, 12, 15, 33), (0, 12, 19, 54)]) (by decide) rfl ?_
  intro p e s m args below meth c s₁ B hml hv
  obtain ⟨rfl, hP, hK, hTh, hNc⟩ := hv
  have hx := B.exec
  have hb := B.bytes
  have hr := B.returns
  have hts := atoms_spec (ws := wl_L_two) B.pre
  have htab := vx_table (x := yL_two) B (hts _ List.mem_cons_self)
  have hT : ∀ w ∈ wC, w.before ([.ref (u r0), .int x1, .int x2, .int x3, .ref (u 52001)] : List Value).toArray s = true := fun w h => hts w (List.mem_cons_of_mem _ (wLL_C w h))
  have hown : s.vm.findClass RL = some m.cls := findClass_of_methodNamed B.named
  have hlocks := B.notSynchronized
  have hU : uw_inj (cX vl) u (tw_A (cX vl) u) := ⟨hU0, fun h hh => ⟨h, hh, rfl⟩⟩
  have hM : uw_M D vwCl (cX vl) q (tw_A (cX vl) u) s.heap u z s.heap [] := ⟨hP, va_S.rf⟩
  have hl := lv_entry ([.ref (u r0), .int x1, .int x2, .int x3, .ref (u 52001)]) (n := 6) (Nat.le_of_ble_eq_true rfl)
  rw [lg_entry_eq]
  generalize (lg_sl ([.ref (u r0), .int x1, .int x2, .int x3, .ref (u 52001)]) ++ List.replicate (6 - (lg_sl ([.ref (u r0), .int x1, .int x2, .int x3, .ref (u 52001)])).length) Slot.unset).toArray = ls at hl ⊢
  have hl : lv_has ls 6 [(0, .ref (u r0)), (1, .int x1), (2, .int x2), (3, .int x3), (4, .ref (u 52001))] := hl
  refine ow_named (fun QQ hQQ => ?_)
  generalize ([.ref (u r0), .int x1, .int x2, .int x3, .ref (u 52001)] : List Value).toArray = args at hts hT hQQ ⊢
  unfold le_L_two at hq
  suffices key : ∀ (H : Heap) (locs : List Loc), uw_M D vwCl (cX vl) q (tw_A (cX vl) u) s.heap u z H locs → W p l e ({ frames := 22, cells := 2, slots := 12, locals := 691 } : Room) s m args below meth c H locs 0 0 QQ (F0 m 0 ls []) from key s.heap [] hM
  intro H locs hM
  refine lv_aload hx hb dlL_two_0 (lv_at hl 4 rfl) ?_
  refine lv_iconst (v := 0) hx hb dlL_two_2 (by decide) ?_
  refine lv_aload_n hx hb dlL_two_3 rfl (lv_at hl 0 rfl) ?_
  refine lv_iload_n hx hb dlL_two_4 rfl (lv_at hl 1 rfl) ?_
  refine lv_iload_n hx hb dlL_two_5 rfl (lv_at hl 2 rfl) ?_
  refine lv_iload_n hx hb dlL_two_6 rfl (lv_at hl 3 rfl) ?_
  obtain ⟨k2, v3, z1, hcq, hq⟩ := ct_tc1 hq
  refine ct_cali hU hM (vx_runV (As := [.int x1, .int x2, .int x3]) (rest := [.int 0, .ref (u 52001)]) ⟨hx, hb, hml, hown, hts⟩ (kc_X11_two l D q vl u hU.1 hlt sa K r0 x1 x2 x3 hr0 z z1 k2 v3 hcq) (cwV 3 hts (tw_gV2 wLL_good wLL_T lq_103 lq_104 lq_105 (wLL_C _ xq_773) (wLL_C _ xq_993)) rfl rfl rfl cdd_X11_two ⟨(Nat.le_of_ble_eq_true rfl), (Nat.le_of_ble_eq_true rfl)⟩) (ct_preV hK hTh hM (co_X11 hr0) rfl) rfl rfl hl.1 rfl (lv_room (Nat.le_of_ble_eq_true rfl)) dlL_two_7 ⟨(Nat.le_of_ble_eq_true rfl), (Nat.le_of_ble_eq_true rfl)⟩) (fun E ce q9 H locs hk hE hM hce hcv hcl => ?_) (fun H locs hk hM => ?_)
  · have hq := tw_if hq hk
    by_cases hk1 : k2 = 1
    · have hq := tw_it hq hk1
      rw [hk1] at hE
      subst hE
      refine vx_catch (name := thN 1) hown [] ⟨0, 12, 15, 33⟩ [⟨0, 12, 19, 54⟩] htab (fun w hw => by cases hw) (by decide) (by decide) (hts _ (List.mem_cons_of_mem _ lq_0)) (va_Nw.use rfl (hTh _ (List.mem_of_getElem? (i := 3) rfl)).2.2.2.2.2.2) hce hcv hcl ?_
      refine lv_astore (lv' := [(5, .ref q9), (0, .ref (u r0)), (1, .int x1), (2, .int x2), (3, .int x3), (4, .ref (u 52001))]) hx hb dlL_two_15 hl (by decide) rfl (fun ls hl => ?_)
      refine lv_iconst (v := 1) hx hb dlL_two_17 (by decide) ?_
      exact ll_iret hx hb hr hlocks hM hq hQQ (Nat.le_of_ble_eq_true rfl) (Nat.le_of_ble_eq_true rfl) dlL_two_18
    · have hq := tw_if hq hk1
      by_cases hk4 : k2 = 4
      · have hq := tw_it hq hk4
        rw [hk4] at hE
        subst hE
        refine vx_catch (name := thN 4) hown [⟨0, 12, 15, 33⟩] ⟨0, 12, 19, 54⟩ [] htab (fun w hw => by
          simp only [List.mem_cons, List.not_mem_nil, or_false] at hw
          rcases hw with rfl
          · exact Or.inr ⟨by decide, thN 1, hts _ (List.mem_cons_of_mem _ lq_0), hNc 4 1 (by decide) (by decide) (by decide)⟩) (by decide) (by decide) (hts _ (List.mem_cons_of_mem _ lq_3)) (va_Nw.use rfl (hTh _ (List.mem_of_getElem? (i := 13) rfl)).2.2.2.2.2.2) hce hcv hcl ?_
        refine lv_astore (lv' := [(5, .ref q9), (0, .ref (u r0)), (1, .int x1), (2, .int x2), (3, .int x3), (4, .ref (u 52001))]) hx hb dlL_two_19 hl (by decide) rfl (fun ls hl => ?_)
        refine lv_iconst (v := 2) hx hb dlL_two_21 (by decide) ?_
        exact ll_iret hx hb hr hlocks hM hq hQQ (Nat.le_of_ble_eq_true rfl) (Nat.le_of_ble_eq_true rfl) dlL_two_22
      · have hq := tw_if hq hk4
        exact cw_no hq
  · have hq := tw_it hq hk
    refine lv_i2l hx hb dlL_two_10 rfl ?_
    refine uw_last cX_ok hU hx hb hK hM cr_out hq dlL_two_11 (fun z4 H locs hM hq => ?_)
    refine lv_goto (tgt := 23) hx hb dlL_two_12 (by decide) ?_
    refine lv_iconst (v := 0) hx hb dlL_two_23 (by decide) ?_
    exact ll_iret hx hb hr hlocks hM hq hQQ (Nat.le_of_ble_eq_true rfl) (Nat.le_of_ble_eq_true rfl) dlL_two_24
