theorem dcX11_hasDiagram_0 : decode cX11_hasDiagram 0 = .ok (.iload_n 1, 1) := by decide +kernel
theorem dcX11_hasDiagram_1 : decode cX11_hasDiagram 1 = .ok (.ifCond .lt 25, 3) := by decide +kernel
theorem dcX11_hasDiagram_4 : decode cX11_hasDiagram 4 = .ok (.iload_n 1, 1) := by decide +kernel
theorem dcX11_hasDiagram_5 : decode cX11_hasDiagram 5 = .ok (.bipush 40, 2) := by decide +kernel
theorem dcX11_hasDiagram_7 : decode cX11_hasDiagram 7 = .ok (.if_icmp .ge 19, 3) := by decide +kernel
theorem dcX11_hasDiagram_10 : decode cX11_hasDiagram 10 = .ok (.aload_n 0, 1) := by decide +kernel
theorem dcX11_hasDiagram_11 : decode cX11_hasDiagram 11 = .ok (.getfield 14, 3) := by decide +kernel
theorem dcX11_hasDiagram_14 : decode cX11_hasDiagram 14 = .ok (.getfield 158, 3) := by decide +kernel
theorem dcX11_hasDiagram_17 : decode cX11_hasDiagram 17 = .ok (.iload_n 1, 1) := by decide +kernel
theorem dcX11_hasDiagram_18 : decode cX11_hasDiagram 18 = .ok (.baload, 1) := by decide +kernel
theorem dcX11_hasDiagram_19 : decode cX11_hasDiagram 19 = .ok (.ifCond .le 7, 3) := by decide +kernel
theorem dcX11_hasDiagram_22 : decode cX11_hasDiagram 22 = .ok (.iconst 1, 1) := by decide +kernel
theorem dcX11_hasDiagram_23 : decode cX11_hasDiagram 23 = .ok (.goto 4, 3) := by decide +kernel
theorem dcX11_hasDiagram_26 : decode cX11_hasDiagram 26 = .ok (.iconst 0, 1) := by decide +kernel
theorem dcX11_hasDiagram_27 : decode cX11_hasDiagram 27 = .ok (.ireturn, 1) := by decide +kernel
def cm_X11_hasDiagram_0 (vl : Nat → Nat) (K : Nat) (x1 : Int32) (r0 : Nat) (z : ow_MS) : Option (Int32 × ow_MS) :=
 (if x1 < 0 then okZ 0 (some (0, z))
 else (if 40 ≤ x1 then okZ 0 (some (0, z))
 else crI (cX vl) z ((r0 + 1000) + 2) x1 fun v1 => (if v1 ≤ 0 then okZ 0 (some (0, z))
 else okZ 1 (some (1, z)))))
def ce_X11_hasDiagram (vl : Nat → Nat) (K : Nat) (r0 : Nat) (x1 : Int32) (z : ow_MS) : Option (Int32 × ow_MS) := cm_X11_hasDiagram_0 vl K x1 r0 z
abbrev wc_X11_hasDiagram : List Cond := .code yX11_hasDiagram cX11_hasDiagram 2 (some .boolean) :: wC
theorem cdd_X11_hasDiagram : yX11_hasDiagram.cls = RX11 ∧ yX11_hasDiagram.cls ≠ "java/lang/invoke/MethodHandle" ∧ yX11_hasDiagram.cls ≠ "java/lang/invoke/VarHandle" ∧ (parseMethodDescriptor yX11_hasDiagram.desc).map (fun d => d.parameters.length) = some 1 := by decide +kernel
set_option maxHeartbeats 4000000 in
set_option maxRecDepth 100000 in
theorem kc_X11_hasDiagram (l : Launch) (D : va_G) (q : Nat → ClassId) (vl u : Nat → Nat) (hU0 : tw_inj (cX vl) u) (K : Nat) (r0 : Nat) (x1 : Int32) (hr0 : cw_X11 r0) (z z1 : ow_MS) (r : Int32) (hq : ce_X11_hasDiagram vl K r0 x1 z = some (r, z1)) : Met l yX11_hasDiagram wc_X11_hasDiagram ({ frames := 0, cells := 0, slots := 0, locals := 0 } : Room) (va_Pc [.ref (u r0), .int x1] (cw_pre D q vl u z)) (va_Qi (fun x (_ : Unit) => x = r) (fun _ t => va_P D vwCl (uw (cX vl) q u z1) t.heap) (tw_A (cX vl) u)) 0 0 (tw_A (cX vl) u) := by
  refine Met.ofW (cc := cX11_hasDiagram) (maxL := 2) (ret := (some .boolean)) (by decide) rfl ?_
  intro p e s m args below meth c s₁ B hml hv
  obtain ⟨rfl, hP, hK⟩ := hv
  have hx := B.exec
  have hb := B.bytes
  have hr := B.returns
  have hts := atoms_spec (ws := wc_X11_hasDiagram) B.pre
  have hT : ∀ w ∈ wC, w.before ([.ref (u r0), .int x1] : List Value).toArray s = true := fun w h => hts w (List.mem_cons_of_mem _ h)
  have hown : s.vm.findClass RX11 = some m.cls := findClass_of_methodNamed B.named
  have hlocks := B.notSynchronized
  have hU : uw_inj (cX vl) u (tw_A (cX vl) u) := ⟨hU0, fun h hh => ⟨h, hh, rfl⟩⟩
  have hM : uw_M D vwCl (cX vl) q (tw_A (cX vl) u) s.heap u z s.heap [] := ⟨hP, va_S.rf⟩
  have hl := lv_entry ([.ref (u r0), .int x1]) (n := 2) (Nat.le_of_ble_eq_true rfl)
  rw [lg_entry_eq]
  generalize (lg_sl ([.ref (u r0), .int x1]) ++ List.replicate (2 - (lg_sl ([.ref (u r0), .int x1])).length) Slot.unset).toArray = ls at hl ⊢
  have hl : lv_has ls 2 [(0, .ref (u r0)), (1, .int x1)] := hl
  refine ow_named (fun QQ hQQ => ?_)
  generalize ([.ref (u r0), .int x1] : List Value).toArray = args at hts hT hQQ ⊢
  have hq : cm_X11_hasDiagram_0 vl K x1 r0 z = some (r, z1) := hq
  unfold cm_X11_hasDiagram_0 at hq
  suffices key : ∀ (H : Heap) (locs : List Loc), uw_M D vwCl (cX vl) q (tw_A (cX vl) u) s.heap u z H locs → W p l e ({ frames := 0, cells := 0, slots := 0, locals := 0 } : Room) s m args below meth c H locs 0 0 QQ (F0 m 0 ls []) from key s.heap [] hM
  intro H locs hM
  refine lv_iload_n hx hb dcX11_hasDiagram_0 rfl (lv_at hl 1 rfl) ?_
  refine lv_if_lt (tgt := 26) hx hb dcX11_hasDiagram_1 (by decide) (fun hc => ?_) (fun hc => ?_)
  · have hq := tw_it hq hc
    refine lv_iconst (v := 0) hx hb dcX11_hasDiagram_26 (by decide) ?_
    obtain ⟨hz, hq⟩ := tw_gZ hq
    exact cw_zret hx hb hr hlocks hM hz hq hQQ dcX11_hasDiagram_27
  · have hq := tw_if hq hc
    refine lv_iload_n hx hb dcX11_hasDiagram_4 rfl (lv_at hl 1 rfl) ?_
    refine lv_bipush (v := 40) hx hb dcX11_hasDiagram_5 (by decide) ?_
    refine lv_icmp_ge (tgt := 26) hx hb dcX11_hasDiagram_7 (by decide) (fun hc => ?_) (fun hc => ?_)
    · have hq := tw_it hq hc
      refine lv_iconst (v := 0) hx hb dcX11_hasDiagram_26 (by decide) ?_
      obtain ⟨hz, hq⟩ := tw_gZ hq
      exact cw_zret hx hb hr hlocks hM hz hq hQQ dcX11_hasDiagram_27
    · have hq := tw_if hq hc
      refine lv_aload_n hx hb dcX11_hasDiagram_10 rfl (lv_at hl 0 rfl) ?_
      refine vgX11_14 hx hb hT hown hK hM hr0 dcX11_hasDiagram_11 ?_
      refine vgX11_158 hx hb hT hown hK hM (cs_X11_0 hr0) dcX11_hasDiagram_14 ?_
      refine lv_iload_n hx hb dcX11_hasDiagram_17 rfl (lv_at hl 1 rfl) ?_
      refine uw_bald cX_ok hx hb hK hM (cr_X3_1 (cs_X11_0 hr0)) hq dcX11_hasDiagram_18 (fun v1 hq => ?_)
      refine lv_if_le (tgt := 26) hx hb dcX11_hasDiagram_19 (by decide) (fun hc => ?_) (fun hc => ?_)
      · have hq := tw_it hq hc
        refine lv_iconst (v := 0) hx hb dcX11_hasDiagram_26 (by decide) ?_
        obtain ⟨hz, hq⟩ := tw_gZ hq
        exact cw_zret hx hb hr hlocks hM hz hq hQQ dcX11_hasDiagram_27
      · have hq := tw_if hq hc
        refine lv_iconst (v := 1) hx hb dcX11_hasDiagram_22 (by decide) ?_
        refine lv_goto (tgt := 27) hx hb dcX11_hasDiagram_23 (by decide) ?_
        obtain ⟨hz, hq⟩ := tw_gZ hq
        exact cw_zret hx hb hr hlocks hM hz hq hQQ dcX11_hasDiagram_27
theorem dcX11_hasBraid_0 : decode cX11_hasBraid 0 = .ok (.iload_n 1, 1) := by decide +kernel
theorem dcX11_hasBraid_1 : decode cX11_hasBraid 1 = .ok (.ifCond .lt 22, 3) := by decide +kernel
theorem dcX11_hasBraid_4 : decode cX11_hasBraid 4 = .ok (.iload_n 1, 1) := by decide +kernel
theorem dcX11_hasBraid_5 : decode cX11_hasBraid 5 = .ok (.bipush 20, 2) := by decide +kernel
theorem dcX11_hasBraid_7 : decode cX11_hasBraid 7 = .ok (.if_icmp .ge 16, 3) := by decide +kernel
theorem dcX11_hasBraid_10 : decode cX11_hasBraid 10 = .ok (.aload_n 0, 1) := by decide +kernel
theorem dcX11_hasBraid_11 : decode cX11_hasBraid 11 = .ok (.getfield 91, 3) := by decide +kernel
theorem dcX11_hasBraid_14 : decode cX11_hasBraid 14 = .ok (.iload_n 1, 1) := by decide +kernel
theorem dcX11_hasBraid_15 : decode cX11_hasBraid 15 = .ok (.iaload, 1) := by decide +kernel
theorem dcX11_hasBraid_16 : decode cX11_hasBraid 16 = .ok (.ifCond .le 7, 3) := by decide +kernel
theorem dcX11_hasBraid_19 : decode cX11_hasBraid 19 = .ok (.iconst 1, 1) := by decide +kernel
theorem dcX11_hasBraid_20 : decode cX11_hasBraid 20 = .ok (.goto 4, 3) := by decide +kernel
theorem dcX11_hasBraid_23 : decode cX11_hasBraid 23 = .ok (.iconst 0, 1) := by decide +kernel
theorem dcX11_hasBraid_24 : decode cX11_hasBraid 24 = .ok (.ireturn, 1) := by decide +kernel
def cm_X11_hasBraid_0 (vl : Nat → Nat) (K : Nat) (x1 : Int32) (r0 : Nat) (z : ow_MS) : Option (Int32 × ow_MS) :=
 (if x1 < 0 then okZ 0 (some (0, z))
 else (if 20 ≤ x1 then okZ 0 (some (0, z))
 else crI (cX vl) z (r0 + 15) x1 fun v1 => (if v1 ≤ 0 then okZ 0 (some (0, z))
 else okZ 1 (some (1, z)))))
def ce_X11_hasBraid (vl : Nat → Nat) (K : Nat) (r0 : Nat) (x1 : Int32) (z : ow_MS) : Option (Int32 × ow_MS) := cm_X11_hasBraid_0 vl K x1 r0 z
abbrev wc_X11_hasBraid : List Cond := .code yX11_hasBraid cX11_hasBraid 2 (some .boolean) :: wC
theorem cdd_X11_hasBraid : yX11_hasBraid.cls = RX11 ∧ yX11_hasBraid.cls ≠ "java/lang/invoke/MethodHandle" ∧ yX11_hasBraid.cls ≠ "java/lang/invoke/VarHandle" ∧ (parseMethodDescriptor yX11_hasBraid.desc).map (fun d => d.parameters.length) = some 1 := by decide +kernel
set_option maxHeartbeats 4000000 in
set_option maxRecDepth 100000 in
theorem kc_X11_hasBraid (l : Launch) (D : va_G) (q : Nat → ClassId) (vl u : Nat → Nat) (hU0 : tw_inj (cX vl) u) (K : Nat) (r0 : Nat) (x1 : Int32) (hr0 : cw_X11 r0) (z z1 : ow_MS) (r : Int32) (hq : ce_X11_hasBraid vl K r0 x1 z = some (r, z1)) : Met l yX11_hasBraid wc_X11_hasBraid ({ frames := 0, cells := 0, slots := 0, locals := 0 } : Room) (va_Pc [.ref (u r0), .int x1] (cw_pre D q vl u z)) (va_Qi (fun x (_ : Unit) => x = r) (fun _ t => va_P D vwCl (uw (cX vl) q u z1) t.heap) (tw_A (cX vl) u)) 0 0 (tw_A (cX vl) u) := by
  refine Met.ofW (cc := cX11_hasBraid) (maxL := 2) (ret := (some .boolean)) (by decide) rfl ?_
  intro p e s m args below meth c s₁ B hml hv
  obtain ⟨rfl, hP, hK⟩ := hv
  have hx := B.exec
  have hb := B.bytes
  have hr := B.returns
  have hts := atoms_spec (ws := wc_X11_hasBraid) B.pre
  have hT : ∀ w ∈ wC, w.before ([.ref (u r0), .int x1] : List Value).toArray s = true := fun w h => hts w (List.mem_cons_of_mem _ h)
  have hown : s.vm.findClass RX11 = some m.cls := findClass_of_methodNamed B.named
  have hlocks := B.notSynchronized
  have hU : uw_inj (cX vl) u (tw_A (cX vl) u) := ⟨hU0, fun h hh => ⟨h, hh, rfl⟩⟩
  have hM : uw_M D vwCl (cX vl) q (tw_A (cX vl) u) s.heap u z s.heap [] := ⟨hP, va_S.rf⟩
  have hl := lv_entry ([.ref (u r0), .int x1]) (n := 2) (Nat.le_of_ble_eq_true rfl)
  rw [lg_entry_eq]
  generalize (lg_sl ([.ref (u r0), .int x1]) ++ List.replicate (2 - (lg_sl ([.ref (u r0), .int x1])).length) Slot.unset).toArray = ls at hl ⊢
  have hl : lv_has ls 2 [(0, .ref (u r0)), (1, .int x1)] := hl
  refine ow_named (fun QQ hQQ => ?_)
  generalize ([.ref (u r0), .int x1] : List Value).toArray = args at hts hT hQQ ⊢
  have hq : cm_X11_hasBraid_0 vl K x1 r0 z = some (r, z1) := hq
  unfold cm_X11_hasBraid_0 at hq
  suffices key : ∀ (H : Heap) (locs : List Loc), uw_M D vwCl (cX vl) q (tw_A (cX vl) u) s.heap u z H locs → W p l e ({ frames := 0, cells := 0, slots := 0, locals := 0 } : Room) s m args below meth c H locs 0 0 QQ (F0 m 0 ls []) from key s.heap [] hM
  intro H locs hM
  refine lv_iload_n hx hb dcX11_hasBraid_0 rfl (lv_at hl 1 rfl) ?_
  refine lv_if_lt (tgt := 23) hx hb dcX11_hasBraid_1 (by decide) (fun hc => ?_) (fun hc => ?_)
  · have hq := tw_it hq hc
    refine lv_iconst (v := 0) hx hb dcX11_hasBraid_23 (by decide) ?_
    obtain ⟨hz, hq⟩ := tw_gZ hq
    exact cw_zret hx hb hr hlocks hM hz hq hQQ dcX11_hasBraid_24
  · have hq := tw_if hq hc
    refine lv_iload_n hx hb dcX11_hasBraid_4 rfl (lv_at hl 1 rfl) ?_
    refine lv_bipush (v := 20) hx hb dcX11_hasBraid_5 (by decide) ?_
    refine lv_icmp_ge (tgt := 23) hx hb dcX11_hasBraid_7 (by decide) (fun hc => ?_) (fun hc => ?_)
    · have hq := tw_it hq hc
      refine lv_iconst (v := 0) hx hb dcX11_hasBraid_23 (by decide) ?_
      obtain ⟨hz, hq⟩ := tw_gZ hq
      exact cw_zret hx hb hr hlocks hM hz hq hQQ dcX11_hasBraid_24
    · have hq := tw_if hq hc
      refine lv_aload_n hx hb dcX11_hasBraid_10 rfl (lv_at hl 0 rfl) ?_
      refine vgX11_91 hx hb hT hown hK hM hr0 dcX11_hasBraid_11 ?_
      refine lv_iload_n hx hb dcX11_hasBraid_14 rfl (lv_at hl 1 rfl) ?_
      refine uw_iald cX_ok hx hb hK hM (cr_X11_14 hr0) hq dcX11_hasBraid_15 (fun v1 hq => ?_)
      refine lv_if_le (tgt := 23) hx hb dcX11_hasBraid_16 (by decide) (fun hc => ?_) (fun hc => ?_)
      · have hq := tw_it hq hc
        refine lv_iconst (v := 0) hx hb dcX11_hasBraid_23 (by decide) ?_
        obtain ⟨hz, hq⟩ := tw_gZ hq
        exact cw_zret hx hb hr hlocks hM hz hq hQQ dcX11_hasBraid_24
      · have hq := tw_if hq hc
        refine lv_iconst (v := 1) hx hb dcX11_hasBraid_19 (by decide) ?_
        refine lv_goto (tgt := 24) hx hb dcX11_hasBraid_20 (by decide) ?_
        obtain ⟨hz, hq⟩ := tw_gZ hq
        exact cw_zret hx hb hr hlocks hM hz hq hQQ dcX11_hasBraid_24
theorem dcX11_drop_0 : decode cX11_drop 0 = .ok (.aload_n 0, 1) := by decide +kernel
theorem dcX11_drop_1 : decode cX11_drop 1 = .ok (.iload_n 1, 1) := by decide +kernel
theorem dcX11_drop_2 : decode cX11_drop 2 = .ok (.invokevirtual 160, 3) := by decide +kernel
theorem dcX11_drop_5 : decode cX11_drop 5 = .ok (.ifCond .ne 5, 3) := by decide +kernel
theorem dcX11_drop_8 : decode cX11_drop 8 = .ok (.iconst 0, 1) := by decide +kernel
theorem dcX11_drop_9 : decode cX11_drop 9 = .ok (.ireturn, 1) := by decide +kernel
theorem dcX11_drop_10 : decode cX11_drop 10 = .ok (.aload_n 0, 1) := by decide +kernel
theorem dcX11_drop_11 : decode cX11_drop 11 = .ok (.getfield 14, 3) := by decide +kernel
theorem dcX11_drop_14 : decode cX11_drop 14 = .ok (.getfield 158, 3) := by decide +kernel
theorem dcX11_drop_17 : decode cX11_drop 17 = .ok (.iload_n 1, 1) := by decide +kernel
theorem dcX11_drop_18 : decode cX11_drop 18 = .ok (.iconst 0, 1) := by decide +kernel
theorem dcX11_drop_19 : decode cX11_drop 19 = .ok (.bastore, 1) := by decide +kernel
theorem dcX11_drop_20 : decode cX11_drop 20 = .ok (.iconst 1, 1) := by decide +kernel
theorem dcX11_drop_21 : decode cX11_drop 21 = .ok (.ireturn, 1) := by decide +kernel
def cm_X11_drop_0 (vl : Nat → Nat) (K : Nat) (x1 : Int32) (r0 : Nat) (z : ow_MS) : Option (Int32 × ow_MS) :=
 cs1 (ce_X11_hasDiagram vl K r0 x1 z) fun v2 z1 => (if v2 = 0 then okZ 0 (some (0, z1))
 else ctB (cX vl) z1 ((r0 + 1000) + 2) x1 0 fun z3 => okZ 1 (some (1, z3)))
def ce_X11_drop (vl : Nat → Nat) (K : Nat) (r0 : Nat) (x1 : Int32) (z : ow_MS) : Option (Int32 × ow_MS) := cm_X11_drop_0 vl K x1 r0 z
abbrev wc_X11_drop : List Cond := .code yX11_drop cX11_drop 2 (some .boolean) :: wC
theorem cdd_X11_drop : yX11_drop.cls = RX11 ∧ yX11_drop.cls ≠ "java/lang/invoke/MethodHandle" ∧ yX11_drop.cls ≠ "java/lang/invoke/VarHandle" ∧ (parseMethodDescriptor yX11_drop.desc).map (fun d => d.parameters.length) = some 1 := by decide +kernel
set_option maxHeartbeats 4000000 in
set_option maxRecDepth 100000 in
theorem kc_X11_drop (l : Launch) (D : va_G) (q : Nat → ClassId) (vl u : Nat → Nat) (hU0 : tw_inj (cX vl) u) (K : Nat) (r0 : Nat) (x1 : Int32) (hr0 : cw_X11 r0) (z z1 : ow_MS) (r : Int32) (hq : ce_X11_drop vl K r0 x1 z = some (r, z1)) : Met l yX11_drop wc_X11_drop ({ frames := 1, cells := 0, slots := 0, locals := 21 } : Room) (va_Pc [.ref (u r0), .int x1] (cw_pre D q vl u z)) (va_Qi (fun x (_ : Unit) => x = r) (fun _ t => va_P D vwCl (uw (cX vl) q u z1) t.heap) (tw_A (cX vl) u)) 0 0 (tw_A (cX vl) u) := by
  refine Met.ofW (cc := cX11_drop) (maxL := 2) (ret := (some .boolean)) (by decide) rfl ?_
  intro p e s m args below meth c s₁ B hml hv
  obtain ⟨rfl, hP, hK⟩ := hv
  have hx := B.exec
  have hb := B.bytes
  have hr := B.returns
  have hts := atoms_spec (ws := wc_X11_drop) B.pre
  have hT : ∀ w ∈ wC, w.before ([.ref (u r0), .int x1] : List Value).toArray s = true := fun w h => hts w (List.mem_cons_of_mem _ h)
  have hown : s.vm.findClass RX11 = some m.cls := findClass_of_methodNamed B.named
  have hlocks := B.notSynchronized
  have hU : uw_inj (cX vl) u (tw_A (cX vl) u) := ⟨hU0, fun h hh => ⟨h, hh, rfl⟩⟩
  have hM : uw_M D vwCl (cX vl) q (tw_A (cX vl) u) s.heap u z s.heap [] := ⟨hP, va_S.rf⟩
  have hl := lv_entry ([.ref (u r0), .int x1]) (n := 2) (Nat.le_of_ble_eq_true rfl)
  rw [lg_entry_eq]
  generalize (lg_sl ([.ref (u r0), .int x1]) ++ List.replicate (2 - (lg_sl ([.ref (u r0), .int x1])).length) Slot.unset).toArray = ls at hl ⊢
  have hl : lv_has ls 2 [(0, .ref (u r0)), (1, .int x1)] := hl
  refine ow_named (fun QQ hQQ => ?_)
  generalize ([.ref (u r0), .int x1] : List Value).toArray = args at hts hT hQQ ⊢
  have hq : cm_X11_drop_0 vl K x1 r0 z = some (r, z1) := hq
  unfold cm_X11_drop_0 at hq
  suffices key : ∀ (H : Heap) (locs : List Loc), uw_M D vwCl (cX vl) q (tw_A (cX vl) u) s.heap u z H locs → W p l e ({ frames := 1, cells := 0, slots := 0, locals := 21 } : Room) s m args below meth c H locs 0 0 QQ (F0 m 0 ls []) from key s.heap [] hM
  intro H locs hM
  refine lv_aload_n hx hb dcX11_drop_0 rfl (lv_at hl 0 rfl) ?_
  refine lv_iload_n hx hb dcX11_drop_1 rfl (lv_at hl 1 rfl) ?_
  obtain ⟨v2, z1, hcq, hq⟩ := tw_cl1 hq
  refine uw_cali hU hM (va_runV (As := [.int x1]) (rest := []) ⟨hx, hb, hml, hown, hts⟩ (kc_X11_hasDiagram l D q vl u hU.1 K r0 x1 hr0 z z1 v2 hcq) (cwV 1 hts (tw_gV wC_good xq_804 xq_805 xq_806 xq_773 xq_801) rfl rfl rfl cdd_X11_hasDiagram ⟨(Nat.le_of_ble_eq_true rfl), (Nat.le_of_ble_eq_true rfl)⟩) (cw_preV hK hM (co_X11 hr0) rfl) rfl rfl hl.1 rfl (lv_room (Nat.le_of_ble_eq_true rfl)) dcX11_drop_2 ⟨(Nat.le_of_ble_eq_true rfl), (Nat.le_of_ble_eq_true rfl)⟩) (fun H locs hM => ?_)
  refine lv_if_ne (tgt := 10) hx hb dcX11_drop_5 (by decide) (fun hc => ?_) (fun hc => ?_)
  · have hq := tw_if hq hc
    refine lv_aload_n hx hb dcX11_drop_10 rfl (lv_at hl 0 rfl) ?_
    refine vgX11_14 hx hb hT hown hK hM hr0 dcX11_drop_11 ?_
    refine vgX11_158 hx hb hT hown hK hM (cs_X11_0 hr0) dcX11_drop_14 ?_
    refine lv_iload_n hx hb dcX11_drop_17 rfl (lv_at hl 1 rfl) ?_
    refine lv_iconst (v := 0) hx hb dcX11_drop_18 (by decide) ?_
    refine uw_bast cX_ok hU hx hb hK hM (cr_X3_1 (cs_X11_0 hr0)) hq dcX11_drop_19 (fun z3 H locs hM hq => ?_)
    refine lv_iconst (v := 1) hx hb dcX11_drop_20 (by decide) ?_
    obtain ⟨hz, hq⟩ := tw_gZ hq
    exact cw_zret hx hb hr hlocks hM hz hq hQQ dcX11_drop_21
  · have hq := tw_it hq hc
    refine lv_iconst (v := 0) hx hb dcX11_drop_8 (by decide) ?_
    obtain ⟨hz, hq⟩ := tw_gZ hq
    exact cw_zret hx hb hr hlocks hM hz hq hQQ dcX11_drop_9
theorem dcX11_dropBraid_0 : decode cX11_dropBraid 0 = .ok (.aload_n 0, 1) := by decide +kernel
theorem dcX11_dropBraid_1 : decode cX11_dropBraid 1 = .ok (.iload_n 1, 1) := by decide +kernel
theorem dcX11_dropBraid_2 : decode cX11_dropBraid 2 = .ok (.invokevirtual 169, 3) := by decide +kernel
theorem dcX11_dropBraid_5 : decode cX11_dropBraid 5 = .ok (.ifCond .ne 5, 3) := by decide +kernel
theorem dcX11_dropBraid_8 : decode cX11_dropBraid 8 = .ok (.iconst 0, 1) := by decide +kernel
theorem dcX11_dropBraid_9 : decode cX11_dropBraid 9 = .ok (.ireturn, 1) := by decide +kernel
theorem dcX11_dropBraid_10 : decode cX11_dropBraid 10 = .ok (.aload_n 0, 1) := by decide +kernel
theorem dcX11_dropBraid_11 : decode cX11_dropBraid 11 = .ok (.getfield 91, 3) := by decide +kernel
theorem dcX11_dropBraid_14 : decode cX11_dropBraid 14 = .ok (.iload_n 1, 1) := by decide +kernel
theorem dcX11_dropBraid_15 : decode cX11_dropBraid 15 = .ok (.iconst 0, 1) := by decide +kernel
theorem dcX11_dropBraid_16 : decode cX11_dropBraid 16 = .ok (.iastore, 1) := by decide +kernel
theorem dcX11_dropBraid_17 : decode cX11_dropBraid 17 = .ok (.iconst 1, 1) := by decide +kernel
theorem dcX11_dropBraid_18 : decode cX11_dropBraid 18 = .ok (.ireturn, 1) := by decide +kernel
def cm_X11_dropBraid_0 (vl : Nat → Nat) (K : Nat) (x1 : Int32) (r0 : Nat) (z : ow_MS) : Option (Int32 × ow_MS) :=
 cs1 (ce_X11_hasBraid vl K r0 x1 z) fun v2 z1 => (if v2 = 0 then okZ 0 (some (0, z1))
 else ctI (cX vl) z1 (r0 + 15) x1 0 fun z3 => okZ 1 (some (1, z3)))
def ce_X11_dropBraid (vl : Nat → Nat) (K : Nat) (r0 : Nat) (x1 : Int32) (z : ow_MS) : Option (Int32 × ow_MS) := cm_X11_dropBraid_0 vl K x1 r0 z
abbrev wc_X11_dropBraid : List Cond := .code yX11_dropBraid cX11_dropBraid 2 (some .boolean) :: wC
theorem cdd_X11_dropBraid : yX11_dropBraid.cls = RX11 ∧ yX11_dropBraid.cls ≠ "java/lang/invoke/MethodHandle" ∧ yX11_dropBraid.cls ≠ "java/lang/invoke/VarHandle" ∧ (parseMethodDescriptor yX11_dropBraid.desc).map (fun d => d.parameters.length) = some 1 := by decide +kernel
set_option maxHeartbeats 4000000 in
set_option maxRecDepth 100000 in
theorem kc_X11_dropBraid (l : Launch) (D : va_G) (q : Nat → ClassId) (vl u : Nat → Nat) (hU0 : tw_inj (cX vl) u) (K : Nat) (r0 : Nat) (x1 : Int32) (hr0 : cw_X11 r0) (z z1 : ow_MS) (r : Int32) (hq : ce_X11_dropBraid vl K r0 x1 z = some (r, z1)) : Met l yX11_dropBraid wc_X11_dropBraid ({ frames := 1, cells := 0, slots := 0, locals := 21 } : Room) (va_Pc [.ref (u r0), .int x1] (cw_pre D q vl u z)) (va_Qi (fun x (_ : Unit) => x = r) (fun _ t => va_P D vwCl (uw (cX vl) q u z1) t.heap) (tw_A (cX vl) u)) 0 0 (tw_A (cX vl) u) := by
  refine Met.ofW (cc := cX11_dropBraid) (maxL := 2) (ret := (some .boolean)) (by decide) rfl ?_
  intro p e s m args below meth c s₁ B hml hv
  obtain ⟨rfl, hP, hK⟩ := hv
  have hx := B.exec
  have hb := B.bytes
  have hr := B.returns
  have hts := atoms_spec (ws := wc_X11_dropBraid) B.pre
  have hT : ∀ w ∈ wC, w.before ([.ref (u r0), .int x1] : List Value).toArray s = true := fun w h => hts w (List.mem_cons_of_mem _ h)
  have hown : s.vm.findClass RX11 = some m.cls := findClass_of_methodNamed B.named
  have hlocks := B.notSynchronized
  have hU : uw_inj (cX vl) u (tw_A (cX vl) u) := ⟨hU0, fun h hh => ⟨h, hh, rfl⟩⟩
  have hM : uw_M D vwCl (cX vl) q (tw_A (cX vl) u) s.heap u z s.heap [] := ⟨hP, va_S.rf⟩
  have hl := lv_entry ([.ref (u r0), .int x1]) (n := 2) (Nat.le_of_ble_eq_true rfl)
  rw [lg_entry_eq]
  generalize (lg_sl ([.ref (u r0), .int x1]) ++ List.replicate (2 - (lg_sl ([.ref (u r0), .int x1])).length) Slot.unset).toArray = ls at hl ⊢
  have hl : lv_has ls 2 [(0, .ref (u r0)), (1, .int x1)] := hl
  refine ow_named (fun QQ hQQ => ?_)
  generalize ([.ref (u r0), .int x1] : List Value).toArray = args at hts hT hQQ ⊢
  have hq : cm_X11_dropBraid_0 vl K x1 r0 z = some (r, z1) := hq
  unfold cm_X11_dropBraid_0 at hq
  suffices key : ∀ (H : Heap) (locs : List Loc), uw_M D vwCl (cX vl) q (tw_A (cX vl) u) s.heap u z H locs → W p l e ({ frames := 1, cells := 0, slots := 0, locals := 21 } : Room) s m args below meth c H locs 0 0 QQ (F0 m 0 ls []) from key s.heap [] hM
  intro H locs hM
  refine lv_aload_n hx hb dcX11_dropBraid_0 rfl (lv_at hl 0 rfl) ?_
  refine lv_iload_n hx hb dcX11_dropBraid_1 rfl (lv_at hl 1 rfl) ?_
  obtain ⟨v2, z1, hcq, hq⟩ := tw_cl1 hq
  refine uw_cali hU hM (va_runV (As := [.int x1]) (rest := []) ⟨hx, hb, hml, hown, hts⟩ (kc_X11_hasBraid l D q vl u hU.1 K r0 x1 hr0 z z1 v2 hcq) (cwV 1 hts (tw_gV wC_good xq_808 xq_809 xq_810 xq_773 xq_802) rfl rfl rfl cdd_X11_hasBraid ⟨(Nat.le_of_ble_eq_true rfl), (Nat.le_of_ble_eq_true rfl)⟩) (cw_preV hK hM (co_X11 hr0) rfl) rfl rfl hl.1 rfl (lv_room (Nat.le_of_ble_eq_true rfl)) dcX11_dropBraid_2 ⟨(Nat.le_of_ble_eq_true rfl), (Nat.le_of_ble_eq_true rfl)⟩) (fun H locs hM => ?_)
  refine lv_if_ne (tgt := 10) hx hb dcX11_dropBraid_5 (by decide) (fun hc => ?_) (fun hc => ?_)
  · have hq := tw_if hq hc
    refine lv_aload_n hx hb dcX11_dropBraid_10 rfl (lv_at hl 0 rfl) ?_
    refine vgX11_91 hx hb hT hown hK hM hr0 dcX11_dropBraid_11 ?_
    refine lv_iload_n hx hb dcX11_dropBraid_14 rfl (lv_at hl 1 rfl) ?_
    refine lv_iconst (v := 0) hx hb dcX11_dropBraid_15 (by decide) ?_
    refine uw_iast cX_ok hU hx hb hK hM (cr_X11_14 hr0) hq dcX11_dropBraid_16 (fun z3 H locs hM hq => ?_)
    refine lv_iconst (v := 1) hx hb dcX11_dropBraid_17 (by decide) ?_
    obtain ⟨hz, hq⟩ := tw_gZ hq
    exact cw_zret hx hb hr hlocks hM hz hq hQQ dcX11_dropBraid_18
  · have hq := tw_it hq hc
    refine lv_iconst (v := 0) hx hb dcX11_dropBraid_8 (by decide) ?_
    obtain ⟨hz, hq⟩ := tw_gZ hq
    exact cw_zret hx hb hr hlocks hM hz hq hQQ dcX11_dropBraid_9
theorem dcX11_alike_0 : decode cX11_alike 0 = .ok (.aload_n 0, 1) := by decide +kernel
theorem dcX11_alike_1 : decode cX11_alike 1 = .ok (.iload_n 1, 1) := by decide +kernel
theorem dcX11_alike_2 : decode cX11_alike 2 = .ok (.invokevirtual 160, 3) := by decide +kernel
theorem dcX11_alike_5 : decode cX11_alike 5 = .ok (.ifCond .eq 31, 3) := by decide +kernel
theorem dcX11_alike_8 : decode cX11_alike 8 = .ok (.aload_n 0, 1) := by decide +kernel
theorem dcX11_alike_9 : decode cX11_alike 9 = .ok (.iload_n 2, 1) := by decide +kernel
theorem dcX11_alike_10 : decode cX11_alike 10 = .ok (.invokevirtual 160, 3) := by decide +kernel
theorem dcX11_alike_13 : decode cX11_alike 13 = .ok (.ifCond .eq 23, 3) := by decide +kernel
theorem dcX11_alike_16 : decode cX11_alike 16 = .ok (.aload_n 0, 1) := by decide +kernel
theorem dcX11_alike_17 : decode cX11_alike 17 = .ok (.getfield 14, 3) := by decide +kernel
theorem dcX11_alike_20 : decode cX11_alike 20 = .ok (.iload_n 1, 1) := by decide +kernel
theorem dcX11_alike_21 : decode cX11_alike 21 = .ok (.aload_n 0, 1) := by decide +kernel
theorem dcX11_alike_22 : decode cX11_alike 22 = .ok (.getfield 14, 3) := by decide +kernel
theorem dcX11_alike_25 : decode cX11_alike 25 = .ok (.iload_n 2, 1) := by decide +kernel
theorem dcX11_alike_26 : decode cX11_alike 26 = .ok (.invokevirtual 244, 3) := by decide +kernel
theorem dcX11_alike_29 : decode cX11_alike 29 = .ok (.ifCond .ne 7, 3) := by decide +kernel
theorem dcX11_alike_32 : decode cX11_alike 32 = .ok (.iconst 1, 1) := by decide +kernel
theorem dcX11_alike_33 : decode cX11_alike 33 = .ok (.goto 4, 3) := by decide +kernel
theorem dcX11_alike_36 : decode cX11_alike 36 = .ok (.iconst 0, 1) := by decide +kernel
theorem dcX11_alike_37 : decode cX11_alike 37 = .ok (.ireturn, 1) := by decide +kernel
def cm_X11_alike_0 (vl : Nat → Nat) (K : Nat) (x1 : Int32) (x2 : Int32) (r0 : Nat) (z : ow_MS) : Option (Int32 × ow_MS) :=
 cs1 (ce_X11_hasDiagram vl K r0 x1 z) fun v2 z1 => (if v2 = 0 then okZ 0 (some (0, z1))
 else cs1 (ce_X11_hasDiagram vl K r0 x2 z1) fun v4 z3 => (if v4 = 0 then okZ 0 (some (0, z3))
 else cs1 (ce_X3_compare vl K (r0 + 1000) x1 (r0 + 1000) x2 z3) fun v6 z5 => (if v6 = 0 then okZ 1 (some (1, z5))
 else okZ 0 (some (0, z5)))))
def ce_X11_alike (vl : Nat → Nat) (K : Nat) (r0 : Nat) (x1 : Int32) (x2 : Int32) (z : ow_MS) : Option (Int32 × ow_MS) := cm_X11_alike_0 vl K x1 x2 r0 z
abbrev wc_X11_alike : List Cond := .code yX11_alike cX11_alike 3 (some .boolean) :: wC
theorem cdd_X11_alike : yX11_alike.cls = RX11 ∧ yX11_alike.cls ≠ "java/lang/invoke/MethodHandle" ∧ yX11_alike.cls ≠ "java/lang/invoke/VarHandle" ∧ (parseMethodDescriptor yX11_alike.desc).map (fun d => d.parameters.length) = some 2 := by decide +kernel
set_option maxHeartbeats 4000000 in
set_option maxRecDepth 100000 in
theorem kc_X11_alike (l : Launch) (D : va_G) (q : Nat → ClassId) (vl u : Nat → Nat) (hU0 : tw_inj (cX vl) u) (K : Nat) (r0 : Nat) (x1 : Int32) (x2 : Int32) (hr0 : cw_X11 r0) (z z1 : ow_MS) (r : Int32) (hq : ce_X11_alike vl K r0 x1 x2 z = some (r, z1)) : Met l yX11_alike wc_X11_alike ({ frames := 2, cells := 0, slots := 0, locals := 57 } : Room) (va_Pc [.ref (u r0), .int x1, .int x2] (cw_pre D q vl u z)) (va_Qi (fun x (_ : Unit) => x = r) (fun _ t => va_P D vwCl (uw (cX vl) q u z1) t.heap) (tw_A (cX vl) u)) 0 0 (tw_A (cX vl) u) := by
  refine Met.ofW (cc := cX11_alike) (maxL := 3) (ret := (some .boolean)) (by decide) rfl ?_
  intro p e s m args below meth c s₁ B hml hv
  obtain ⟨rfl, hP, hK⟩ := hv
  have hx := B.exec
  have hb := B.bytes
  have hr := B.returns
  have hts := atoms_spec (ws := wc_X11_alike) B.pre
  have hT : ∀ w ∈ wC, w.before ([.ref (u r0), .int x1, .int x2] : List Value).toArray s = true := fun w h => hts w (List.mem_cons_of_mem _ h)
  have hown : s.vm.findClass RX11 = some m.cls := findClass_of_methodNamed B.named
  have hlocks := B.notSynchronized
  have hU : uw_inj (cX vl) u (tw_A (cX vl) u) := ⟨hU0, fun h hh => ⟨h, hh, rfl⟩⟩
  have hM : uw_M D vwCl (cX vl) q (tw_A (cX vl) u) s.heap u z s.heap [] := ⟨hP, va_S.rf⟩
  have hl := lv_entry ([.ref (u r0), .int x1, .int x2]) (n := 3) (Nat.le_of_ble_eq_true rfl)
  rw [lg_entry_eq]
  generalize (lg_sl ([.ref (u r0), .int x1, .int x2]) ++ List.replicate (3 - (lg_sl ([.ref (u r0), .int x1, .int x2])).length) Slot.unset).toArray = ls at hl ⊢
  have hl : lv_has ls 3 [(0, .ref (u r0)), (1, .int x1), (2, .int x2)] := hl
  refine ow_named (fun QQ hQQ => ?_)
  generalize ([.ref (u r0), .int x1, .int x2] : List Value).toArray = args at hts hT hQQ ⊢
  have hq : cm_X11_alike_0 vl K x1 x2 r0 z = some (r, z1) := hq
  unfold cm_X11_alike_0 at hq
  suffices key : ∀ (H : Heap) (locs : List Loc), uw_M D vwCl (cX vl) q (tw_A (cX vl) u) s.heap u z H locs → W p l e ({ frames := 2, cells := 0, slots := 0, locals := 57 } : Room) s m args below meth c H locs 0 0 QQ (F0 m 0 ls []) from key s.heap [] hM
  intro H locs hM
  refine lv_aload_n hx hb dcX11_alike_0 rfl (lv_at hl 0 rfl) ?_
  refine lv_iload_n hx hb dcX11_alike_1 rfl (lv_at hl 1 rfl) ?_
  obtain ⟨v2, z1, hcq, hq⟩ := tw_cl1 hq
  refine uw_cali hU hM (va_runV (As := [.int x1]) (rest := []) ⟨hx, hb, hml, hown, hts⟩ (kc_X11_hasDiagram l D q vl u hU.1 K r0 x1 hr0 z z1 v2 hcq) (cwV 1 hts (tw_gV wC_good xq_804 xq_805 xq_806 xq_773 xq_801) rfl rfl rfl cdd_X11_hasDiagram ⟨(Nat.le_of_ble_eq_true rfl), (Nat.le_of_ble_eq_true rfl)⟩) (cw_preV hK hM (co_X11 hr0) rfl) rfl rfl hl.1 rfl (lv_room (Nat.le_of_ble_eq_true rfl)) dcX11_alike_2 ⟨(Nat.le_of_ble_eq_true rfl), (Nat.le_of_ble_eq_true rfl)⟩) (fun H locs hM => ?_)
  refine lv_if_eq (tgt := 36) hx hb dcX11_alike_5 (by decide) (fun hc => ?_) (fun hc => ?_)
  · have hq := tw_it hq hc
    refine lv_iconst (v := 0) hx hb dcX11_alike_36 (by decide) ?_
    obtain ⟨hz, hq⟩ := tw_gZ hq
    exact cw_zret hx hb hr hlocks hM hz hq hQQ dcX11_alike_37
  · have hq := tw_if hq hc
    refine lv_aload_n hx hb dcX11_alike_8 rfl (lv_at hl 0 rfl) ?_
    refine lv_iload_n hx hb dcX11_alike_9 rfl (lv_at hl 2 rfl) ?_
    obtain ⟨v4, z3, hcq, hq⟩ := tw_cl1 hq
    refine uw_cali hU hM (va_runV (As := [.int x2]) (rest := []) ⟨hx, hb, hml, hown, hts⟩ (kc_X11_hasDiagram l D q vl u hU.1 K r0 x2 hr0 z1 z3 v4 hcq) (cwV 1 hts (tw_gV wC_good xq_804 xq_805 xq_806 xq_773 xq_801) rfl rfl rfl cdd_X11_hasDiagram ⟨(Nat.le_of_ble_eq_true rfl), (Nat.le_of_ble_eq_true rfl)⟩) (cw_preV hK hM (co_X11 hr0) rfl) rfl rfl hl.1 rfl (lv_room (Nat.le_of_ble_eq_true rfl)) dcX11_alike_10 ⟨(Nat.le_of_ble_eq_true rfl), (Nat.le_of_ble_eq_true rfl)⟩) (fun H locs hM => ?_)
    refine lv_if_eq (tgt := 36) hx hb dcX11_alike_13 (by decide) (fun hc => ?_) (fun hc => ?_)
    · have hq := tw_it hq hc
      refine lv_iconst (v := 0) hx hb dcX11_alike_36 (by decide) ?_
      obtain ⟨hz, hq⟩ := tw_gZ hq
      exact cw_zret hx hb hr hlocks hM hz hq hQQ dcX11_alike_37
    · have hq := tw_if hq hc
      refine lv_aload_n hx hb dcX11_alike_16 rfl (lv_at hl 0 rfl) ?_
      refine vgX11_14 hx hb hT hown hK hM hr0 dcX11_alike_17 ?_
      refine lv_iload_n hx hb dcX11_alike_20 rfl (lv_at hl 1 rfl) ?_
      refine lv_aload_n hx hb dcX11_alike_21 rfl (lv_at hl 0 rfl) ?_
      refine vgX11_14 hx hb hT hown hK hM hr0 dcX11_alike_22 ?_
      refine lv_iload_n hx hb dcX11_alike_25 rfl (lv_at hl 2 rfl) ?_
      obtain ⟨v6, z5, hcq, hq⟩ := tw_cl1 hq
      refine uw_cali hU hM (va_runV (As := [.int x1, .ref (u (r0 + 1000)), .int x2]) (rest := []) ⟨hx, hb, hml, hown, hts⟩ (kc_X3_compare l D q vl u hU.1 K (r0 + 1000) x1 (r0 + 1000) x2 (cs_X11_0 hr0) (cs_X11_0 hr0) z3 z5 v6 hcq) (cwV 3 hts (tw_gV wC_good xq_839 xq_318 xq_319 xq_313 xq_320) rfl rfl rfl cdd_X3_compare ⟨(Nat.le_of_ble_eq_true rfl), (Nat.le_of_ble_eq_true rfl)⟩) (cw_preV hK hM (co_X3 (cs_X11_0 hr0)) rfl) rfl rfl hl.1 rfl (lv_room (Nat.le_of_ble_eq_true rfl)) dcX11_alike_26 ⟨(Nat.le_of_ble_eq_true rfl), (Nat.le_of_ble_eq_true rfl)⟩) (fun H locs hM => ?_)
      refine lv_if_ne (tgt := 36) hx hb dcX11_alike_29 (by decide) (fun hc => ?_) (fun hc => ?_)
      · have hq := tw_if hq hc
        refine lv_iconst (v := 0) hx hb dcX11_alike_36 (by decide) ?_
        obtain ⟨hz, hq⟩ := tw_gZ hq
        exact cw_zret hx hb hr hlocks hM hz hq hQQ dcX11_alike_37
      · have hq := tw_it hq hc
        refine lv_iconst (v := 1) hx hb dcX11_alike_32 (by decide) ?_
        refine lv_goto (tgt := 37) hx hb dcX11_alike_33 (by decide) ?_
        obtain ⟨hz, hq⟩ := tw_gZ hq
        exact cw_zret hx hb hr hlocks hM hz hq hQQ dcX11_alike_37
theorem dcX11_isPrime_0 : decode cX11_isPrime 0 = .ok (.iconst 2, 1) := by decide +kernel
theorem dcX11_isPrime_1 : decode cX11_isPrime 1 = .ok (.istore_n 1, 1) := by decide +kernel
theorem dcX11_isPrime_2 : decode cX11_isPrime 2 = .ok (.iload_n 1, 1) := by decide +kernel
theorem dcX11_isPrime_3 : decode cX11_isPrime 3 = .ok (.iload_n 1, 1) := by decide +kernel
theorem dcX11_isPrime_4 : decode cX11_isPrime 4 = .ok (.imul, 1) := by decide +kernel
theorem dcX11_isPrime_5 : decode cX11_isPrime 5 = .ok (.iload_n 0, 1) := by decide +kernel
theorem dcX11_isPrime_6 : decode cX11_isPrime 6 = .ok (.if_icmp .gt 17, 3) := by decide +kernel
theorem dcX11_isPrime_9 : decode cX11_isPrime 9 = .ok (.iload_n 0, 1) := by decide +kernel
theorem dcX11_isPrime_10 : decode cX11_isPrime 10 = .ok (.iload_n 1, 1) := by decide +kernel
theorem dcX11_isPrime_11 : decode cX11_isPrime 11 = .ok (.irem, 1) := by decide +kernel
theorem dcX11_isPrime_12 : decode cX11_isPrime 12 = .ok (.ifCond .ne 5, 3) := by decide +kernel
theorem dcX11_isPrime_15 : decode cX11_isPrime 15 = .ok (.iconst 0, 1) := by decide +kernel
theorem dcX11_isPrime_16 : decode cX11_isPrime 16 = .ok (.ireturn, 1) := by decide +kernel
theorem dcX11_isPrime_17 : decode cX11_isPrime 17 = .ok (.iinc 1 1, 3) := by decide +kernel
theorem dcX11_isPrime_20 : decode cX11_isPrime 20 = .ok (.goto (-18), 3) := by decide +kernel
theorem dcX11_isPrime_23 : decode cX11_isPrime 23 = .ok (.iconst 1, 1) := by decide +kernel
theorem dcX11_isPrime_24 : decode cX11_isPrime 24 = .ok (.ireturn, 1) := by decide +kernel
def cm_X11_isPrime_0 (vl : Nat → Nat) (K : Nat) (go : Nat → Int32 → Int32 → ow_MS → Option (Int32 × ow_MS)) (x0 : Int32) (x1 : Int32) (z : ow_MS) : Option (Int32 × ow_MS) :=
 go 1 x0 2 z
def cm_X11_isPrime_1 (vl : Nat → Nat) (K : Nat) (go : Nat → Int32 → Int32 → ow_MS → Option (Int32 × ow_MS)) (x0 : Int32) (x1 : Int32) (z : ow_MS) : Option (Int32 × ow_MS) :=
 (if x0 < (x1 * x1) then okZ 1 (some (1, z))
 else nzI x1 ((if (x0 - x0 / x1 * x1) = 0 then okZ 0 (some (0, z))
 else go 1 x0 (x1 + 1) z)))
def cb_X11_isPrime (vl : Nat → Nat) (K : Nat) (go : Nat → Int32 → Int32 → ow_MS → Option (Int32 × ow_MS)) (L : Nat) (x0 : Int32) (x1 : Int32) (z : ow_MS) : Option (Int32 × ow_MS) := match L with
  | 0 => cm_X11_isPrime_0 vl K go x0 x1 z
  | 1 => cm_X11_isPrime_1 vl K go x0 x1 z
  | _ => none
def c_X11_isPrime (vl : Nat → Nat) (K : Nat) : Nat → Nat → Int32 → Int32 → ow_MS → Option (Int32 × ow_MS)
  | 0 => fun _ _ _ _ => none
  | k + 1 => cb_X11_isPrime vl K (c_X11_isPrime vl K k)
def ce_X11_isPrime (vl : Nat → Nat) (K : Nat) (x0 : Int32) (z : ow_MS) : Option (Int32 × ow_MS) := c_X11_isPrime vl K K 0 x0 0 z
abbrev wc_X11_isPrime : List Cond := .code yX11_isPrime cX11_isPrime 2 (some .boolean) :: wC
theorem cdd_X11_isPrime : yX11_isPrime.cls ≠ "java/lang/invoke/MethodHandle" ∧ yX11_isPrime.cls ≠ "java/lang/invoke/VarHandle" ∧ (parseMethodDescriptor yX11_isPrime.desc).map (fun d => d.parameters.length) = some 1 := by decide +kernel
set_option maxHeartbeats 4000000 in
set_option maxRecDepth 100000 in
theorem kc_X11_isPrime (l : Launch) (D : va_G) (q : Nat → ClassId) (vl u : Nat → Nat) (hU0 : tw_inj (cX vl) u) (K : Nat) (x0 : Int32)  (z z1 : ow_MS) (r : Int32) (hq : ce_X11_isPrime vl K x0 z = some (r, z1)) : Met l yX11_isPrime wc_X11_isPrime ({ frames := 0, cells := 0, slots := 0, locals := 0 } : Room) (va_Pc [.int x0] (cw_pre D q vl u z)) (va_Qi (fun x (_ : Unit) => x = r) (fun _ t => va_P D vwCl (uw (cX vl) q u z1) t.heap) (tw_A (cX vl) u)) 0 0 (tw_A (cX vl) u) := by
  refine Met.ofW (cc := cX11_isPrime) (maxL := 2) (ret := (some .boolean)) (by decide) rfl ?_
  intro p e s m args below meth c s₁ B hml hv
  obtain ⟨rfl, hP, hK⟩ := hv
  have hx := B.exec
  have hb := B.bytes
  have hr := B.returns
  have hts := atoms_spec (ws := wc_X11_isPrime) B.pre
  have hT : ∀ w ∈ wC, w.before ([.int x0] : List Value).toArray s = true := fun w h => hts w (List.mem_cons_of_mem _ h)
  have hown : s.vm.findClass RX11 = some m.cls := findClass_of_methodNamed B.named
  have hlocks := B.notSynchronized
  have hU : uw_inj (cX vl) u (tw_A (cX vl) u) := ⟨hU0, fun h hh => ⟨h, hh, rfl⟩⟩
  have hM : uw_M D vwCl (cX vl) q (tw_A (cX vl) u) s.heap u z s.heap [] := ⟨hP, va_S.rf⟩
  have hl := lv_entry ([.int x0]) (n := 2) (Nat.le_of_ble_eq_true rfl)
  rw [lg_entry_eq]
  generalize (lg_sl ([.int x0]) ++ List.replicate (2 - (lg_sl ([.int x0])).length) Slot.unset).toArray = ls at hl ⊢
  have hl : lv_has ls 2 [(0, .int x0)] := hl
  refine ow_named (fun QQ hQQ => ?_)
  generalize ([.int x0] : List Value).toArray = args at hts hT hQQ ⊢
  have key : ∀ k : Nat, (∀ (x0 : Int32) (x1 : Int32) (z : ow_MS) (H : Heap) (locs : List Loc) (ls : Array Slot), uw_M D vwCl (cX vl) q (tw_A (cX vl) u) s.heap u z H locs → lv_has ls 2 [(0, .int x0)] → c_X11_isPrime vl K k 0 x0 x1 z = some (r, z1) → W p l e ({ frames := 0, cells := 0, slots := 0, locals := 0 } : Room) s m args below meth c H locs 0 0 QQ (F0 m 0 ls [])) ∧ (∀ (x0 : Int32) (x1 : Int32) (z : ow_MS) (H : Heap) (locs : List Loc) (ls : Array Slot), uw_M D vwCl (cX vl) q (tw_A (cX vl) u) s.heap u z H locs → lv_has ls 2 [(0, .int x0), (1, .int x1)] → c_X11_isPrime vl K k 1 x0 x1 z = some (r, z1) → W p l e ({ frames := 0, cells := 0, slots := 0, locals := 0 } : Room) s m args below meth c H locs 0 0 QQ (F0 m 2 ls [])) := by
    intro k
    induction k with
    | zero => exact ⟨fun _ _ _ _ _ _  _ _ hq => cw_no hq, fun _ _ _ _ _ _  _ _ hq => cw_no hq⟩
    | succ k ih =>
      obtain ⟨ih_0, ih_1⟩ := ih
      refine ⟨?_, ?_⟩
      · intro x0 x1 z H locs ls  hM hl hq
        have hq : cm_X11_isPrime_0 vl K (c_X11_isPrime vl K k) x0 x1 z = some (r, z1) := hq
        unfold cm_X11_isPrime_0 at hq
        refine lv_iconst (v := 2) hx hb dcX11_isPrime_0 (by decide) ?_
        refine lv_istore_n (lv' := [(1, .int 2), (0, .int x0)]) hx hb dcX11_isPrime_1 rfl hl (by decide) rfl (fun ls hl => ?_)
        exact ih_1 x0 2 z H locs ls hM (lv_sub hl [1, 0] rfl) hq
      · intro x0 x1 z H locs ls  hM hl hq
        have hq : cm_X11_isPrime_1 vl K (c_X11_isPrime vl K k) x0 x1 z = some (r, z1) := hq
        unfold cm_X11_isPrime_1 at hq
        refine lv_iload_n hx hb dcX11_isPrime_2 rfl (lv_at hl 1 rfl) ?_
        refine lv_iload_n hx hb dcX11_isPrime_3 rfl (lv_at hl 1 rfl) ?_
        refine lv_imul hx hb dcX11_isPrime_4 ?_
        refine lv_iload_n hx hb dcX11_isPrime_5 rfl (lv_at hl 0 rfl) ?_
        refine lv_icmp_gt (tgt := 23) hx hb dcX11_isPrime_6 (by decide) (fun hc => ?_) (fun hc => ?_)
        · have hq := tw_it hq hc
          refine lv_iconst (v := 1) hx hb dcX11_isPrime_23 (by decide) ?_
          obtain ⟨hz, hq⟩ := tw_gZ hq
          exact cw_zret hx hb hr hlocks hM hz hq hQQ dcX11_isPrime_24
        · have hq := tw_if hq hc
          refine lv_iload_n hx hb dcX11_isPrime_9 rfl (lv_at hl 0 rfl) ?_
          refine lv_iload_n hx hb dcX11_isPrime_10 rfl (lv_at hl 1 rfl) ?_
          obtain ⟨hz, hq⟩ := tw_nzI hq
          refine lv_irem hx hb dcX11_isPrime_11 hz ?_
          refine lv_if_ne (tgt := 17) hx hb dcX11_isPrime_12 (by decide) (fun hc => ?_) (fun hc => ?_)
          · have hq := tw_if hq hc
            refine lv_iinc (v := (x1 + 1)) (lv' := [(1, .int (x1 + 1)), (0, .int x0)]) hx hb dcX11_isPrime_17 hl (k := 1) rfl rfl (by decide) rfl (fun ls hl => ?_)
            refine lv_goto (tgt := 2) hx hb dcX11_isPrime_20 (by decide) ?_
            exact ih_1 x0 (x1 + 1) z H locs ls hM (lv_sub hl [1, 0] rfl) hq
          · have hq := tw_it hq hc
            refine lv_iconst (v := 0) hx hb dcX11_isPrime_15 (by decide) ?_
            obtain ⟨hz, hq⟩ := tw_gZ hq
            exact cw_zret hx hb hr hlocks hM hz hq hQQ dcX11_isPrime_16
  exact (key K).1 x0 0 z s.heap [] ls  hM (lv_sub hl [0] rfl) hq
theorem dcX11_rank_0 : decode cX11_rank 0 = .ok (.aload_n 0, 1) := by decide +kernel
theorem dcX11_rank_1 : decode cX11_rank 1 = .ok (.getfield 79, 3) := by decide +kernel
theorem dcX11_rank_4 : decode cX11_rank 4 = .ok (.iload_n 1, 1) := by decide +kernel
theorem dcX11_rank_5 : decode cX11_rank 5 = .ok (.iload_n 2, 1) := by decide +kernel
theorem dcX11_rank_6 : decode cX11_rank 6 = .ok (.invokevirtual 375, 3) := by decide +kernel
theorem dcX11_rank_9 : decode cX11_rank 9 = .ok (.ireturn, 1) := by decide +kernel
def cm_X11_rank_0 (vl : Nat → Nat) (K : Nat) (x1 : Int32) (x2 : Int32) (r0 : Nat) (z : ow_MS) : Option (Int32 × ow_MS) :=
 cs1 (ce_X1_rankAt vl K (r0 + 43000) x1 x2 z) fun v2 z1 => some (v2, z1)
def ce_X11_rank (vl : Nat → Nat) (K : Nat) (r0 : Nat) (x1 : Int32) (x2 : Int32) (z : ow_MS) : Option (Int32 × ow_MS) := cm_X11_rank_0 vl K x1 x2 r0 z
abbrev wc_X11_rank : List Cond := .code yX11_rank cX11_rank 3 (some .int) :: wC
theorem cdd_X11_rank : yX11_rank.cls = RX11 ∧ yX11_rank.cls ≠ "java/lang/invoke/MethodHandle" ∧ yX11_rank.cls ≠ "java/lang/invoke/VarHandle" ∧ (parseMethodDescriptor yX11_rank.desc).map (fun d => d.parameters.length) = some 2 := by decide +kernel
set_option maxHeartbeats 4000000 in
set_option maxRecDepth 100000 in
theorem kc_X11_rank (l : Launch) (D : va_G) (q : Nat → ClassId) (vl u : Nat → Nat) (hU0 : tw_inj (cX vl) u) (K : Nat) (r0 : Nat) (x1 : Int32) (x2 : Int32) (hr0 : cw_X11 r0) (z z1 : ow_MS) (r : Int32) (hq : ce_X11_rank vl K r0 x1 x2 z = some (r, z1)) : Met l yX11_rank wc_X11_rank ({ frames := 1, cells := 0, slots := 0, locals := 26 } : Room) (va_Pc [.ref (u r0), .int x1, .int x2] (cw_pre D q vl u z)) (va_Qi (fun x (_ : Unit) => x = r) (fun _ t => va_P D vwCl (uw (cX vl) q u z1) t.heap) (tw_A (cX vl) u)) 0 0 (tw_A (cX vl) u) := by
  refine Met.ofW (cc := cX11_rank) (maxL := 3) (ret := (some .int)) (by decide) rfl ?_
  intro p e s m args below meth c s₁ B hml hv
  obtain ⟨rfl, hP, hK⟩ := hv
  have hx := B.exec
  have hb := B.bytes
  have hr := B.returns
  have hts := atoms_spec (ws := wc_X11_rank) B.pre
  have hT : ∀ w ∈ wC, w.before ([.ref (u r0), .int x1, .int x2] : List Value).toArray s = true := fun w h => hts w (List.mem_cons_of_mem _ h)
  have hown : s.vm.findClass RX11 = some m.cls := findClass_of_methodNamed B.named
  have hlocks := B.notSynchronized
  have hU : uw_inj (cX vl) u (tw_A (cX vl) u) := ⟨hU0, fun h hh => ⟨h, hh, rfl⟩⟩
  have hM : uw_M D vwCl (cX vl) q (tw_A (cX vl) u) s.heap u z s.heap [] := ⟨hP, va_S.rf⟩
  have hl := lv_entry ([.ref (u r0), .int x1, .int x2]) (n := 3) (Nat.le_of_ble_eq_true rfl)
  rw [lg_entry_eq]
  generalize (lg_sl ([.ref (u r0), .int x1, .int x2]) ++ List.replicate (3 - (lg_sl ([.ref (u r0), .int x1, .int x2])).length) Slot.unset).toArray = ls at hl ⊢
  have hl : lv_has ls 3 [(0, .ref (u r0)), (1, .int x1), (2, .int x2)] := hl
  refine ow_named (fun QQ hQQ => ?_)
  generalize ([.ref (u r0), .int x1, .int x2] : List Value).toArray = args at hts hT hQQ ⊢
  have hq : cm_X11_rank_0 vl K x1 x2 r0 z = some (r, z1) := hq
  unfold cm_X11_rank_0 at hq
  suffices key : ∀ (H : Heap) (locs : List Loc), uw_M D vwCl (cX vl) q (tw_A (cX vl) u) s.heap u z H locs → W p l e ({ frames := 1, cells := 0, slots := 0, locals := 26 } : Room) s m args below meth c H locs 0 0 QQ (F0 m 0 ls []) from key s.heap [] hM
  intro H locs hM
  refine lv_aload_n hx hb dcX11_rank_0 rfl (lv_at hl 0 rfl) ?_
  refine vgX11_79 hx hb hT hown hK hM hr0 dcX11_rank_1 ?_
  refine lv_iload_n hx hb dcX11_rank_4 rfl (lv_at hl 1 rfl) ?_
  refine lv_iload_n hx hb dcX11_rank_5 rfl (lv_at hl 2 rfl) ?_
  obtain ⟨v2, z1, hcq, hq⟩ := tw_cl1 hq
  refine uw_cali hU hM (va_runV (As := [.int x1, .int x2]) (rest := []) ⟨hx, hb, hml, hown, hts⟩ (kc_X1_rankAt l D q vl u hU.1 K (r0 + 43000) x1 x2 (cs_X11_11 hr0) z z1 v2 hcq) (cwV 2 hts (tw_gV wC_good xq_942 xq_943 xq_944 xq_138 xq_269) rfl rfl rfl cdd_X1_rankAt ⟨(Nat.le_of_ble_eq_true rfl), (Nat.le_of_ble_eq_true rfl)⟩) (cw_preV hK hM (co_X1 (cs_X11_11 hr0)) rfl) rfl rfl hl.1 rfl (lv_room (Nat.le_of_ble_eq_true rfl)) dcX11_rank_6 ⟨(Nat.le_of_ble_eq_true rfl), (Nat.le_of_ble_eq_true rfl)⟩) (fun H locs hM => ?_)
  exact cw_iret hx hb hr hlocks hM hq hQQ dcX11_rank_9
theorem dcX11_write_0 : decode cX11_write 0 = .ok (.aload_n 1, 1) := dw_at cX11_write_k0 (p := 0) rfl (by decide +kernel)
theorem dcX11_write_1 : decode cX11_write 1 = .ok (.aload_n 0, 1) := dw_at cX11_write_k0 (p := 1) rfl (by decide +kernel)
theorem dcX11_write_2 : decode cX11_write 2 = .ok (.getfield 91, 3) := dw_at cX11_write_k0 (p := 2) rfl (by decide +kernel)
theorem dcX11_write_5 : decode cX11_write 5 = .ok (.iload_n 2, 1) := dw_at cX11_write_k0 (p := 5) rfl (by decide +kernel)
theorem dcX11_write_6 : decode cX11_write 6 = .ok (.iaload, 1) := dw_at cX11_write_k0 (p := 6) rfl (by decide +kernel)
theorem dcX11_write_7 : decode cX11_write 7 = .ok (.invokevirtual 398, 3) := dw_at cX11_write_k0 (p := 7) rfl (by decide +kernel)
theorem dcX11_write_10 : decode cX11_write 10 = .ok (.iconst 0, 1) := dw_at cX11_write_k0 (p := 10) rfl (by decide +kernel)
theorem dcX11_write_11 : decode cX11_write 11 = .ok (.istore_n 3, 1) := dw_at cX11_write_k0 (p := 11) rfl (by decide +kernel)
theorem dcX11_write_12 : decode cX11_write 12 = .ok (.iload_n 3, 1) := dw_at cX11_write_k0 (p := 12) rfl (by decide +kernel)
theorem dcX11_write_13 : decode cX11_write 13 = .ok (.aload_n 0, 1) := dw_at cX11_write_k0 (p := 13) rfl (by decide +kernel)
theorem dcX11_write_14 : decode cX11_write 14 = .ok (.getfield 87, 3) := dw_at cX11_write_k0 (p := 14) rfl (by decide +kernel)
theorem dcX11_write_17 : decode cX11_write 17 = .ok (.iload_n 2, 1) := dw_at cX11_write_k0 (p := 17) rfl (by decide +kernel)
theorem dcX11_write_18 : decode cX11_write 18 = .ok (.iaload, 1) := dw_at cX11_write_k0 (p := 18) rfl (by decide +kernel)
theorem dcX11_write_19 : decode cX11_write 19 = .ok (.if_icmp .ge 24, 3) := dw_at cX11_write_k0 (p := 19) rfl (by decide +kernel)
theorem dcX11_write_22 : decode cX11_write 22 = .ok (.aload_n 1, 1) := dw_at cX11_write_k0 (p := 22) rfl (by decide +kernel)
theorem dcX11_write_23 : decode cX11_write 23 = .ok (.aload_n 0, 1) := dw_at cX11_write_k0 (p := 23) rfl (by decide +kernel)
theorem dcX11_write_24 : decode cX11_write 24 = .ok (.getfield 83, 3) := dw_at cX11_write_k1 (p := 0) rfl (by decide +kernel)
theorem dcX11_write_27 : decode cX11_write 27 = .ok (.iload_n 2, 1) := dw_at cX11_write_k1 (p := 3) rfl (by decide +kernel)
theorem dcX11_write_28 : decode cX11_write 28 = .ok (.bipush 16, 2) := dw_at cX11_write_k1 (p := 4) rfl (by decide +kernel)
theorem dcX11_write_30 : decode cX11_write 30 = .ok (.imul, 1) := dw_at cX11_write_k1 (p := 6) rfl (by decide +kernel)
theorem dcX11_write_31 : decode cX11_write 31 = .ok (.iload_n 3, 1) := dw_at cX11_write_k1 (p := 7) rfl (by decide +kernel)
theorem dcX11_write_32 : decode cX11_write 32 = .ok (.iadd, 1) := dw_at cX11_write_k1 (p := 8) rfl (by decide +kernel)
theorem dcX11_write_33 : decode cX11_write 33 = .ok (.baload, 1) := dw_at cX11_write_k1 (p := 9) rfl (by decide +kernel)
theorem dcX11_write_34 : decode cX11_write 34 = .ok (.invokevirtual 401, 3) := dw_at cX11_write_k1 (p := 10) rfl (by decide +kernel)
theorem dcX11_write_37 : decode cX11_write 37 = .ok (.iinc 3 1, 3) := dw_at cX11_write_k1 (p := 13) rfl (by decide +kernel)
theorem dcX11_write_40 : decode cX11_write 40 = .ok (.goto (-28), 3) := dw_at cX11_write_k1 (p := 16) rfl (by decide +kernel)
theorem dcX11_write_43 : decode cX11_write 43 = .ok (.return_, 1) := dw_at cX11_write_k1 (p := 19) rfl (by decide +kernel)
def cm_X11_write_0 (vl : Nat → Nat) (K : Nat) (go : Nat → Int32 → Int32 → Nat → Nat → ow_MS → Option ow_MS) (x2 : Int32) (x3 : Int32) (r0 : Nat) (r1 : Nat) (z : ow_MS) : Option ow_MS :=
 crI (cX vl) z (r0 + 15) x2 fun v1 => cs0 (ce_X5_begin vl K r1 v1 z) fun z2 => go 1 x2 0 r0 r1 z2
def cm_X11_write_1 (vl : Nat → Nat) (K : Nat) (go : Nat → Int32 → Int32 → Nat → Nat → ow_MS → Option ow_MS) (x2 : Int32) (x3 : Int32) (r0 : Nat) (r1 : Nat) (z : ow_MS) : Option ow_MS :=
 crI (cX vl) z (r0 + 14) x2 fun v3 => (if v3 ≤ x3 then some z
 else crI (cX vl) z (r0 + 13) ((x2 * 16) + x3) fun v4 => cs0 (ce_X5_takeLetter vl K r1 v4 z) fun z5 => go 1 x2 (x3 + 1) r0 r1 z5)
def cb_X11_write (vl : Nat → Nat) (K : Nat) (go : Nat → Int32 → Int32 → Nat → Nat → ow_MS → Option ow_MS) (L : Nat) (x2 : Int32) (x3 : Int32) (r0 : Nat) (r1 : Nat) (z : ow_MS) : Option ow_MS := match L with
  | 0 => cm_X11_write_0 vl K go x2 x3 r0 r1 z
  | 1 => cm_X11_write_1 vl K go x2 x3 r0 r1 z
  | _ => none
def c_X11_write (vl : Nat → Nat) (K : Nat) : Nat → Nat → Int32 → Int32 → Nat → Nat → ow_MS → Option ow_MS
  | 0 => fun _ _ _ _ _ _ => none
  | k + 1 => cb_X11_write vl K (c_X11_write vl K k)
def ce_X11_write (vl : Nat → Nat) (K : Nat) (r0 : Nat) (r1 : Nat) (x2 : Int32) (z : ow_MS) : Option ow_MS := c_X11_write vl K K 0 x2 0 r0 r1 z
abbrev wc_X11_write : List Cond := .code yX11_write cX11_write 4 none :: wC
theorem cdd_X11_write : yX11_write.cls = RX11 ∧ yX11_write.cls ≠ "java/lang/invoke/MethodHandle" ∧ yX11_write.cls ≠ "java/lang/invoke/VarHandle" ∧ (parseMethodDescriptor yX11_write.desc).map (fun d => d.parameters.length) = some 2 := by decide +kernel
set_option maxHeartbeats 4000000 in
set_option maxRecDepth 100000 in
theorem kc_X11_write (l : Launch) (D : va_G) (q : Nat → ClassId) (vl u : Nat → Nat) (hU0 : tw_inj (cX vl) u) (K : Nat) (r0 : Nat) (r1 : Nat) (x2 : Int32) (hr0 : cw_X11 r0) (hr1 : cw_X5 r1) (z z1 : ow_MS) (hq : ce_X11_write vl K r0 r1 x2 z = some z1) : Met l yX11_write wc_X11_write ({ frames := 5, cells := 0, slots := 0, locals := 127 } : Room) (va_Pc [.ref (u r0), .ref (u r1), .int x2] (cw_pre D q vl u z)) (va_Qv (fun (_ : Unit) => True) (fun _ t => va_P D vwCl (uw (cX vl) q u z1) t.heap) (tw_A (cX vl) u)) 0 0 (tw_A (cX vl) u) := by
  refine Met.ofW (cc := cX11_write) (maxL := 4) (ret := none) (by decide) rfl ?_
  intro p e s m args below meth c s₁ B hml hv
  obtain ⟨rfl, hP, hK⟩ := hv
  have hx := B.exec
  have hb := B.bytes
  have hr := B.returns
  have hts := atoms_spec (ws := wc_X11_write) B.pre
  have hT : ∀ w ∈ wC, w.before ([.ref (u r0), .ref (u r1), .int x2] : List Value).toArray s = true := fun w h => hts w (List.mem_cons_of_mem _ h)
  have hown : s.vm.findClass RX11 = some m.cls := findClass_of_methodNamed B.named
  have hlocks := B.notSynchronized
  have hU : uw_inj (cX vl) u (tw_A (cX vl) u) := ⟨hU0, fun h hh => ⟨h, hh, rfl⟩⟩
  have hM : uw_M D vwCl (cX vl) q (tw_A (cX vl) u) s.heap u z s.heap [] := ⟨hP, va_S.rf⟩
  have hl := lv_entry ([.ref (u r0), .ref (u r1), .int x2]) (n := 4) (Nat.le_of_ble_eq_true rfl)
  rw [lg_entry_eq]
  generalize (lg_sl ([.ref (u r0), .ref (u r1), .int x2]) ++ List.replicate (4 - (lg_sl ([.ref (u r0), .ref (u r1), .int x2])).length) Slot.unset).toArray = ls at hl ⊢
  have hl : lv_has ls 4 [(0, .ref (u r0)), (1, .ref (u r1)), (2, .int x2)] := hl
  refine ow_named (fun QQ hQQ => ?_)
  generalize ([.ref (u r0), .ref (u r1), .int x2] : List Value).toArray = args at hts hT hQQ ⊢
  have key : ∀ k : Nat, (∀ (x2 : Int32) (x3 : Int32) (r0 : Nat) (r1 : Nat) (z : ow_MS) (H : Heap) (locs : List Loc) (ls : Array Slot), cw_X11 r0 → cw_X5 r1 → uw_M D vwCl (cX vl) q (tw_A (cX vl) u) s.heap u z H locs → lv_has ls 4 [(0, .ref (u r0)), (1, .ref (u r1)), (2, .int x2)] → c_X11_write vl K k 0 x2 x3 r0 r1 z = some z1 → W p l e ({ frames := 5, cells := 0, slots := 0, locals := 127 } : Room) s m args below meth c H locs 0 0 QQ (F0 m 0 ls [])) ∧ (∀ (x2 : Int32) (x3 : Int32) (r0 : Nat) (r1 : Nat) (z : ow_MS) (H : Heap) (locs : List Loc) (ls : Array Slot), cw_X11 r0 → cw_X5 r1 → uw_M D vwCl (cX vl) q (tw_A (cX vl) u) s.heap u z H locs → lv_has ls 4 [(0, .ref (u r0)), (1, .ref (u r1)), (2, .int x2), (3, .int x3)] → c_X11_write vl K k 1 x2 x3 r0 r1 z = some z1 → W p l e ({ frames := 5, cells := 0, slots := 0, locals := 127 } : Room) s m args below meth c H locs 0 0 QQ (F0 m 12 ls [])) := by
    intro k
    induction k with
    | zero => exact ⟨fun _ _ _ _ _ _ _ _ _ _ _ _ hq => cw_no hq, fun _ _ _ _ _ _ _ _ _ _ _ _ hq => cw_no hq⟩
    | succ k ih =>
      obtain ⟨ih_0, ih_1⟩ := ih
      refine ⟨?_, ?_⟩
      · intro x2 x3 r0 r1 z H locs ls hr0 hr1 hM hl hq
        have hq : cm_X11_write_0 vl K (c_X11_write vl K k) x2 x3 r0 r1 z = some z1 := hq
        unfold cm_X11_write_0 at hq
        refine lv_aload_n hx hb dcX11_write_0 rfl (lv_at hl 1 rfl) ?_
        refine lv_aload_n hx hb dcX11_write_1 rfl (lv_at hl 0 rfl) ?_
        refine vgX11_91 hx hb hT hown hK hM hr0 dcX11_write_2 ?_
        refine lv_iload_n hx hb dcX11_write_5 rfl (lv_at hl 2 rfl) ?_
        refine uw_iald cX_ok hx hb hK hM (cr_X11_14 hr0) hq dcX11_write_6 (fun v1 hq => ?_)
        obtain ⟨z2, hcq, hq⟩ := tw_cl0 hq
        refine uw_calv hU hM (va_runV (As := [.int v1]) (rest := []) ⟨hx, hb, hml, hown, hts⟩ (kc_X5_begin l D q vl u hU.1 K r1 v1 hr1 z z2 hcq) (cwV 1 hts (tw_gV wC_good xq_956 xq_427 xq_428 xq_403 xq_423) rfl rfl rfl cdd_X5_begin ⟨(Nat.le_of_ble_eq_true rfl), (Nat.le_of_ble_eq_true rfl)⟩) (cw_preV hK hM (co_X5 hr1) rfl) rfl rfl hl.1 rfl (lv_room (Nat.le_of_ble_eq_true rfl)) dcX11_write_7 ⟨(Nat.le_of_ble_eq_true rfl), (Nat.le_of_ble_eq_true rfl)⟩) (fun H locs hM => ?_)
        refine lv_iconst (v := 0) hx hb dcX11_write_10 (by decide) ?_
        refine lv_istore_n (lv' := [(3, .int 0), (0, .ref (u r0)), (1, .ref (u r1)), (2, .int x2)]) hx hb dcX11_write_11 rfl hl (by decide) rfl (fun ls hl => ?_)
        exact ih_1 x2 0 r0 r1 z2 H locs ls hr0 hr1 hM (lv_sub hl [1, 2, 3, 0] rfl) hq
      · intro x2 x3 r0 r1 z H locs ls hr0 hr1 hM hl hq
        have hq : cm_X11_write_1 vl K (c_X11_write vl K k) x2 x3 r0 r1 z = some z1 := hq
        unfold cm_X11_write_1 at hq
        refine lv_iload_n hx hb dcX11_write_12 rfl (lv_at hl 3 rfl) ?_
        refine lv_aload_n hx hb dcX11_write_13 rfl (lv_at hl 0 rfl) ?_
        refine vgX11_87 hx hb hT hown hK hM hr0 dcX11_write_14 ?_
        refine lv_iload_n hx hb dcX11_write_17 rfl (lv_at hl 2 rfl) ?_
        refine uw_iald cX_ok hx hb hK hM (cr_X11_13 hr0) hq dcX11_write_18 (fun v3 hq => ?_)
        refine lv_icmp_ge (tgt := 43) hx hb dcX11_write_19 (by decide) (fun hc => ?_) (fun hc => ?_)
        · have hq := tw_it hq hc
          exact cw_vret hx hb hr hlocks hM hq hQQ dcX11_write_43
        · have hq := tw_if hq hc
          refine lv_aload_n hx hb dcX11_write_22 rfl (lv_at hl 1 rfl) ?_
          refine lv_aload_n hx hb dcX11_write_23 rfl (lv_at hl 0 rfl) ?_
          refine vgX11_83 hx hb hT hown hK hM hr0 dcX11_write_24 ?_
          refine lv_iload_n hx hb dcX11_write_27 rfl (lv_at hl 2 rfl) ?_
          refine lv_bipush (v := 16) hx hb dcX11_write_28 (by decide) ?_
          refine lv_imul hx hb dcX11_write_30 ?_
          refine lv_iload_n hx hb dcX11_write_31 rfl (lv_at hl 3 rfl) ?_
          refine lv_iadd hx hb dcX11_write_32 ?_
          refine uw_bald cX_ok hx hb hK hM (cr_X11_12 hr0) hq dcX11_write_33 (fun v4 hq => ?_)
          obtain ⟨z5, hcq, hq⟩ := tw_cl0 hq
          refine uw_calv hU hM (va_runV (As := [.int v4]) (rest := []) ⟨hx, hb, hml, hown, hts⟩ (kc_X5_takeLetter l D q vl u hU.1 K r1 v4 hr1 z z5 hcq) (cwV 1 hts (tw_gV wC_good xq_957 xq_958 xq_959 xq_403 xq_454) rfl rfl rfl cdd_X5_takeLetter ⟨(Nat.le_of_ble_eq_true rfl), (Nat.le_of_ble_eq_true rfl)⟩) (cw_preV hK hM (co_X5 hr1) rfl) rfl rfl hl.1 rfl (lv_room (Nat.le_of_ble_eq_true rfl)) dcX11_write_34 ⟨(Nat.le_of_ble_eq_true rfl), (Nat.le_of_ble_eq_true rfl)⟩) (fun H locs hM => ?_)
          refine lv_iinc (v := (x3 + 1)) (lv' := [(3, .int (x3 + 1)), (0, .ref (u r0)), (1, .ref (u r1)), (2, .int x2)]) hx hb dcX11_write_37 hl (k := 3) rfl rfl (by decide) rfl (fun ls hl => ?_)
          refine lv_goto (tgt := 12) hx hb dcX11_write_40 (by decide) ?_
          exact ih_1 x2 (x3 + 1) r0 r1 z5 H locs ls hr0 hr1 hM (lv_sub hl [1, 2, 3, 0] rfl) hq
  exact (key K).1 x2 0 r0 r1 z s.heap [] ls hr0 hr1 hM (lv_sub hl [0, 1, 2] rfl) hq
theorem dcX11_equal_0 : decode cX11_equal 0 = .ok (.aload_n 0, 1) := dw_at cX11_equal_k0 (p := 0) rfl (by decide +kernel)
theorem dcX11_equal_1 : decode cX11_equal 1 = .ok (.iload_n 1, 1) := dw_at cX11_equal_k0 (p := 1) rfl (by decide +kernel)
theorem dcX11_equal_2 : decode cX11_equal 2 = .ok (.invokevirtual 169, 3) := dw_at cX11_equal_k0 (p := 2) rfl (by decide +kernel)
theorem dcX11_equal_5 : decode cX11_equal 5 = .ok (.ifCond .eq 26, 3) := dw_at cX11_equal_k0 (p := 5) rfl (by decide +kernel)
theorem dcX11_equal_8 : decode cX11_equal 8 = .ok (.aload_n 0, 1) := dw_at cX11_equal_k0 (p := 8) rfl (by decide +kernel)
theorem dcX11_equal_9 : decode cX11_equal 9 = .ok (.iload_n 2, 1) := dw_at cX11_equal_k0 (p := 9) rfl (by decide +kernel)
theorem dcX11_equal_10 : decode cX11_equal 10 = .ok (.invokevirtual 169, 3) := dw_at cX11_equal_k0 (p := 10) rfl (by decide +kernel)
theorem dcX11_equal_13 : decode cX11_equal 13 = .ok (.ifCond .eq 18, 3) := dw_at cX11_equal_k0 (p := 13) rfl (by decide +kernel)
theorem dcX11_equal_16 : decode cX11_equal 16 = .ok (.aload_n 0, 1) := dw_at cX11_equal_k0 (p := 16) rfl (by decide +kernel)
theorem dcX11_equal_17 : decode cX11_equal 17 = .ok (.getfield 91, 3) := dw_at cX11_equal_k0 (p := 17) rfl (by decide +kernel)
theorem dcX11_equal_20 : decode cX11_equal 20 = .ok (.iload_n 1, 1) := dw_at cX11_equal_k0 (p := 20) rfl (by decide +kernel)
theorem dcX11_equal_21 : decode cX11_equal 21 = .ok (.iaload, 1) := dw_at cX11_equal_k0 (p := 21) rfl (by decide +kernel)
theorem dcX11_equal_22 : decode cX11_equal 22 = .ok (.aload_n 0, 1) := dw_at cX11_equal_k0 (p := 22) rfl (by decide +kernel)
theorem dcX11_equal_23 : decode cX11_equal 23 = .ok (.getfield 91, 3) := dw_at cX11_equal_k0 (p := 23) rfl (by decide +kernel)
theorem dcX11_equal_26 : decode cX11_equal 26 = .ok (.iload_n 2, 1) := dw_at cX11_equal_k1 (p := 0) rfl (by decide +kernel)
theorem dcX11_equal_27 : decode cX11_equal 27 = .ok (.iaload, 1) := dw_at cX11_equal_k1 (p := 1) rfl (by decide +kernel)
theorem dcX11_equal_28 : decode cX11_equal 28 = .ok (.if_icmp .eq 5, 3) := dw_at cX11_equal_k1 (p := 2) rfl (by decide +kernel)
theorem dcX11_equal_31 : decode cX11_equal 31 = .ok (.iconst 0, 1) := dw_at cX11_equal_k1 (p := 5) rfl (by decide +kernel)
theorem dcX11_equal_32 : decode cX11_equal 32 = .ok (.ireturn, 1) := dw_at cX11_equal_k1 (p := 6) rfl (by decide +kernel)
theorem dcX11_equal_33 : decode cX11_equal 33 = .ok (.aload_n 0, 1) := dw_at cX11_equal_k1 (p := 7) rfl (by decide +kernel)
theorem dcX11_equal_34 : decode cX11_equal 34 = .ok (.aload_n 0, 1) := dw_at cX11_equal_k1 (p := 8) rfl (by decide +kernel)
theorem dcX11_equal_35 : decode cX11_equal 35 = .ok (.getfield 97, 3) := dw_at cX11_equal_k1 (p := 9) rfl (by decide +kernel)
theorem dcX11_equal_38 : decode cX11_equal 38 = .ok (.iload_n 1, 1) := dw_at cX11_equal_k1 (p := 12) rfl (by decide +kernel)
theorem dcX11_equal_39 : decode cX11_equal 39 = .ok (.invokevirtual 406, 3) := dw_at cX11_equal_k1 (p := 13) rfl (by decide +kernel)
theorem dcX11_equal_42 : decode cX11_equal 42 = .ok (.aload_n 0, 1) := dw_at cX11_equal_k1 (p := 16) rfl (by decide +kernel)
theorem dcX11_equal_43 : decode cX11_equal 43 = .ok (.aload_n 0, 1) := dw_at cX11_equal_k1 (p := 17) rfl (by decide +kernel)
theorem dcX11_equal_44 : decode cX11_equal 44 = .ok (.getfield 101, 3) := dw_at cX11_equal_k1 (p := 18) rfl (by decide +kernel)
theorem dcX11_equal_47 : decode cX11_equal 47 = .ok (.iload_n 2, 1) := dw_at cX11_equal_k1 (p := 21) rfl (by decide +kernel)
theorem dcX11_equal_48 : decode cX11_equal 48 = .ok (.invokevirtual 406, 3) := dw_at cX11_equal_k1 (p := 22) rfl (by decide +kernel)
theorem dcX11_equal_51 : decode cX11_equal 51 = .ok (.aload_n 0, 1) := dw_at cX11_equal_k2 (p := 0) rfl (by decide +kernel)
theorem dcX11_equal_52 : decode cX11_equal 52 = .ok (.getfield 97, 3) := dw_at cX11_equal_k2 (p := 1) rfl (by decide +kernel)
theorem dcX11_equal_55 : decode cX11_equal 55 = .ok (.aload_n 0, 1) := dw_at cX11_equal_k2 (p := 4) rfl (by decide +kernel)
theorem dcX11_equal_56 : decode cX11_equal 56 = .ok (.getfield 101, 3) := dw_at cX11_equal_k2 (p := 5) rfl (by decide +kernel)
theorem dcX11_equal_59 : decode cX11_equal 59 = .ok (.invokevirtual 419, 3) := dw_at cX11_equal_k2 (p := 8) rfl (by decide +kernel)
theorem dcX11_equal_62 : decode cX11_equal 62 = .ok (.ireturn, 1) := dw_at cX11_equal_k2 (p := 11) rfl (by decide +kernel)
def cm_X11_equal_0 (vl : Nat → Nat) (K : Nat) (x1 : Int32) (x2 : Int32) (r0 : Nat) (z : ow_MS) : Option (Int32 × ow_MS) :=
 cs1 (ce_X11_hasBraid vl K r0 x1 z) fun v2 z1 => (if v2 = 0 then okZ 0 (some (0, z1))
 else cs1 (ce_X11_hasBraid vl K r0 x2 z1) fun v4 z3 => (if v4 = 0 then okZ 0 (some (0, z3))
 else crI (cX vl) z3 (r0 + 15) x1 fun v5 => crI (cX vl) z3 (r0 + 15) x2 fun v6 => (if v5 = v6 then cs0 (ce_X11_write vl K r0 (r0 + 46000) x1 z3) fun z7 => cs0 (ce_X11_write vl K r0 (r0 + 47000) x2 z7) fun z8 => cs1 (ce_X5_sameAs vl K (r0 + 46000) (r0 + 47000) z8) fun v10 z9 => okZ v10 (some (v10, z9))
 else okZ 0 (some (0, z3)))))
def ce_X11_equal (vl : Nat → Nat) (K : Nat) (r0 : Nat) (x1 : Int32) (x2 : Int32) (z : ow_MS) : Option (Int32 × ow_MS) := cm_X11_equal_0 vl K x1 x2 r0 z
abbrev wc_X11_equal : List Cond := .code yX11_equal cX11_equal 3 (some .boolean) :: wC
theorem cdd_X11_equal : yX11_equal.cls = RX11 ∧ yX11_equal.cls ≠ "java/lang/invoke/MethodHandle" ∧ yX11_equal.cls ≠ "java/lang/invoke/VarHandle" ∧ (parseMethodDescriptor yX11_equal.desc).map (fun d => d.parameters.length) = some 2 := by decide +kernel
set_option maxHeartbeats 4000000 in
set_option maxRecDepth 100000 in
theorem kc_X11_equal (l : Launch) (D : va_G) (q : Nat → ClassId) (vl u : Nat → Nat) (hU0 : tw_inj (cX vl) u) (K : Nat) (r0 : Nat) (x1 : Int32) (x2 : Int32) (hr0 : cw_X11 r0) (z z1 : ow_MS) (r : Int32) (hq : ce_X11_equal vl K r0 x1 x2 z = some (r, z1)) : Met l yX11_equal wc_X11_equal ({ frames := 6, cells := 0, slots := 0, locals := 150 } : Room) (va_Pc [.ref (u r0), .int x1, .int x2] (cw_pre D q vl u z)) (va_Qi (fun x (_ : Unit) => x = r) (fun _ t => va_P D vwCl (uw (cX vl) q u z1) t.heap) (tw_A (cX vl) u)) 0 0 (tw_A (cX vl) u) := by
  refine Met.ofW (cc := cX11_equal) (maxL := 3) (ret := (some .boolean)) (by decide) rfl ?_
  intro p e s m args below meth c s₁ B hml hv
  obtain ⟨rfl, hP, hK⟩ := hv
  have hx := B.exec
  have hb := B.bytes
  have hr := B.returns
  have hts := atoms_spec (ws := wc_X11_equal) B.pre
  have hT : ∀ w ∈ wC, w.before ([.ref (u r0), .int x1, .int x2] : List Value).toArray s = true := fun w h => hts w (List.mem_cons_of_mem _ h)
  have hown : s.vm.findClass RX11 = some m.cls := findClass_of_methodNamed B.named
  have hlocks := B.notSynchronized
  have hU : uw_inj (cX vl) u (tw_A (cX vl) u) := ⟨hU0, fun h hh => ⟨h, hh, rfl⟩⟩
  have hM : uw_M D vwCl (cX vl) q (tw_A (cX vl) u) s.heap u z s.heap [] := ⟨hP, va_S.rf⟩
  have hl := lv_entry ([.ref (u r0), .int x1, .int x2]) (n := 3) (Nat.le_of_ble_eq_true rfl)
  rw [lg_entry_eq]
  generalize (lg_sl ([.ref (u r0), .int x1, .int x2]) ++ List.replicate (3 - (lg_sl ([.ref (u r0), .int x1, .int x2])).length) Slot.unset).toArray = ls at hl ⊢
  have hl : lv_has ls 3 [(0, .ref (u r0)), (1, .int x1), (2, .int x2)] := hl
  refine ow_named (fun QQ hQQ => ?_)
  generalize ([.ref (u r0), .int x1, .int x2] : List Value).toArray = args at hts hT hQQ ⊢
  have hq : cm_X11_equal_0 vl K x1 x2 r0 z = some (r, z1) := hq
  unfold cm_X11_equal_0 at hq
  suffices key : ∀ (H : Heap) (locs : List Loc), uw_M D vwCl (cX vl) q (tw_A (cX vl) u) s.heap u z H locs → W p l e ({ frames := 6, cells := 0, slots := 0, locals := 150 } : Room) s m args below meth c H locs 0 0 QQ (F0 m 0 ls []) from key s.heap [] hM
  intro H locs hM
  refine lv_aload_n hx hb dcX11_equal_0 rfl (lv_at hl 0 rfl) ?_
  refine lv_iload_n hx hb dcX11_equal_1 rfl (lv_at hl 1 rfl) ?_
  obtain ⟨v2, z1, hcq, hq⟩ := tw_cl1 hq
  refine uw_cali hU hM (va_runV (As := [.int x1]) (rest := []) ⟨hx, hb, hml, hown, hts⟩ (kc_X11_hasBraid l D q vl u hU.1 K r0 x1 hr0 z z1 v2 hcq) (cwV 1 hts (tw_gV wC_good xq_808 xq_809 xq_810 xq_773 xq_802) rfl rfl rfl cdd_X11_hasBraid ⟨(Nat.le_of_ble_eq_true rfl), (Nat.le_of_ble_eq_true rfl)⟩) (cw_preV hK hM (co_X11 hr0) rfl) rfl rfl hl.1 rfl (lv_room (Nat.le_of_ble_eq_true rfl)) dcX11_equal_2 ⟨(Nat.le_of_ble_eq_true rfl), (Nat.le_of_ble_eq_true rfl)⟩) (fun H locs hM => ?_)
  refine lv_if_eq (tgt := 31) hx hb dcX11_equal_5 (by decide) (fun hc => ?_) (fun hc => ?_)
  · have hq := tw_it hq hc
    refine lv_iconst (v := 0) hx hb dcX11_equal_31 (by decide) ?_
    obtain ⟨hz, hq⟩ := tw_gZ hq
    exact cw_zret hx hb hr hlocks hM hz hq hQQ dcX11_equal_32
  · have hq := tw_if hq hc
    refine lv_aload_n hx hb dcX11_equal_8 rfl (lv_at hl 0 rfl) ?_
    refine lv_iload_n hx hb dcX11_equal_9 rfl (lv_at hl 2 rfl) ?_
    obtain ⟨v4, z3, hcq, hq⟩ := tw_cl1 hq
    refine uw_cali hU hM (va_runV (As := [.int x2]) (rest := []) ⟨hx, hb, hml, hown, hts⟩ (kc_X11_hasBraid l D q vl u hU.1 K r0 x2 hr0 z1 z3 v4 hcq) (cwV 1 hts (tw_gV wC_good xq_808 xq_809 xq_810 xq_773 xq_802) rfl rfl rfl cdd_X11_hasBraid ⟨(Nat.le_of_ble_eq_true rfl), (Nat.le_of_ble_eq_true rfl)⟩) (cw_preV hK hM (co_X11 hr0) rfl) rfl rfl hl.1 rfl (lv_room (Nat.le_of_ble_eq_true rfl)) dcX11_equal_10 ⟨(Nat.le_of_ble_eq_true rfl), (Nat.le_of_ble_eq_true rfl)⟩) (fun H locs hM => ?_)
    refine lv_if_eq (tgt := 31) hx hb dcX11_equal_13 (by decide) (fun hc => ?_) (fun hc => ?_)
    · have hq := tw_it hq hc
      refine lv_iconst (v := 0) hx hb dcX11_equal_31 (by decide) ?_
      obtain ⟨hz, hq⟩ := tw_gZ hq
      exact cw_zret hx hb hr hlocks hM hz hq hQQ dcX11_equal_32
    · have hq := tw_if hq hc
      refine lv_aload_n hx hb dcX11_equal_16 rfl (lv_at hl 0 rfl) ?_
      refine vgX11_91 hx hb hT hown hK hM hr0 dcX11_equal_17 ?_
      refine lv_iload_n hx hb dcX11_equal_20 rfl (lv_at hl 1 rfl) ?_
      refine uw_iald cX_ok hx hb hK hM (cr_X11_14 hr0) hq dcX11_equal_21 (fun v5 hq => ?_)
      refine lv_aload_n hx hb dcX11_equal_22 rfl (lv_at hl 0 rfl) ?_
      refine vgX11_91 hx hb hT hown hK hM hr0 dcX11_equal_23 ?_
      refine lv_iload_n hx hb dcX11_equal_26 rfl (lv_at hl 2 rfl) ?_
      refine uw_iald cX_ok hx hb hK hM (cr_X11_14 hr0) hq dcX11_equal_27 (fun v6 hq => ?_)
      refine lv_icmp_eq (tgt := 33) hx hb dcX11_equal_28 (by decide) (fun hc => ?_) (fun hc => ?_)
      · have hq := tw_it hq hc
        refine lv_aload_n hx hb dcX11_equal_33 rfl (lv_at hl 0 rfl) ?_
        refine lv_aload_n hx hb dcX11_equal_34 rfl (lv_at hl 0 rfl) ?_
        refine vgX11_97 hx hb hT hown hK hM hr0 dcX11_equal_35 ?_
        refine lv_iload_n hx hb dcX11_equal_38 rfl (lv_at hl 1 rfl) ?_
        obtain ⟨z7, hcq, hq⟩ := tw_cl0 hq
        refine uw_calv hU hM (va_runV (As := [.ref (u (r0 + 46000)), .int x1]) (rest := []) ⟨hx, hb, hml, hown, hts⟩ (kc_X11_write l D q vl u hU.1 K r0 (r0 + 46000) x1 hr0 (cs_X11_15 hr0) z3 z7 hcq) (cwV 2 hts (tw_gV wC_good xq_964 xq_965 xq_966 xq_773 xq_960) rfl rfl rfl cdd_X11_write ⟨(Nat.le_of_ble_eq_true rfl), (Nat.le_of_ble_eq_true rfl)⟩) (cw_preV hK hM (co_X11 hr0) rfl) rfl rfl hl.1 rfl (lv_room (Nat.le_of_ble_eq_true rfl)) dcX11_equal_39 ⟨(Nat.le_of_ble_eq_true rfl), (Nat.le_of_ble_eq_true rfl)⟩) (fun H locs hM => ?_)
        refine lv_aload_n hx hb dcX11_equal_42 rfl (lv_at hl 0 rfl) ?_
        refine lv_aload_n hx hb dcX11_equal_43 rfl (lv_at hl 0 rfl) ?_
        refine vgX11_101 hx hb hT hown hK hM hr0 dcX11_equal_44 ?_
        refine lv_iload_n hx hb dcX11_equal_47 rfl (lv_at hl 2 rfl) ?_
        obtain ⟨z8, hcq, hq⟩ := tw_cl0 hq
        refine uw_calv hU hM (va_runV (As := [.ref (u (r0 + 47000)), .int x2]) (rest := []) ⟨hx, hb, hml, hown, hts⟩ (kc_X11_write l D q vl u hU.1 K r0 (r0 + 47000) x2 hr0 (cs_X11_16 hr0) z7 z8 hcq) (cwV 2 hts (tw_gV wC_good xq_964 xq_965 xq_966 xq_773 xq_960) rfl rfl rfl cdd_X11_write ⟨(Nat.le_of_ble_eq_true rfl), (Nat.le_of_ble_eq_true rfl)⟩) (cw_preV hK hM (co_X11 hr0) rfl) rfl rfl hl.1 rfl (lv_room (Nat.le_of_ble_eq_true rfl)) dcX11_equal_48 ⟨(Nat.le_of_ble_eq_true rfl), (Nat.le_of_ble_eq_true rfl)⟩) (fun H locs hM => ?_)
        refine lv_aload_n hx hb dcX11_equal_51 rfl (lv_at hl 0 rfl) ?_
        refine vgX11_97 hx hb hT hown hK hM hr0 dcX11_equal_52 ?_
        refine lv_aload_n hx hb dcX11_equal_55 rfl (lv_at hl 0 rfl) ?_
        refine vgX11_101 hx hb hT hown hK hM hr0 dcX11_equal_56 ?_
        obtain ⟨v10, z9, hcq, hq⟩ := tw_cl1 hq
        refine uw_cali hU hM (va_runV (As := [.ref (u (r0 + 47000))]) (rest := []) ⟨hx, hb, hml, hown, hts⟩ (kc_X5_sameAs l D q vl u hU.1 K (r0 + 46000) (r0 + 47000) (cs_X11_15 hr0) (cs_X11_16 hr0) z8 z9 v10 hcq) (cwV 1 hts (tw_gV wC_good xq_972 xq_973 xq_974 xq_403 xq_430) rfl rfl rfl cdd_X5_sameAs ⟨(Nat.le_of_ble_eq_true rfl), (Nat.le_of_ble_eq_true rfl)⟩) (cw_preV hK hM (co_X5 (cs_X11_15 hr0)) rfl) rfl rfl hl.1 rfl (lv_room (Nat.le_of_ble_eq_true rfl)) dcX11_equal_59 ⟨(Nat.le_of_ble_eq_true rfl), (Nat.le_of_ble_eq_true rfl)⟩) (fun H locs hM => ?_)
        obtain ⟨hz, hq⟩ := tw_gZ hq
        exact cw_zret hx hb hr hlocks hM hz hq hQQ dcX11_equal_62
      · have hq := tw_if hq hc
        refine lv_iconst (v := 0) hx hb dcX11_equal_31 (by decide) ?_
        obtain ⟨hz, hq⟩ := tw_gZ hq
        exact cw_zret hx hb hr hlocks hM hz hq hQQ dcX11_equal_32
