theorem dX11_hasDiagram_0 : decode cX11_hasDiagram 0 = .ok (.iload_n 1, 1) := by decide +kernel
theorem dX11_hasDiagram_1 : decode cX11_hasDiagram 1 = .ok (.ifCond .lt 25, 3) := by decide +kernel
theorem dX11_hasDiagram_4 : decode cX11_hasDiagram 4 = .ok (.iload_n 1, 1) := by decide +kernel
theorem dX11_hasDiagram_5 : decode cX11_hasDiagram 5 = .ok (.bipush 40, 2) := by decide +kernel
theorem dX11_hasDiagram_7 : decode cX11_hasDiagram 7 = .ok (.if_icmp .ge 19, 3) := by decide +kernel
theorem dX11_hasDiagram_10 : decode cX11_hasDiagram 10 = .ok (.aload_n 0, 1) := by decide +kernel
theorem dX11_hasDiagram_11 : decode cX11_hasDiagram 11 = .ok (.getfield 14, 3) := by decide +kernel
theorem dX11_hasDiagram_14 : decode cX11_hasDiagram 14 = .ok (.getfield 158, 3) := by decide +kernel
theorem dX11_hasDiagram_17 : decode cX11_hasDiagram 17 = .ok (.iload_n 1, 1) := by decide +kernel
theorem dX11_hasDiagram_18 : decode cX11_hasDiagram 18 = .ok (.baload, 1) := by decide +kernel
theorem dX11_hasDiagram_19 : decode cX11_hasDiagram 19 = .ok (.ifCond .le 7, 3) := by decide +kernel
theorem dX11_hasDiagram_22 : decode cX11_hasDiagram 22 = .ok (.iconst 1, 1) := by decide +kernel
theorem dX11_hasDiagram_23 : decode cX11_hasDiagram 23 = .ok (.goto 4, 3) := by decide +kernel
theorem dX11_hasDiagram_26 : decode cX11_hasDiagram 26 = .ok (.iconst 0, 1) := by decide +kernel
theorem dX11_hasDiagram_27 : decode cX11_hasDiagram 27 = .ok (.ireturn, 1) := by decide +kernel
def wf_hasDiagram : List Cond := .code yX11_hasDiagram cX11_hasDiagram 2 (some .boolean) :: ([.fieldLink RX11 14 "KnotHouse" "diagrams" "LKnotHouse$Codes;", .fieldLink RX11 158 "KnotHouse$Codes" "lengths" "[B"] ++ wsX110 ++ wsX30)
set_option maxHeartbeats 4000000 in
set_option maxRecDepth 100000 in
theorem kf_X11_hasDiagram (l : Launch) (dC : Nat → ClassId) (dI : Nat → Nat → Nat) (cI cB cJ cZ : ClassId) (h0 : Nat) (u : Nat → Nat) (d : Int32) : Met l yX11_hasDiagram wf_hasDiagram (({ frames := 0, cells := 0, slots := 0, locals := 0 } : Room)) (va_Pc [.ref h0, .int d] (fun U => va_P (dC, dI) vwCl [(h0, .inr (14, [.ref (u 0), .ref (u 1), .ref (u 2), .ref (u 3), .ref (u 4), .ref (u 5), .ref (u 6), .ref (u 7), .ref (u 8), .ref (u 9), .ref (u 10), .ref (u 11), .ref (u 12), .ref (u 13), .ref (u 14), .ref (u 15), .ref (u 16), .ref (u 17), .ref (u 18)])), ((u 0), .inr (6, [.ref (u 19), .ref (u 20), .ref (u 21), .ref (u 22), .int 0])), ((u 20), .inl (cB, 40, .inl (fun _ => 0)))] U.heap ∧ va_K (dC, dI) vwCl [(cI, .int), (cB, .byte), (cJ, .long), (cZ, .boolean)] U)) (va_Qi (fun r (_ : Unit) => r = 0) (fun _ _ => True) (fun _ => False)) 0 0 (fun _ => False) := by
  refine Met.ofW (cc := cX11_hasDiagram) (maxL := 2) (ret := (some .boolean)) (by decide) rfl ?_
  intro p e s m args below meth c s₁ B hml hv
  obtain ⟨rfl, hP, hK⟩ := hv
  have hx := B.exec
  have hb := B.bytes
  have hr := B.returns
  have hts := atoms_spec (ws := wf_hasDiagram) B.pre
  have hown : s.vm.findClass RX11 = some m.cls := findClass_of_methodNamed B.named
  have hlocks := B.notSynchronized
  have hS : va_S (fun _ => False) s.heap s.heap [] := va_S.rf
  have hP : va_P (dC, dI) vwCl [(h0, .inr (14, [.ref (u 0), .ref (u 1), .ref (u 2), .ref (u 3), .ref (u 4), .ref (u 5), .ref (u 6), .ref (u 7), .ref (u 8), .ref (u 9), .ref (u 10), .ref (u 11), .ref (u 12), .ref (u 13), .ref (u 14), .ref (u 15), .ref (u 16), .ref (u 17), .ref (u 18)])), ((u 0), .inr (6, [.ref (u 19), .ref (u 20), .ref (u 21), .ref (u 22), .int 0])), ((u 20), .inl (cB, 40, .inl (fun _ => 0)))] s.heap := hP
  have hl := lv_entry ([.ref h0, .int d]) (n := 2) (Nat.le_of_ble_eq_true rfl)
  rw [lg_entry_eq]
  generalize (lg_sl ([.ref h0, .int d]) ++ List.replicate (2 - (lg_sl ([.ref h0, .int d])).length) Slot.unset).toArray = ls at hl ⊢
  have hl : lv_has ls 2 [(0, .ref h0), (1, .int d)] := hl
  refine ow_named (fun QQ hQQ => ?_)
  refine lv_iload_n hx hb dX11_hasDiagram_0 rfl (lv_at hl 1 rfl) ?_
  refine lv_if_lt (tgt := 26) hx hb dX11_hasDiagram_1 (by decide) (fun c1 => ?_) (fun c1 => ?_)
  · refine lv_iconst (v := 0) hx hb dX11_hasDiagram_26 (by decide) ?_
    rw [hQQ]
    exact W.zret (v := 0) (ty := .boolean) hx hb hr rfl (fun t ht hW => ⟨⟨0, (), rfl, rfl, trivial⟩, hS.F ht⟩) hS.2.2 dX11_hasDiagram_27
  · refine lv_iload_n hx hb dX11_hasDiagram_4 rfl (lv_at hl 1 rfl) ?_
    refine lv_bipush (v := 40) hx hb dX11_hasDiagram_5 (by decide) ?_
    refine lv_icmp_ge (tgt := 26) hx hb dX11_hasDiagram_7 (by decide) (fun c2 => ?_) (fun c2 => ?_)
    · refine lv_iconst (v := 0) hx hb dX11_hasDiagram_26 (by decide) ?_
      rw [hQQ]
      exact W.zret (v := 0) (ty := .boolean) hx hb hr rfl (fun t ht hW => ⟨⟨0, (), rfl, rfl, trivial⟩, hS.F ht⟩) hS.2.2 dX11_hasDiagram_27
    · have hin : vp_in d 40 := by
        refine vp_in_iff.mpr ⟨?_, ?_⟩
        · have h9 := Int32.not_lt.mp c1
          exact Int32.le_iff_toInt_le.mp h9
        · have h9 := Int32.not_le.mp c2
          exact Int32.lt_iff_toInt_lt.mp h9
      refine lv_aload_n hx hb dX11_hasDiagram_10 rfl (lv_at hl 0 rfl) ?_
      refine va_get (D := (dC, dI)) (ci := 14) (v := .ref (u 0)) (C := RX11) (T := TX11) (N := 19) hx hb hts (by decide +kernel) hown hK hP 0 rfl rfl 0 (by decide) (hts (.fieldLink RX11 14 "KnotHouse" "diagrams" "LKnotHouse$Codes;") (by decide +kernel)) (fun _ h9 => h9) rfl dX11_hasDiagram_11 ?_
      refine va_get (D := (dC, dI)) (ci := 6) (v := .ref (u 20)) (C := RX3) (T := TX3) (N := 5) hx hb hts (by decide +kernel) hown hK hP 1 rfl rfl 1 (by decide) (hts (.fieldLink RX11 158 "KnotHouse$Codes" "lengths" "[B") (by decide +kernel)) (fun _ h9 => h9) rfl dX11_hasDiagram_14 ?_
      refine lv_iload_n hx hb dX11_hasDiagram_17 rfl (lv_at hl 1 rfl) ?_
      refine va_bald hx hb hK hP 2 1 rfl rfl (hin) dX11_hasDiagram_18 ?_
      refine ow_topi (y := 0) (rfl) ?_
      refine lv_if_le (tgt := 26) hx hb dX11_hasDiagram_19 (by decide) (fun _ => ?_) (fun c9 => absurd (by decide) c9)
      refine lv_iconst (v := 0) hx hb dX11_hasDiagram_26 (by decide) ?_
      rw [hQQ]
      exact W.zret (v := 0) (ty := .boolean) hx hb hr rfl (fun t ht hW => ⟨⟨0, (), rfl, rfl, trivial⟩, hS.F ht⟩) hS.2.2 dX11_hasDiagram_27
theorem dX11_hasBraid_0 : decode cX11_hasBraid 0 = .ok (.iload_n 1, 1) := by decide +kernel
theorem dX11_hasBraid_1 : decode cX11_hasBraid 1 = .ok (.ifCond .lt 22, 3) := by decide +kernel
theorem dX11_hasBraid_4 : decode cX11_hasBraid 4 = .ok (.iload_n 1, 1) := by decide +kernel
theorem dX11_hasBraid_5 : decode cX11_hasBraid 5 = .ok (.bipush 20, 2) := by decide +kernel
theorem dX11_hasBraid_7 : decode cX11_hasBraid 7 = .ok (.if_icmp .ge 16, 3) := by decide +kernel
theorem dX11_hasBraid_10 : decode cX11_hasBraid 10 = .ok (.aload_n 0, 1) := by decide +kernel
theorem dX11_hasBraid_11 : decode cX11_hasBraid 11 = .ok (.getfield 91, 3) := by decide +kernel
theorem dX11_hasBraid_14 : decode cX11_hasBraid 14 = .ok (.iload_n 1, 1) := by decide +kernel
theorem dX11_hasBraid_15 : decode cX11_hasBraid 15 = .ok (.iaload, 1) := by decide +kernel
theorem dX11_hasBraid_16 : decode cX11_hasBraid 16 = .ok (.ifCond .le 7, 3) := by decide +kernel
theorem dX11_hasBraid_19 : decode cX11_hasBraid 19 = .ok (.iconst 1, 1) := by decide +kernel
theorem dX11_hasBraid_20 : decode cX11_hasBraid 20 = .ok (.goto 4, 3) := by decide +kernel
theorem dX11_hasBraid_23 : decode cX11_hasBraid 23 = .ok (.iconst 0, 1) := by decide +kernel
theorem dX11_hasBraid_24 : decode cX11_hasBraid 24 = .ok (.ireturn, 1) := by decide +kernel
def wf_hasBraid : List Cond := .code yX11_hasBraid cX11_hasBraid 2 (some .boolean) :: ([.fieldLink RX11 91 "KnotHouse" "strands" "[I"] ++ wsX110)
set_option maxHeartbeats 4000000 in
set_option maxRecDepth 100000 in
theorem kf_X11_hasBraid (l : Launch) (dC : Nat → ClassId) (dI : Nat → Nat → Nat) (cI cB cJ cZ : ClassId) (h0 : Nat) (u : Nat → Nat) (d : Int32) : Met l yX11_hasBraid wf_hasBraid (({ frames := 0, cells := 0, slots := 0, locals := 0 } : Room)) (va_Pc [.ref h0, .int d] (fun U => va_P (dC, dI) vwCl [(h0, .inr (14, [.ref (u 0), .ref (u 1), .ref (u 2), .ref (u 3), .ref (u 4), .ref (u 5), .ref (u 6), .ref (u 7), .ref (u 8), .ref (u 9), .ref (u 10), .ref (u 11), .ref (u 12), .ref (u 13), .ref (u 14), .ref (u 15), .ref (u 16), .ref (u 17), .ref (u 18)])), ((u 14), .inl (cI, 20, .inl (fun _ => 0)))] U.heap ∧ va_K (dC, dI) vwCl [(cI, .int), (cB, .byte), (cJ, .long), (cZ, .boolean)] U)) (va_Qi (fun r (_ : Unit) => r = 0) (fun _ _ => True) (fun _ => False)) 0 0 (fun _ => False) := by
  refine Met.ofW (cc := cX11_hasBraid) (maxL := 2) (ret := (some .boolean)) (by decide) rfl ?_
  intro p e s m args below meth c s₁ B hml hv
  obtain ⟨rfl, hP, hK⟩ := hv
  have hx := B.exec
  have hb := B.bytes
  have hr := B.returns
  have hts := atoms_spec (ws := wf_hasBraid) B.pre
  have hown : s.vm.findClass RX11 = some m.cls := findClass_of_methodNamed B.named
  have hlocks := B.notSynchronized
  have hS : va_S (fun _ => False) s.heap s.heap [] := va_S.rf
  have hP : va_P (dC, dI) vwCl [(h0, .inr (14, [.ref (u 0), .ref (u 1), .ref (u 2), .ref (u 3), .ref (u 4), .ref (u 5), .ref (u 6), .ref (u 7), .ref (u 8), .ref (u 9), .ref (u 10), .ref (u 11), .ref (u 12), .ref (u 13), .ref (u 14), .ref (u 15), .ref (u 16), .ref (u 17), .ref (u 18)])), ((u 14), .inl (cI, 20, .inl (fun _ => 0)))] s.heap := hP
  have hl := lv_entry ([.ref h0, .int d]) (n := 2) (Nat.le_of_ble_eq_true rfl)
  rw [lg_entry_eq]
  generalize (lg_sl ([.ref h0, .int d]) ++ List.replicate (2 - (lg_sl ([.ref h0, .int d])).length) Slot.unset).toArray = ls at hl ⊢
  have hl : lv_has ls 2 [(0, .ref h0), (1, .int d)] := hl
  refine ow_named (fun QQ hQQ => ?_)
  refine lv_iload_n hx hb dX11_hasBraid_0 rfl (lv_at hl 1 rfl) ?_
  refine lv_if_lt (tgt := 23) hx hb dX11_hasBraid_1 (by decide) (fun c1 => ?_) (fun c1 => ?_)
  · refine lv_iconst (v := 0) hx hb dX11_hasBraid_23 (by decide) ?_
    rw [hQQ]
    exact W.zret (v := 0) (ty := .boolean) hx hb hr rfl (fun t ht hW => ⟨⟨0, (), rfl, rfl, trivial⟩, hS.F ht⟩) hS.2.2 dX11_hasBraid_24
  · refine lv_iload_n hx hb dX11_hasBraid_4 rfl (lv_at hl 1 rfl) ?_
    refine lv_bipush (v := 20) hx hb dX11_hasBraid_5 (by decide) ?_
    refine lv_icmp_ge (tgt := 23) hx hb dX11_hasBraid_7 (by decide) (fun c2 => ?_) (fun c2 => ?_)
    · refine lv_iconst (v := 0) hx hb dX11_hasBraid_23 (by decide) ?_
      rw [hQQ]
      exact W.zret (v := 0) (ty := .boolean) hx hb hr rfl (fun t ht hW => ⟨⟨0, (), rfl, rfl, trivial⟩, hS.F ht⟩) hS.2.2 dX11_hasBraid_24
    · have hin : vp_in d 20 := by
        refine vp_in_iff.mpr ⟨?_, ?_⟩
        · have h9 := Int32.not_lt.mp c1
          exact Int32.le_iff_toInt_le.mp h9
        · have h9 := Int32.not_le.mp c2
          exact Int32.lt_iff_toInt_lt.mp h9
      refine lv_aload_n hx hb dX11_hasBraid_10 rfl (lv_at hl 0 rfl) ?_
      refine va_get (D := (dC, dI)) (ci := 14) (v := .ref (u 14)) (C := RX11) (T := TX11) (N := 19) hx hb hts (by decide +kernel) hown hK hP 0 rfl rfl 14 (by decide) (hts (.fieldLink RX11 91 "KnotHouse" "strands" "[I") (by decide +kernel)) (fun _ h9 => h9) rfl dX11_hasBraid_11 ?_
      refine lv_iload_n hx hb dX11_hasBraid_14 rfl (lv_at hl 1 rfl) ?_
      refine va_iald hx hb hK hP 1 0 rfl rfl (hin) dX11_hasBraid_15 ?_
      refine ow_topi (y := 0) (rfl) ?_
      refine lv_if_le (tgt := 23) hx hb dX11_hasBraid_16 (by decide) (fun _ => ?_) (fun c9 => absurd (by decide) c9)
      refine lv_iconst (v := 0) hx hb dX11_hasBraid_23 (by decide) ?_
      rw [hQQ]
      exact W.zret (v := 0) (ty := .boolean) hx hb hr rfl (fun t ht hW => ⟨⟨0, (), rfl, rfl, trivial⟩, hS.F ht⟩) hS.2.2 dX11_hasBraid_24
