theorem dX2_collectParts_0 : decode cX2_collectParts 0 = .ok (.aload_n 1, 1) := by decide +kernel
theorem dX2_collectParts_1 : decode cX2_collectParts 1 = .ok (.invokevirtual 70, 3) := by decide +kernel
theorem dX2_collectParts_4 : decode cX2_collectParts 4 = .ok (.aload_n 2, 1) := by decide +kernel
theorem dX2_collectParts_5 : decode cX2_collectParts 5 = .ok (.iconst 0, 1) := by decide +kernel
theorem dX2_collectParts_6 : decode cX2_collectParts 6 = .ok (.putfield 41, 3) := by decide +kernel
theorem dX2_collectParts_9 : decode cX2_collectParts 9 = .ok (.iconst 0, 1) := by decide +kernel
theorem dX2_collectParts_10 : decode cX2_collectParts 10 = .ok (.istore_n 3, 1) := by decide +kernel
theorem dX2_collectParts_11 : decode cX2_collectParts 11 = .ok (.iload_n 3, 1) := by decide +kernel
theorem dX2_collectParts_12 : decode cX2_collectParts 12 = .ok (.aload_n 1, 1) := by decide +kernel
theorem dX2_collectParts_13 : decode cX2_collectParts 13 = .ok (.getfield 73, 3) := by decide +kernel
theorem dX2_collectParts_16 : decode cX2_collectParts 16 = .ok (.if_icmp .ge 24, 3) := by decide +kernel
theorem dX2_collectParts_40 : decode cX2_collectParts 40 = .ok (.return_, 1) := by decide +kernel
def wf_collectParts : List Cond := .code yX2_collectParts cX2_collectParts 4 none :: ([.fieldLink RX2 41 "KnotHouse$Codes" "size" "I", .fieldLink RX2 73 "KnotHouse$Net" "parts" "I"] ++ wsX70 ++ wsX30 ++ wsV RX2 70 RX7 yX7_markParts wf_markParts)
theorem gf_X2_collectParts_a : GoodIn wf_collectParts (wsV RX2 70 RX7 yX7_markParts wf_markParts) := goodIn_sub (by decide +kernel) (by decide +kernel)
set_option maxHeartbeats 4000000 in
set_option maxRecDepth 100000 in
theorem kf_X2_collectParts (l : Launch) (dC : Nat → ClassId) (dI : Nat → Nat → Nat) (cI cB cJ cZ : ClassId) (u : Nat → Nat) (sz : Nat) : Met l yX2_collectParts wf_collectParts (({ frames := 3, cells := 0, slots := 0, locals := 72 } : Room)) (va_Pc [.ref (u 6), .ref (u 3), .ref (u 47)] (fun U => U.heap.size = sz ∧ va_P (dC, dI) vwCl [((u 3), .inr (10, [.ref (u 31), .ref (u 32), .ref (u 33), .ref (u 34), .ref (u 35), .ref (u 36), .ref (u 37), .int 0, .int 1, .int 0, .int 0])), ((u 36), .inl (cI, 24, .inl (fun _ => 0))), ((u 47), .inr (6, [.ref (u 59), .ref (u 60), .ref (u 61), .ref (u 62), .int 0]))] U.heap ∧ va_K (dC, dI) vwCl [(cI, .int), (cB, .byte), (cJ, .long), (cZ, .boolean)] U ∧ va_D (fun _ => True) [((u 3), .inr (10, [.ref (u 31), .ref (u 32), .ref (u 33), .ref (u 34), .ref (u 35), .ref (u 36), .ref (u 37), .int 0, .int 1, .int 0, .int 0])), ((u 36), .inl (cI, 24, .inl (fun _ => 0))), ((u 47), .inr (6, [.ref (u 59), .ref (u 60), .ref (u 61), .ref (u 62), .int 0]))])) (va_Qv (fun _ : Unit => True) (fun _ t => va_P (dC, dI) vwCl [((u 3), .inr (10, [.ref (u 31), .ref (u 32), .ref (u 33), .ref (u 34), .ref (u 35), .ref (u 36), .ref (u 37), .int 0, .int 1, .int 0, .int 0])), ((u 36), .inl (cI, 24, .inl (fun _ => 0))), ((u 47), .inr (6, [.ref (u 59), .ref (u 60), .ref (u 61), .ref (u 62), .int 0]))] t.heap ∧ va_D (va_A [((u 3), .inr (10, [.ref (u 31), .ref (u 32), .ref (u 33), .ref (u 34), .ref (u 35), .ref (u 36), .ref (u 37), .int 0, .int 1, .int 0, .int 0])), ((u 36), .inl (cI, 24, .inl (fun _ => 0))), ((u 47), .inr (6, [.ref (u 59), .ref (u 60), .ref (u 61), .ref (u 62), .int 0]))] sz) [((u 3), .inr (10, [.ref (u 31), .ref (u 32), .ref (u 33), .ref (u 34), .ref (u 35), .ref (u 36), .ref (u 37), .int 0, .int 1, .int 0, .int 0])), ((u 36), .inl (cI, 24, .inl (fun _ => 0))), ((u 47), .inr (6, [.ref (u 59), .ref (u 60), .ref (u 61), .ref (u 62), .int 0]))]) (va_A [((u 3), .inr (10, [.ref (u 31), .ref (u 32), .ref (u 33), .ref (u 34), .ref (u 35), .ref (u 36), .ref (u 37), .int 0, .int 1, .int 0, .int 0])), ((u 36), .inl (cI, 24, .inl (fun _ => 0))), ((u 47), .inr (6, [.ref (u 59), .ref (u 60), .ref (u 61), .ref (u 62), .int 0]))] sz)) 0 0 (va_A [((u 3), .inr (10, [.ref (u 31), .ref (u 32), .ref (u 33), .ref (u 34), .ref (u 35), .ref (u 36), .ref (u 37), .int 0, .int 1, .int 0, .int 0])), ((u 36), .inl (cI, 24, .inl (fun _ => 0))), ((u 47), .inr (6, [.ref (u 59), .ref (u 60), .ref (u 61), .ref (u 62), .int 0]))] sz) := by
  refine Met.ofW (cc := cX2_collectParts) (maxL := 4) (ret := none) (by decide) rfl ?_
  intro p e s m args below meth c s₁ B hml hv
  obtain ⟨rfl, hsz, hP, hK, hD0⟩ := hv
  have hx := B.exec
  have hb := B.bytes
  have hr := B.returns
  have hts := atoms_spec (ws := wf_collectParts) B.pre
  have hown : s.vm.findClass RX2 = some m.cls := findClass_of_methodNamed B.named
  have hlocks := B.notSynchronized
  subst hsz
  have hD := hD0.self (sz := s.heap.size)
  generalize hAe : va_A [((u 3), .inr (10, [.ref (u 31), .ref (u 32), .ref (u 33), .ref (u 34), .ref (u 35), .ref (u 36), .ref (u 37), .int 0, .int 1, .int 0, .int 0])), ((u 36), .inl (cI, 24, .inl (fun _ => 0))), ((u 47), .inr (6, [.ref (u 59), .ref (u 60), .ref (u 61), .ref (u 62), .int 0]))] s.heap.size = A at hD ⊢
  have hA : ∀ q : Nat, s.heap.size ≤ q → A q := fun q h => by rw [← hAe]; exact Or.inr h
  have hS : va_S A s.heap s.heap [] := va_S.rf
  have hP : va_P (dC, dI) vwCl [((u 3), .inr (10, [.ref (u 31), .ref (u 32), .ref (u 33), .ref (u 34), .ref (u 35), .ref (u 36), .ref (u 37), .int 0, .int 1, .int 0, .int 0])), ((u 36), .inl (cI, 24, .inl (fun _ => 0))), ((u 47), .inr (6, [.ref (u 59), .ref (u 60), .ref (u 61), .ref (u 62), .int 0]))] s.heap := hP
  have hl := lv_entry ([.ref (u 6), .ref (u 3), .ref (u 47)]) (n := 4) (Nat.le_of_ble_eq_true rfl)
  rw [lg_entry_eq]
  generalize (lg_sl ([.ref (u 6), .ref (u 3), .ref (u 47)]) ++ List.replicate (4 - (lg_sl ([.ref (u 6), .ref (u 3), .ref (u 47)])).length) Slot.unset).toArray = ls at hl ⊢
  have hl : lv_has ls 4 [(0, .ref (u 6)), (1, .ref (u 3)), (2, .ref (u 47))] := hl
  refine ow_named (fun QQ hQQ => ?_)
  refine lv_aload_n hx hb dX2_collectParts_0 rfl (lv_at hl 1 rfl) ?_
  have hPc := hP.sub (ws' := [((u 3), .inr (10, [.ref (u 31), .ref (u 32), .ref (u 33), .ref (u 34), .ref (u 35), .ref (u 36), .ref (u 37), .int 0, .int 1, .int 0, .int 0])), ((u 36), .inl (cI, 24, .inl (fun _ => 0)))]) [0, 1] rfl
  have hDc := hD.sub (ws' := [((u 3), .inr (10, [.ref (u 31), .ref (u 32), .ref (u 33), .ref (u 34), .ref (u 35), .ref (u 36), .ref (u 37), .int 0, .int 1, .int 0, .int 0])), ((u 36), .inl (cI, 24, .inl (fun _ => 0)))]) [0, 1] (by decide) rfl
  have hFc := va_free (wc := [((u 3), .inr (10, [.ref (u 31), .ref (u 32), .ref (u 33), .ref (u 34), .ref (u 35), .ref (u 36), .ref (u 37), .int 0, .int 1, .int 0, .int 0])), ((u 36), .inl (cI, 24, .inl (fun _ => 0)))]) hD hS hA [0, 1] rfl
  refine va_callv (va_runV (As := []) (rest := []) ⟨hx, hb, hml, hown, hts⟩ (kf_X7_markParts l dC dI cI cB cJ cZ u s.heap.size) (cwV 0 hts gf_X2_collectParts_a rfl rfl rfl (by decide +kernel) ⟨(Nat.le_of_ble_eq_true rfl), (Nat.le_of_ble_eq_true rfl)⟩) ⟨fun a U g mk q => by obtain ⟨q0, q1, qP, qK, qD⟩ := q; exact ⟨q0, q1, qP, va_K.moved (u := U) (U := U.calling g mk a) (Vm.Alike.refl U.vm) qK, qD⟩, va_recv hK hPc (ci := 10) (q0 := 0) rfl rfl, fun U hU hW => ⟨rfl, by rw [hU], by rw [hU]; exact hPc, va_K.moved hW.alike hK, hDc.weaken (fun _ _ _ _ => trivial)⟩⟩ rfl rfl hl.1 rfl (lv_room (Nat.le_of_ble_eq_true rfl)) dX2_collectParts_1 ⟨(Nat.le_of_ble_eq_true rfl), (Nat.le_of_ble_eq_true rfl)⟩) hS (fun q _ h => hFc q h) hFc (fun u9 t H1 locs ht hvm hw hB hz1 hk1 hS => ?_)
  obtain ⟨hP1, hD1⟩ := hB
  rw [ht] at hP1
  obtain ⟨hP, hD⟩ := va_join (wr := [((u 47), .inr (6, [.ref (u 59), .ref (u 60), .ref (u 61), .ref (u 62), .int 0]))]) (w1 := [((u 3), .inr (10, [.ref (u 31), .ref (u 32), .ref (u 33), .ref (u 34), .ref (u 35), .ref (u 36), .ref (u 37), .int 0, .int 1, .int 0, .int 0])), ((u 36), .inl (cI, 24, .inl (fun _ => 0)))]) hP hD [0, 1] [2] rfl rfl (by decide) (by decide) hk1 hFc hP1 hD1
  generalize H1 = H at hP hS ⊢
  have hP : va_P (dC, dI) vwCl [((u 47), .inr (6, [.ref (u 59), .ref (u 60), .ref (u 61), .ref (u 62), .int 0])), ((u 3), .inr (10, [.ref (u 31), .ref (u 32), .ref (u 33), .ref (u 34), .ref (u 35), .ref (u 36), .ref (u 37), .int 0, .int 1, .int 0, .int 0])), ((u 36), .inl (cI, 24, .inl (fun _ => 0)))] H := hP
  have hD : va_D A [((u 47), .inr (6, [.ref (u 59), .ref (u 60), .ref (u 61), .ref (u 62), .int 0])), ((u 3), .inr (10, [.ref (u 31), .ref (u 32), .ref (u 33), .ref (u 34), .ref (u 35), .ref (u 36), .ref (u 37), .int 0, .int 1, .int 0, .int 0])), ((u 36), .inl (cI, 24, .inl (fun _ => 0)))] := hD
  refine lv_aload_n hx hb dX2_collectParts_4 rfl (lv_at hl 2 rfl) ?_
  refine lv_iconst (v := 0) hx hb dX2_collectParts_5 (by decide) ?_
  refine va_put (D := (dC, dI)) (ci := 6) (v := .int 0) (ty := .int) (C := RX3) (T := TX3) (N := 5) hx hb hts (by decide +kernel) tyX3 tyX3_ok nmX3 hown hK hP hD hS 0 rfl rfl 4 (by decide) (hts (.fieldLink RX2 41 "KnotHouse$Codes" "size" "I") (by decide +kernel)) (fun _ h9 => h9) rfl (by decide +kernel) rfl rfl (Nat.le_of_ble_eq_true rfl) dX2_collectParts_6 (fun H locs hP hD hS => ?_)
  have hP : va_P (dC, dI) vwCl [((u 47), .inr (6, [.ref (u 59), .ref (u 60), .ref (u 61), .ref (u 62), .int 0])), ((u 3), .inr (10, [.ref (u 31), .ref (u 32), .ref (u 33), .ref (u 34), .ref (u 35), .ref (u 36), .ref (u 37), .int 0, .int 1, .int 0, .int 0])), ((u 36), .inl (cI, 24, .inl (fun _ => 0)))] H := hP
  have hD : va_D A [((u 47), .inr (6, [.ref (u 59), .ref (u 60), .ref (u 61), .ref (u 62), .int 0])), ((u 3), .inr (10, [.ref (u 31), .ref (u 32), .ref (u 33), .ref (u 34), .ref (u 35), .ref (u 36), .ref (u 37), .int 0, .int 1, .int 0, .int 0])), ((u 36), .inl (cI, 24, .inl (fun _ => 0)))] := hD
  refine lv_iconst (v := 0) hx hb dX2_collectParts_9 (by decide) ?_
  refine lv_istore_n (lv' := [(3, .int 0), (0, .ref (u 6)), (1, .ref (u 3)), (2, .ref (u 47))]) hx hb dX2_collectParts_10 rfl hl (by decide) rfl (fun ls hl => ?_)
  refine lv_iload_n hx hb dX2_collectParts_11 rfl (lv_at hl 0 rfl) ?_
  refine lv_aload_n hx hb dX2_collectParts_12 rfl (lv_at hl 2 rfl) ?_
  refine va_get (D := (dC, dI)) (ci := 10) (v := .int 0) (C := RX7) (T := TX7) (N := 11) hx hb hts (by decide +kernel) hown hK hP 1 rfl rfl 10 (by decide) (hts (.fieldLink RX2 73 "KnotHouse$Net" "parts" "I") (by decide +kernel)) (fun _ h9 => h9) rfl dX2_collectParts_13 ?_
  refine lv_icmp_ge (tgt := 40) hx hb dX2_collectParts_16 (by decide) (fun _ => ?_) (fun c9 => absurd (by decide) c9)
  have hP := hP.sub (ws' := [((u 3), .inr (10, [.ref (u 31), .ref (u 32), .ref (u 33), .ref (u 34), .ref (u 35), .ref (u 36), .ref (u 37), .int 0, .int 1, .int 0, .int 0])), ((u 36), .inl (cI, 24, .inl (fun _ => 0))), ((u 47), .inr (6, [.ref (u 59), .ref (u 60), .ref (u 61), .ref (u 62), .int 0]))]) [1, 2, 0] rfl
  have hD := hD.sub (ws' := [((u 3), .inr (10, [.ref (u 31), .ref (u 32), .ref (u 33), .ref (u 34), .ref (u 35), .ref (u 36), .ref (u 37), .int 0, .int 1, .int 0, .int 0])), ((u 36), .inl (cI, 24, .inl (fun _ => 0))), ((u 47), .inr (6, [.ref (u 59), .ref (u 60), .ref (u 61), .ref (u 62), .int 0]))]) [1, 2, 0] (by decide) rfl
  rw [hQQ]
  exact W.vret hx hb hr (fun t ht hW => ⟨⟨(), rfl, trivial, by rw [ht]; exact hP, hD⟩, hS.F ht⟩) hS.2.2 dX2_collectParts_40
theorem dX2_encode_0 : decode cX2_encode 0 = .ok (.aload_n 0, 1) := by decide +kernel
theorem dX2_encode_1 : decode cX2_encode 1 = .ok (.aload_n 1, 1) := by decide +kernel
theorem dX2_encode_2 : decode cX2_encode 2 = .ok (.aload_n 0, 1) := by decide +kernel
theorem dX2_encode_3 : decode cX2_encode 3 = .ok (.getfield 23, 3) := by decide +kernel
theorem dX2_encode_6 : decode cX2_encode 6 = .ok (.invokevirtual 37, 3) := by decide +kernel
theorem dX2_encode_9 : decode cX2_encode 9 = .ok (.iconst 0, 1) := by decide +kernel
theorem dX2_encode_10 : decode cX2_encode 10 = .ok (.istore_n 2, 1) := by decide +kernel
theorem dX2_encode_11 : decode cX2_encode 11 = .ok (.iconst 0, 1) := by decide +kernel
theorem dX2_encode_12 : decode cX2_encode 12 = .ok (.istore_n 3, 1) := by decide +kernel
theorem dX2_encode_13 : decode cX2_encode 13 = .ok (.iload_n 3, 1) := by decide +kernel
theorem dX2_encode_14 : decode cX2_encode 14 = .ok (.aload_n 0, 1) := by decide +kernel
theorem dX2_encode_15 : decode cX2_encode 15 = .ok (.getfield 23, 3) := by decide +kernel
theorem dX2_encode_18 : decode cX2_encode 18 = .ok (.getfield 41, 3) := by decide +kernel
theorem dX2_encode_21 : decode cX2_encode 21 = .ok (.if_icmp .ge 71, 3) := by decide +kernel
theorem dX2_encode_92 : decode cX2_encode 92 = .ok (.iconst 0, 1) := by decide +kernel
theorem dX2_encode_93 : decode cX2_encode 93 = .ok (.istore_n 3, 1) := by decide +kernel
theorem dX2_encode_94 : decode cX2_encode 94 = .ok (.iload_n 3, 1) := by decide +kernel
theorem dX2_encode_95 : decode cX2_encode 95 = .ok (.aload_n 1, 1) := by decide +kernel
theorem dX2_encode_96 : decode cX2_encode 96 = .ok (.getfield 60, 3) := by decide +kernel
theorem dX2_encode_99 : decode cX2_encode 99 = .ok (.if_icmp .ge 28, 3) := by decide +kernel
theorem dX2_encode_102 : decode cX2_encode 102 = .ok (.iload_n 2, 1) := by decide +kernel
theorem dX2_encode_103 : decode cX2_encode 103 = .ok (.bipush 30, 2) := by decide +kernel
theorem dX2_encode_105 : decode cX2_encode 105 = .ok (.if_icmp .ge 22, 3) := by decide +kernel
theorem dX2_encode_108 : decode cX2_encode 108 = .ok (.aload_n 0, 1) := by decide +kernel
theorem dX2_encode_109 : decode cX2_encode 109 = .ok (.getfield 14, 3) := by decide +kernel
theorem dX2_encode_112 : decode cX2_encode 112 = .ok (.getfield 51, 3) := by decide +kernel
theorem dX2_encode_115 : decode cX2_encode 115 = .ok (.iload_n 2, 1) := by decide +kernel
theorem dX2_encode_116 : decode cX2_encode 116 = .ok (.iconst 0, 1) := by decide +kernel
theorem dX2_encode_117 : decode cX2_encode 117 = .ok (.bastore, 1) := by decide +kernel
theorem dX2_encode_118 : decode cX2_encode 118 = .ok (.iinc 2 1, 3) := by decide +kernel
theorem dX2_encode_121 : decode cX2_encode 121 = .ok (.iinc 3 1, 3) := by decide +kernel
theorem dX2_encode_124 : decode cX2_encode 124 = .ok (.goto (-30), 3) := by decide +kernel
theorem dX2_encode_127 : decode cX2_encode 127 = .ok (.aload_n 0, 1) := by decide +kernel
theorem dX2_encode_128 : decode cX2_encode 128 = .ok (.getfield 14, 3) := by decide +kernel
theorem dX2_encode_131 : decode cX2_encode 131 = .ok (.getfield 48, 3) := by decide +kernel
theorem dX2_encode_134 : decode cX2_encode 134 = .ok (.iconst 0, 1) := by decide +kernel
theorem dX2_encode_135 : decode cX2_encode 135 = .ok (.iload_n 2, 1) := by decide +kernel
theorem dX2_encode_136 : decode cX2_encode 136 = .ok (.i2b, 1) := by decide +kernel
theorem dX2_encode_137 : decode cX2_encode 137 = .ok (.bastore, 1) := by decide +kernel
theorem dX2_encode_138 : decode cX2_encode 138 = .ok (.aload_n 0, 1) := by decide +kernel
theorem dX2_encode_139 : decode cX2_encode 139 = .ok (.getfield 14, 3) := by decide +kernel
theorem dX2_encode_142 : decode cX2_encode 142 = .ok (.getfield 65, 3) := by decide +kernel
theorem dX2_encode_145 : decode cX2_encode 145 = .ok (.iconst 0, 1) := by decide +kernel
theorem dX2_encode_146 : decode cX2_encode 146 = .ok (.aload_n 1, 1) := by decide +kernel
theorem dX2_encode_147 : decode cX2_encode 147 = .ok (.getfield 68, 3) := by decide +kernel
theorem dX2_encode_150 : decode cX2_encode 150 = .ok (.i2b, 1) := by decide +kernel
theorem dX2_encode_151 : decode cX2_encode 151 = .ok (.bastore, 1) := by decide +kernel
theorem dX2_encode_152 : decode cX2_encode 152 = .ok (.return_, 1) := by decide +kernel
def wf_encode : List Cond := .code yX2_encode cX2_encode 6 none :: ([.fieldLink RX2 23 "KnotHouse$Coder" "sorted" "LKnotHouse$Codes;", .fieldLink RX2 41 "KnotHouse$Codes" "size" "I", .fieldLink RX2 60 "KnotHouse$Net" "circles" "I", .fieldLink RX2 14 "KnotHouse$Coder" "out" "LKnotHouse$Codes;", .fieldLink RX2 51 "KnotHouse$Codes" "cells" "[B", .fieldLink RX2 48 "KnotHouse$Codes" "lengths" "[B", .fieldLink RX2 65 "KnotHouse$Codes" "crossings" "[B", .fieldLink RX2 68 "KnotHouse$Net" "crossings" "I"] ++ wsX70 ++ wsX30 ++ wsX20 ++ wsV RX2 37 RX2 yX2_collectParts wf_collectParts)
theorem gf_X2_encode_a : GoodIn wf_encode (wsV RX2 37 RX2 yX2_collectParts wf_collectParts) := goodIn_sub (by decide +kernel) (by decide +kernel)
set_option maxHeartbeats 4000000 in
set_option maxRecDepth 100000 in
theorem kf_X2_encode (l : Launch) (dC : Nat → ClassId) (dI : Nat → Nat → Nat) (cI cB cJ cZ : ClassId) (u : Nat → Nat) (sz : Nat) : Met l yX2_encode wf_encode (({ frames := 4, cells := 0, slots := 0, locals := 95 } : Room)) (va_Pc [.ref (u 6), .ref (u 3)] (fun U => U.heap.size = sz ∧ va_P (dC, dI) vwCl [((u 6), .inr (5, [.ref (u 45), .ref (u 46), .ref (u 47), .ref (u 48), .ref (u 49), .ref (u 50)])), ((u 45), .inr (6, [.ref (u 51), .ref (u 52), .ref (u 53), .ref (u 54), .int 0])), ((u 51), .inl (cB, 30, .inl (fun _ => 0))), ((u 52), .inl (cB, 1, .inl (fun _ => 0))), ((u 53), .inl (cB, 1, .inl (fun _ => 0))), ((u 47), .inr (6, [.ref (u 59), .ref (u 60), .ref (u 61), .ref (u 62), .int 0])), ((u 3), .inr (10, [.ref (u 31), .ref (u 32), .ref (u 33), .ref (u 34), .ref (u 35), .ref (u 36), .ref (u 37), .int 0, .int 1, .int 0, .int 0])), ((u 36), .inl (cI, 24, .inl (fun _ => 0)))] U.heap ∧ va_K (dC, dI) vwCl [(cI, .int), (cB, .byte), (cJ, .long), (cZ, .boolean)] U ∧ va_D (fun _ => True) [((u 6), .inr (5, [.ref (u 45), .ref (u 46), .ref (u 47), .ref (u 48), .ref (u 49), .ref (u 50)])), ((u 45), .inr (6, [.ref (u 51), .ref (u 52), .ref (u 53), .ref (u 54), .int 0])), ((u 51), .inl (cB, 30, .inl (fun _ => 0))), ((u 52), .inl (cB, 1, .inl (fun _ => 0))), ((u 53), .inl (cB, 1, .inl (fun _ => 0))), ((u 47), .inr (6, [.ref (u 59), .ref (u 60), .ref (u 61), .ref (u 62), .int 0])), ((u 3), .inr (10, [.ref (u 31), .ref (u 32), .ref (u 33), .ref (u 34), .ref (u 35), .ref (u 36), .ref (u 37), .int 0, .int 1, .int 0, .int 0])), ((u 36), .inl (cI, 24, .inl (fun _ => 0)))])) (va_Qv (fun g : (Nat → Int32) × (Nat → Int32) × (Nat → Int32) => sb_Fit g.1) (fun g t => va_P (dC, dI) vwCl [((u 6), .inr (5, [.ref (u 45), .ref (u 46), .ref (u 47), .ref (u 48), .ref (u 49), .ref (u 50)])), ((u 45), .inr (6, [.ref (u 51), .ref (u 52), .ref (u 53), .ref (u 54), .int 0])), ((u 51), .inl (cB, 30, .inl g.1)), ((u 52), .inl (cB, 1, .inl g.2.1)), ((u 53), .inl (cB, 1, .inl g.2.2))] t.heap ∧ va_D (va_A [((u 6), .inr (5, [.ref (u 45), .ref (u 46), .ref (u 47), .ref (u 48), .ref (u 49), .ref (u 50)])), ((u 45), .inr (6, [.ref (u 51), .ref (u 52), .ref (u 53), .ref (u 54), .int 0])), ((u 51), .inl (cB, 30, .inl (fun _ => 0))), ((u 52), .inl (cB, 1, .inl (fun _ => 0))), ((u 53), .inl (cB, 1, .inl (fun _ => 0))), ((u 47), .inr (6, [.ref (u 59), .ref (u 60), .ref (u 61), .ref (u 62), .int 0])), ((u 3), .inr (10, [.ref (u 31), .ref (u 32), .ref (u 33), .ref (u 34), .ref (u 35), .ref (u 36), .ref (u 37), .int 0, .int 1, .int 0, .int 0])), ((u 36), .inl (cI, 24, .inl (fun _ => 0)))] sz) [((u 6), .inr (5, [.ref (u 45), .ref (u 46), .ref (u 47), .ref (u 48), .ref (u 49), .ref (u 50)])), ((u 45), .inr (6, [.ref (u 51), .ref (u 52), .ref (u 53), .ref (u 54), .int 0])), ((u 51), .inl (cB, 30, .inl g.1)), ((u 52), .inl (cB, 1, .inl g.2.1)), ((u 53), .inl (cB, 1, .inl g.2.2))]) (va_A [((u 6), .inr (5, [.ref (u 45), .ref (u 46), .ref (u 47), .ref (u 48), .ref (u 49), .ref (u 50)])), ((u 45), .inr (6, [.ref (u 51), .ref (u 52), .ref (u 53), .ref (u 54), .int 0])), ((u 51), .inl (cB, 30, .inl (fun _ => 0))), ((u 52), .inl (cB, 1, .inl (fun _ => 0))), ((u 53), .inl (cB, 1, .inl (fun _ => 0))), ((u 47), .inr (6, [.ref (u 59), .ref (u 60), .ref (u 61), .ref (u 62), .int 0])), ((u 3), .inr (10, [.ref (u 31), .ref (u 32), .ref (u 33), .ref (u 34), .ref (u 35), .ref (u 36), .ref (u 37), .int 0, .int 1, .int 0, .int 0])), ((u 36), .inl (cI, 24, .inl (fun _ => 0)))] sz)) 0 0 (va_A [((u 6), .inr (5, [.ref (u 45), .ref (u 46), .ref (u 47), .ref (u 48), .ref (u 49), .ref (u 50)])), ((u 45), .inr (6, [.ref (u 51), .ref (u 52), .ref (u 53), .ref (u 54), .int 0])), ((u 51), .inl (cB, 30, .inl (fun _ => 0))), ((u 52), .inl (cB, 1, .inl (fun _ => 0))), ((u 53), .inl (cB, 1, .inl (fun _ => 0))), ((u 47), .inr (6, [.ref (u 59), .ref (u 60), .ref (u 61), .ref (u 62), .int 0])), ((u 3), .inr (10, [.ref (u 31), .ref (u 32), .ref (u 33), .ref (u 34), .ref (u 35), .ref (u 36), .ref (u 37), .int 0, .int 1, .int 0, .int 0])), ((u 36), .inl (cI, 24, .inl (fun _ => 0)))] sz) := by
  refine Met.ofW (cc := cX2_encode) (maxL := 6) (ret := none) (by decide) rfl ?_
  intro p e s m args below meth c s₁ B hml hv
  obtain ⟨rfl, hsz, hP, hK, hD0⟩ := hv
  have hx := B.exec
  have hb := B.bytes
  have hr := B.returns
  have hts := atoms_spec (ws := wf_encode) B.pre
  have hown : s.vm.findClass RX2 = some m.cls := findClass_of_methodNamed B.named
  have hlocks := B.notSynchronized
  subst hsz
  have hD := hD0.self (sz := s.heap.size)
  generalize hAe : va_A [((u 6), .inr (5, [.ref (u 45), .ref (u 46), .ref (u 47), .ref (u 48), .ref (u 49), .ref (u 50)])), ((u 45), .inr (6, [.ref (u 51), .ref (u 52), .ref (u 53), .ref (u 54), .int 0])), ((u 51), .inl (cB, 30, .inl (fun _ => 0))), ((u 52), .inl (cB, 1, .inl (fun _ => 0))), ((u 53), .inl (cB, 1, .inl (fun _ => 0))), ((u 47), .inr (6, [.ref (u 59), .ref (u 60), .ref (u 61), .ref (u 62), .int 0])), ((u 3), .inr (10, [.ref (u 31), .ref (u 32), .ref (u 33), .ref (u 34), .ref (u 35), .ref (u 36), .ref (u 37), .int 0, .int 1, .int 0, .int 0])), ((u 36), .inl (cI, 24, .inl (fun _ => 0)))] s.heap.size = A at hD ⊢
  have hA : ∀ q : Nat, s.heap.size ≤ q → A q := fun q h => by rw [← hAe]; exact Or.inr h
  have hS : va_S A s.heap s.heap [] := va_S.rf
  have hP : va_P (dC, dI) vwCl [((u 6), .inr (5, [.ref (u 45), .ref (u 46), .ref (u 47), .ref (u 48), .ref (u 49), .ref (u 50)])), ((u 45), .inr (6, [.ref (u 51), .ref (u 52), .ref (u 53), .ref (u 54), .int 0])), ((u 51), .inl (cB, 30, .inl (fun _ => 0))), ((u 52), .inl (cB, 1, .inl (fun _ => 0))), ((u 53), .inl (cB, 1, .inl (fun _ => 0))), ((u 47), .inr (6, [.ref (u 59), .ref (u 60), .ref (u 61), .ref (u 62), .int 0])), ((u 3), .inr (10, [.ref (u 31), .ref (u 32), .ref (u 33), .ref (u 34), .ref (u 35), .ref (u 36), .ref (u 37), .int 0, .int 1, .int 0, .int 0])), ((u 36), .inl (cI, 24, .inl (fun _ => 0)))] s.heap := hP
  have hl := lv_entry ([.ref (u 6), .ref (u 3)]) (n := 6) (Nat.le_of_ble_eq_true rfl)
  rw [lg_entry_eq]
  generalize (lg_sl ([.ref (u 6), .ref (u 3)]) ++ List.replicate (6 - (lg_sl ([.ref (u 6), .ref (u 3)])).length) Slot.unset).toArray = ls at hl ⊢
  have hl : lv_has ls 6 [(0, .ref (u 6)), (1, .ref (u 3))] := hl
  refine ow_named (fun QQ hQQ => ?_)
  refine lv_aload_n hx hb dX2_encode_0 rfl (lv_at hl 0 rfl) ?_
  refine lv_aload_n hx hb dX2_encode_1 rfl (lv_at hl 1 rfl) ?_
  refine lv_aload_n hx hb dX2_encode_2 rfl (lv_at hl 0 rfl) ?_
  refine va_get (D := (dC, dI)) (ci := 5) (v := .ref (u 47)) (C := RX2) (T := TX2) (N := 6) hx hb hts (by decide +kernel) hown hK hP 0 rfl rfl 2 (by decide) (hts (.fieldLink RX2 23 "KnotHouse$Coder" "sorted" "LKnotHouse$Codes;") (by decide +kernel)) (fun _ h9 => h9) rfl dX2_encode_3 ?_
  have hPr := hP.sub (ws' := [((u 6), .inr (5, [.ref (u 45), .ref (u 46), .ref (u 47), .ref (u 48), .ref (u 49), .ref (u 50)]))]) [0] rfl
  have hPc := hP.sub (ws' := [((u 3), .inr (10, [.ref (u 31), .ref (u 32), .ref (u 33), .ref (u 34), .ref (u 35), .ref (u 36), .ref (u 37), .int 0, .int 1, .int 0, .int 0])), ((u 36), .inl (cI, 24, .inl (fun _ => 0))), ((u 47), .inr (6, [.ref (u 59), .ref (u 60), .ref (u 61), .ref (u 62), .int 0]))]) [6, 7, 5] rfl
  have hDc := hD.sub (ws' := [((u 3), .inr (10, [.ref (u 31), .ref (u 32), .ref (u 33), .ref (u 34), .ref (u 35), .ref (u 36), .ref (u 37), .int 0, .int 1, .int 0, .int 0])), ((u 36), .inl (cI, 24, .inl (fun _ => 0))), ((u 47), .inr (6, [.ref (u 59), .ref (u 60), .ref (u 61), .ref (u 62), .int 0]))]) [6, 7, 5] (by decide) rfl
  have hFc := va_free (wc := [((u 3), .inr (10, [.ref (u 31), .ref (u 32), .ref (u 33), .ref (u 34), .ref (u 35), .ref (u 36), .ref (u 37), .int 0, .int 1, .int 0, .int 0])), ((u 36), .inl (cI, 24, .inl (fun _ => 0))), ((u 47), .inr (6, [.ref (u 59), .ref (u 60), .ref (u 61), .ref (u 62), .int 0]))]) hD hS hA [6, 7, 5] rfl
  refine va_callv (va_runV (As := [.ref (u 3), .ref (u 47)]) (rest := []) ⟨hx, hb, hml, hown, hts⟩ (kf_X2_collectParts l dC dI cI cB cJ cZ u s.heap.size) (cwV 2 hts gf_X2_encode_a rfl rfl rfl (by decide +kernel) ⟨(Nat.le_of_ble_eq_true rfl), (Nat.le_of_ble_eq_true rfl)⟩) ⟨fun a U g mk q => by obtain ⟨q0, q1, qP, qK, qD⟩ := q; exact ⟨q0, q1, qP, va_K.moved (u := U) (U := U.calling g mk a) (Vm.Alike.refl U.vm) qK, qD⟩, va_recv hK hPr (ci := 5) (q0 := 0) rfl rfl, fun U hU hW => ⟨rfl, by rw [hU], by rw [hU]; exact hPc, va_K.moved hW.alike hK, hDc.weaken (fun _ _ _ _ => trivial)⟩⟩ rfl rfl hl.1 rfl (lv_room (Nat.le_of_ble_eq_true rfl)) dX2_encode_6 ⟨(Nat.le_of_ble_eq_true rfl), (Nat.le_of_ble_eq_true rfl)⟩) hS (fun q _ h => hFc q h) hFc (fun u9 t H1 locs ht hvm hw hB hz1 hk1 hS => ?_)
  obtain ⟨hP1, hD1⟩ := hB
  rw [ht] at hP1
  obtain ⟨hP, hD⟩ := va_join (wr := [((u 6), .inr (5, [.ref (u 45), .ref (u 46), .ref (u 47), .ref (u 48), .ref (u 49), .ref (u 50)])), ((u 45), .inr (6, [.ref (u 51), .ref (u 52), .ref (u 53), .ref (u 54), .int 0])), ((u 51), .inl (cB, 30, .inl (fun _ => 0))), ((u 52), .inl (cB, 1, .inl (fun _ => 0))), ((u 53), .inl (cB, 1, .inl (fun _ => 0)))]) (w1 := [((u 3), .inr (10, [.ref (u 31), .ref (u 32), .ref (u 33), .ref (u 34), .ref (u 35), .ref (u 36), .ref (u 37), .int 0, .int 1, .int 0, .int 0])), ((u 36), .inl (cI, 24, .inl (fun _ => 0))), ((u 47), .inr (6, [.ref (u 59), .ref (u 60), .ref (u 61), .ref (u 62), .int 0]))]) hP hD [6, 7, 5] [0, 1, 2, 3, 4] rfl rfl (by decide) (by decide) hk1 hFc hP1 hD1
  generalize H1 = H at hP hS ⊢
  have hP : va_P (dC, dI) vwCl [((u 6), .inr (5, [.ref (u 45), .ref (u 46), .ref (u 47), .ref (u 48), .ref (u 49), .ref (u 50)])), ((u 45), .inr (6, [.ref (u 51), .ref (u 52), .ref (u 53), .ref (u 54), .int 0])), ((u 51), .inl (cB, 30, .inl (fun _ => 0))), ((u 52), .inl (cB, 1, .inl (fun _ => 0))), ((u 53), .inl (cB, 1, .inl (fun _ => 0))), ((u 3), .inr (10, [.ref (u 31), .ref (u 32), .ref (u 33), .ref (u 34), .ref (u 35), .ref (u 36), .ref (u 37), .int 0, .int 1, .int 0, .int 0])), ((u 36), .inl (cI, 24, .inl (fun _ => 0))), ((u 47), .inr (6, [.ref (u 59), .ref (u 60), .ref (u 61), .ref (u 62), .int 0]))] H := hP
  have hD : va_D A [((u 6), .inr (5, [.ref (u 45), .ref (u 46), .ref (u 47), .ref (u 48), .ref (u 49), .ref (u 50)])), ((u 45), .inr (6, [.ref (u 51), .ref (u 52), .ref (u 53), .ref (u 54), .int 0])), ((u 51), .inl (cB, 30, .inl (fun _ => 0))), ((u 52), .inl (cB, 1, .inl (fun _ => 0))), ((u 53), .inl (cB, 1, .inl (fun _ => 0))), ((u 3), .inr (10, [.ref (u 31), .ref (u 32), .ref (u 33), .ref (u 34), .ref (u 35), .ref (u 36), .ref (u 37), .int 0, .int 1, .int 0, .int 0])), ((u 36), .inl (cI, 24, .inl (fun _ => 0))), ((u 47), .inr (6, [.ref (u 59), .ref (u 60), .ref (u 61), .ref (u 62), .int 0]))] := hD
  refine lv_iconst (v := 0) hx hb dX2_encode_9 (by decide) ?_
  refine lv_istore_n (lv' := [(2, .int 0), (0, .ref (u 6)), (1, .ref (u 3))]) hx hb dX2_encode_10 rfl hl (by decide) rfl (fun ls hl => ?_)
  refine lv_iconst (v := 0) hx hb dX2_encode_11 (by decide) ?_
  refine lv_istore_n (lv' := [(3, .int 0), (2, .int 0), (0, .ref (u 6)), (1, .ref (u 3))]) hx hb dX2_encode_12 rfl hl (by decide) rfl (fun ls hl => ?_)
  refine lv_iload_n hx hb dX2_encode_13 rfl (lv_at hl 0 rfl) ?_
  refine lv_aload_n hx hb dX2_encode_14 rfl (lv_at hl 2 rfl) ?_
  refine va_get (D := (dC, dI)) (ci := 5) (v := .ref (u 47)) (C := RX2) (T := TX2) (N := 6) hx hb hts (by decide +kernel) hown hK hP 0 rfl rfl 2 (by decide) (hts (.fieldLink RX2 23 "KnotHouse$Coder" "sorted" "LKnotHouse$Codes;") (by decide +kernel)) (fun _ h9 => h9) rfl dX2_encode_15 ?_
  refine va_get (D := (dC, dI)) (ci := 6) (v := .int 0) (C := RX3) (T := TX3) (N := 5) hx hb hts (by decide +kernel) hown hK hP 7 rfl rfl 4 (by decide) (hts (.fieldLink RX2 41 "KnotHouse$Codes" "size" "I") (by decide +kernel)) (fun _ h9 => h9) rfl dX2_encode_18 ?_
  refine lv_icmp_ge (tgt := 92) hx hb dX2_encode_21 (by decide) (fun _ => ?_) (fun c9 => absurd (by decide) c9)
  refine lv_iconst (v := 0) hx hb dX2_encode_92 (by decide) ?_
  refine lv_istore_n (lv' := [(3, .int 0), (2, .int 0), (0, .ref (u 6)), (1, .ref (u 3))]) hx hb dX2_encode_93 rfl hl (by decide) rfl (fun ls hl => ?_)
  refine lv_iload_n hx hb dX2_encode_94 rfl (lv_at hl 0 rfl) ?_
  refine lv_aload_n hx hb dX2_encode_95 rfl (lv_at hl 3 rfl) ?_
  refine va_get (D := (dC, dI)) (ci := 10) (v := .int 1) (C := RX7) (T := TX7) (N := 11) hx hb hts (by decide +kernel) hown hK hP 5 rfl rfl 8 (by decide) (hts (.fieldLink RX2 60 "KnotHouse$Net" "circles" "I") (by decide +kernel)) (fun _ h9 => h9) rfl dX2_encode_96 ?_
  refine lv_icmp_ge (tgt := 127) hx hb dX2_encode_99 (by decide) (fun c9 => absurd c9 (by decide)) (fun _ => ?_)
  refine lv_iload_n hx hb dX2_encode_102 rfl (lv_at hl 1 rfl) ?_
  refine lv_bipush (v := 30) hx hb dX2_encode_103 (by decide) ?_
  refine lv_icmp_ge (tgt := 127) hx hb dX2_encode_105 (by decide) (fun c9 => absurd c9 (by decide)) (fun _ => ?_)
  refine lv_aload_n hx hb dX2_encode_108 rfl (lv_at hl 2 rfl) ?_
  refine va_get (D := (dC, dI)) (ci := 5) (v := .ref (u 45)) (C := RX2) (T := TX2) (N := 6) hx hb hts (by decide +kernel) hown hK hP 0 rfl rfl 0 (by decide) (hts (.fieldLink RX2 14 "KnotHouse$Coder" "out" "LKnotHouse$Codes;") (by decide +kernel)) (fun _ h9 => h9) rfl dX2_encode_109 ?_
  refine va_get (D := (dC, dI)) (ci := 6) (v := .ref (u 51)) (C := RX3) (T := TX3) (N := 5) hx hb hts (by decide +kernel) hown hK hP 1 rfl rfl 0 (by decide) (hts (.fieldLink RX2 51 "KnotHouse$Codes" "cells" "[B") (by decide +kernel)) (fun _ h9 => h9) rfl dX2_encode_112 ?_
  refine lv_iload_n hx hb dX2_encode_115 rfl (lv_at hl 1 rfl) ?_
  refine lv_iconst (v := 0) hx hb dX2_encode_116 (by decide) ?_
  refine va_bast hx hb hK hP hD hS 2 1 rfl rfl (vp_in_nI (n := 0) (N := 30) (by decide) (by decide)) dX2_encode_117 (fun H locs hP hD hS => ?_)
  obtain ⟨f1, hf1⟩ : ∃ f1, f1 = upd (fun _ => 0) (0 : Int32).toNatClampNeg (vp_nar .byte 0) := ⟨_, rfl⟩
  have hfit1 : sb_Fit f1 := by rw [hf1]; exact sb_fitU sb_fit0 (by decide)
  rw [← hf1] at hP hD
  have hP : va_P (dC, dI) vwCl [((u 6), .inr (5, [.ref (u 45), .ref (u 46), .ref (u 47), .ref (u 48), .ref (u 49), .ref (u 50)])), ((u 45), .inr (6, [.ref (u 51), .ref (u 52), .ref (u 53), .ref (u 54), .int 0])), ((u 51), .inl (cB, 30, .inl f1)), ((u 52), .inl (cB, 1, .inl (fun _ => 0))), ((u 53), .inl (cB, 1, .inl (fun _ => 0))), ((u 3), .inr (10, [.ref (u 31), .ref (u 32), .ref (u 33), .ref (u 34), .ref (u 35), .ref (u 36), .ref (u 37), .int 0, .int 1, .int 0, .int 0])), ((u 36), .inl (cI, 24, .inl (fun _ => 0))), ((u 47), .inr (6, [.ref (u 59), .ref (u 60), .ref (u 61), .ref (u 62), .int 0]))] H := hP
  have hD : va_D A [((u 6), .inr (5, [.ref (u 45), .ref (u 46), .ref (u 47), .ref (u 48), .ref (u 49), .ref (u 50)])), ((u 45), .inr (6, [.ref (u 51), .ref (u 52), .ref (u 53), .ref (u 54), .int 0])), ((u 51), .inl (cB, 30, .inl f1)), ((u 52), .inl (cB, 1, .inl (fun _ => 0))), ((u 53), .inl (cB, 1, .inl (fun _ => 0))), ((u 3), .inr (10, [.ref (u 31), .ref (u 32), .ref (u 33), .ref (u 34), .ref (u 35), .ref (u 36), .ref (u 37), .int 0, .int 1, .int 0, .int 0])), ((u 36), .inl (cI, 24, .inl (fun _ => 0))), ((u 47), .inr (6, [.ref (u 59), .ref (u 60), .ref (u 61), .ref (u 62), .int 0]))] := hD
  refine lv_iinc (v := 1) (lv' := [(2, .int 1), (3, .int 0), (0, .ref (u 6)), (1, .ref (u 3))]) hx hb dX2_encode_118 hl (k := 1) rfl (by decide) (by decide) rfl (fun ls hl => ?_)
  refine lv_iinc (v := 1) (lv' := [(3, .int 1), (2, .int 1), (0, .ref (u 6)), (1, .ref (u 3))]) hx hb dX2_encode_121 hl (k := 1) rfl (by decide) (by decide) rfl (fun ls hl => ?_)
  refine lv_goto (tgt := 94) hx hb dX2_encode_124 (by decide) ?_
  refine lv_iload_n hx hb dX2_encode_94 rfl (lv_at hl 0 rfl) ?_
  refine lv_aload_n hx hb dX2_encode_95 rfl (lv_at hl 3 rfl) ?_
  refine va_get (D := (dC, dI)) (ci := 10) (v := .int 1) (C := RX7) (T := TX7) (N := 11) hx hb hts (by decide +kernel) hown hK hP 5 rfl rfl 8 (by decide) (hts (.fieldLink RX2 60 "KnotHouse$Net" "circles" "I") (by decide +kernel)) (fun _ h9 => h9) rfl dX2_encode_96 ?_
  refine lv_icmp_ge (tgt := 127) hx hb dX2_encode_99 (by decide) (fun _ => ?_) (fun c9 => absurd (by decide) c9)
  refine lv_aload_n hx hb dX2_encode_127 rfl (lv_at hl 2 rfl) ?_
  refine va_get (D := (dC, dI)) (ci := 5) (v := .ref (u 45)) (C := RX2) (T := TX2) (N := 6) hx hb hts (by decide +kernel) hown hK hP 0 rfl rfl 0 (by decide) (hts (.fieldLink RX2 14 "KnotHouse$Coder" "out" "LKnotHouse$Codes;") (by decide +kernel)) (fun _ h9 => h9) rfl dX2_encode_128 ?_
  refine va_get (D := (dC, dI)) (ci := 6) (v := .ref (u 52)) (C := RX3) (T := TX3) (N := 5) hx hb hts (by decide +kernel) hown hK hP 1 rfl rfl 1 (by decide) (hts (.fieldLink RX2 48 "KnotHouse$Codes" "lengths" "[B") (by decide +kernel)) (fun _ h9 => h9) rfl dX2_encode_131 ?_
  refine lv_iconst (v := 0) hx hb dX2_encode_134 (by decide) ?_
  refine lv_iload_n hx hb dX2_encode_135 rfl (lv_at hl 1 rfl) ?_
  refine lv_i2b hx hb dX2_encode_136 rfl ?_
  refine lv_topi (fun x1 _ => ?_)
  refine ow_bast hx hb hK hP hD hS 3 1 rfl rfl (vp_in_nI (n := 0) (N := 1) (by decide) (by decide)) dX2_encode_137 (fun f2 H locs hP hD hS => ?_)
  have hP : va_P (dC, dI) vwCl [((u 6), .inr (5, [.ref (u 45), .ref (u 46), .ref (u 47), .ref (u 48), .ref (u 49), .ref (u 50)])), ((u 45), .inr (6, [.ref (u 51), .ref (u 52), .ref (u 53), .ref (u 54), .int 0])), ((u 51), .inl (cB, 30, .inl f1)), ((u 52), .inl (cB, 1, .inl f2)), ((u 53), .inl (cB, 1, .inl (fun _ => 0))), ((u 3), .inr (10, [.ref (u 31), .ref (u 32), .ref (u 33), .ref (u 34), .ref (u 35), .ref (u 36), .ref (u 37), .int 0, .int 1, .int 0, .int 0])), ((u 36), .inl (cI, 24, .inl (fun _ => 0))), ((u 47), .inr (6, [.ref (u 59), .ref (u 60), .ref (u 61), .ref (u 62), .int 0]))] H := hP
  have hD : va_D A [((u 6), .inr (5, [.ref (u 45), .ref (u 46), .ref (u 47), .ref (u 48), .ref (u 49), .ref (u 50)])), ((u 45), .inr (6, [.ref (u 51), .ref (u 52), .ref (u 53), .ref (u 54), .int 0])), ((u 51), .inl (cB, 30, .inl f1)), ((u 52), .inl (cB, 1, .inl f2)), ((u 53), .inl (cB, 1, .inl (fun _ => 0))), ((u 3), .inr (10, [.ref (u 31), .ref (u 32), .ref (u 33), .ref (u 34), .ref (u 35), .ref (u 36), .ref (u 37), .int 0, .int 1, .int 0, .int 0])), ((u 36), .inl (cI, 24, .inl (fun _ => 0))), ((u 47), .inr (6, [.ref (u 59), .ref (u 60), .ref (u 61), .ref (u 62), .int 0]))] := hD
  refine lv_aload_n hx hb dX2_encode_138 rfl (lv_at hl 2 rfl) ?_
  refine va_get (D := (dC, dI)) (ci := 5) (v := .ref (u 45)) (C := RX2) (T := TX2) (N := 6) hx hb hts (by decide +kernel) hown hK hP 0 rfl rfl 0 (by decide) (hts (.fieldLink RX2 14 "KnotHouse$Coder" "out" "LKnotHouse$Codes;") (by decide +kernel)) (fun _ h9 => h9) rfl dX2_encode_139 ?_
  refine va_get (D := (dC, dI)) (ci := 6) (v := .ref (u 53)) (C := RX3) (T := TX3) (N := 5) hx hb hts (by decide +kernel) hown hK hP 1 rfl rfl 2 (by decide) (hts (.fieldLink RX2 65 "KnotHouse$Codes" "crossings" "[B") (by decide +kernel)) (fun _ h9 => h9) rfl dX2_encode_142 ?_
  refine lv_iconst (v := 0) hx hb dX2_encode_145 (by decide) ?_
  refine lv_aload_n hx hb dX2_encode_146 rfl (lv_at hl 3 rfl) ?_
  refine va_get (D := (dC, dI)) (ci := 10) (v := .int 0) (C := RX7) (T := TX7) (N := 11) hx hb hts (by decide +kernel) hown hK hP 5 rfl rfl 7 (by decide) (hts (.fieldLink RX2 68 "KnotHouse$Net" "crossings" "I") (by decide +kernel)) (fun _ h9 => h9) rfl dX2_encode_147 ?_
  refine lv_i2b hx hb dX2_encode_150 rfl ?_
  refine lv_topi (fun x3 _ => ?_)
  refine ow_bast hx hb hK hP hD hS 4 1 rfl rfl (vp_in_nI (n := 0) (N := 1) (by decide) (by decide)) dX2_encode_151 (fun f4 H locs hP hD hS => ?_)
  have hP : va_P (dC, dI) vwCl [((u 6), .inr (5, [.ref (u 45), .ref (u 46), .ref (u 47), .ref (u 48), .ref (u 49), .ref (u 50)])), ((u 45), .inr (6, [.ref (u 51), .ref (u 52), .ref (u 53), .ref (u 54), .int 0])), ((u 51), .inl (cB, 30, .inl f1)), ((u 52), .inl (cB, 1, .inl f2)), ((u 53), .inl (cB, 1, .inl f4)), ((u 3), .inr (10, [.ref (u 31), .ref (u 32), .ref (u 33), .ref (u 34), .ref (u 35), .ref (u 36), .ref (u 37), .int 0, .int 1, .int 0, .int 0])), ((u 36), .inl (cI, 24, .inl (fun _ => 0))), ((u 47), .inr (6, [.ref (u 59), .ref (u 60), .ref (u 61), .ref (u 62), .int 0]))] H := hP
  have hD : va_D A [((u 6), .inr (5, [.ref (u 45), .ref (u 46), .ref (u 47), .ref (u 48), .ref (u 49), .ref (u 50)])), ((u 45), .inr (6, [.ref (u 51), .ref (u 52), .ref (u 53), .ref (u 54), .int 0])), ((u 51), .inl (cB, 30, .inl f1)), ((u 52), .inl (cB, 1, .inl f2)), ((u 53), .inl (cB, 1, .inl f4)), ((u 3), .inr (10, [.ref (u 31), .ref (u 32), .ref (u 33), .ref (u 34), .ref (u 35), .ref (u 36), .ref (u 37), .int 0, .int 1, .int 0, .int 0])), ((u 36), .inl (cI, 24, .inl (fun _ => 0))), ((u 47), .inr (6, [.ref (u 59), .ref (u 60), .ref (u 61), .ref (u 62), .int 0]))] := hD
  have hP := hP.sub (ws' := [((u 6), .inr (5, [.ref (u 45), .ref (u 46), .ref (u 47), .ref (u 48), .ref (u 49), .ref (u 50)])), ((u 45), .inr (6, [.ref (u 51), .ref (u 52), .ref (u 53), .ref (u 54), .int 0])), ((u 51), .inl (cB, 30, .inl f1)), ((u 52), .inl (cB, 1, .inl f2)), ((u 53), .inl (cB, 1, .inl f4))]) [0, 1, 2, 3, 4] rfl
  have hD := hD.sub (ws' := [((u 6), .inr (5, [.ref (u 45), .ref (u 46), .ref (u 47), .ref (u 48), .ref (u 49), .ref (u 50)])), ((u 45), .inr (6, [.ref (u 51), .ref (u 52), .ref (u 53), .ref (u 54), .int 0])), ((u 51), .inl (cB, 30, .inl f1)), ((u 52), .inl (cB, 1, .inl f2)), ((u 53), .inl (cB, 1, .inl f4))]) [0, 1, 2, 3, 4] (by decide) rfl
  rw [hQQ]
  exact W.vret hx hb hr (fun t ht hW => ⟨⟨(f1, f2, f4), rfl, hfit1, by rw [ht]; exact hP, hD⟩, hS.F ht⟩) hS.2.2 dX2_encode_152
theorem dX3_write_0 : decode cX3_write 0 = .ok (.aload_n 2, 1) := by decide +kernel
theorem dX3_write_1 : decode cX3_write 1 = .ok (.getfield 9, 3) := by decide +kernel
theorem dX3_write_4 : decode cX3_write 4 = .ok (.iload_n 3, 1) := by decide +kernel
theorem dX3_write_5 : decode cX3_write 5 = .ok (.bipush 30, 2) := by decide +kernel
theorem dX3_write_7 : decode cX3_write 7 = .ok (.imul, 1) := by decide +kernel
theorem dX3_write_8 : decode cX3_write 8 = .ok (.aload_n 0, 1) := by decide +kernel
theorem dX3_write_9 : decode cX3_write 9 = .ok (.getfield 9, 3) := by decide +kernel
theorem dX3_write_12 : decode cX3_write 12 = .ok (.iload_n 1, 1) := by decide +kernel
theorem dX3_write_13 : decode cX3_write 13 = .ok (.bipush 30, 2) := by decide +kernel
theorem dX3_write_15 : decode cX3_write 15 = .ok (.imul, 1) := by decide +kernel
theorem dX3_write_16 : decode cX3_write 16 = .ok (.bipush 30, 2) := by decide +kernel
theorem dX3_write_18 : decode cX3_write 18 = .ok (.invokestatic 25, 3) := by decide +kernel
theorem dX3_write_21 : decode cX3_write 21 = .ok (.aload_n 0, 1) := by decide +kernel
theorem dX3_write_22 : decode cX3_write 22 = .ok (.getfield 15, 3) := by decide +kernel
theorem dX3_write_25 : decode cX3_write 25 = .ok (.iload_n 1, 1) := by decide +kernel
theorem dX3_write_26 : decode cX3_write 26 = .ok (.aload_n 2, 1) := by decide +kernel
theorem dX3_write_27 : decode cX3_write 27 = .ok (.getfield 15, 3) := by decide +kernel
theorem dX3_write_30 : decode cX3_write 30 = .ok (.iload_n 3, 1) := by decide +kernel
theorem dX3_write_31 : decode cX3_write 31 = .ok (.baload, 1) := by decide +kernel
theorem dX3_write_32 : decode cX3_write 32 = .ok (.bastore, 1) := by decide +kernel
theorem dX3_write_33 : decode cX3_write 33 = .ok (.aload_n 0, 1) := by decide +kernel
theorem dX3_write_34 : decode cX3_write 34 = .ok (.getfield 18, 3) := by decide +kernel
theorem dX3_write_37 : decode cX3_write 37 = .ok (.iload_n 1, 1) := by decide +kernel
theorem dX3_write_38 : decode cX3_write 38 = .ok (.aload_n 2, 1) := by decide +kernel
theorem dX3_write_39 : decode cX3_write 39 = .ok (.getfield 18, 3) := by decide +kernel
theorem dX3_write_42 : decode cX3_write 42 = .ok (.iload_n 3, 1) := by decide +kernel
theorem dX3_write_43 : decode cX3_write 43 = .ok (.baload, 1) := by decide +kernel
theorem dX3_write_44 : decode cX3_write 44 = .ok (.bastore, 1) := by decide +kernel
theorem dX3_write_45 : decode cX3_write 45 = .ok (.return_, 1) := by decide +kernel
def wf_write : List Cond := .code yX3_write cX3_write 4 none :: ([.fieldLink RX3 9 "KnotHouse$Codes" "cells" "[B", .fieldLink RX3 15 "KnotHouse$Codes" "lengths" "[B", .fieldLink RX3 18 "KnotHouse$Codes" "crossings" "[B", .methodLink RX3 25 arraycopyName, .native arraycopyName, .static arraycopyName, .initialized "java/lang/System"] ++ wsX30)
set_option maxHeartbeats 4000000 in
set_option maxRecDepth 100000 in
theorem kf_X3_write (l : Launch) (dC : Nat → ClassId) (dI : Nat → Nat → Nat) (cI cB cJ cZ : ClassId) (u : Nat → Nat) (sz : Nat) (fa fb fc : Nat → Int32) (hfa : sb_Fit fa) : Met l yX3_write wf_write (({ frames := 1, cells := 0, slots := 0, locals := 60 } : Room)) (va_Pc [.ref (u 0), .int 0, .ref (u 45), .int 0] (fun U => U.heap.size = sz ∧ va_P (dC, dI) vwCl [((u 0), .inr (6, [.ref (u 19), .ref (u 20), .ref (u 21), .ref (u 22), .int 0])), ((u 19), .inl (cB, 1200, .inl (fun _ => 0))), ((u 20), .inl (cB, 40, .inl (fun _ => 0))), ((u 21), .inl (cB, 40, .inl (fun _ => 0))), ((u 45), .inr (6, [.ref (u 51), .ref (u 52), .ref (u 53), .ref (u 54), .int 0])), ((u 51), .inl (cB, 30, .inl fa)), ((u 52), .inl (cB, 1, .inl fb)), ((u 53), .inl (cB, 1, .inl fc))] U.heap ∧ va_K (dC, dI) vwCl [(cI, .int), (cB, .byte), (cJ, .long), (cZ, .boolean)] U ∧ va_D (fun _ => True) [((u 0), .inr (6, [.ref (u 19), .ref (u 20), .ref (u 21), .ref (u 22), .int 0])), ((u 19), .inl (cB, 1200, .inl (fun _ => 0))), ((u 20), .inl (cB, 40, .inl (fun _ => 0))), ((u 21), .inl (cB, 40, .inl (fun _ => 0))), ((u 45), .inr (6, [.ref (u 51), .ref (u 52), .ref (u 53), .ref (u 54), .int 0])), ((u 51), .inl (cB, 30, .inl fa)), ((u 52), .inl (cB, 1, .inl fb)), ((u 53), .inl (cB, 1, .inl fc))])) (va_Qv (fun _ : Unit => True) (fun _ _ => True) (va_A [((u 0), .inr (6, [.ref (u 19), .ref (u 20), .ref (u 21), .ref (u 22), .int 0])), ((u 19), .inl (cB, 1200, .inl (fun _ => 0))), ((u 20), .inl (cB, 40, .inl (fun _ => 0))), ((u 21), .inl (cB, 40, .inl (fun _ => 0))), ((u 45), .inr (6, [.ref (u 51), .ref (u 52), .ref (u 53), .ref (u 54), .int 0])), ((u 51), .inl (cB, 30, .inl fa)), ((u 52), .inl (cB, 1, .inl fb)), ((u 53), .inl (cB, 1, .inl fc))] sz)) 0 0 (va_A [((u 0), .inr (6, [.ref (u 19), .ref (u 20), .ref (u 21), .ref (u 22), .int 0])), ((u 19), .inl (cB, 1200, .inl (fun _ => 0))), ((u 20), .inl (cB, 40, .inl (fun _ => 0))), ((u 21), .inl (cB, 40, .inl (fun _ => 0))), ((u 45), .inr (6, [.ref (u 51), .ref (u 52), .ref (u 53), .ref (u 54), .int 0])), ((u 51), .inl (cB, 30, .inl fa)), ((u 52), .inl (cB, 1, .inl fb)), ((u 53), .inl (cB, 1, .inl fc))] sz) := by
  refine Met.ofW (cc := cX3_write) (maxL := 4) (ret := none) (by decide) rfl ?_
  intro p e s m args below meth c s₁ B hml hv
  obtain ⟨rfl, hsz, hP, hK, hD0⟩ := hv
  have hx := B.exec
  have hb := B.bytes
  have hr := B.returns
  have hts := atoms_spec (ws := wf_write) B.pre
  have hown : s.vm.findClass RX3 = some m.cls := findClass_of_methodNamed B.named
  have hlocks := B.notSynchronized
  subst hsz
  have hD := hD0.self (sz := s.heap.size)
  generalize hAe : va_A [((u 0), .inr (6, [.ref (u 19), .ref (u 20), .ref (u 21), .ref (u 22), .int 0])), ((u 19), .inl (cB, 1200, .inl (fun _ => 0))), ((u 20), .inl (cB, 40, .inl (fun _ => 0))), ((u 21), .inl (cB, 40, .inl (fun _ => 0))), ((u 45), .inr (6, [.ref (u 51), .ref (u 52), .ref (u 53), .ref (u 54), .int 0])), ((u 51), .inl (cB, 30, .inl fa)), ((u 52), .inl (cB, 1, .inl fb)), ((u 53), .inl (cB, 1, .inl fc))] s.heap.size = A at hD ⊢
  have hA : ∀ q : Nat, s.heap.size ≤ q → A q := fun q h => by rw [← hAe]; exact Or.inr h
  have hS : va_S A s.heap s.heap [] := va_S.rf
  have hP : va_P (dC, dI) vwCl [((u 0), .inr (6, [.ref (u 19), .ref (u 20), .ref (u 21), .ref (u 22), .int 0])), ((u 19), .inl (cB, 1200, .inl (fun _ => 0))), ((u 20), .inl (cB, 40, .inl (fun _ => 0))), ((u 21), .inl (cB, 40, .inl (fun _ => 0))), ((u 45), .inr (6, [.ref (u 51), .ref (u 52), .ref (u 53), .ref (u 54), .int 0])), ((u 51), .inl (cB, 30, .inl fa)), ((u 52), .inl (cB, 1, .inl fb)), ((u 53), .inl (cB, 1, .inl fc))] s.heap := hP
  have hl := lv_entry ([.ref (u 0), .int 0, .ref (u 45), .int 0]) (n := 4) (Nat.le_of_ble_eq_true rfl)
  rw [lg_entry_eq]
  generalize (lg_sl ([.ref (u 0), .int 0, .ref (u 45), .int 0]) ++ List.replicate (4 - (lg_sl ([.ref (u 0), .int 0, .ref (u 45), .int 0])).length) Slot.unset).toArray = ls at hl ⊢
  have hl : lv_has ls 4 [(0, .ref (u 0)), (1, .int 0), (2, .ref (u 45)), (3, .int 0)] := hl
  refine ow_named (fun QQ hQQ => ?_)
  refine lv_aload_n hx hb dX3_write_0 rfl (lv_at hl 2 rfl) ?_
  refine va_get (D := (dC, dI)) (ci := 6) (v := .ref (u 51)) (C := RX3) (T := TX3) (N := 5) hx hb hts (by decide +kernel) hown hK hP 4 rfl rfl 0 (by decide) (hts (.fieldLink RX3 9 "KnotHouse$Codes" "cells" "[B") (by decide +kernel)) (fun _ h9 => h9) rfl dX3_write_1 ?_
  refine lv_iload_n hx hb dX3_write_4 rfl (lv_at hl 3 rfl) ?_
  refine lv_bipush (v := 30) hx hb dX3_write_5 (by decide) ?_
  refine lv_imul hx hb dX3_write_7 ?_
  refine ow_topi (y := 0) (by decide) ?_
  refine lv_aload_n hx hb dX3_write_8 rfl (lv_at hl 0 rfl) ?_
  refine va_get (D := (dC, dI)) (ci := 6) (v := .ref (u 19)) (C := RX3) (T := TX3) (N := 5) hx hb hts (by decide +kernel) hown hK hP 0 rfl rfl 0 (by decide) (hts (.fieldLink RX3 9 "KnotHouse$Codes" "cells" "[B") (by decide +kernel)) (fun _ h9 => h9) rfl dX3_write_9 ?_
  refine lv_iload_n hx hb dX3_write_12 rfl (lv_at hl 1 rfl) ?_
  refine lv_bipush (v := 30) hx hb dX3_write_13 (by decide) ?_
  refine lv_imul hx hb dX3_write_15 ?_
  refine ow_topi (y := 0) (by decide) ?_
  refine lv_bipush (v := 30) hx hb dX3_write_16 (by decide) ?_
  refine va_copyi (ty := .byte) hx hb (by rw [hml]; exact hl.1.symm) hown (hts (.methodLink RX3 25 arraycopyName) (by decide +kernel)) (hts (.native arraycopyName) (by decide +kernel)) (hts (.static arraycopyName) (by decide +kernel)) (hts (.initialized "java/lang/System") (by decide +kernel)) hK hP hD hS 5 1 1 1 rfl rfl rfl rfl rfl (by decide) (by decide) (by decide) (by decide) (by decide) (fun i _ => hfa _) (Nat.le_of_ble_eq_true rfl) (by decide) dX3_write_18 (fun H locs hP hD hS => ?_)
  generalize va_cpy _ _ _ _ _ = fz at hP hD
  have hP : va_P (dC, dI) vwCl [((u 0), .inr (6, [.ref (u 19), .ref (u 20), .ref (u 21), .ref (u 22), .int 0])), ((u 19), .inl (cB, 1200, .inl fz)), ((u 20), .inl (cB, 40, .inl (fun _ => 0))), ((u 21), .inl (cB, 40, .inl (fun _ => 0))), ((u 45), .inr (6, [.ref (u 51), .ref (u 52), .ref (u 53), .ref (u 54), .int 0])), ((u 51), .inl (cB, 30, .inl fa)), ((u 52), .inl (cB, 1, .inl fb)), ((u 53), .inl (cB, 1, .inl fc))] H := hP
  have hD : va_D A [((u 0), .inr (6, [.ref (u 19), .ref (u 20), .ref (u 21), .ref (u 22), .int 0])), ((u 19), .inl (cB, 1200, .inl fz)), ((u 20), .inl (cB, 40, .inl (fun _ => 0))), ((u 21), .inl (cB, 40, .inl (fun _ => 0))), ((u 45), .inr (6, [.ref (u 51), .ref (u 52), .ref (u 53), .ref (u 54), .int 0])), ((u 51), .inl (cB, 30, .inl fa)), ((u 52), .inl (cB, 1, .inl fb)), ((u 53), .inl (cB, 1, .inl fc))] := hD
  refine lv_aload_n hx hb dX3_write_21 rfl (lv_at hl 0 rfl) ?_
  refine va_get (D := (dC, dI)) (ci := 6) (v := .ref (u 20)) (C := RX3) (T := TX3) (N := 5) hx hb hts (by decide +kernel) hown hK hP 0 rfl rfl 1 (by decide) (hts (.fieldLink RX3 15 "KnotHouse$Codes" "lengths" "[B") (by decide +kernel)) (fun _ h9 => h9) rfl dX3_write_22 ?_
  refine lv_iload_n hx hb dX3_write_25 rfl (lv_at hl 1 rfl) ?_
  refine lv_aload_n hx hb dX3_write_26 rfl (lv_at hl 2 rfl) ?_
  refine va_get (D := (dC, dI)) (ci := 6) (v := .ref (u 52)) (C := RX3) (T := TX3) (N := 5) hx hb hts (by decide +kernel) hown hK hP 4 rfl rfl 1 (by decide) (hts (.fieldLink RX3 15 "KnotHouse$Codes" "lengths" "[B") (by decide +kernel)) (fun _ h9 => h9) rfl dX3_write_27 ?_
  refine lv_iload_n hx hb dX3_write_30 rfl (lv_at hl 3 rfl) ?_
  refine va_bald hx hb hK hP 6 1 rfl rfl (vp_in_nI (n := 0) (N := 1) (by decide) (by decide)) dX3_write_31 ?_
  refine lv_topi (fun x2 _ => ?_)
  refine ow_bast hx hb hK hP hD hS 2 1 rfl rfl (vp_in_nI (n := 0) (N := 40) (by decide) (by decide)) dX3_write_32 (fun f3 H locs hP hD hS => ?_)
  have hP : va_P (dC, dI) vwCl [((u 0), .inr (6, [.ref (u 19), .ref (u 20), .ref (u 21), .ref (u 22), .int 0])), ((u 19), .inl (cB, 1200, .inl fz)), ((u 20), .inl (cB, 40, .inl f3)), ((u 21), .inl (cB, 40, .inl (fun _ => 0))), ((u 45), .inr (6, [.ref (u 51), .ref (u 52), .ref (u 53), .ref (u 54), .int 0])), ((u 51), .inl (cB, 30, .inl fa)), ((u 52), .inl (cB, 1, .inl fb)), ((u 53), .inl (cB, 1, .inl fc))] H := hP
  have hD : va_D A [((u 0), .inr (6, [.ref (u 19), .ref (u 20), .ref (u 21), .ref (u 22), .int 0])), ((u 19), .inl (cB, 1200, .inl fz)), ((u 20), .inl (cB, 40, .inl f3)), ((u 21), .inl (cB, 40, .inl (fun _ => 0))), ((u 45), .inr (6, [.ref (u 51), .ref (u 52), .ref (u 53), .ref (u 54), .int 0])), ((u 51), .inl (cB, 30, .inl fa)), ((u 52), .inl (cB, 1, .inl fb)), ((u 53), .inl (cB, 1, .inl fc))] := hD
  refine lv_aload_n hx hb dX3_write_33 rfl (lv_at hl 0 rfl) ?_
  refine va_get (D := (dC, dI)) (ci := 6) (v := .ref (u 21)) (C := RX3) (T := TX3) (N := 5) hx hb hts (by decide +kernel) hown hK hP 0 rfl rfl 2 (by decide) (hts (.fieldLink RX3 18 "KnotHouse$Codes" "crossings" "[B") (by decide +kernel)) (fun _ h9 => h9) rfl dX3_write_34 ?_
  refine lv_iload_n hx hb dX3_write_37 rfl (lv_at hl 1 rfl) ?_
  refine lv_aload_n hx hb dX3_write_38 rfl (lv_at hl 2 rfl) ?_
  refine va_get (D := (dC, dI)) (ci := 6) (v := .ref (u 53)) (C := RX3) (T := TX3) (N := 5) hx hb hts (by decide +kernel) hown hK hP 4 rfl rfl 2 (by decide) (hts (.fieldLink RX3 18 "KnotHouse$Codes" "crossings" "[B") (by decide +kernel)) (fun _ h9 => h9) rfl dX3_write_39 ?_
  refine lv_iload_n hx hb dX3_write_42 rfl (lv_at hl 3 rfl) ?_
  refine va_bald hx hb hK hP 7 1 rfl rfl (vp_in_nI (n := 0) (N := 1) (by decide) (by decide)) dX3_write_43 ?_
  refine lv_topi (fun x5 _ => ?_)
  refine ow_bast hx hb hK hP hD hS 3 1 rfl rfl (vp_in_nI (n := 0) (N := 40) (by decide) (by decide)) dX3_write_44 (fun f6 H locs hP hD hS => ?_)
  have hP : va_P (dC, dI) vwCl [((u 0), .inr (6, [.ref (u 19), .ref (u 20), .ref (u 21), .ref (u 22), .int 0])), ((u 19), .inl (cB, 1200, .inl fz)), ((u 20), .inl (cB, 40, .inl f3)), ((u 21), .inl (cB, 40, .inl f6)), ((u 45), .inr (6, [.ref (u 51), .ref (u 52), .ref (u 53), .ref (u 54), .int 0])), ((u 51), .inl (cB, 30, .inl fa)), ((u 52), .inl (cB, 1, .inl fb)), ((u 53), .inl (cB, 1, .inl fc))] H := hP
  have hD : va_D A [((u 0), .inr (6, [.ref (u 19), .ref (u 20), .ref (u 21), .ref (u 22), .int 0])), ((u 19), .inl (cB, 1200, .inl fz)), ((u 20), .inl (cB, 40, .inl f3)), ((u 21), .inl (cB, 40, .inl f6)), ((u 45), .inr (6, [.ref (u 51), .ref (u 52), .ref (u 53), .ref (u 54), .int 0])), ((u 51), .inl (cB, 30, .inl fa)), ((u 52), .inl (cB, 1, .inl fb)), ((u 53), .inl (cB, 1, .inl fc))] := hD
  rw [hQQ]
  exact W.vret hx hb hr (fun t ht hW => ⟨⟨(), rfl, trivial, trivial⟩, hS.F ht⟩) hS.2.2 dX3_write_45
