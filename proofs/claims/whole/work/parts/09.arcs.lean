set_option maxHeartbeats 4000000 in
set_option maxRecDepth 100000 in
theorem k_X0_init (l : Launch) (dC : Nat → ClassId) (dI : Nat → Nat → Nat) (cI cB cJ cZ : ClassId) (h0 sz : Nat) : Met l yX0_init wsX0_init (({ frames := 2, cells := 25, slots := 1116, locals := 44 } : Room)) (va_Pc [.ref h0] (fun U => U.heap.size = sz ∧ va_P (dC, dI) vwCl [(h0, .inr (3, [.null, .int 0, .null, .null, .int 0, .null, .null, .null, .null, .int 0, .null, .null, .null, .null, .null, .int 0]))] U.heap ∧ va_K (dC, dI) vwCl [(cI, .int), (cB, .byte), (cJ, .long), (cZ, .boolean)] U ∧ va_D (fun _ => True) [(h0, .inr (3, [.null, .int 0, .null, .null, .int 0, .null, .null, .null, .null, .int 0, .null, .null, .null, .null, .null, .int 0]))] ∧ ow_AO .long U)) (va_Qv (fun _ : Unit => True) (fun u t => va_P (dC, dI) vwCl [] t.heap ∧ va_D (va_A [(h0, .inr (3, [.null, .int 0, .null, .null, .int 0, .null, .null, .null, .null, .int 0, .null, .null, .null, .null, .null, .int 0]))] sz) []) (va_A [(h0, .inr (3, [.null, .int 0, .null, .null, .int 0, .null, .null, .null, .null, .int 0, .null, .null, .null, .null, .null, .int 0]))] sz)) 25 1116 (va_A [(h0, .inr (3, [.null, .int 0, .null, .null, .int 0, .null, .null, .null, .null, .int 0, .null, .null, .null, .null, .null, .int 0]))] sz) := by
  refine Met.ofW (cc := cX0_init) (maxL := 7) (ret := none) (by decide) rfl ?_
  intro p e s m args below meth c s₁ B hml hv
  obtain ⟨rfl, hsz, hP, hK, hD0, hO⟩ := hv
  have hx := B.exec
  have hb := B.bytes
  have hr := B.returns
  have hts := atoms_spec (ws := wsX0_init) B.pre
  have hown : s.vm.findClass RX0 = some m.cls := findClass_of_methodNamed B.named
  have hlocks := B.notSynchronized
  have hin : meth.name = "<init>" := (name_of_methodNamed B.named B.method).1
  subst hsz
  have hD := hD0.self (sz := s.heap.size)
  generalize hAe : va_A [(h0, .inr (3, [.null, .int 0, .null, .null, .int 0, .null, .null, .null, .null, .int 0, .null, .null, .null, .null, .null, .int 0]))] s.heap.size = A at hD ⊢
  have hA : ∀ q : Nat, s.heap.size ≤ q → A q := fun q h => by rw [← hAe]; exact Or.inr h
  have hS : va_S A s.heap s.heap [] := va_S.rf
  have hP : va_P (dC, dI) vwCl [(h0, .inr (3, [.null, .int 0, .null, .null, .int 0, .null, .null, .null, .null, .int 0, .null, .null, .null, .null, .null, .int 0]))] s.heap := hP
  have hl := lv_entry ([.ref h0]) (n := 7) (Nat.le_of_ble_eq_true rfl)
  rw [lg_entry_eq]
  generalize (lg_sl ([.ref h0]) ++ List.replicate (7 - (lg_sl ([.ref h0])).length) Slot.unset).toArray = ls at hl ⊢
  have hl : lv_has ls 7 [(0, .ref h0)] := hl
  refine ow_named (fun QQ hQQ => ?_)
  refine lv_aload_n hx hb dX0_init_0 rfl (lv_at hl 0 rfl) ?_
  refine W.objInit hx hb hown (hts (.methodLink RX0 3 objectInit) (by decide +kernel)) (hts (.instanceMethod objectInit) (by decide +kernel)) (hts (.code objectInit ⟨#[0xb1]⟩ 1 none) (by decide +kernel)) rfl (by rw [hml]; exact hl.1) rfl dX0_init_1 (Nat.le_of_ble_eq_true rfl) (Nat.le_of_ble_eq_true rfl) ?_
  refine W.eq (g2 := F0 m 4 ls []) rfl ?_
  refine lv_aload_n hx hb dX0_init_4 rfl (lv_at hl 0 rfl) ?_
  refine lv_bipush (v := 24) hx hb dX0_init_5 (by decide) ?_
  refine ow_np (D := (dC, dI)) (ci := 3) (C := RX0) (T := TX0) (N := 16) (N' := 24) (a0 := (24, .inl (fun _ => 0))) (ty := .int) (fty := .array .int) hx hb (hts (.arrayClass .int) (by decide +kernel)) rfl hK hP hD hS hA 0 rfl (fun _ h => h) (fun _ => rfl) (by decide) (by decide) (by decide) (Nat.le_of_ble_eq_true rfl) (Nat.le_of_ble_eq_true rfl) hts (by decide +kernel) tyX0 tyX0_ok nmX0 hown 0 rfl rfl 0 (by decide) (hts (.fieldLink RX0 9 "KnotHouse$Arcs" "arc" "[I") (by decide +kernel)) (fun _ h9 => h9) rfl hin rfl (by decide +kernel) (fun _ => rfl) (fun _ => rfl) (Nat.le_of_ble_eq_true rfl) dX0_init_7 dX0_init_9 (fun q1 H locs hP hD hS => ?_)
  have hP : va_P (dC, dI) vwCl [(h0, .inr (3, [.ref q1, .int 0, .null, .null, .int 0, .null, .null, .null, .null, .int 0, .null, .null, .null, .null, .null, .int 0])), (q1, .inl (cI, 24, .inl (fun _ => 0)))] H := hP
  have hD : va_D A [(h0, .inr (3, [.ref q1, .int 0, .null, .null, .int 0, .null, .null, .null, .null, .int 0, .null, .null, .null, .null, .null, .int 0])), (q1, .inl (cI, 24, .inl (fun _ => 0)))] := hD
  refine W.widen (k := 1) (n := 24) (Nat.le_of_ble_eq_true rfl) (Nat.le_of_ble_eq_true rfl) ?_
  refine lv_aload_n hx hb dX0_init_12 rfl (lv_at hl 0 rfl) ?_
  refine lv_bipush (v := 12) hx hb dX0_init_13 (by decide) ?_
  refine lv_bipush (v := 18) hx hb dX0_init_15 (by decide) ?_
  refine ow_mna (ty := .long) (cy := cJ) (N' := 12) (K' := 18) (z := (18, .inr (.inl (fun _ => 0)))) hx hb hown (hts (.classLink RX0 15 "[[J") (by decide +kernel)) hO (hts (.arrayClass .long) (by decide +kernel)) hK hP hD hS hA ((hK.2 2 _ rfl).2) (by decide) (by decide) (by decide) (by decide) (by decide) (by decide) (by decide) (by decide) (Nat.le_of_ble_eq_true rfl) (Nat.le_of_ble_eq_true rfl) (fun _ => rfl) dX0_init_17 (fun q2 r3 cA4 H hK hP hD hS => ?_)
  have hK : va_K (dC, dI) vwCl [(cI, .int), (cB, .byte), (cJ, .long), (cZ, .boolean), (cA4, .array .long)] s := hK
  have hP : va_P (dC, dI) vwCl ([(h0, .inr (3, [.ref q1, .int 0, .null, .null, .int 0, .null, .null, .null, .null, .int 0, .null, .null, .null, .null, .null, .int 0])), (q1, .inl (cI, 24, .inl (fun _ => 0))), (q2, .inl (cA4, 12, .inr (.inr (.inr (.inr (fun i => if i < 12 then some (r3 i) else none))))))] ++ ow_rows r3 (fun _ => .inl (cJ, (18, .inr (.inl (fun _ => 0))))) 12) H := hP
  have hD : va_D A ([(h0, .inr (3, [.ref q1, .int 0, .null, .null, .int 0, .null, .null, .null, .null, .int 0, .null, .null, .null, .null, .null, .int 0])), (q1, .inl (cI, 24, .inl (fun _ => 0))), (q2, .inl (cA4, 12, .inr (.inr (.inr (.inr (fun i => if i < 12 then some (r3 i) else none))))))] ++ ow_rows r3 (fun _ => .inl (cJ, (18, .inr (.inl (fun _ => 0))))) 12) := hD
  refine W.widen (k := 14) (n := 252) (Nat.le_of_ble_eq_true rfl) (Nat.le_of_ble_eq_true rfl) ?_
  refine va_putF (D := (dC, dI)) (ci := 3) (v := .ref q2) (ty := .array (.array .long)) (C := RX0) (T := TX0) (N := 16) hx hb hts (by decide +kernel) tyX0 tyX0_ok nmX0 hown hK hP hD hS 0 rfl rfl 2 (by decide) (hts (.fieldLink RX0 17 "KnotHouse$Arcs" "matrix" "[[J") (by decide +kernel)) (fun _ h9 => h9) rfl hin rfl (by decide +kernel) rfl rfl (Nat.le_of_ble_eq_true rfl) dX0_init_21 (fun H locs hP hD hS => ?_)
  have hP : va_P (dC, dI) vwCl ([(h0, .inr (3, [.ref q1, .int 0, .ref q2, .null, .int 0, .null, .null, .null, .null, .int 0, .null, .null, .null, .null, .null, .int 0])), (q1, .inl (cI, 24, .inl (fun _ => 0))), (q2, .inl (cA4, 12, .inr (.inr (.inr (.inr (fun i => if i < 12 then some (r3 i) else none))))))] ++ ow_rows r3 (fun _ => .inl (cJ, (18, .inr (.inl (fun _ => 0))))) 12) H := hP
  have hD : va_D A ([(h0, .inr (3, [.ref q1, .int 0, .ref q2, .null, .int 0, .null, .null, .null, .null, .int 0, .null, .null, .null, .null, .null, .int 0])), (q1, .inl (cI, 24, .inl (fun _ => 0))), (q2, .inl (cA4, 12, .inr (.inr (.inr (.inr (fun i => if i < 12 then some (r3 i) else none))))))] ++ ow_rows r3 (fun _ => .inl (cJ, (18, .inr (.inl (fun _ => 0))))) 12) := hD
  have hP := hP.sub (ws' := [(h0, .inr (3, [.ref q1, .int 0, .ref q2, .null, .int 0, .null, .null, .null, .null, .int 0, .null, .null, .null, .null, .null, .int 0])), (q1, .inl (cI, 24, .inl (fun _ => 0))), (q2, .inl (cA4, 12, .inr (.inr (.inr (.inr (fun i => if i < 12 then some (r3 i) else none))))))]) [0, 1, 2] rfl
  have hD := hD.sub (ws' := [(h0, .inr (3, [.ref q1, .int 0, .ref q2, .null, .int 0, .null, .null, .null, .null, .int 0, .null, .null, .null, .null, .null, .int 0])), (q1, .inl (cI, 24, .inl (fun _ => 0))), (q2, .inl (cA4, 12, .inr (.inr (.inr (.inr (fun i => if i < 12 then some (r3 i) else none))))))]) [0, 1, 2] (by decide) rfl
  refine lv_aload_n hx hb dX0_init_24 rfl (lv_at hl 0 rfl) ?_
  refine lv_bipush (v := 18) hx hb dX0_init_25 (by decide) ?_
  refine ow_np (D := (dC, dI)) (ci := 3) (C := RX0) (T := TX0) (N := 16) (N' := 18) (a0 := (18, .inr (.inl (fun _ => 0)))) (ty := .long) (fty := .array .long) hx hb (hts (.arrayClass .long) (by decide +kernel)) rfl hK hP hD hS hA 2 rfl (fun _ h => h) (fun _ => rfl) (by decide) (by decide) (by decide) (Nat.le_of_ble_eq_true rfl) (Nat.le_of_ble_eq_true rfl) hts (by decide +kernel) tyX0 tyX0_ok nmX0 hown 0 rfl rfl 3 (by decide) (hts (.fieldLink RX0 20 "KnotHouse$Arcs" "divisors" "[J") (by decide +kernel)) (fun _ h9 => h9) rfl hin rfl (by decide +kernel) (fun _ => rfl) (fun _ => rfl) (Nat.le_of_ble_eq_true rfl) dX0_init_27 dX0_init_29 (fun q5 H locs hP hD hS => ?_)
  have hP : va_P (dC, dI) vwCl [(h0, .inr (3, [.ref q1, .int 0, .ref q2, .ref q5, .int 0, .null, .null, .null, .null, .int 0, .null, .null, .null, .null, .null, .int 0])), (q1, .inl (cI, 24, .inl (fun _ => 0))), (q2, .inl (cA4, 12, .inr (.inr (.inr (.inr (fun i => if i < 12 then some (r3 i) else none)))))), (q5, .inl (cJ, 18, .inr (.inl (fun _ => 0))))] H := hP
  have hD : va_D A [(h0, .inr (3, [.ref q1, .int 0, .ref q2, .ref q5, .int 0, .null, .null, .null, .null, .int 0, .null, .null, .null, .null, .null, .int 0])), (q1, .inl (cI, 24, .inl (fun _ => 0))), (q2, .inl (cA4, 12, .inr (.inr (.inr (.inr (fun i => if i < 12 then some (r3 i) else none)))))), (q5, .inl (cJ, 18, .inr (.inl (fun _ => 0))))] := hD
  refine W.widen (k := 15) (n := 270) (Nat.le_of_ble_eq_true rfl) (Nat.le_of_ble_eq_true rfl) ?_
  refine lv_aload_n hx hb dX0_init_32 rfl (lv_at hl 0 rfl) ?_
  refine lv_sipush (v := 576) hx hb dX0_init_33 (by decide) ?_
  refine ow_np (D := (dC, dI)) (ci := 3) (C := RX0) (T := TX0) (N := 16) (N' := 576) (a0 := (576, .inl (fun _ => 0))) (ty := .byte) (fty := .array .byte) hx hb (hts (.arrayClass .byte) (by decide +kernel)) rfl hK hP hD hS hA 1 rfl (fun _ h => h) (fun _ => rfl) (by decide) (by decide) (by decide) (Nat.le_of_ble_eq_true rfl) (Nat.le_of_ble_eq_true rfl) hts (by decide +kernel) tyX0 tyX0_ok nmX0 hown 0 rfl rfl 5 (by decide) (hts (.fieldLink RX0 24 "KnotHouse$Arcs" "conjugates" "[B") (by decide +kernel)) (fun _ h9 => h9) rfl hin rfl (by decide +kernel) (fun _ => rfl) (fun _ => rfl) (Nat.le_of_ble_eq_true rfl) dX0_init_36 dX0_init_38 (fun q6 H locs hP hD hS => ?_)
  have hP : va_P (dC, dI) vwCl [(h0, .inr (3, [.ref q1, .int 0, .ref q2, .ref q5, .int 0, .ref q6, .null, .null, .null, .int 0, .null, .null, .null, .null, .null, .int 0])), (q1, .inl (cI, 24, .inl (fun _ => 0))), (q2, .inl (cA4, 12, .inr (.inr (.inr (.inr (fun i => if i < 12 then some (r3 i) else none)))))), (q5, .inl (cJ, 18, .inr (.inl (fun _ => 0)))), (q6, .inl (cB, 576, .inl (fun _ => 0)))] H := hP
  have hD : va_D A [(h0, .inr (3, [.ref q1, .int 0, .ref q2, .ref q5, .int 0, .ref q6, .null, .null, .null, .int 0, .null, .null, .null, .null, .null, .int 0])), (q1, .inl (cI, 24, .inl (fun _ => 0))), (q2, .inl (cA4, 12, .inr (.inr (.inr (.inr (fun i => if i < 12 then some (r3 i) else none)))))), (q5, .inl (cJ, 18, .inr (.inl (fun _ => 0)))), (q6, .inl (cB, 576, .inl (fun _ => 0)))] := hD
  refine W.widen (k := 16) (n := 846) (Nat.le_of_ble_eq_true rfl) (Nat.le_of_ble_eq_true rfl) ?_
  refine lv_aload_n hx hb dX0_init_41 rfl (lv_at hl 0 rfl) ?_
  refine lv_bipush (v := 24) hx hb dX0_init_42 (by decide) ?_
  refine ow_np (D := (dC, dI)) (ci := 3) (C := RX0) (T := TX0) (N := 16) (N' := 24) (a0 := (24, .inl (fun _ => 0))) (ty := .byte) (fty := .array .byte) hx hb (hts (.arrayClass .byte) (by decide +kernel)) rfl hK hP hD hS hA 1 rfl (fun _ h => h) (fun _ => rfl) (by decide) (by decide) (by decide) (Nat.le_of_ble_eq_true rfl) (Nat.le_of_ble_eq_true rfl) hts (by decide +kernel) tyX0 tyX0_ok nmX0 hown 0 rfl rfl 6 (by decide) (hts (.fieldLink RX0 28 "KnotHouse$Arcs" "inverses" "[B") (by decide +kernel)) (fun _ h9 => h9) rfl hin rfl (by decide +kernel) (fun _ => rfl) (fun _ => rfl) (Nat.le_of_ble_eq_true rfl) dX0_init_44 dX0_init_46 (fun q7 H locs hP hD hS => ?_)
  have hP : va_P (dC, dI) vwCl [(h0, .inr (3, [.ref q1, .int 0, .ref q2, .ref q5, .int 0, .ref q6, .ref q7, .null, .null, .int 0, .null, .null, .null, .null, .null, .int 0])), (q1, .inl (cI, 24, .inl (fun _ => 0))), (q2, .inl (cA4, 12, .inr (.inr (.inr (.inr (fun i => if i < 12 then some (r3 i) else none)))))), (q5, .inl (cJ, 18, .inr (.inl (fun _ => 0)))), (q6, .inl (cB, 576, .inl (fun _ => 0))), (q7, .inl (cB, 24, .inl (fun _ => 0)))] H := hP
  have hD : va_D A [(h0, .inr (3, [.ref q1, .int 0, .ref q2, .ref q5, .int 0, .ref q6, .ref q7, .null, .null, .int 0, .null, .null, .null, .null, .null, .int 0])), (q1, .inl (cI, 24, .inl (fun _ => 0))), (q2, .inl (cA4, 12, .inr (.inr (.inr (.inr (fun i => if i < 12 then some (r3 i) else none)))))), (q5, .inl (cJ, 18, .inr (.inl (fun _ => 0)))), (q6, .inl (cB, 576, .inl (fun _ => 0))), (q7, .inl (cB, 24, .inl (fun _ => 0)))] := hD
  refine W.widen (k := 17) (n := 870) (Nat.le_of_ble_eq_true rfl) (Nat.le_of_ble_eq_true rfl) ?_
  refine lv_aload_n hx hb dX0_init_49 rfl (lv_at hl 0 rfl) ?_
  refine lv_bipush (v := 24) hx hb dX0_init_50 (by decide) ?_
  refine ow_np (D := (dC, dI)) (ci := 3) (C := RX0) (T := TX0) (N := 16) (N' := 24) (a0 := (24, .inl (fun _ => 0))) (ty := .int) (fty := .array .int) hx hb (hts (.arrayClass .int) (by decide +kernel)) rfl hK hP hD hS hA 0 rfl (fun _ h => h) (fun _ => rfl) (by decide) (by decide) (by decide) (Nat.le_of_ble_eq_true rfl) (Nat.le_of_ble_eq_true rfl) hts (by decide +kernel) tyX0 tyX0_ok nmX0 hown 0 rfl rfl 7 (by decide) (hts (.fieldLink RX0 31 "KnotHouse$Arcs" "classSize" "[I") (by decide +kernel)) (fun _ h9 => h9) rfl hin rfl (by decide +kernel) (fun _ => rfl) (fun _ => rfl) (Nat.le_of_ble_eq_true rfl) dX0_init_52 dX0_init_54 (fun q8 H locs hP hD hS => ?_)
  have hP : va_P (dC, dI) vwCl [(h0, .inr (3, [.ref q1, .int 0, .ref q2, .ref q5, .int 0, .ref q6, .ref q7, .ref q8, .null, .int 0, .null, .null, .null, .null, .null, .int 0])), (q1, .inl (cI, 24, .inl (fun _ => 0))), (q2, .inl (cA4, 12, .inr (.inr (.inr (.inr (fun i => if i < 12 then some (r3 i) else none)))))), (q5, .inl (cJ, 18, .inr (.inl (fun _ => 0)))), (q6, .inl (cB, 576, .inl (fun _ => 0))), (q7, .inl (cB, 24, .inl (fun _ => 0))), (q8, .inl (cI, 24, .inl (fun _ => 0)))] H := hP
  have hD : va_D A [(h0, .inr (3, [.ref q1, .int 0, .ref q2, .ref q5, .int 0, .ref q6, .ref q7, .ref q8, .null, .int 0, .null, .null, .null, .null, .null, .int 0])), (q1, .inl (cI, 24, .inl (fun _ => 0))), (q2, .inl (cA4, 12, .inr (.inr (.inr (.inr (fun i => if i < 12 then some (r3 i) else none)))))), (q5, .inl (cJ, 18, .inr (.inl (fun _ => 0)))), (q6, .inl (cB, 576, .inl (fun _ => 0))), (q7, .inl (cB, 24, .inl (fun _ => 0))), (q8, .inl (cI, 24, .inl (fun _ => 0)))] := hD
  refine W.widen (k := 18) (n := 894) (Nat.le_of_ble_eq_true rfl) (Nat.le_of_ble_eq_true rfl) ?_
  refine lv_aload_n hx hb dX0_init_57 rfl (lv_at hl 0 rfl) ?_
  refine lv_bipush (v := 18) hx hb dX0_init_58 (by decide) ?_
  refine ow_np (D := (dC, dI)) (ci := 3) (C := RX0) (T := TX0) (N := 16) (N' := 18) (a0 := (18, .inl (fun _ => 0))) (ty := .int) (fty := .array .int) hx hb (hts (.arrayClass .int) (by decide +kernel)) rfl hK hP hD hS hA 0 rfl (fun _ h => h) (fun _ => rfl) (by decide) (by decide) (by decide) (Nat.le_of_ble_eq_true rfl) (Nat.le_of_ble_eq_true rfl) hts (by decide +kernel) tyX0 tyX0_ok nmX0 hown 0 rfl rfl 8 (by decide) (hts (.fieldLink RX0 34 "KnotHouse$Arcs" "value" "[I") (by decide +kernel)) (fun _ h9 => h9) rfl hin rfl (by decide +kernel) (fun _ => rfl) (fun _ => rfl) (Nat.le_of_ble_eq_true rfl) dX0_init_60 dX0_init_62 (fun q9 H locs hP hD hS => ?_)
  have hP : va_P (dC, dI) vwCl [(h0, .inr (3, [.ref q1, .int 0, .ref q2, .ref q5, .int 0, .ref q6, .ref q7, .ref q8, .ref q9, .int 0, .null, .null, .null, .null, .null, .int 0])), (q1, .inl (cI, 24, .inl (fun _ => 0))), (q2, .inl (cA4, 12, .inr (.inr (.inr (.inr (fun i => if i < 12 then some (r3 i) else none)))))), (q5, .inl (cJ, 18, .inr (.inl (fun _ => 0)))), (q6, .inl (cB, 576, .inl (fun _ => 0))), (q7, .inl (cB, 24, .inl (fun _ => 0))), (q8, .inl (cI, 24, .inl (fun _ => 0))), (q9, .inl (cI, 18, .inl (fun _ => 0)))] H := hP
  have hD : va_D A [(h0, .inr (3, [.ref q1, .int 0, .ref q2, .ref q5, .int 0, .ref q6, .ref q7, .ref q8, .ref q9, .int 0, .null, .null, .null, .null, .null, .int 0])), (q1, .inl (cI, 24, .inl (fun _ => 0))), (q2, .inl (cA4, 12, .inr (.inr (.inr (.inr (fun i => if i < 12 then some (r3 i) else none)))))), (q5, .inl (cJ, 18, .inr (.inl (fun _ => 0)))), (q6, .inl (cB, 576, .inl (fun _ => 0))), (q7, .inl (cB, 24, .inl (fun _ => 0))), (q8, .inl (cI, 24, .inl (fun _ => 0))), (q9, .inl (cI, 18, .inl (fun _ => 0)))] := hD
  refine W.widen (k := 19) (n := 912) (Nat.le_of_ble_eq_true rfl) (Nat.le_of_ble_eq_true rfl) ?_
  refine lv_aload_n hx hb dX0_init_65 rfl (lv_at hl 0 rfl) ?_
  refine lv_bipush (v := 36) hx hb dX0_init_66 (by decide) ?_
  refine ow_np (D := (dC, dI)) (ci := 3) (C := RX0) (T := TX0) (N := 16) (N' := 36) (a0 := (36, .inl (fun _ => 0))) (ty := .int) (fty := .array .int) hx hb (hts (.arrayClass .int) (by decide +kernel)) rfl hK hP hD hS hA 0 rfl (fun _ h => h) (fun _ => rfl) (by decide) (by decide) (by decide) (Nat.le_of_ble_eq_true rfl) (Nat.le_of_ble_eq_true rfl) hts (by decide +kernel) tyX0 tyX0_ok nmX0 hown 0 rfl rfl 10 (by decide) (hts (.fieldLink RX0 37 "KnotHouse$Arcs" "stepKind" "[I") (by decide +kernel)) (fun _ h9 => h9) rfl hin rfl (by decide +kernel) (fun _ => rfl) (fun _ => rfl) (Nat.le_of_ble_eq_true rfl) dX0_init_68 dX0_init_70 (fun q10 H locs hP hD hS => ?_)
  have hP : va_P (dC, dI) vwCl [(h0, .inr (3, [.ref q1, .int 0, .ref q2, .ref q5, .int 0, .ref q6, .ref q7, .ref q8, .ref q9, .int 0, .ref q10, .null, .null, .null, .null, .int 0])), (q1, .inl (cI, 24, .inl (fun _ => 0))), (q2, .inl (cA4, 12, .inr (.inr (.inr (.inr (fun i => if i < 12 then some (r3 i) else none)))))), (q5, .inl (cJ, 18, .inr (.inl (fun _ => 0)))), (q6, .inl (cB, 576, .inl (fun _ => 0))), (q7, .inl (cB, 24, .inl (fun _ => 0))), (q8, .inl (cI, 24, .inl (fun _ => 0))), (q9, .inl (cI, 18, .inl (fun _ => 0))), (q10, .inl (cI, 36, .inl (fun _ => 0)))] H := hP
  have hD : va_D A [(h0, .inr (3, [.ref q1, .int 0, .ref q2, .ref q5, .int 0, .ref q6, .ref q7, .ref q8, .ref q9, .int 0, .ref q10, .null, .null, .null, .null, .int 0])), (q1, .inl (cI, 24, .inl (fun _ => 0))), (q2, .inl (cA4, 12, .inr (.inr (.inr (.inr (fun i => if i < 12 then some (r3 i) else none)))))), (q5, .inl (cJ, 18, .inr (.inl (fun _ => 0)))), (q6, .inl (cB, 576, .inl (fun _ => 0))), (q7, .inl (cB, 24, .inl (fun _ => 0))), (q8, .inl (cI, 24, .inl (fun _ => 0))), (q9, .inl (cI, 18, .inl (fun _ => 0))), (q10, .inl (cI, 36, .inl (fun _ => 0)))] := hD
  refine W.widen (k := 20) (n := 948) (Nat.le_of_ble_eq_true rfl) (Nat.le_of_ble_eq_true rfl) ?_
  refine lv_aload_n hx hb dX0_init_73 rfl (lv_at hl 0 rfl) ?_
  refine lv_bipush (v := 36) hx hb dX0_init_74 (by decide) ?_
  refine ow_np (D := (dC, dI)) (ci := 3) (C := RX0) (T := TX0) (N := 16) (N' := 36) (a0 := (36, .inl (fun _ => 0))) (ty := .int) (fty := .array .int) hx hb (hts (.arrayClass .int) (by decide +kernel)) rfl hK hP hD hS hA 0 rfl (fun _ h => h) (fun _ => rfl) (by decide) (by decide) (by decide) (Nat.le_of_ble_eq_true rfl) (Nat.le_of_ble_eq_true rfl) hts (by decide +kernel) tyX0 tyX0_ok nmX0 hown 0 rfl rfl 11 (by decide) (hts (.fieldLink RX0 40 "KnotHouse$Arcs" "stepTo" "[I") (by decide +kernel)) (fun _ h9 => h9) rfl hin rfl (by decide +kernel) (fun _ => rfl) (fun _ => rfl) (Nat.le_of_ble_eq_true rfl) dX0_init_76 dX0_init_78 (fun q11 H locs hP hD hS => ?_)
  have hP : va_P (dC, dI) vwCl [(h0, .inr (3, [.ref q1, .int 0, .ref q2, .ref q5, .int 0, .ref q6, .ref q7, .ref q8, .ref q9, .int 0, .ref q10, .ref q11, .null, .null, .null, .int 0])), (q1, .inl (cI, 24, .inl (fun _ => 0))), (q2, .inl (cA4, 12, .inr (.inr (.inr (.inr (fun i => if i < 12 then some (r3 i) else none)))))), (q5, .inl (cJ, 18, .inr (.inl (fun _ => 0)))), (q6, .inl (cB, 576, .inl (fun _ => 0))), (q7, .inl (cB, 24, .inl (fun _ => 0))), (q8, .inl (cI, 24, .inl (fun _ => 0))), (q9, .inl (cI, 18, .inl (fun _ => 0))), (q10, .inl (cI, 36, .inl (fun _ => 0))), (q11, .inl (cI, 36, .inl (fun _ => 0)))] H := hP
  have hD : va_D A [(h0, .inr (3, [.ref q1, .int 0, .ref q2, .ref q5, .int 0, .ref q6, .ref q7, .ref q8, .ref q9, .int 0, .ref q10, .ref q11, .null, .null, .null, .int 0])), (q1, .inl (cI, 24, .inl (fun _ => 0))), (q2, .inl (cA4, 12, .inr (.inr (.inr (.inr (fun i => if i < 12 then some (r3 i) else none)))))), (q5, .inl (cJ, 18, .inr (.inl (fun _ => 0)))), (q6, .inl (cB, 576, .inl (fun _ => 0))), (q7, .inl (cB, 24, .inl (fun _ => 0))), (q8, .inl (cI, 24, .inl (fun _ => 0))), (q9, .inl (cI, 18, .inl (fun _ => 0))), (q10, .inl (cI, 36, .inl (fun _ => 0))), (q11, .inl (cI, 36, .inl (fun _ => 0)))] := hD
  refine W.widen (k := 21) (n := 984) (Nat.le_of_ble_eq_true rfl) (Nat.le_of_ble_eq_true rfl) ?_
  refine lv_aload_n hx hb dX0_init_81 rfl (lv_at hl 0 rfl) ?_
  refine lv_bipush (v := 36) hx hb dX0_init_82 (by decide) ?_
  refine ow_np (D := (dC, dI)) (ci := 3) (C := RX0) (T := TX0) (N := 16) (N' := 36) (a0 := (36, .inl (fun _ => 0))) (ty := .int) (fty := .array .int) hx hb (hts (.arrayClass .int) (by decide +kernel)) rfl hK hP hD hS hA 0 rfl (fun _ h => h) (fun _ => rfl) (by decide) (by decide) (by decide) (Nat.le_of_ble_eq_true rfl) (Nat.le_of_ble_eq_true rfl) hts (by decide +kernel) tyX0 tyX0_ok nmX0 hown 0 rfl rfl 12 (by decide) (hts (.fieldLink RX0 43 "KnotHouse$Arcs" "stepBy" "[I") (by decide +kernel)) (fun _ h9 => h9) rfl hin rfl (by decide +kernel) (fun _ => rfl) (fun _ => rfl) (Nat.le_of_ble_eq_true rfl) dX0_init_84 dX0_init_86 (fun q12 H locs hP hD hS => ?_)
  have hP : va_P (dC, dI) vwCl [(h0, .inr (3, [.ref q1, .int 0, .ref q2, .ref q5, .int 0, .ref q6, .ref q7, .ref q8, .ref q9, .int 0, .ref q10, .ref q11, .ref q12, .null, .null, .int 0])), (q1, .inl (cI, 24, .inl (fun _ => 0))), (q2, .inl (cA4, 12, .inr (.inr (.inr (.inr (fun i => if i < 12 then some (r3 i) else none)))))), (q5, .inl (cJ, 18, .inr (.inl (fun _ => 0)))), (q6, .inl (cB, 576, .inl (fun _ => 0))), (q7, .inl (cB, 24, .inl (fun _ => 0))), (q8, .inl (cI, 24, .inl (fun _ => 0))), (q9, .inl (cI, 18, .inl (fun _ => 0))), (q10, .inl (cI, 36, .inl (fun _ => 0))), (q11, .inl (cI, 36, .inl (fun _ => 0))), (q12, .inl (cI, 36, .inl (fun _ => 0)))] H := hP
  have hD : va_D A [(h0, .inr (3, [.ref q1, .int 0, .ref q2, .ref q5, .int 0, .ref q6, .ref q7, .ref q8, .ref q9, .int 0, .ref q10, .ref q11, .ref q12, .null, .null, .int 0])), (q1, .inl (cI, 24, .inl (fun _ => 0))), (q2, .inl (cA4, 12, .inr (.inr (.inr (.inr (fun i => if i < 12 then some (r3 i) else none)))))), (q5, .inl (cJ, 18, .inr (.inl (fun _ => 0)))), (q6, .inl (cB, 576, .inl (fun _ => 0))), (q7, .inl (cB, 24, .inl (fun _ => 0))), (q8, .inl (cI, 24, .inl (fun _ => 0))), (q9, .inl (cI, 18, .inl (fun _ => 0))), (q10, .inl (cI, 36, .inl (fun _ => 0))), (q11, .inl (cI, 36, .inl (fun _ => 0))), (q12, .inl (cI, 36, .inl (fun _ => 0)))] := hD
  refine W.widen (k := 22) (n := 1020) (Nat.le_of_ble_eq_true rfl) (Nat.le_of_ble_eq_true rfl) ?_
  refine lv_aload_n hx hb dX0_init_89 rfl (lv_at hl 0 rfl) ?_
  refine lv_bipush (v := 36) hx hb dX0_init_90 (by decide) ?_
  refine ow_np (D := (dC, dI)) (ci := 3) (C := RX0) (T := TX0) (N := 16) (N' := 36) (a0 := (36, .inl (fun _ => 0))) (ty := .int) (fty := .array .int) hx hb (hts (.arrayClass .int) (by decide +kernel)) rfl hK hP hD hS hA 0 rfl (fun _ h => h) (fun _ => rfl) (by decide) (by decide) (by decide) (Nat.le_of_ble_eq_true rfl) (Nat.le_of_ble_eq_true rfl) hts (by decide +kernel) tyX0 tyX0_ok nmX0 hown 0 rfl rfl 13 (by decide) (hts (.fieldLink RX0 46 "KnotHouse$Arcs" "stepFrom" "[I") (by decide +kernel)) (fun _ h9 => h9) rfl hin rfl (by decide +kernel) (fun _ => rfl) (fun _ => rfl) (Nat.le_of_ble_eq_true rfl) dX0_init_92 dX0_init_94 (fun q13 H locs hP hD hS => ?_)
  have hP : va_P (dC, dI) vwCl [(h0, .inr (3, [.ref q1, .int 0, .ref q2, .ref q5, .int 0, .ref q6, .ref q7, .ref q8, .ref q9, .int 0, .ref q10, .ref q11, .ref q12, .ref q13, .null, .int 0])), (q1, .inl (cI, 24, .inl (fun _ => 0))), (q2, .inl (cA4, 12, .inr (.inr (.inr (.inr (fun i => if i < 12 then some (r3 i) else none)))))), (q5, .inl (cJ, 18, .inr (.inl (fun _ => 0)))), (q6, .inl (cB, 576, .inl (fun _ => 0))), (q7, .inl (cB, 24, .inl (fun _ => 0))), (q8, .inl (cI, 24, .inl (fun _ => 0))), (q9, .inl (cI, 18, .inl (fun _ => 0))), (q10, .inl (cI, 36, .inl (fun _ => 0))), (q11, .inl (cI, 36, .inl (fun _ => 0))), (q12, .inl (cI, 36, .inl (fun _ => 0))), (q13, .inl (cI, 36, .inl (fun _ => 0)))] H := hP
  have hD : va_D A [(h0, .inr (3, [.ref q1, .int 0, .ref q2, .ref q5, .int 0, .ref q6, .ref q7, .ref q8, .ref q9, .int 0, .ref q10, .ref q11, .ref q12, .ref q13, .null, .int 0])), (q1, .inl (cI, 24, .inl (fun _ => 0))), (q2, .inl (cA4, 12, .inr (.inr (.inr (.inr (fun i => if i < 12 then some (r3 i) else none)))))), (q5, .inl (cJ, 18, .inr (.inl (fun _ => 0)))), (q6, .inl (cB, 576, .inl (fun _ => 0))), (q7, .inl (cB, 24, .inl (fun _ => 0))), (q8, .inl (cI, 24, .inl (fun _ => 0))), (q9, .inl (cI, 18, .inl (fun _ => 0))), (q10, .inl (cI, 36, .inl (fun _ => 0))), (q11, .inl (cI, 36, .inl (fun _ => 0))), (q12, .inl (cI, 36, .inl (fun _ => 0))), (q13, .inl (cI, 36, .inl (fun _ => 0)))] := hD
  refine W.widen (k := 23) (n := 1056) (Nat.le_of_ble_eq_true rfl) (Nat.le_of_ble_eq_true rfl) ?_
  refine lv_aload_n hx hb dX0_init_97 rfl (lv_at hl 0 rfl) ?_
  refine lv_bipush (v := 36) hx hb dX0_init_98 (by decide) ?_
  refine ow_np (D := (dC, dI)) (ci := 3) (C := RX0) (T := TX0) (N := 16) (N' := 36) (a0 := (36, .inl (fun _ => 0))) (ty := .boolean) (fty := .array .boolean) hx hb (hts (.arrayClass .boolean) (by decide +kernel)) rfl hK hP hD hS hA 3 rfl (fun _ h => h) (fun _ => rfl) (by decide) (by decide) (by decide) (Nat.le_of_ble_eq_true rfl) (Nat.le_of_ble_eq_true rfl) hts (by decide +kernel) tyX0 tyX0_ok nmX0 hown 0 rfl rfl 14 (by decide) (hts (.fieldLink RX0 49 "KnotHouse$Arcs" "stepInverse" "[Z") (by decide +kernel)) (fun _ h9 => h9) rfl hin rfl (by decide +kernel) (fun _ => rfl) (fun _ => rfl) (Nat.le_of_ble_eq_true rfl) dX0_init_100 dX0_init_102 (fun q14 H locs hP hD hS => ?_)
  have hP : va_P (dC, dI) vwCl [(h0, .inr (3, [.ref q1, .int 0, .ref q2, .ref q5, .int 0, .ref q6, .ref q7, .ref q8, .ref q9, .int 0, .ref q10, .ref q11, .ref q12, .ref q13, .ref q14, .int 0])), (q1, .inl (cI, 24, .inl (fun _ => 0))), (q2, .inl (cA4, 12, .inr (.inr (.inr (.inr (fun i => if i < 12 then some (r3 i) else none)))))), (q5, .inl (cJ, 18, .inr (.inl (fun _ => 0)))), (q6, .inl (cB, 576, .inl (fun _ => 0))), (q7, .inl (cB, 24, .inl (fun _ => 0))), (q8, .inl (cI, 24, .inl (fun _ => 0))), (q9, .inl (cI, 18, .inl (fun _ => 0))), (q10, .inl (cI, 36, .inl (fun _ => 0))), (q11, .inl (cI, 36, .inl (fun _ => 0))), (q12, .inl (cI, 36, .inl (fun _ => 0))), (q13, .inl (cI, 36, .inl (fun _ => 0))), (q14, .inl (cZ, 36, .inl (fun _ => 0)))] H := hP
  have hD : va_D A [(h0, .inr (3, [.ref q1, .int 0, .ref q2, .ref q5, .int 0, .ref q6, .ref q7, .ref q8, .ref q9, .int 0, .ref q10, .ref q11, .ref q12, .ref q13, .ref q14, .int 0])), (q1, .inl (cI, 24, .inl (fun _ => 0))), (q2, .inl (cA4, 12, .inr (.inr (.inr (.inr (fun i => if i < 12 then some (r3 i) else none)))))), (q5, .inl (cJ, 18, .inr (.inl (fun _ => 0)))), (q6, .inl (cB, 576, .inl (fun _ => 0))), (q7, .inl (cB, 24, .inl (fun _ => 0))), (q8, .inl (cI, 24, .inl (fun _ => 0))), (q9, .inl (cI, 18, .inl (fun _ => 0))), (q10, .inl (cI, 36, .inl (fun _ => 0))), (q11, .inl (cI, 36, .inl (fun _ => 0))), (q12, .inl (cI, 36, .inl (fun _ => 0))), (q13, .inl (cI, 36, .inl (fun _ => 0))), (q14, .inl (cZ, 36, .inl (fun _ => 0)))] := hD
  refine W.widen (k := 24) (n := 1092) (Nat.le_of_ble_eq_true rfl) (Nat.le_of_ble_eq_true rfl) ?_
  refine lv_bipush (v := 24) hx hb dX0_init_105 (by decide) ?_
  refine ow_newa (N' := 24) (a0 := (24, .inl (fun _ => 0))) (ty := .int) hx hb (hts (.arrayClass .int) (by decide +kernel)) rfl hK hP hD hS hA 0 rfl (fun _ h => h) (fun _ => rfl) (by decide) (by decide) (by decide) (Nat.le_of_ble_eq_true rfl) (Nat.le_of_ble_eq_true rfl) dX0_init_107 (fun q15 H hP hD hS => ?_)
  have hP : va_P (dC, dI) vwCl [(h0, .inr (3, [.ref q1, .int 0, .ref q2, .ref q5, .int 0, .ref q6, .ref q7, .ref q8, .ref q9, .int 0, .ref q10, .ref q11, .ref q12, .ref q13, .ref q14, .int 0])), (q1, .inl (cI, 24, .inl (fun _ => 0))), (q2, .inl (cA4, 12, .inr (.inr (.inr (.inr (fun i => if i < 12 then some (r3 i) else none)))))), (q5, .inl (cJ, 18, .inr (.inl (fun _ => 0)))), (q6, .inl (cB, 576, .inl (fun _ => 0))), (q7, .inl (cB, 24, .inl (fun _ => 0))), (q8, .inl (cI, 24, .inl (fun _ => 0))), (q9, .inl (cI, 18, .inl (fun _ => 0))), (q10, .inl (cI, 36, .inl (fun _ => 0))), (q11, .inl (cI, 36, .inl (fun _ => 0))), (q12, .inl (cI, 36, .inl (fun _ => 0))), (q13, .inl (cI, 36, .inl (fun _ => 0))), (q14, .inl (cZ, 36, .inl (fun _ => 0))), (q15, .inl (cI, 24, .inl (fun _ => 0)))] H := hP
  have hD : va_D A [(h0, .inr (3, [.ref q1, .int 0, .ref q2, .ref q5, .int 0, .ref q6, .ref q7, .ref q8, .ref q9, .int 0, .ref q10, .ref q11, .ref q12, .ref q13, .ref q14, .int 0])), (q1, .inl (cI, 24, .inl (fun _ => 0))), (q2, .inl (cA4, 12, .inr (.inr (.inr (.inr (fun i => if i < 12 then some (r3 i) else none)))))), (q5, .inl (cJ, 18, .inr (.inl (fun _ => 0)))), (q6, .inl (cB, 576, .inl (fun _ => 0))), (q7, .inl (cB, 24, .inl (fun _ => 0))), (q8, .inl (cI, 24, .inl (fun _ => 0))), (q9, .inl (cI, 18, .inl (fun _ => 0))), (q10, .inl (cI, 36, .inl (fun _ => 0))), (q11, .inl (cI, 36, .inl (fun _ => 0))), (q12, .inl (cI, 36, .inl (fun _ => 0))), (q13, .inl (cI, 36, .inl (fun _ => 0))), (q14, .inl (cZ, 36, .inl (fun _ => 0))), (q15, .inl (cI, 24, .inl (fun _ => 0)))] := hD
  refine W.widen (k := 25) (n := 1116) (Nat.le_of_ble_eq_true rfl) (Nat.le_of_ble_eq_true rfl) ?_
  refine lv_astore_n (lv' := [(1, .ref q15), (0, .ref h0)]) hx hb dX0_init_109 rfl hl (by decide) rfl (fun ls hl => ?_)
  refine lv_aload_n hx hb dX0_init_110 rfl (lv_at hl 0 rfl) ?_
  have hPc := hP.sub (ws' := [(q15, .inl (cI, 24, .inl (fun _ => 0)))]) [13] rfl
  have hDc := hD.sub (ws' := [(q15, .inl (cI, 24, .inl (fun _ => 0)))]) [13] (by decide) rfl
  have hFc := va_free (wc := [(q15, .inl (cI, 24, .inl (fun _ => 0)))]) hD hS hA [13] rfl
  refine va_callv (va_runS (As := [.ref q15]) (rest := []) ⟨hx, hb, hml, hown, hts⟩ (k_X0_listPermutations l dC dI cI cB cJ cZ q15 H.size (fun _ => 0)) (va_cwS 1 hts gX0_init_X0_listPermutations rfl rfl rfl (by decide +kernel) ⟨(Nat.le_of_ble_eq_true rfl), (Nat.le_of_ble_eq_true rfl)⟩) ⟨fun a U g mk q => by obtain ⟨q0, q1, qP, qK, qD⟩ := q; exact ⟨q0, q1, qP, va_K.moved (u := U) (U := U.calling g mk a) (Vm.Alike.refl U.vm) qK, qD⟩, fun U hU hW => ⟨rfl, by rw [hU], by rw [hU]; exact hPc, va_K.moved hW.alike (hK.sub (tys' := [(cI, .int), (cB, .byte), (cJ, .long), (cZ, .boolean)]) [0, 1, 2, 3] rfl), hDc.weaken (fun _ _ _ _ => trivial)⟩⟩ rfl rfl hl.1 rfl (lv_room (Nat.le_of_ble_eq_true rfl)) dX0_init_111 ⟨(Nat.le_of_ble_eq_true rfl), (Nat.le_of_ble_eq_true rfl)⟩) hS (fun q _ h => hFc q h) hFc (fun f16 t H1 locs ht hvm hw hB hz1 hk1 hS => ?_)
  obtain ⟨hP1, hD1⟩ := hB
  rw [ht] at hP1
  obtain ⟨hP, hD⟩ := va_join (wr := [(h0, .inr (3, [.ref q1, .int 0, .ref q2, .ref q5, .int 0, .ref q6, .ref q7, .ref q8, .ref q9, .int 0, .ref q10, .ref q11, .ref q12, .ref q13, .ref q14, .int 0])), (q1, .inl (cI, 24, .inl (fun _ => 0))), (q2, .inl (cA4, 12, .inr (.inr (.inr (.inr (fun i => if i < 12 then some (r3 i) else none)))))), (q5, .inl (cJ, 18, .inr (.inl (fun _ => 0)))), (q6, .inl (cB, 576, .inl (fun _ => 0))), (q7, .inl (cB, 24, .inl (fun _ => 0))), (q8, .inl (cI, 24, .inl (fun _ => 0))), (q9, .inl (cI, 18, .inl (fun _ => 0))), (q10, .inl (cI, 36, .inl (fun _ => 0))), (q11, .inl (cI, 36, .inl (fun _ => 0))), (q12, .inl (cI, 36, .inl (fun _ => 0))), (q13, .inl (cI, 36, .inl (fun _ => 0))), (q14, .inl (cZ, 36, .inl (fun _ => 0)))]) (w1 := [(q15, .inl (cI, 24, .inl f16))]) hP hD [13] [0, 1, 2, 3, 4, 5, 6, 7, 8, 9, 10, 11, 12] rfl rfl (by decide) (by decide) hk1 hFc hP1 hD1
  generalize H1 = H at hP hS ⊢
  have hP : va_P (dC, dI) vwCl [(h0, .inr (3, [.ref q1, .int 0, .ref q2, .ref q5, .int 0, .ref q6, .ref q7, .ref q8, .ref q9, .int 0, .ref q10, .ref q11, .ref q12, .ref q13, .ref q14, .int 0])), (q1, .inl (cI, 24, .inl (fun _ => 0))), (q2, .inl (cA4, 12, .inr (.inr (.inr (.inr (fun i => if i < 12 then some (r3 i) else none)))))), (q5, .inl (cJ, 18, .inr (.inl (fun _ => 0)))), (q6, .inl (cB, 576, .inl (fun _ => 0))), (q7, .inl (cB, 24, .inl (fun _ => 0))), (q8, .inl (cI, 24, .inl (fun _ => 0))), (q9, .inl (cI, 18, .inl (fun _ => 0))), (q10, .inl (cI, 36, .inl (fun _ => 0))), (q11, .inl (cI, 36, .inl (fun _ => 0))), (q12, .inl (cI, 36, .inl (fun _ => 0))), (q13, .inl (cI, 36, .inl (fun _ => 0))), (q14, .inl (cZ, 36, .inl (fun _ => 0))), (q15, .inl (cI, 24, .inl f16))] H := hP
  have hD : va_D A [(h0, .inr (3, [.ref q1, .int 0, .ref q2, .ref q5, .int 0, .ref q6, .ref q7, .ref q8, .ref q9, .int 0, .ref q10, .ref q11, .ref q12, .ref q13, .ref q14, .int 0])), (q1, .inl (cI, 24, .inl (fun _ => 0))), (q2, .inl (cA4, 12, .inr (.inr (.inr (.inr (fun i => if i < 12 then some (r3 i) else none)))))), (q5, .inl (cJ, 18, .inr (.inl (fun _ => 0)))), (q6, .inl (cB, 576, .inl (fun _ => 0))), (q7, .inl (cB, 24, .inl (fun _ => 0))), (q8, .inl (cI, 24, .inl (fun _ => 0))), (q9, .inl (cI, 18, .inl (fun _ => 0))), (q10, .inl (cI, 36, .inl (fun _ => 0))), (q11, .inl (cI, 36, .inl (fun _ => 0))), (q12, .inl (cI, 36, .inl (fun _ => 0))), (q13, .inl (cI, 36, .inl (fun _ => 0))), (q14, .inl (cZ, 36, .inl (fun _ => 0))), (q15, .inl (cI, 24, .inl f16))] := hD
  have hP := hP.sub (ws' := [(h0, .inr (3, [.ref q1, .int 0, .ref q2, .ref q5, .int 0, .ref q6, .ref q7, .ref q8, .ref q9, .int 0, .ref q10, .ref q11, .ref q12, .ref q13, .ref q14, .int 0])), (q6, .inl (cB, 576, .inl (fun _ => 0))), (q7, .inl (cB, 24, .inl (fun _ => 0))), (q15, .inl (cI, 24, .inl f16))]) [0, 4, 5, 13] rfl
  have hD := hD.sub (ws' := [(h0, .inr (3, [.ref q1, .int 0, .ref q2, .ref q5, .int 0, .ref q6, .ref q7, .ref q8, .ref q9, .int 0, .ref q10, .ref q11, .ref q12, .ref q13, .ref q14, .int 0])), (q6, .inl (cB, 576, .inl (fun _ => 0))), (q7, .inl (cB, 24, .inl (fun _ => 0))), (q15, .inl (cI, 24, .inl f16))]) [0, 4, 5, 13] (by decide) rfl
  have L116 : ∀ (n o : Nat), o + n = 24 → ∀ (H : Heap) (locs : List Loc) (ls : Array Slot) (f1 f2 f3 : Nat → Int32), va_P (dC, dI) vwCl [(h0, .inr (3, [.ref q1, .int 0, .ref q2, .ref q5, .int 0, .ref q6, .ref q7, .ref q8, .ref q9, .int 0, .ref q10, .ref q11, .ref q12, .ref q13, .ref q14, .int 0])), (q6, .inl (cB, 576, .inl f1)), (q7, .inl (cB, 24, .inl f2)), (q15, .inl (cI, 24, .inl f3))] H → va_D A [(h0, .inr (3, [.ref q1, .int 0, .ref q2, .ref q5, .int 0, .ref q6, .ref q7, .ref q8, .ref q9, .int 0, .ref q10, .ref q11, .ref q12, .ref q13, .ref q14, .int 0])), (q6, .inl (cB, 576, .inl f1)), (q7, .inl (cB, 24, .inl f2)), (q15, .inl (cI, 24, .inl f3))] → va_S A s.heap H locs → lv_has ls 7 [(0, .ref h0), (1, .ref q15), (2, .int (nI o))] → W p l e ({ frames := 2, cells := 25, slots := 1116, locals := 44 } : Room) s m ([.ref h0] : List Value).toArray below meth c H locs 25 1116 QQ (F0 m 116 ls []) := by
    intro n
    induction n with
    | zero =>
      intro o ho H locs ls f1 f2 f3 hP hD hS hl 
      obtain rfl : o = 24 := by omega
      refine lv_iload_n hx hb dX0_init_116 rfl (lv_at hl 2 rfl) ?_
      refine lv_bipush (v := 24) hx hb dX0_init_117 (by decide) ?_
      refine lv_icmp_ge (tgt := 230) hx hb dX0_init_119 (by decide) (fun _ => ?_) (fun c9 => absurd (by decide) c9)
      rw [hQQ]
      exact W.vret hx hb hr (fun t ht hW => ⟨⟨(), rfl, trivial, fun k9 x9 h9 => by simp at h9, ⟨fun i9 j9 p9 q9 h9 => by simp at h9, fun k9 x9 h9 => by simp at h9⟩⟩, hS.F ht⟩) hS.2.2 dX0_init_230
    | succ n ih_L116 =>
      intro o ho H locs ls f1 f2 f3 hP hD hS hl 
      have ho : o < 24 := by omega
      have L124 : ∀ (n ww : Nat), ww + n = 24 → ∀ (H : Heap) (locs : List Loc) (ls : Array Slot) (f1 f2 f3 : Nat → Int32), va_P (dC, dI) vwCl [(h0, .inr (3, [.ref q1, .int 0, .ref q2, .ref q5, .int 0, .ref q6, .ref q7, .ref q8, .ref q9, .int 0, .ref q10, .ref q11, .ref q12, .ref q13, .ref q14, .int 0])), (q6, .inl (cB, 576, .inl f1)), (q7, .inl (cB, 24, .inl f2)), (q15, .inl (cI, 24, .inl f3))] H → va_D A [(h0, .inr (3, [.ref q1, .int 0, .ref q2, .ref q5, .int 0, .ref q6, .ref q7, .ref q8, .ref q9, .int 0, .ref q10, .ref q11, .ref q12, .ref q13, .ref q14, .int 0])), (q6, .inl (cB, 576, .inl f1)), (q7, .inl (cB, 24, .inl f2)), (q15, .inl (cI, 24, .inl f3))] → va_S A s.heap H locs → lv_has ls 7 [(0, .ref h0), (1, .ref q15), (2, .int (nI o)), (3, .int (nI ww))] → W p l e ({ frames := 2, cells := 25, slots := 1116, locals := 44 } : Room) s m ([.ref h0] : List Value).toArray below meth c H locs 25 1116 QQ (F0 m 124 ls []) := by
        intro n
        induction n with
        | zero =>
          intro ww hww H locs ls f1 f2 f3 hP hD hS hl 
          obtain rfl : ww = 24 := by omega
          refine lv_iload_n hx hb dX0_init_124 rfl (lv_at hl 3 rfl) ?_
          refine lv_bipush (v := 24) hx hb dX0_init_125 (by decide) ?_
          refine lv_icmp_ge (tgt := 206) hx hb dX0_init_127 (by decide) (fun _ => ?_) (fun c9 => absurd (by decide) c9)
          refine lv_aload_n hx hb dX0_init_206 rfl (lv_at hl 0 rfl) ?_
          refine va_get (D := (dC, dI)) (ci := 3) (v := .ref q7) (C := RX0) (T := TX0) (N := 16) hx hb hts (by decide +kernel) hown hK hP 0 rfl rfl 6 (by decide) (hts (.fieldLink RX0 28 "KnotHouse$Arcs" "inverses" "[B") (by decide +kernel)) (fun _ h9 => h9) rfl dX0_init_207 ?_
          refine lv_iload_n hx hb dX0_init_210 rfl (lv_at hl 2 rfl) ?_
          refine lv_aload_n hx hb dX0_init_211 rfl (lv_at hl 1 rfl) ?_
          refine lv_aload_n hx hb dX0_init_212 rfl (lv_at hl 1 rfl) ?_
          refine lv_iload_n hx hb dX0_init_213 rfl (lv_at hl 2 rfl) ?_
          refine va_iald hx hb hK hP 3 0 rfl rfl (vp_in_nI (n := o) (N := 24) ho (by decide)) dX0_init_214 ?_
          refine lv_topi (fun x18 _ => ?_)
          refine lv_iconst (v := 4) hx hb dX0_init_215 (by decide) ?_
          refine va_calli (va_runS (As := [.int x18, .int (nI 4)]) (rest := [.ref q15, .int (nI o), .ref q7]) ⟨hx, hb, hml, hown, hts⟩ (k_X5_invert l x18 4 (by decide)) (va_cwS 2 hts gX0_init_X5_invert rfl rfl rfl (by decide +kernel) ⟨(Nat.le_of_ble_eq_true rfl), (Nat.le_of_ble_eq_true rfl)⟩) ⟨fun a U g mk q => q, fun U hU hW => ⟨rfl, trivial⟩⟩ rfl rfl hl.1 rfl (lv_room (Nat.le_of_ble_eq_true rfl)) dX0_init_216 ⟨(Nat.le_of_ble_eq_true rfl), (Nat.le_of_ble_eq_true rfl)⟩) hS (fun q _ h => h.elim) (fun q h => h.elim) (fun x19 u t H1 locs ht hvm hw hB hz1 hk1 hS => ?_)
          have hP := hP.kept (fun k9 x9 h9 => hk1 x9.1 ((hP k9 x9 h9).lt) id)
          generalize H1 = H at hP hS ⊢
          have hPc := hP.sub (ws' := [(q15, .inl (cI, 24, .inl f3))]) [3] rfl
          refine va_calli (va_runS (As := [.ref q15, .int x19]) (rest := [.int (nI o), .ref q7]) ⟨hx, hb, hml, hown, hts⟩ (k_X0_indexOf l dC dI cI cB cJ cZ q15 f3 x19) (va_cwS 2 hts gX0_init_X0_indexOf rfl rfl rfl (by decide +kernel) ⟨(Nat.le_of_ble_eq_true rfl), (Nat.le_of_ble_eq_true rfl)⟩) ⟨fun a U g mk q => by obtain ⟨q0, qP, qK⟩ := q; exact ⟨q0, qP, va_K.moved (u := U) (U := U.calling g mk a) (Vm.Alike.refl U.vm) qK⟩, fun U hU hW => ⟨rfl, by rw [hU]; exact hPc, va_K.moved hW.alike (hK.sub (tys' := [(cI, .int), (cB, .byte), (cJ, .long), (cZ, .boolean)]) [0, 1, 2, 3] rfl)⟩⟩ rfl rfl hl.1 rfl (lv_room (Nat.le_of_ble_eq_true rfl)) dX0_init_219 ⟨(Nat.le_of_ble_eq_true rfl), (Nat.le_of_ble_eq_true rfl)⟩) hS (fun q _ h => h.elim) (fun q h => h.elim) (fun x20 u t H1 locs ht hvm hw hB hz1 hk1 hS => ?_)
          have hP := hP.kept (fun k9 x9 h9 => hk1 x9.1 ((hP k9 x9 h9).lt) id)
          generalize H1 = H at hP hS ⊢
          refine lv_i2b hx hb dX0_init_222 rfl ?_
          refine lv_topi (fun x21 _ => ?_)
          refine ow_bast hx hb hK hP hD hS 2 1 rfl rfl (vp_in_nI (n := o) (N := 24) ho (by decide)) dX0_init_223 (fun f22 H locs hP hD hS => ?_)
          have hP : va_P (dC, dI) vwCl [(h0, .inr (3, [.ref q1, .int 0, .ref q2, .ref q5, .int 0, .ref q6, .ref q7, .ref q8, .ref q9, .int 0, .ref q10, .ref q11, .ref q12, .ref q13, .ref q14, .int 0])), (q6, .inl (cB, 576, .inl f1)), (q7, .inl (cB, 24, .inl f22)), (q15, .inl (cI, 24, .inl f3))] H := hP
          have hD : va_D A [(h0, .inr (3, [.ref q1, .int 0, .ref q2, .ref q5, .int 0, .ref q6, .ref q7, .ref q8, .ref q9, .int 0, .ref q10, .ref q11, .ref q12, .ref q13, .ref q14, .int 0])), (q6, .inl (cB, 576, .inl f1)), (q7, .inl (cB, 24, .inl f22)), (q15, .inl (cI, 24, .inl f3))] := hD
          refine lv_iinc (v := nI (o + 1)) (lv' := [(2, .int (nI (o + 1))), (0, .ref h0), (1, .ref q15), (3, .int (nI 24))]) hx hb dX0_init_224 hl (k := 2) rfl (nI_1 o) (by decide) rfl (fun ls hl => ?_)
          refine lv_goto (tgt := 116) hx hb dX0_init_227 (by decide) ?_
          have hP := hP.sub (ws' := [(h0, .inr (3, [.ref q1, .int 0, .ref q2, .ref q5, .int 0, .ref q6, .ref q7, .ref q8, .ref q9, .int 0, .ref q10, .ref q11, .ref q12, .ref q13, .ref q14, .int 0])), (q6, .inl (cB, 576, .inl f1)), (q7, .inl (cB, 24, .inl f22)), (q15, .inl (cI, 24, .inl f3))]) [0, 1, 2, 3] rfl
          have hD := hD.sub (ws' := [(h0, .inr (3, [.ref q1, .int 0, .ref q2, .ref q5, .int 0, .ref q6, .ref q7, .ref q8, .ref q9, .int 0, .ref q10, .ref q11, .ref q12, .ref q13, .ref q14, .int 0])), (q6, .inl (cB, 576, .inl f1)), (q7, .inl (cB, 24, .inl f22)), (q15, .inl (cI, 24, .inl f3))]) [0, 1, 2, 3] (by decide) rfl
          exact ih_L116 (o + 1) (by omega) H locs ls _ _ _ hP hD hS (lv_sub hl [1, 2, 0] rfl)
        | succ n ih_L124 =>
          intro ww hww H locs ls f1 f2 f3 hP hD hS hl 
          have hx24 : ww < 24 := by omega
          have L136 : ∀ (n j : Nat), j + n = 4 → ∀ (H : Heap) (locs : List Loc) (ls : Array Slot) (f1 f2 f3 : Nat → Int32) (y : Int32), va_P (dC, dI) vwCl [(h0, .inr (3, [.ref q1, .int 0, .ref q2, .ref q5, .int 0, .ref q6, .ref q7, .ref q8, .ref q9, .int 0, .ref q10, .ref q11, .ref q12, .ref q13, .ref q14, .int 0])), (q6, .inl (cB, 576, .inl f1)), (q7, .inl (cB, 24, .inl f2)), (q15, .inl (cI, 24, .inl f3))] H → va_D A [(h0, .inr (3, [.ref q1, .int 0, .ref q2, .ref q5, .int 0, .ref q6, .ref q7, .ref q8, .ref q9, .int 0, .ref q10, .ref q11, .ref q12, .ref q13, .ref q14, .int 0])), (q6, .inl (cB, 576, .inl f1)), (q7, .inl (cB, 24, .inl f2)), (q15, .inl (cI, 24, .inl f3))] → va_S A s.heap H locs → lv_has ls 7 [(0, .ref h0), (1, .ref q15), (2, .int (nI o)), (3, .int (nI ww)), (4, .int y), (5, .int (nI j))] → W p l e ({ frames := 2, cells := 25, slots := 1116, locals := 44 } : Room) s m ([.ref h0] : List Value).toArray below meth c H locs 25 1116 QQ (F0 m 136 ls []) := by
            intro n
            induction n with
            | zero =>
              intro j hj H locs ls f1 f2 f3 y hP hD hS hl 
              obtain rfl : j = 4 := by omega
              refine lv_iload hx hb dX0_init_136 (lv_at hl 5 rfl) ?_
              refine lv_iconst (v := 4) hx hb dX0_init_138 (by decide) ?_
              refine lv_icmp_ge (tgt := 182) hx hb dX0_init_139 (by decide) (fun _ => ?_) (fun c9 => absurd (by decide) c9)
              refine lv_aload_n hx hb dX0_init_182 rfl (lv_at hl 0 rfl) ?_
              refine va_get (D := (dC, dI)) (ci := 3) (v := .ref q6) (C := RX0) (T := TX0) (N := 16) hx hb hts (by decide +kernel) hown hK hP 0 rfl rfl 5 (by decide) (hts (.fieldLink RX0 24 "KnotHouse$Arcs" "conjugates" "[B") (by decide +kernel)) (fun _ h9 => h9) rfl dX0_init_183 ?_
              refine lv_bipush (v := 24) hx hb dX0_init_186 (by decide) ?_
              refine lv_iload_n hx hb dX0_init_188 rfl (lv_at hl 2 rfl) ?_
              refine lv_imul hx hb dX0_init_189 ?_
              refine ow_topi (y := nI (24 * o)) (pk_mul 24 o) ?_
              refine lv_iload_n hx hb dX0_init_190 rfl (lv_at hl 3 rfl) ?_
              refine lv_iadd hx hb dX0_init_191 ?_
              refine ow_topi (y := nI (24 * o + ww)) (nI_add (24 * o) ww) ?_
              refine lv_aload_n hx hb dX0_init_192 rfl (lv_at hl 1 rfl) ?_
              refine lv_iload hx hb dX0_init_193 (lv_at hl 4 rfl) ?_
              have hPc := hP.sub (ws' := [(q15, .inl (cI, 24, .inl f3))]) [3] rfl
              refine va_calli (va_runS (As := [.ref q15, .int y]) (rest := [.int (nI (24 * o + ww)), .ref q6]) ⟨hx, hb, hml, hown, hts⟩ (k_X0_indexOf l dC dI cI cB cJ cZ q15 f3 y) (va_cwS 2 hts gX0_init_X0_indexOf rfl rfl rfl (by decide +kernel) ⟨(Nat.le_of_ble_eq_true rfl), (Nat.le_of_ble_eq_true rfl)⟩) ⟨fun a U g mk q => by obtain ⟨q0, qP, qK⟩ := q; exact ⟨q0, qP, va_K.moved (u := U) (U := U.calling g mk a) (Vm.Alike.refl U.vm) qK⟩, fun U hU hW => ⟨rfl, by rw [hU]; exact hPc, va_K.moved hW.alike (hK.sub (tys' := [(cI, .int), (cB, .byte), (cJ, .long), (cZ, .boolean)]) [0, 1, 2, 3] rfl)⟩⟩ rfl rfl hl.1 rfl (lv_room (Nat.le_of_ble_eq_true rfl)) dX0_init_195 ⟨(Nat.le_of_ble_eq_true rfl), (Nat.le_of_ble_eq_true rfl)⟩) hS (fun q _ h => h.elim) (fun q h => h.elim) (fun x23 u t H1 locs ht hvm hw hB hz1 hk1 hS => ?_)
              have hP := hP.kept (fun k9 x9 h9 => hk1 x9.1 ((hP k9 x9 h9).lt) id)
              generalize H1 = H at hP hS ⊢
              refine lv_i2b hx hb dX0_init_198 rfl ?_
              refine lv_topi (fun x24 _ => ?_)
              refine ow_bast hx hb hK hP hD hS 1 1 rfl rfl (vp_in_nI (n := 24 * o + ww) (N := 576) (by omega) (by decide)) dX0_init_199 (fun f25 H locs hP hD hS => ?_)
              have hP : va_P (dC, dI) vwCl [(h0, .inr (3, [.ref q1, .int 0, .ref q2, .ref q5, .int 0, .ref q6, .ref q7, .ref q8, .ref q9, .int 0, .ref q10, .ref q11, .ref q12, .ref q13, .ref q14, .int 0])), (q6, .inl (cB, 576, .inl f25)), (q7, .inl (cB, 24, .inl f2)), (q15, .inl (cI, 24, .inl f3))] H := hP
              have hD : va_D A [(h0, .inr (3, [.ref q1, .int 0, .ref q2, .ref q5, .int 0, .ref q6, .ref q7, .ref q8, .ref q9, .int 0, .ref q10, .ref q11, .ref q12, .ref q13, .ref q14, .int 0])), (q6, .inl (cB, 576, .inl f25)), (q7, .inl (cB, 24, .inl f2)), (q15, .inl (cI, 24, .inl f3))] := hD
              refine lv_iinc (v := nI (ww + 1)) (lv' := [(3, .int (nI (ww + 1))), (0, .ref h0), (1, .ref q15), (2, .int (nI o)), (4, .int y), (5, .int (nI 4))]) hx hb dX0_init_200 hl (k := 3) rfl (nI_1 ww) (by decide) rfl (fun ls hl => ?_)
              refine lv_goto (tgt := 124) hx hb dX0_init_203 (by decide) ?_
              exact ih_L124 (ww + 1) (by omega) H locs ls _ _ _ hP hD hS (lv_sub hl [1, 2, 3, 0] rfl)
            | succ n ih_L136 =>
              intro j hj H locs ls f1 f2 f3 y hP hD hS hl 
              refine lv_iload hx hb dX0_init_136 (lv_at hl 5 rfl) ?_
              refine lv_iconst (v := 4) hx hb dX0_init_138 (by decide) ?_
              refine lv_icmp_ge (tgt := 182) hx hb dX0_init_139 (by decide) (fun c9 => absurd c9 (nI_ge (a := j) (b := 4) (by omega) (by decide))) (fun _ => ?_)
              refine lv_aload_n hx hb dX0_init_142 rfl (lv_at hl 1 rfl) ?_
              refine lv_iload_n hx hb dX0_init_143 rfl (lv_at hl 2 rfl) ?_
              refine va_iald hx hb hK hP 3 0 rfl rfl (vp_in_nI (n := o) (N := 24) ho (by decide)) dX0_init_144 ?_
              refine lv_topi (fun x27 _ => ?_)
              refine lv_iload hx hb dX0_init_145 (lv_at hl 5 rfl) ?_
              refine va_calli (va_runS (As := [.int x27, .int (nI j)]) (rest := []) ⟨hx, hb, hml, hown, hts⟩ (k_X5_image l x27 (nI j)) (va_cwS 2 hts gX0_init_X5_image rfl rfl rfl (by decide +kernel) ⟨(Nat.le_of_ble_eq_true rfl), (Nat.le_of_ble_eq_true rfl)⟩) ⟨fun a U g mk q => q, fun U hU hW => ⟨rfl, trivial⟩⟩ rfl rfl hl.1 rfl (lv_room (Nat.le_of_ble_eq_true rfl)) dX0_init_147 ⟨(Nat.le_of_ble_eq_true rfl), (Nat.le_of_ble_eq_true rfl)⟩) hS (fun q _ h => h.elim) (fun q h => h.elim) (fun x28 u t H1 locs ht hvm hw hB hz1 hk1 hS => ?_)
              have hP := hP.kept (fun k9 x9 h9 => hk1 x9.1 ((hP k9 x9 h9).lt) id)
              generalize H1 = H at hP hS ⊢
              refine lv_istore (lv' := [(6, .int x28), (0, .ref h0), (1, .ref q15), (2, .int (nI o)), (3, .int (nI ww)), (4, .int y), (5, .int (nI j))]) hx hb dX0_init_150 hl (by decide) rfl (fun ls hl => ?_)
              refine lv_iload hx hb dX0_init_152 (lv_at hl 5 rfl) ?_
              refine lv_aload_n hx hb dX0_init_154 rfl (lv_at hl 2 rfl) ?_
              refine lv_iload_n hx hb dX0_init_155 rfl (lv_at hl 3 rfl) ?_
              refine va_iald hx hb hK hP 3 0 rfl rfl (vp_in_nI (n := o) (N := 24) ho (by decide)) dX0_init_156 ?_
              refine lv_topi (fun x30 _ => ?_)
              refine lv_aload_n hx hb dX0_init_157 rfl (lv_at hl 2 rfl) ?_
              refine lv_iload_n hx hb dX0_init_158 rfl (lv_at hl 4 rfl) ?_
              refine va_iald hx hb hK hP 3 0 rfl rfl (vp_in_nI (n := ww) (N := 24) hx24 (by decide)) dX0_init_159 ?_
              refine lv_topi (fun x32 _ => ?_)
              refine lv_iload hx hb dX0_init_160 (lv_at hl 6 rfl) ?_
              refine va_calli (va_runS (As := [.int x32, .int (nI j)]) (rest := [.int x30, .int y]) ⟨hx, hb, hml, hown, hts⟩ (k_X5_image l x32 (nI j)) (va_cwS 2 hts gX0_init_X5_image rfl rfl rfl (by decide +kernel) ⟨(Nat.le_of_ble_eq_true rfl), (Nat.le_of_ble_eq_true rfl)⟩) ⟨fun a U g mk q => q, fun U hU hW => ⟨rfl, trivial⟩⟩ rfl rfl hl.1 rfl (lv_room (Nat.le_of_ble_eq_true rfl)) dX0_init_162 ⟨(Nat.le_of_ble_eq_true rfl), (Nat.le_of_ble_eq_true rfl)⟩) hS (fun q _ h => h.elim) (fun q h => h.elim) (fun x33 u t H1 locs ht hvm hw hB hz1 hk1 hS => ?_)
              have hP := hP.kept (fun k9 x9 h9 => hk1 x9.1 ((hP k9 x9 h9).lt) id)
              generalize H1 = H at hP hS ⊢
              refine va_calli (va_runS (As := [.int x30, .int x33]) (rest := [.int y]) ⟨hx, hb, hml, hown, hts⟩ (k_X5_image l x30 x33) (va_cwS 2 hts gX0_init_X5_image rfl rfl rfl (by decide +kernel) ⟨(Nat.le_of_ble_eq_true rfl), (Nat.le_of_ble_eq_true rfl)⟩) ⟨fun a U g mk q => q, fun U hU hW => ⟨rfl, trivial⟩⟩ rfl rfl hl.1 rfl (lv_room (Nat.le_of_ble_eq_true rfl)) dX0_init_165 ⟨(Nat.le_of_ble_eq_true rfl), (Nat.le_of_ble_eq_true rfl)⟩) hS (fun q _ h => h.elim) (fun q h => h.elim) (fun x34 u t H1 locs ht hvm hw hB hz1 hk1 hS => ?_)
              have hP := hP.kept (fun k9 x9 h9 => hk1 x9.1 ((hP k9 x9 h9).lt) id)
              generalize H1 = H at hP hS ⊢
              refine lv_iconst (v := 4) hx hb dX0_init_168 (by decide) ?_
              refine lv_iload hx hb dX0_init_169 (lv_at hl 0 rfl) ?_
              refine lv_imul hx hb dX0_init_171 ?_
              refine lv_ishl hx hb dX0_init_172 ?_
              refine lv_ior hx hb dX0_init_173 ?_
              refine lv_topi (fun x35 _ => ?_)
              refine lv_istore (lv' := [(4, .int x35), (6, .int x28), (0, .ref h0), (1, .ref q15), (2, .int (nI o)), (3, .int (nI ww)), (5, .int (nI j))]) hx hb dX0_init_174 hl (by decide) rfl (fun ls hl => ?_)
              refine lv_iinc (v := nI (j + 1)) (lv' := [(5, .int (nI (j + 1))), (4, .int x35), (6, .int x28), (0, .ref h0), (1, .ref q15), (2, .int (nI o)), (3, .int (nI ww))]) hx hb dX0_init_176 hl (k := 6) rfl (nI_1 j) (by decide) rfl (fun ls hl => ?_)
              refine lv_goto (tgt := 136) hx hb dX0_init_179 (by decide) ?_
              exact ih_L136 (j + 1) (by omega) H locs ls _ _ _ _ hP hD hS (lv_sub hl [3, 4, 5, 6, 1, 0] rfl)
          refine lv_iload_n hx hb dX0_init_124 rfl (lv_at hl 3 rfl) ?_
          refine lv_bipush (v := 24) hx hb dX0_init_125 (by decide) ?_
          refine lv_icmp_ge (tgt := 206) hx hb dX0_init_127 (by decide) (fun c9 => absurd c9 (nI_ge (a := ww) (b := 24) (by omega) (by decide))) (fun _ => ?_)
          refine lv_iconst (v := 0) hx hb dX0_init_130 (by decide) ?_
          refine lv_istore (lv' := [(4, .int 0), (0, .ref h0), (1, .ref q15), (2, .int (nI o)), (3, .int (nI ww))]) hx hb dX0_init_131 hl (by decide) rfl (fun ls hl => ?_)
          refine lv_iconst (v := 0) hx hb dX0_init_133 (by decide) ?_
          refine lv_istore (lv' := [(5, .int 0), (4, .int 0), (0, .ref h0), (1, .ref q15), (2, .int (nI o)), (3, .int (nI ww))]) hx hb dX0_init_134 hl (by decide) rfl (fun ls hl => ?_)
          exact L136 4 0 (by omega) H locs ls _ _ _ 0 hP hD hS (lv_sub hl [2, 3, 4, 5, 1, 0] rfl)
      refine lv_iload_n hx hb dX0_init_116 rfl (lv_at hl 2 rfl) ?_
      refine lv_bipush (v := 24) hx hb dX0_init_117 (by decide) ?_
      refine lv_icmp_ge (tgt := 230) hx hb dX0_init_119 (by decide) (fun c9 => absurd c9 (nI_ge (a := o) (b := 24) (by omega) (by decide))) (fun _ => ?_)
      refine lv_iconst (v := 0) hx hb dX0_init_122 (by decide) ?_
      refine lv_istore_n (lv' := [(3, .int 0), (0, .ref h0), (1, .ref q15), (2, .int (nI o))]) hx hb dX0_init_123 rfl hl (by decide) rfl (fun ls hl => ?_)
      exact L124 24 0 (by omega) H locs ls _ _ _ hP hD hS (lv_sub hl [1, 2, 3, 0] rfl)
  refine lv_iconst (v := 0) hx hb dX0_init_114 (by decide) ?_
  refine lv_istore_n (lv' := [(2, .int 0), (1, .ref q15), (0, .ref h0)]) hx hb dX0_init_115 rfl hl (by decide) rfl (fun ls hl => ?_)
  exact L116 24 0 (by omega) H locs ls _ _ _ hP hD hS (lv_sub hl [2, 1, 0] rfl)
