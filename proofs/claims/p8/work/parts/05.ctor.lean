/-- the cells of a new X7 -/
abbrev wd_X7_init (cI cB cJ cZ : ClassId) (h0 : Nat) (u : Nat × Nat × Nat × Nat × Nat × Nat × Nat) : va_W := match u with
  | (q1, q2, q3, q4, q5, q6, q7) => [(h0, .inr (10, [.ref q1, .ref q2, .ref q3, .ref q4, .ref q5, .ref q6, .ref q7, .int 0, .int 0, .int 0, .int 0])), (q1, .inl (cI, 24, .inl (fun _ => 0))), (q2, .inl (cI, 24, .inl (fun _ => 0))), (q3, .inl (cI, 12, .inl (fun _ => 0))), (q4, .inl (cI, 24, .inl (fun _ => 0))), (q5, .inl (cI, 24, .inl (fun _ => 0))), (q6, .inl (cI, 24, .inl (fun _ => 0))), (q7, .inl (cI, 24, .inl (fun _ => 0)))]
set_option maxHeartbeats 4000000 in
set_option maxRecDepth 100000 in
theorem k_X7_init (l : Launch) (dC : Nat → ClassId) (dI : Nat → Nat → Nat) (cI cB cJ cZ : ClassId) (h0 sz : Nat) : Met l yX7_init wsX7_init ({ frames := 1, cells := 7, slots := 156, locals := 12 }) (va_Pc [.ref h0] (fun U => U.heap.size = sz ∧ va_P (dC, dI) vwCl [(h0, .inr (10, [.null, .null, .null, .null, .null, .null, .null, .int 0, .int 0, .int 0, .int 0]))] U.heap ∧ va_K (dC, dI) vwCl [(cI, .int), (cB, .byte), (cJ, .long), (cZ, .boolean)] U ∧ va_D (fun _ => True) [(h0, .inr (10, [.null, .null, .null, .null, .null, .null, .null, .int 0, .int 0, .int 0, .int 0]))])) (va_Qv (fun _ : Nat × Nat × Nat × Nat × Nat × Nat × Nat => True) (fun u t => va_P (dC, dI) vwCl (wd_X7_init cI cB cJ cZ h0 u) t.heap ∧ va_D (va_A [(h0, .inr (10, [.null, .null, .null, .null, .null, .null, .null, .int 0, .int 0, .int 0, .int 0]))] sz) (wd_X7_init cI cB cJ cZ h0 u)) (va_A [(h0, .inr (10, [.null, .null, .null, .null, .null, .null, .null, .int 0, .int 0, .int 0, .int 0]))] sz)) 7 156 (va_A [(h0, .inr (10, [.null, .null, .null, .null, .null, .null, .null, .int 0, .int 0, .int 0, .int 0]))] sz) := by
  refine Met.ofW (cc := cX7_init) (maxL := 1) (ret := none) (by decide) rfl ?_
  intro p e s m args below meth c s₁ B hml hv
  obtain ⟨rfl, hsz, hP, hK, hD0⟩ := hv
  have hx := B.exec
  have hb := B.bytes
  have hr := B.returns
  have hts := atoms_spec (ws := wsX7_init) B.pre
  have hown : s.vm.findClass RX7 = some m.cls := findClass_of_methodNamed B.named
  have hlocks := B.notSynchronized
  have hin : meth.name = "<init>" := (name_of_methodNamed B.named B.method).1
  subst hsz
  have hD := hD0.self (sz := s.heap.size)
  generalize hAe : va_A [(h0, .inr (10, [.null, .null, .null, .null, .null, .null, .null, .int 0, .int 0, .int 0, .int 0]))] s.heap.size = A at hD ⊢
  have hA : ∀ q : Nat, s.heap.size ≤ q → A q := fun q h => by rw [← hAe]; exact Or.inr h
  have hS : va_S A s.heap s.heap [] := va_S.rf
  have hP : va_P (dC, dI) vwCl [(h0, .inr (10, [.null, .null, .null, .null, .null, .null, .null, .int 0, .int 0, .int 0, .int 0]))] s.heap := hP
  have hl := lv_entry ([.ref h0]) (n := 1) (Nat.le_of_ble_eq_true rfl)
  rw [lg_entry_eq]
  generalize (lg_sl ([.ref h0]) ++ List.replicate (1 - (lg_sl ([.ref h0])).length) Slot.unset).toArray = ls at hl ⊢
  have hl : lv_has ls 1 [(0, .ref h0)] := hl
  refine lv_aload_n hx hb dX7_init_0 rfl (lv_at hl 0 rfl) ?_
  refine W.objInit hx hb hown (hts (.methodLink RX7 3 objectInit) (by decide +kernel)) (hts (.instanceMethod objectInit) (by decide +kernel)) (hts (.code objectInit ⟨#[0xb1]⟩ 1 none) (by decide +kernel)) rfl (by rw [hml]; exact hl.1) rfl dX7_init_1 (Nat.le_of_ble_eq_true rfl) (Nat.le_of_ble_eq_true rfl) ?_
  refine W.eq (g2 := F0 m 4 ls []) rfl ?_
  refine lv_aload_n hx hb dX7_init_4 rfl (lv_at hl 0 rfl) ?_
  refine lv_bipush (v := 24) hx hb dX7_init_5 (by decide) ?_
  refine ow_np (D := (dC, dI)) (ci := 10) (C := RX7) (T := TX7) (N := 11) (N' := 24) (a0 := (24, .inl (fun _ => 0))) (ty := .int) (fty := .array .int) hx hb (hts (.arrayClass .int) (by decide +kernel)) rfl hK hP hD hS hA 0 rfl (fun _ h => h) (fun _ => rfl) (by decide) (by decide) (by decide) (Nat.le_of_ble_eq_true rfl) (Nat.le_of_ble_eq_true rfl) hts (by decide +kernel) tyX7 tyX7_ok nmX7 hown 0 rfl rfl 0 (by decide) (hts (.fieldLink RX7 9 "KnotHouse$Net" "next" "[I") (by decide +kernel)) (fun _ h9 => h9) rfl hin rfl (by decide +kernel) (fun _ => rfl) (fun _ => rfl) (Nat.le_of_ble_eq_true rfl) dX7_init_7 dX7_init_9 (fun q1 H locs hP hD hS => ?_)
  have hP : va_P (dC, dI) vwCl [(h0, .inr (10, [.ref q1, .null, .null, .null, .null, .null, .null, .int 0, .int 0, .int 0, .int 0])), (q1, .inl (cI, 24, .inl (fun _ => 0)))] H := hP
  have hD : va_D A [(h0, .inr (10, [.ref q1, .null, .null, .null, .null, .null, .null, .int 0, .int 0, .int 0, .int 0])), (q1, .inl (cI, 24, .inl (fun _ => 0)))] := hD
  refine lv_aload_n hx hb dX7_init_12 rfl (lv_at hl 0 rfl) ?_
  refine lv_bipush (v := 24) hx hb dX7_init_13 (by decide) ?_
  refine ow_np (D := (dC, dI)) (ci := 10) (C := RX7) (T := TX7) (N := 11) (N' := 24) (a0 := (24, .inl (fun _ => 0))) (ty := .int) (fty := .array .int) hx hb (hts (.arrayClass .int) (by decide +kernel)) rfl hK hP hD hS hA 0 rfl (fun _ h => h) (fun _ => rfl) (by decide) (by decide) (by decide) (Nat.le_of_ble_eq_true rfl) (Nat.le_of_ble_eq_true rfl) hts (by decide +kernel) tyX7 tyX7_ok nmX7 hown 0 rfl rfl 1 (by decide) (hts (.fieldLink RX7 15 "KnotHouse$Net" "prev" "[I") (by decide +kernel)) (fun _ h9 => h9) rfl hin rfl (by decide +kernel) (fun _ => rfl) (fun _ => rfl) (Nat.le_of_ble_eq_true rfl) dX7_init_15 dX7_init_17 (fun q2 H locs hP hD hS => ?_)
  have hP : va_P (dC, dI) vwCl [(h0, .inr (10, [.ref q1, .ref q2, .null, .null, .null, .null, .null, .int 0, .int 0, .int 0, .int 0])), (q1, .inl (cI, 24, .inl (fun _ => 0))), (q2, .inl (cI, 24, .inl (fun _ => 0)))] H := hP
  have hD : va_D A [(h0, .inr (10, [.ref q1, .ref q2, .null, .null, .null, .null, .null, .int 0, .int 0, .int 0, .int 0])), (q1, .inl (cI, 24, .inl (fun _ => 0))), (q2, .inl (cI, 24, .inl (fun _ => 0)))] := hD
  refine lv_aload_n hx hb dX7_init_20 rfl (lv_at hl 0 rfl) ?_
  refine lv_bipush (v := 12) hx hb dX7_init_21 (by decide) ?_
  refine ow_np (D := (dC, dI)) (ci := 10) (C := RX7) (T := TX7) (N := 11) (N' := 12) (a0 := (12, .inl (fun _ => 0))) (ty := .int) (fty := .array .int) hx hb (hts (.arrayClass .int) (by decide +kernel)) rfl hK hP hD hS hA 0 rfl (fun _ h => h) (fun _ => rfl) (by decide) (by decide) (by decide) (Nat.le_of_ble_eq_true rfl) (Nat.le_of_ble_eq_true rfl) hts (by decide +kernel) tyX7 tyX7_ok nmX7 hown 0 rfl rfl 2 (by decide) (hts (.fieldLink RX7 18 "KnotHouse$Net" "sign" "[I") (by decide +kernel)) (fun _ h9 => h9) rfl hin rfl (by decide +kernel) (fun _ => rfl) (fun _ => rfl) (Nat.le_of_ble_eq_true rfl) dX7_init_23 dX7_init_25 (fun q3 H locs hP hD hS => ?_)
  have hP : va_P (dC, dI) vwCl [(h0, .inr (10, [.ref q1, .ref q2, .ref q3, .null, .null, .null, .null, .int 0, .int 0, .int 0, .int 0])), (q1, .inl (cI, 24, .inl (fun _ => 0))), (q2, .inl (cI, 24, .inl (fun _ => 0))), (q3, .inl (cI, 12, .inl (fun _ => 0)))] H := hP
  have hD : va_D A [(h0, .inr (10, [.ref q1, .ref q2, .ref q3, .null, .null, .null, .null, .int 0, .int 0, .int 0, .int 0])), (q1, .inl (cI, 24, .inl (fun _ => 0))), (q2, .inl (cI, 24, .inl (fun _ => 0))), (q3, .inl (cI, 12, .inl (fun _ => 0)))] := hD
  refine lv_aload_n hx hb dX7_init_28 rfl (lv_at hl 0 rfl) ?_
  refine lv_bipush (v := 24) hx hb dX7_init_29 (by decide) ?_
  refine ow_np (D := (dC, dI)) (ci := 10) (C := RX7) (T := TX7) (N := 11) (N' := 24) (a0 := (24, .inl (fun _ => 0))) (ty := .int) (fty := .array .int) hx hb (hts (.arrayClass .int) (by decide +kernel)) rfl hK hP hD hS hA 0 rfl (fun _ h => h) (fun _ => rfl) (by decide) (by decide) (by decide) (Nat.le_of_ble_eq_true rfl) (Nat.le_of_ble_eq_true rfl) hts (by decide +kernel) tyX7 tyX7_ok nmX7 hown 0 rfl rfl 3 (by decide) (hts (.fieldLink RX7 21 "KnotHouse$Net" "order" "[I") (by decide +kernel)) (fun _ h9 => h9) rfl hin rfl (by decide +kernel) (fun _ => rfl) (fun _ => rfl) (Nat.le_of_ble_eq_true rfl) dX7_init_31 dX7_init_33 (fun q4 H locs hP hD hS => ?_)
  have hP : va_P (dC, dI) vwCl [(h0, .inr (10, [.ref q1, .ref q2, .ref q3, .ref q4, .null, .null, .null, .int 0, .int 0, .int 0, .int 0])), (q1, .inl (cI, 24, .inl (fun _ => 0))), (q2, .inl (cI, 24, .inl (fun _ => 0))), (q3, .inl (cI, 12, .inl (fun _ => 0))), (q4, .inl (cI, 24, .inl (fun _ => 0)))] H := hP
  have hD : va_D A [(h0, .inr (10, [.ref q1, .ref q2, .ref q3, .ref q4, .null, .null, .null, .int 0, .int 0, .int 0, .int 0])), (q1, .inl (cI, 24, .inl (fun _ => 0))), (q2, .inl (cI, 24, .inl (fun _ => 0))), (q3, .inl (cI, 12, .inl (fun _ => 0))), (q4, .inl (cI, 24, .inl (fun _ => 0)))] := hD
  refine lv_aload_n hx hb dX7_init_36 rfl (lv_at hl 0 rfl) ?_
  refine lv_bipush (v := 24) hx hb dX7_init_37 (by decide) ?_
  refine ow_np (D := (dC, dI)) (ci := 10) (C := RX7) (T := TX7) (N := 11) (N' := 24) (a0 := (24, .inl (fun _ => 0))) (ty := .int) (fty := .array .int) hx hb (hts (.arrayClass .int) (by decide +kernel)) rfl hK hP hD hS hA 0 rfl (fun _ h => h) (fun _ => rfl) (by decide) (by decide) (by decide) (Nat.le_of_ble_eq_true rfl) (Nat.le_of_ble_eq_true rfl) hts (by decide +kernel) tyX7 tyX7_ok nmX7 hown 0 rfl rfl 4 (by decide) (hts (.fieldLink RX7 24 "KnotHouse$Net" "component" "[I") (by decide +kernel)) (fun _ h9 => h9) rfl hin rfl (by decide +kernel) (fun _ => rfl) (fun _ => rfl) (Nat.le_of_ble_eq_true rfl) dX7_init_39 dX7_init_41 (fun q5 H locs hP hD hS => ?_)
  have hP : va_P (dC, dI) vwCl [(h0, .inr (10, [.ref q1, .ref q2, .ref q3, .ref q4, .ref q5, .null, .null, .int 0, .int 0, .int 0, .int 0])), (q1, .inl (cI, 24, .inl (fun _ => 0))), (q2, .inl (cI, 24, .inl (fun _ => 0))), (q3, .inl (cI, 12, .inl (fun _ => 0))), (q4, .inl (cI, 24, .inl (fun _ => 0))), (q5, .inl (cI, 24, .inl (fun _ => 0)))] H := hP
  have hD : va_D A [(h0, .inr (10, [.ref q1, .ref q2, .ref q3, .ref q4, .ref q5, .null, .null, .int 0, .int 0, .int 0, .int 0])), (q1, .inl (cI, 24, .inl (fun _ => 0))), (q2, .inl (cI, 24, .inl (fun _ => 0))), (q3, .inl (cI, 12, .inl (fun _ => 0))), (q4, .inl (cI, 24, .inl (fun _ => 0))), (q5, .inl (cI, 24, .inl (fun _ => 0)))] := hD
  refine lv_aload_n hx hb dX7_init_44 rfl (lv_at hl 0 rfl) ?_
  refine lv_bipush (v := 24) hx hb dX7_init_45 (by decide) ?_
  refine ow_np (D := (dC, dI)) (ci := 10) (C := RX7) (T := TX7) (N := 11) (N' := 24) (a0 := (24, .inl (fun _ => 0))) (ty := .int) (fty := .array .int) hx hb (hts (.arrayClass .int) (by decide +kernel)) rfl hK hP hD hS hA 0 rfl (fun _ h => h) (fun _ => rfl) (by decide) (by decide) (by decide) (Nat.le_of_ble_eq_true rfl) (Nat.le_of_ble_eq_true rfl) hts (by decide +kernel) tyX7 tyX7_ok nmX7 hown 0 rfl rfl 5 (by decide) (hts (.fieldLink RX7 27 "KnotHouse$Net" "part" "[I") (by decide +kernel)) (fun _ h9 => h9) rfl hin rfl (by decide +kernel) (fun _ => rfl) (fun _ => rfl) (Nat.le_of_ble_eq_true rfl) dX7_init_47 dX7_init_49 (fun q6 H locs hP hD hS => ?_)
  have hP : va_P (dC, dI) vwCl [(h0, .inr (10, [.ref q1, .ref q2, .ref q3, .ref q4, .ref q5, .ref q6, .null, .int 0, .int 0, .int 0, .int 0])), (q1, .inl (cI, 24, .inl (fun _ => 0))), (q2, .inl (cI, 24, .inl (fun _ => 0))), (q3, .inl (cI, 12, .inl (fun _ => 0))), (q4, .inl (cI, 24, .inl (fun _ => 0))), (q5, .inl (cI, 24, .inl (fun _ => 0))), (q6, .inl (cI, 24, .inl (fun _ => 0)))] H := hP
  have hD : va_D A [(h0, .inr (10, [.ref q1, .ref q2, .ref q3, .ref q4, .ref q5, .ref q6, .null, .int 0, .int 0, .int 0, .int 0])), (q1, .inl (cI, 24, .inl (fun _ => 0))), (q2, .inl (cI, 24, .inl (fun _ => 0))), (q3, .inl (cI, 12, .inl (fun _ => 0))), (q4, .inl (cI, 24, .inl (fun _ => 0))), (q5, .inl (cI, 24, .inl (fun _ => 0))), (q6, .inl (cI, 24, .inl (fun _ => 0)))] := hD
  refine lv_aload_n hx hb dX7_init_52 rfl (lv_at hl 0 rfl) ?_
  refine lv_bipush (v := 24) hx hb dX7_init_53 (by decide) ?_
  refine ow_np (D := (dC, dI)) (ci := 10) (C := RX7) (T := TX7) (N := 11) (N' := 24) (a0 := (24, .inl (fun _ => 0))) (ty := .int) (fty := .array .int) hx hb (hts (.arrayClass .int) (by decide +kernel)) rfl hK hP hD hS hA 0 rfl (fun _ h => h) (fun _ => rfl) (by decide) (by decide) (by decide) (Nat.le_of_ble_eq_true rfl) (Nat.le_of_ble_eq_true rfl) hts (by decide +kernel) tyX7 tyX7_ok nmX7 hown 0 rfl rfl 6 (by decide) (hts (.fieldLink RX7 30 "KnotHouse$Net" "queue" "[I") (by decide +kernel)) (fun _ h9 => h9) rfl hin rfl (by decide +kernel) (fun _ => rfl) (fun _ => rfl) (Nat.le_of_ble_eq_true rfl) dX7_init_55 dX7_init_57 (fun q7 H locs hP hD hS => ?_)
  have hP : va_P (dC, dI) vwCl [(h0, .inr (10, [.ref q1, .ref q2, .ref q3, .ref q4, .ref q5, .ref q6, .ref q7, .int 0, .int 0, .int 0, .int 0])), (q1, .inl (cI, 24, .inl (fun _ => 0))), (q2, .inl (cI, 24, .inl (fun _ => 0))), (q3, .inl (cI, 12, .inl (fun _ => 0))), (q4, .inl (cI, 24, .inl (fun _ => 0))), (q5, .inl (cI, 24, .inl (fun _ => 0))), (q6, .inl (cI, 24, .inl (fun _ => 0))), (q7, .inl (cI, 24, .inl (fun _ => 0)))] H := hP
  have hD : va_D A [(h0, .inr (10, [.ref q1, .ref q2, .ref q3, .ref q4, .ref q5, .ref q6, .ref q7, .int 0, .int 0, .int 0, .int 0])), (q1, .inl (cI, 24, .inl (fun _ => 0))), (q2, .inl (cI, 24, .inl (fun _ => 0))), (q3, .inl (cI, 12, .inl (fun _ => 0))), (q4, .inl (cI, 24, .inl (fun _ => 0))), (q5, .inl (cI, 24, .inl (fun _ => 0))), (q6, .inl (cI, 24, .inl (fun _ => 0))), (q7, .inl (cI, 24, .inl (fun _ => 0)))] := hD
  refine W.widen (k := 7) (n := 156) (Nat.le_of_ble_eq_true rfl) (Nat.le_of_ble_eq_true rfl) ?_
  exact W.vret hx hb hr (fun t ht hW => ⟨⟨(q1, q2, q3, q4, q5, q6, q7), rfl, trivial, by rw [ht]; exact hP, hD⟩, hS.F ht⟩) hS.2.2 dX7_init_60

/-- the cells of a new X3 -/
abbrev wd_X3_init_1 (cI cB cJ cZ : ClassId) (h0 : Nat) (u : Nat × Nat × Nat × Nat) : va_W := match u with
  | (q1, q2, q3, q4) => [(h0, .inr (6, [.ref q1, .ref q2, .ref q3, .ref q4, .int 0])), (q1, .inl (cB, 30, .inl (fun _ => 0))), (q2, .inl (cB, 1, .inl (fun _ => 0))), (q3, .inl (cB, 1, .inl (fun _ => 0))), (q4, .inl (cI, 1, .inl (fun _ => 0)))]
set_option maxHeartbeats 4000000 in
set_option maxRecDepth 100000 in
theorem k_X3_init_1 (l : Launch) (dC : Nat → ClassId) (dI : Nat → Nat → Nat) (cI cB cJ cZ : ClassId) (h0 sz : Nat) : Met l yX3_init wsX3_init ({ frames := 1, cells := 4, slots := 33, locals := 12 }) (va_Pc [.ref h0, .int 1] (fun U => U.heap.size = sz ∧ va_P (dC, dI) vwCl [(h0, .inr (6, [.null, .null, .null, .null, .int 0]))] U.heap ∧ va_K (dC, dI) vwCl [(cI, .int), (cB, .byte), (cJ, .long), (cZ, .boolean)] U ∧ va_D (fun _ => True) [(h0, .inr (6, [.null, .null, .null, .null, .int 0]))])) (va_Qv (fun _ : Nat × Nat × Nat × Nat => True) (fun u t => va_P (dC, dI) vwCl (wd_X3_init_1 cI cB cJ cZ h0 u) t.heap ∧ va_D (va_A [(h0, .inr (6, [.null, .null, .null, .null, .int 0]))] sz) (wd_X3_init_1 cI cB cJ cZ h0 u)) (va_A [(h0, .inr (6, [.null, .null, .null, .null, .int 0]))] sz)) 4 33 (va_A [(h0, .inr (6, [.null, .null, .null, .null, .int 0]))] sz) := by
  refine Met.ofW (cc := cX3_init) (maxL := 2) (ret := none) (by decide) rfl ?_
  intro p e s m args below meth c s₁ B hml hv
  obtain ⟨rfl, hsz, hP, hK, hD0⟩ := hv
  have hx := B.exec
  have hb := B.bytes
  have hr := B.returns
  have hts := atoms_spec (ws := wsX3_init) B.pre
  have hown : s.vm.findClass RX3 = some m.cls := findClass_of_methodNamed B.named
  have hlocks := B.notSynchronized
  have hin : meth.name = "<init>" := (name_of_methodNamed B.named B.method).1
  subst hsz
  have hD := hD0.self (sz := s.heap.size)
  generalize hAe : va_A [(h0, .inr (6, [.null, .null, .null, .null, .int 0]))] s.heap.size = A at hD ⊢
  have hA : ∀ q : Nat, s.heap.size ≤ q → A q := fun q h => by rw [← hAe]; exact Or.inr h
  have hS : va_S A s.heap s.heap [] := va_S.rf
  have hP : va_P (dC, dI) vwCl [(h0, .inr (6, [.null, .null, .null, .null, .int 0]))] s.heap := hP
  have hl := lv_entry ([.ref h0, .int 1]) (n := 2) (Nat.le_of_ble_eq_true rfl)
  rw [lg_entry_eq]
  generalize (lg_sl ([.ref h0, .int 1]) ++ List.replicate (2 - (lg_sl ([.ref h0, .int 1])).length) Slot.unset).toArray = ls at hl ⊢
  have hl : lv_has ls 2 [(0, .ref h0), (1, .int 1)] := hl
  refine lv_aload_n hx hb dX3_init_0 rfl (lv_at hl 0 rfl) ?_
  refine W.objInit hx hb hown (hts (.methodLink RX3 3 objectInit) (by decide +kernel)) (hts (.instanceMethod objectInit) (by decide +kernel)) (hts (.code objectInit ⟨#[0xb1]⟩ 1 none) (by decide +kernel)) rfl (by rw [hml]; exact hl.1) rfl dX3_init_1 (Nat.le_of_ble_eq_true rfl) (Nat.le_of_ble_eq_true rfl) ?_
  refine W.eq (g2 := F0 m 4 ls []) rfl ?_
  refine lv_aload_n hx hb dX3_init_4 rfl (lv_at hl 0 rfl) ?_
  refine lv_iload_n hx hb dX3_init_5 rfl (lv_at hl 1 rfl) ?_
  refine lv_bipush (v := 30) hx hb dX3_init_6 (by decide) ?_
  refine lv_imul hx hb dX3_init_8 ?_
  refine ow_np (D := (dC, dI)) (ci := 6) (C := RX3) (T := TX3) (N := 5) (N' := 30) (a0 := (30, .inl (fun _ => 0))) (ty := .byte) (fty := .array .byte) hx hb (hts (.arrayClass .byte) (by decide +kernel)) rfl hK hP hD hS hA 1 rfl (fun _ h => h) (fun _ => rfl) (by decide) (by decide) (by decide) (Nat.le_of_ble_eq_true rfl) (Nat.le_of_ble_eq_true rfl) hts (by decide +kernel) tyX3 tyX3_ok nmX3 hown 0 rfl rfl 0 (by decide) (hts (.fieldLink RX3 9 "KnotHouse$Codes" "cells" "[B") (by decide +kernel)) (fun _ h9 => h9) rfl hin rfl (by decide +kernel) (fun _ => rfl) (fun _ => rfl) (Nat.le_of_ble_eq_true rfl) dX3_init_9 dX3_init_11 (fun q1 H locs hP hD hS => ?_)
  have hP : va_P (dC, dI) vwCl [(h0, .inr (6, [.ref q1, .null, .null, .null, .int 0])), (q1, .inl (cB, 30, .inl (fun _ => 0)))] H := hP
  have hD : va_D A [(h0, .inr (6, [.ref q1, .null, .null, .null, .int 0])), (q1, .inl (cB, 30, .inl (fun _ => 0)))] := hD
  refine lv_aload_n hx hb dX3_init_14 rfl (lv_at hl 0 rfl) ?_
  refine lv_iload_n hx hb dX3_init_15 rfl (lv_at hl 1 rfl) ?_
  refine ow_np (D := (dC, dI)) (ci := 6) (C := RX3) (T := TX3) (N := 5) (N' := 1) (a0 := (1, .inl (fun _ => 0))) (ty := .byte) (fty := .array .byte) hx hb (hts (.arrayClass .byte) (by decide +kernel)) rfl hK hP hD hS hA 1 rfl (fun _ h => h) (fun _ => rfl) (by decide) (by decide) (by decide) (Nat.le_of_ble_eq_true rfl) (Nat.le_of_ble_eq_true rfl) hts (by decide +kernel) tyX3 tyX3_ok nmX3 hown 0 rfl rfl 1 (by decide) (hts (.fieldLink RX3 15 "KnotHouse$Codes" "lengths" "[B") (by decide +kernel)) (fun _ h9 => h9) rfl hin rfl (by decide +kernel) (fun _ => rfl) (fun _ => rfl) (Nat.le_of_ble_eq_true rfl) dX3_init_16 dX3_init_18 (fun q2 H locs hP hD hS => ?_)
  have hP : va_P (dC, dI) vwCl [(h0, .inr (6, [.ref q1, .ref q2, .null, .null, .int 0])), (q1, .inl (cB, 30, .inl (fun _ => 0))), (q2, .inl (cB, 1, .inl (fun _ => 0)))] H := hP
  have hD : va_D A [(h0, .inr (6, [.ref q1, .ref q2, .null, .null, .int 0])), (q1, .inl (cB, 30, .inl (fun _ => 0))), (q2, .inl (cB, 1, .inl (fun _ => 0)))] := hD
  refine lv_aload_n hx hb dX3_init_21 rfl (lv_at hl 0 rfl) ?_
  refine lv_iload_n hx hb dX3_init_22 rfl (lv_at hl 1 rfl) ?_
  refine ow_np (D := (dC, dI)) (ci := 6) (C := RX3) (T := TX3) (N := 5) (N' := 1) (a0 := (1, .inl (fun _ => 0))) (ty := .byte) (fty := .array .byte) hx hb (hts (.arrayClass .byte) (by decide +kernel)) rfl hK hP hD hS hA 1 rfl (fun _ h => h) (fun _ => rfl) (by decide) (by decide) (by decide) (Nat.le_of_ble_eq_true rfl) (Nat.le_of_ble_eq_true rfl) hts (by decide +kernel) tyX3 tyX3_ok nmX3 hown 0 rfl rfl 2 (by decide) (hts (.fieldLink RX3 18 "KnotHouse$Codes" "crossings" "[B") (by decide +kernel)) (fun _ h9 => h9) rfl hin rfl (by decide +kernel) (fun _ => rfl) (fun _ => rfl) (Nat.le_of_ble_eq_true rfl) dX3_init_23 dX3_init_25 (fun q3 H locs hP hD hS => ?_)
  have hP : va_P (dC, dI) vwCl [(h0, .inr (6, [.ref q1, .ref q2, .ref q3, .null, .int 0])), (q1, .inl (cB, 30, .inl (fun _ => 0))), (q2, .inl (cB, 1, .inl (fun _ => 0))), (q3, .inl (cB, 1, .inl (fun _ => 0)))] H := hP
  have hD : va_D A [(h0, .inr (6, [.ref q1, .ref q2, .ref q3, .null, .int 0])), (q1, .inl (cB, 30, .inl (fun _ => 0))), (q2, .inl (cB, 1, .inl (fun _ => 0))), (q3, .inl (cB, 1, .inl (fun _ => 0)))] := hD
  refine lv_aload_n hx hb dX3_init_28 rfl (lv_at hl 0 rfl) ?_
  refine lv_iload_n hx hb dX3_init_29 rfl (lv_at hl 1 rfl) ?_
  refine ow_np (D := (dC, dI)) (ci := 6) (C := RX3) (T := TX3) (N := 5) (N' := 1) (a0 := (1, .inl (fun _ => 0))) (ty := .int) (fty := .array .int) hx hb (hts (.arrayClass .int) (by decide +kernel)) rfl hK hP hD hS hA 0 rfl (fun _ h => h) (fun _ => rfl) (by decide) (by decide) (by decide) (Nat.le_of_ble_eq_true rfl) (Nat.le_of_ble_eq_true rfl) hts (by decide +kernel) tyX3 tyX3_ok nmX3 hown 0 rfl rfl 3 (by decide) (hts (.fieldLink RX3 21 "KnotHouse$Codes" "order" "[I") (by decide +kernel)) (fun _ h9 => h9) rfl hin rfl (by decide +kernel) (fun _ => rfl) (fun _ => rfl) (Nat.le_of_ble_eq_true rfl) dX3_init_30 dX3_init_32 (fun q4 H locs hP hD hS => ?_)
  have hP : va_P (dC, dI) vwCl [(h0, .inr (6, [.ref q1, .ref q2, .ref q3, .ref q4, .int 0])), (q1, .inl (cB, 30, .inl (fun _ => 0))), (q2, .inl (cB, 1, .inl (fun _ => 0))), (q3, .inl (cB, 1, .inl (fun _ => 0))), (q4, .inl (cI, 1, .inl (fun _ => 0)))] H := hP
  have hD : va_D A [(h0, .inr (6, [.ref q1, .ref q2, .ref q3, .ref q4, .int 0])), (q1, .inl (cB, 30, .inl (fun _ => 0))), (q2, .inl (cB, 1, .inl (fun _ => 0))), (q3, .inl (cB, 1, .inl (fun _ => 0))), (q4, .inl (cI, 1, .inl (fun _ => 0)))] := hD
  refine W.widen (k := 4) (n := 33) (Nat.le_of_ble_eq_true rfl) (Nat.le_of_ble_eq_true rfl) ?_
  exact W.vret hx hb hr (fun t ht hW => ⟨⟨(q1, q2, q3, q4), rfl, trivial, by rw [ht]; exact hP, hD⟩, hS.F ht⟩) hS.2.2 dX3_init_35

/-- the cells of a new X3 -/
abbrev wd_X3_init_2 (cI cB cJ cZ : ClassId) (h0 : Nat) (u : Nat × Nat × Nat × Nat) : va_W := match u with
  | (q1, q2, q3, q4) => [(h0, .inr (6, [.ref q1, .ref q2, .ref q3, .ref q4, .int 0])), (q1, .inl (cB, 60, .inl (fun _ => 0))), (q2, .inl (cB, 2, .inl (fun _ => 0))), (q3, .inl (cB, 2, .inl (fun _ => 0))), (q4, .inl (cI, 2, .inl (fun _ => 0)))]
set_option maxHeartbeats 4000000 in
set_option maxRecDepth 100000 in
theorem k_X3_init_2 (l : Launch) (dC : Nat → ClassId) (dI : Nat → Nat → Nat) (cI cB cJ cZ : ClassId) (h0 sz : Nat) : Met l yX3_init wsX3_init ({ frames := 1, cells := 4, slots := 66, locals := 12 }) (va_Pc [.ref h0, .int 2] (fun U => U.heap.size = sz ∧ va_P (dC, dI) vwCl [(h0, .inr (6, [.null, .null, .null, .null, .int 0]))] U.heap ∧ va_K (dC, dI) vwCl [(cI, .int), (cB, .byte), (cJ, .long), (cZ, .boolean)] U ∧ va_D (fun _ => True) [(h0, .inr (6, [.null, .null, .null, .null, .int 0]))])) (va_Qv (fun _ : Nat × Nat × Nat × Nat => True) (fun u t => va_P (dC, dI) vwCl (wd_X3_init_2 cI cB cJ cZ h0 u) t.heap ∧ va_D (va_A [(h0, .inr (6, [.null, .null, .null, .null, .int 0]))] sz) (wd_X3_init_2 cI cB cJ cZ h0 u)) (va_A [(h0, .inr (6, [.null, .null, .null, .null, .int 0]))] sz)) 4 66 (va_A [(h0, .inr (6, [.null, .null, .null, .null, .int 0]))] sz) := by
  refine Met.ofW (cc := cX3_init) (maxL := 2) (ret := none) (by decide) rfl ?_
  intro p e s m args below meth c s₁ B hml hv
  obtain ⟨rfl, hsz, hP, hK, hD0⟩ := hv
  have hx := B.exec
  have hb := B.bytes
  have hr := B.returns
  have hts := atoms_spec (ws := wsX3_init) B.pre
  have hown : s.vm.findClass RX3 = some m.cls := findClass_of_methodNamed B.named
  have hlocks := B.notSynchronized
  have hin : meth.name = "<init>" := (name_of_methodNamed B.named B.method).1
  subst hsz
  have hD := hD0.self (sz := s.heap.size)
  generalize hAe : va_A [(h0, .inr (6, [.null, .null, .null, .null, .int 0]))] s.heap.size = A at hD ⊢
  have hA : ∀ q : Nat, s.heap.size ≤ q → A q := fun q h => by rw [← hAe]; exact Or.inr h
  have hS : va_S A s.heap s.heap [] := va_S.rf
  have hP : va_P (dC, dI) vwCl [(h0, .inr (6, [.null, .null, .null, .null, .int 0]))] s.heap := hP
  have hl := lv_entry ([.ref h0, .int 2]) (n := 2) (Nat.le_of_ble_eq_true rfl)
  rw [lg_entry_eq]
  generalize (lg_sl ([.ref h0, .int 2]) ++ List.replicate (2 - (lg_sl ([.ref h0, .int 2])).length) Slot.unset).toArray = ls at hl ⊢
  have hl : lv_has ls 2 [(0, .ref h0), (1, .int 2)] := hl
  refine lv_aload_n hx hb dX3_init_0 rfl (lv_at hl 0 rfl) ?_
  refine W.objInit hx hb hown (hts (.methodLink RX3 3 objectInit) (by decide +kernel)) (hts (.instanceMethod objectInit) (by decide +kernel)) (hts (.code objectInit ⟨#[0xb1]⟩ 1 none) (by decide +kernel)) rfl (by rw [hml]; exact hl.1) rfl dX3_init_1 (Nat.le_of_ble_eq_true rfl) (Nat.le_of_ble_eq_true rfl) ?_
  refine W.eq (g2 := F0 m 4 ls []) rfl ?_
  refine lv_aload_n hx hb dX3_init_4 rfl (lv_at hl 0 rfl) ?_
  refine lv_iload_n hx hb dX3_init_5 rfl (lv_at hl 1 rfl) ?_
  refine lv_bipush (v := 30) hx hb dX3_init_6 (by decide) ?_
  refine lv_imul hx hb dX3_init_8 ?_
  refine ow_np (D := (dC, dI)) (ci := 6) (C := RX3) (T := TX3) (N := 5) (N' := 60) (a0 := (60, .inl (fun _ => 0))) (ty := .byte) (fty := .array .byte) hx hb (hts (.arrayClass .byte) (by decide +kernel)) rfl hK hP hD hS hA 1 rfl (fun _ h => h) (fun _ => rfl) (by decide) (by decide) (by decide) (Nat.le_of_ble_eq_true rfl) (Nat.le_of_ble_eq_true rfl) hts (by decide +kernel) tyX3 tyX3_ok nmX3 hown 0 rfl rfl 0 (by decide) (hts (.fieldLink RX3 9 "KnotHouse$Codes" "cells" "[B") (by decide +kernel)) (fun _ h9 => h9) rfl hin rfl (by decide +kernel) (fun _ => rfl) (fun _ => rfl) (Nat.le_of_ble_eq_true rfl) dX3_init_9 dX3_init_11 (fun q1 H locs hP hD hS => ?_)
  have hP : va_P (dC, dI) vwCl [(h0, .inr (6, [.ref q1, .null, .null, .null, .int 0])), (q1, .inl (cB, 60, .inl (fun _ => 0)))] H := hP
  have hD : va_D A [(h0, .inr (6, [.ref q1, .null, .null, .null, .int 0])), (q1, .inl (cB, 60, .inl (fun _ => 0)))] := hD
  refine lv_aload_n hx hb dX3_init_14 rfl (lv_at hl 0 rfl) ?_
  refine lv_iload_n hx hb dX3_init_15 rfl (lv_at hl 1 rfl) ?_
  refine ow_np (D := (dC, dI)) (ci := 6) (C := RX3) (T := TX3) (N := 5) (N' := 2) (a0 := (2, .inl (fun _ => 0))) (ty := .byte) (fty := .array .byte) hx hb (hts (.arrayClass .byte) (by decide +kernel)) rfl hK hP hD hS hA 1 rfl (fun _ h => h) (fun _ => rfl) (by decide) (by decide) (by decide) (Nat.le_of_ble_eq_true rfl) (Nat.le_of_ble_eq_true rfl) hts (by decide +kernel) tyX3 tyX3_ok nmX3 hown 0 rfl rfl 1 (by decide) (hts (.fieldLink RX3 15 "KnotHouse$Codes" "lengths" "[B") (by decide +kernel)) (fun _ h9 => h9) rfl hin rfl (by decide +kernel) (fun _ => rfl) (fun _ => rfl) (Nat.le_of_ble_eq_true rfl) dX3_init_16 dX3_init_18 (fun q2 H locs hP hD hS => ?_)
  have hP : va_P (dC, dI) vwCl [(h0, .inr (6, [.ref q1, .ref q2, .null, .null, .int 0])), (q1, .inl (cB, 60, .inl (fun _ => 0))), (q2, .inl (cB, 2, .inl (fun _ => 0)))] H := hP
  have hD : va_D A [(h0, .inr (6, [.ref q1, .ref q2, .null, .null, .int 0])), (q1, .inl (cB, 60, .inl (fun _ => 0))), (q2, .inl (cB, 2, .inl (fun _ => 0)))] := hD
  refine lv_aload_n hx hb dX3_init_21 rfl (lv_at hl 0 rfl) ?_
  refine lv_iload_n hx hb dX3_init_22 rfl (lv_at hl 1 rfl) ?_
  refine ow_np (D := (dC, dI)) (ci := 6) (C := RX3) (T := TX3) (N := 5) (N' := 2) (a0 := (2, .inl (fun _ => 0))) (ty := .byte) (fty := .array .byte) hx hb (hts (.arrayClass .byte) (by decide +kernel)) rfl hK hP hD hS hA 1 rfl (fun _ h => h) (fun _ => rfl) (by decide) (by decide) (by decide) (Nat.le_of_ble_eq_true rfl) (Nat.le_of_ble_eq_true rfl) hts (by decide +kernel) tyX3 tyX3_ok nmX3 hown 0 rfl rfl 2 (by decide) (hts (.fieldLink RX3 18 "KnotHouse$Codes" "crossings" "[B") (by decide +kernel)) (fun _ h9 => h9) rfl hin rfl (by decide +kernel) (fun _ => rfl) (fun _ => rfl) (Nat.le_of_ble_eq_true rfl) dX3_init_23 dX3_init_25 (fun q3 H locs hP hD hS => ?_)
  have hP : va_P (dC, dI) vwCl [(h0, .inr (6, [.ref q1, .ref q2, .ref q3, .null, .int 0])), (q1, .inl (cB, 60, .inl (fun _ => 0))), (q2, .inl (cB, 2, .inl (fun _ => 0))), (q3, .inl (cB, 2, .inl (fun _ => 0)))] H := hP
  have hD : va_D A [(h0, .inr (6, [.ref q1, .ref q2, .ref q3, .null, .int 0])), (q1, .inl (cB, 60, .inl (fun _ => 0))), (q2, .inl (cB, 2, .inl (fun _ => 0))), (q3, .inl (cB, 2, .inl (fun _ => 0)))] := hD
  refine lv_aload_n hx hb dX3_init_28 rfl (lv_at hl 0 rfl) ?_
  refine lv_iload_n hx hb dX3_init_29 rfl (lv_at hl 1 rfl) ?_
  refine ow_np (D := (dC, dI)) (ci := 6) (C := RX3) (T := TX3) (N := 5) (N' := 2) (a0 := (2, .inl (fun _ => 0))) (ty := .int) (fty := .array .int) hx hb (hts (.arrayClass .int) (by decide +kernel)) rfl hK hP hD hS hA 0 rfl (fun _ h => h) (fun _ => rfl) (by decide) (by decide) (by decide) (Nat.le_of_ble_eq_true rfl) (Nat.le_of_ble_eq_true rfl) hts (by decide +kernel) tyX3 tyX3_ok nmX3 hown 0 rfl rfl 3 (by decide) (hts (.fieldLink RX3 21 "KnotHouse$Codes" "order" "[I") (by decide +kernel)) (fun _ h9 => h9) rfl hin rfl (by decide +kernel) (fun _ => rfl) (fun _ => rfl) (Nat.le_of_ble_eq_true rfl) dX3_init_30 dX3_init_32 (fun q4 H locs hP hD hS => ?_)
  have hP : va_P (dC, dI) vwCl [(h0, .inr (6, [.ref q1, .ref q2, .ref q3, .ref q4, .int 0])), (q1, .inl (cB, 60, .inl (fun _ => 0))), (q2, .inl (cB, 2, .inl (fun _ => 0))), (q3, .inl (cB, 2, .inl (fun _ => 0))), (q4, .inl (cI, 2, .inl (fun _ => 0)))] H := hP
  have hD : va_D A [(h0, .inr (6, [.ref q1, .ref q2, .ref q3, .ref q4, .int 0])), (q1, .inl (cB, 60, .inl (fun _ => 0))), (q2, .inl (cB, 2, .inl (fun _ => 0))), (q3, .inl (cB, 2, .inl (fun _ => 0))), (q4, .inl (cI, 2, .inl (fun _ => 0)))] := hD
  refine W.widen (k := 4) (n := 66) (Nat.le_of_ble_eq_true rfl) (Nat.le_of_ble_eq_true rfl) ?_
  exact W.vret hx hb hr (fun t ht hW => ⟨⟨(q1, q2, q3, q4), rfl, trivial, by rw [ht]; exact hP, hD⟩, hS.F ht⟩) hS.2.2 dX3_init_35

/-- the cells of a new X3 -/
abbrev wd_X3_init_12 (cI cB cJ cZ : ClassId) (h0 : Nat) (u : Nat × Nat × Nat × Nat) : va_W := match u with
  | (q1, q2, q3, q4) => [(h0, .inr (6, [.ref q1, .ref q2, .ref q3, .ref q4, .int 0])), (q1, .inl (cB, 360, .inl (fun _ => 0))), (q2, .inl (cB, 12, .inl (fun _ => 0))), (q3, .inl (cB, 12, .inl (fun _ => 0))), (q4, .inl (cI, 12, .inl (fun _ => 0)))]
set_option maxHeartbeats 4000000 in
set_option maxRecDepth 100000 in
theorem k_X3_init_12 (l : Launch) (dC : Nat → ClassId) (dI : Nat → Nat → Nat) (cI cB cJ cZ : ClassId) (h0 sz : Nat) : Met l yX3_init wsX3_init ({ frames := 1, cells := 4, slots := 396, locals := 12 }) (va_Pc [.ref h0, .int 12] (fun U => U.heap.size = sz ∧ va_P (dC, dI) vwCl [(h0, .inr (6, [.null, .null, .null, .null, .int 0]))] U.heap ∧ va_K (dC, dI) vwCl [(cI, .int), (cB, .byte), (cJ, .long), (cZ, .boolean)] U ∧ va_D (fun _ => True) [(h0, .inr (6, [.null, .null, .null, .null, .int 0]))])) (va_Qv (fun _ : Nat × Nat × Nat × Nat => True) (fun u t => va_P (dC, dI) vwCl (wd_X3_init_12 cI cB cJ cZ h0 u) t.heap ∧ va_D (va_A [(h0, .inr (6, [.null, .null, .null, .null, .int 0]))] sz) (wd_X3_init_12 cI cB cJ cZ h0 u)) (va_A [(h0, .inr (6, [.null, .null, .null, .null, .int 0]))] sz)) 4 396 (va_A [(h0, .inr (6, [.null, .null, .null, .null, .int 0]))] sz) := by
  refine Met.ofW (cc := cX3_init) (maxL := 2) (ret := none) (by decide) rfl ?_
  intro p e s m args below meth c s₁ B hml hv
  obtain ⟨rfl, hsz, hP, hK, hD0⟩ := hv
  have hx := B.exec
  have hb := B.bytes
  have hr := B.returns
  have hts := atoms_spec (ws := wsX3_init) B.pre
  have hown : s.vm.findClass RX3 = some m.cls := findClass_of_methodNamed B.named
  have hlocks := B.notSynchronized
  have hin : meth.name = "<init>" := (name_of_methodNamed B.named B.method).1
  subst hsz
  have hD := hD0.self (sz := s.heap.size)
  generalize hAe : va_A [(h0, .inr (6, [.null, .null, .null, .null, .int 0]))] s.heap.size = A at hD ⊢
  have hA : ∀ q : Nat, s.heap.size ≤ q → A q := fun q h => by rw [← hAe]; exact Or.inr h
  have hS : va_S A s.heap s.heap [] := va_S.rf
  have hP : va_P (dC, dI) vwCl [(h0, .inr (6, [.null, .null, .null, .null, .int 0]))] s.heap := hP
  have hl := lv_entry ([.ref h0, .int 12]) (n := 2) (Nat.le_of_ble_eq_true rfl)
  rw [lg_entry_eq]
  generalize (lg_sl ([.ref h0, .int 12]) ++ List.replicate (2 - (lg_sl ([.ref h0, .int 12])).length) Slot.unset).toArray = ls at hl ⊢
  have hl : lv_has ls 2 [(0, .ref h0), (1, .int 12)] := hl
  refine lv_aload_n hx hb dX3_init_0 rfl (lv_at hl 0 rfl) ?_
  refine W.objInit hx hb hown (hts (.methodLink RX3 3 objectInit) (by decide +kernel)) (hts (.instanceMethod objectInit) (by decide +kernel)) (hts (.code objectInit ⟨#[0xb1]⟩ 1 none) (by decide +kernel)) rfl (by rw [hml]; exact hl.1) rfl dX3_init_1 (Nat.le_of_ble_eq_true rfl) (Nat.le_of_ble_eq_true rfl) ?_
  refine W.eq (g2 := F0 m 4 ls []) rfl ?_
  refine lv_aload_n hx hb dX3_init_4 rfl (lv_at hl 0 rfl) ?_
  refine lv_iload_n hx hb dX3_init_5 rfl (lv_at hl 1 rfl) ?_
  refine lv_bipush (v := 30) hx hb dX3_init_6 (by decide) ?_
  refine lv_imul hx hb dX3_init_8 ?_
  refine ow_np (D := (dC, dI)) (ci := 6) (C := RX3) (T := TX3) (N := 5) (N' := 360) (a0 := (360, .inl (fun _ => 0))) (ty := .byte) (fty := .array .byte) hx hb (hts (.arrayClass .byte) (by decide +kernel)) rfl hK hP hD hS hA 1 rfl (fun _ h => h) (fun _ => rfl) (by decide) (by decide) (by decide) (Nat.le_of_ble_eq_true rfl) (Nat.le_of_ble_eq_true rfl) hts (by decide +kernel) tyX3 tyX3_ok nmX3 hown 0 rfl rfl 0 (by decide) (hts (.fieldLink RX3 9 "KnotHouse$Codes" "cells" "[B") (by decide +kernel)) (fun _ h9 => h9) rfl hin rfl (by decide +kernel) (fun _ => rfl) (fun _ => rfl) (Nat.le_of_ble_eq_true rfl) dX3_init_9 dX3_init_11 (fun q1 H locs hP hD hS => ?_)
  have hP : va_P (dC, dI) vwCl [(h0, .inr (6, [.ref q1, .null, .null, .null, .int 0])), (q1, .inl (cB, 360, .inl (fun _ => 0)))] H := hP
  have hD : va_D A [(h0, .inr (6, [.ref q1, .null, .null, .null, .int 0])), (q1, .inl (cB, 360, .inl (fun _ => 0)))] := hD
  refine lv_aload_n hx hb dX3_init_14 rfl (lv_at hl 0 rfl) ?_
  refine lv_iload_n hx hb dX3_init_15 rfl (lv_at hl 1 rfl) ?_
  refine ow_np (D := (dC, dI)) (ci := 6) (C := RX3) (T := TX3) (N := 5) (N' := 12) (a0 := (12, .inl (fun _ => 0))) (ty := .byte) (fty := .array .byte) hx hb (hts (.arrayClass .byte) (by decide +kernel)) rfl hK hP hD hS hA 1 rfl (fun _ h => h) (fun _ => rfl) (by decide) (by decide) (by decide) (Nat.le_of_ble_eq_true rfl) (Nat.le_of_ble_eq_true rfl) hts (by decide +kernel) tyX3 tyX3_ok nmX3 hown 0 rfl rfl 1 (by decide) (hts (.fieldLink RX3 15 "KnotHouse$Codes" "lengths" "[B") (by decide +kernel)) (fun _ h9 => h9) rfl hin rfl (by decide +kernel) (fun _ => rfl) (fun _ => rfl) (Nat.le_of_ble_eq_true rfl) dX3_init_16 dX3_init_18 (fun q2 H locs hP hD hS => ?_)
  have hP : va_P (dC, dI) vwCl [(h0, .inr (6, [.ref q1, .ref q2, .null, .null, .int 0])), (q1, .inl (cB, 360, .inl (fun _ => 0))), (q2, .inl (cB, 12, .inl (fun _ => 0)))] H := hP
  have hD : va_D A [(h0, .inr (6, [.ref q1, .ref q2, .null, .null, .int 0])), (q1, .inl (cB, 360, .inl (fun _ => 0))), (q2, .inl (cB, 12, .inl (fun _ => 0)))] := hD
  refine lv_aload_n hx hb dX3_init_21 rfl (lv_at hl 0 rfl) ?_
  refine lv_iload_n hx hb dX3_init_22 rfl (lv_at hl 1 rfl) ?_
  refine ow_np (D := (dC, dI)) (ci := 6) (C := RX3) (T := TX3) (N := 5) (N' := 12) (a0 := (12, .inl (fun _ => 0))) (ty := .byte) (fty := .array .byte) hx hb (hts (.arrayClass .byte) (by decide +kernel)) rfl hK hP hD hS hA 1 rfl (fun _ h => h) (fun _ => rfl) (by decide) (by decide) (by decide) (Nat.le_of_ble_eq_true rfl) (Nat.le_of_ble_eq_true rfl) hts (by decide +kernel) tyX3 tyX3_ok nmX3 hown 0 rfl rfl 2 (by decide) (hts (.fieldLink RX3 18 "KnotHouse$Codes" "crossings" "[B") (by decide +kernel)) (fun _ h9 => h9) rfl hin rfl (by decide +kernel) (fun _ => rfl) (fun _ => rfl) (Nat.le_of_ble_eq_true rfl) dX3_init_23 dX3_init_25 (fun q3 H locs hP hD hS => ?_)
  have hP : va_P (dC, dI) vwCl [(h0, .inr (6, [.ref q1, .ref q2, .ref q3, .null, .int 0])), (q1, .inl (cB, 360, .inl (fun _ => 0))), (q2, .inl (cB, 12, .inl (fun _ => 0))), (q3, .inl (cB, 12, .inl (fun _ => 0)))] H := hP
  have hD : va_D A [(h0, .inr (6, [.ref q1, .ref q2, .ref q3, .null, .int 0])), (q1, .inl (cB, 360, .inl (fun _ => 0))), (q2, .inl (cB, 12, .inl (fun _ => 0))), (q3, .inl (cB, 12, .inl (fun _ => 0)))] := hD
  refine lv_aload_n hx hb dX3_init_28 rfl (lv_at hl 0 rfl) ?_
  refine lv_iload_n hx hb dX3_init_29 rfl (lv_at hl 1 rfl) ?_
  refine ow_np (D := (dC, dI)) (ci := 6) (C := RX3) (T := TX3) (N := 5) (N' := 12) (a0 := (12, .inl (fun _ => 0))) (ty := .int) (fty := .array .int) hx hb (hts (.arrayClass .int) (by decide +kernel)) rfl hK hP hD hS hA 0 rfl (fun _ h => h) (fun _ => rfl) (by decide) (by decide) (by decide) (Nat.le_of_ble_eq_true rfl) (Nat.le_of_ble_eq_true rfl) hts (by decide +kernel) tyX3 tyX3_ok nmX3 hown 0 rfl rfl 3 (by decide) (hts (.fieldLink RX3 21 "KnotHouse$Codes" "order" "[I") (by decide +kernel)) (fun _ h9 => h9) rfl hin rfl (by decide +kernel) (fun _ => rfl) (fun _ => rfl) (Nat.le_of_ble_eq_true rfl) dX3_init_30 dX3_init_32 (fun q4 H locs hP hD hS => ?_)
  have hP : va_P (dC, dI) vwCl [(h0, .inr (6, [.ref q1, .ref q2, .ref q3, .ref q4, .int 0])), (q1, .inl (cB, 360, .inl (fun _ => 0))), (q2, .inl (cB, 12, .inl (fun _ => 0))), (q3, .inl (cB, 12, .inl (fun _ => 0))), (q4, .inl (cI, 12, .inl (fun _ => 0)))] H := hP
  have hD : va_D A [(h0, .inr (6, [.ref q1, .ref q2, .ref q3, .ref q4, .int 0])), (q1, .inl (cB, 360, .inl (fun _ => 0))), (q2, .inl (cB, 12, .inl (fun _ => 0))), (q3, .inl (cB, 12, .inl (fun _ => 0))), (q4, .inl (cI, 12, .inl (fun _ => 0)))] := hD
  refine W.widen (k := 4) (n := 396) (Nat.le_of_ble_eq_true rfl) (Nat.le_of_ble_eq_true rfl) ?_
  exact W.vret hx hb hr (fun t ht hW => ⟨⟨(q1, q2, q3, q4), rfl, trivial, by rw [ht]; exact hP, hD⟩, hS.F ht⟩) hS.2.2 dX3_init_35

/-- the cells of a new X3 -/
abbrev wd_X3_init_40 (cI cB cJ cZ : ClassId) (h0 : Nat) (u : Nat × Nat × Nat × Nat) : va_W := match u with
  | (q1, q2, q3, q4) => [(h0, .inr (6, [.ref q1, .ref q2, .ref q3, .ref q4, .int 0])), (q1, .inl (cB, 1200, .inl (fun _ => 0))), (q2, .inl (cB, 40, .inl (fun _ => 0))), (q3, .inl (cB, 40, .inl (fun _ => 0))), (q4, .inl (cI, 40, .inl (fun _ => 0)))]
set_option maxHeartbeats 4000000 in
set_option maxRecDepth 100000 in
theorem k_X3_init_40 (l : Launch) (dC : Nat → ClassId) (dI : Nat → Nat → Nat) (cI cB cJ cZ : ClassId) (h0 sz : Nat) : Met l yX3_init wsX3_init ({ frames := 1, cells := 4, slots := 1320, locals := 12 }) (va_Pc [.ref h0, .int 40] (fun U => U.heap.size = sz ∧ va_P (dC, dI) vwCl [(h0, .inr (6, [.null, .null, .null, .null, .int 0]))] U.heap ∧ va_K (dC, dI) vwCl [(cI, .int), (cB, .byte), (cJ, .long), (cZ, .boolean)] U ∧ va_D (fun _ => True) [(h0, .inr (6, [.null, .null, .null, .null, .int 0]))])) (va_Qv (fun _ : Nat × Nat × Nat × Nat => True) (fun u t => va_P (dC, dI) vwCl (wd_X3_init_40 cI cB cJ cZ h0 u) t.heap ∧ va_D (va_A [(h0, .inr (6, [.null, .null, .null, .null, .int 0]))] sz) (wd_X3_init_40 cI cB cJ cZ h0 u)) (va_A [(h0, .inr (6, [.null, .null, .null, .null, .int 0]))] sz)) 4 1320 (va_A [(h0, .inr (6, [.null, .null, .null, .null, .int 0]))] sz) := by
  refine Met.ofW (cc := cX3_init) (maxL := 2) (ret := none) (by decide) rfl ?_
  intro p e s m args below meth c s₁ B hml hv
  obtain ⟨rfl, hsz, hP, hK, hD0⟩ := hv
  have hx := B.exec
  have hb := B.bytes
  have hr := B.returns
  have hts := atoms_spec (ws := wsX3_init) B.pre
  have hown : s.vm.findClass RX3 = some m.cls := findClass_of_methodNamed B.named
  have hlocks := B.notSynchronized
  have hin : meth.name = "<init>" := (name_of_methodNamed B.named B.method).1
  subst hsz
  have hD := hD0.self (sz := s.heap.size)
  generalize hAe : va_A [(h0, .inr (6, [.null, .null, .null, .null, .int 0]))] s.heap.size = A at hD ⊢
  have hA : ∀ q : Nat, s.heap.size ≤ q → A q := fun q h => by rw [← hAe]; exact Or.inr h
  have hS : va_S A s.heap s.heap [] := va_S.rf
  have hP : va_P (dC, dI) vwCl [(h0, .inr (6, [.null, .null, .null, .null, .int 0]))] s.heap := hP
  have hl := lv_entry ([.ref h0, .int 40]) (n := 2) (Nat.le_of_ble_eq_true rfl)
  rw [lg_entry_eq]
  generalize (lg_sl ([.ref h0, .int 40]) ++ List.replicate (2 - (lg_sl ([.ref h0, .int 40])).length) Slot.unset).toArray = ls at hl ⊢
  have hl : lv_has ls 2 [(0, .ref h0), (1, .int 40)] := hl
  refine lv_aload_n hx hb dX3_init_0 rfl (lv_at hl 0 rfl) ?_
  refine W.objInit hx hb hown (hts (.methodLink RX3 3 objectInit) (by decide +kernel)) (hts (.instanceMethod objectInit) (by decide +kernel)) (hts (.code objectInit ⟨#[0xb1]⟩ 1 none) (by decide +kernel)) rfl (by rw [hml]; exact hl.1) rfl dX3_init_1 (Nat.le_of_ble_eq_true rfl) (Nat.le_of_ble_eq_true rfl) ?_
  refine W.eq (g2 := F0 m 4 ls []) rfl ?_
  refine lv_aload_n hx hb dX3_init_4 rfl (lv_at hl 0 rfl) ?_
  refine lv_iload_n hx hb dX3_init_5 rfl (lv_at hl 1 rfl) ?_
  refine lv_bipush (v := 30) hx hb dX3_init_6 (by decide) ?_
  refine lv_imul hx hb dX3_init_8 ?_
  refine ow_np (D := (dC, dI)) (ci := 6) (C := RX3) (T := TX3) (N := 5) (N' := 1200) (a0 := (1200, .inl (fun _ => 0))) (ty := .byte) (fty := .array .byte) hx hb (hts (.arrayClass .byte) (by decide +kernel)) rfl hK hP hD hS hA 1 rfl (fun _ h => h) (fun _ => rfl) (by decide) (by decide) (by decide) (Nat.le_of_ble_eq_true rfl) (Nat.le_of_ble_eq_true rfl) hts (by decide +kernel) tyX3 tyX3_ok nmX3 hown 0 rfl rfl 0 (by decide) (hts (.fieldLink RX3 9 "KnotHouse$Codes" "cells" "[B") (by decide +kernel)) (fun _ h9 => h9) rfl hin rfl (by decide +kernel) (fun _ => rfl) (fun _ => rfl) (Nat.le_of_ble_eq_true rfl) dX3_init_9 dX3_init_11 (fun q1 H locs hP hD hS => ?_)
  have hP : va_P (dC, dI) vwCl [(h0, .inr (6, [.ref q1, .null, .null, .null, .int 0])), (q1, .inl (cB, 1200, .inl (fun _ => 0)))] H := hP
  have hD : va_D A [(h0, .inr (6, [.ref q1, .null, .null, .null, .int 0])), (q1, .inl (cB, 1200, .inl (fun _ => 0)))] := hD
  refine lv_aload_n hx hb dX3_init_14 rfl (lv_at hl 0 rfl) ?_
  refine lv_iload_n hx hb dX3_init_15 rfl (lv_at hl 1 rfl) ?_
  refine ow_np (D := (dC, dI)) (ci := 6) (C := RX3) (T := TX3) (N := 5) (N' := 40) (a0 := (40, .inl (fun _ => 0))) (ty := .byte) (fty := .array .byte) hx hb (hts (.arrayClass .byte) (by decide +kernel)) rfl hK hP hD hS hA 1 rfl (fun _ h => h) (fun _ => rfl) (by decide) (by decide) (by decide) (Nat.le_of_ble_eq_true rfl) (Nat.le_of_ble_eq_true rfl) hts (by decide +kernel) tyX3 tyX3_ok nmX3 hown 0 rfl rfl 1 (by decide) (hts (.fieldLink RX3 15 "KnotHouse$Codes" "lengths" "[B") (by decide +kernel)) (fun _ h9 => h9) rfl hin rfl (by decide +kernel) (fun _ => rfl) (fun _ => rfl) (Nat.le_of_ble_eq_true rfl) dX3_init_16 dX3_init_18 (fun q2 H locs hP hD hS => ?_)
  have hP : va_P (dC, dI) vwCl [(h0, .inr (6, [.ref q1, .ref q2, .null, .null, .int 0])), (q1, .inl (cB, 1200, .inl (fun _ => 0))), (q2, .inl (cB, 40, .inl (fun _ => 0)))] H := hP
  have hD : va_D A [(h0, .inr (6, [.ref q1, .ref q2, .null, .null, .int 0])), (q1, .inl (cB, 1200, .inl (fun _ => 0))), (q2, .inl (cB, 40, .inl (fun _ => 0)))] := hD
  refine lv_aload_n hx hb dX3_init_21 rfl (lv_at hl 0 rfl) ?_
  refine lv_iload_n hx hb dX3_init_22 rfl (lv_at hl 1 rfl) ?_
  refine ow_np (D := (dC, dI)) (ci := 6) (C := RX3) (T := TX3) (N := 5) (N' := 40) (a0 := (40, .inl (fun _ => 0))) (ty := .byte) (fty := .array .byte) hx hb (hts (.arrayClass .byte) (by decide +kernel)) rfl hK hP hD hS hA 1 rfl (fun _ h => h) (fun _ => rfl) (by decide) (by decide) (by decide) (Nat.le_of_ble_eq_true rfl) (Nat.le_of_ble_eq_true rfl) hts (by decide +kernel) tyX3 tyX3_ok nmX3 hown 0 rfl rfl 2 (by decide) (hts (.fieldLink RX3 18 "KnotHouse$Codes" "crossings" "[B") (by decide +kernel)) (fun _ h9 => h9) rfl hin rfl (by decide +kernel) (fun _ => rfl) (fun _ => rfl) (Nat.le_of_ble_eq_true rfl) dX3_init_23 dX3_init_25 (fun q3 H locs hP hD hS => ?_)
  have hP : va_P (dC, dI) vwCl [(h0, .inr (6, [.ref q1, .ref q2, .ref q3, .null, .int 0])), (q1, .inl (cB, 1200, .inl (fun _ => 0))), (q2, .inl (cB, 40, .inl (fun _ => 0))), (q3, .inl (cB, 40, .inl (fun _ => 0)))] H := hP
  have hD : va_D A [(h0, .inr (6, [.ref q1, .ref q2, .ref q3, .null, .int 0])), (q1, .inl (cB, 1200, .inl (fun _ => 0))), (q2, .inl (cB, 40, .inl (fun _ => 0))), (q3, .inl (cB, 40, .inl (fun _ => 0)))] := hD
  refine lv_aload_n hx hb dX3_init_28 rfl (lv_at hl 0 rfl) ?_
  refine lv_iload_n hx hb dX3_init_29 rfl (lv_at hl 1 rfl) ?_
  refine ow_np (D := (dC, dI)) (ci := 6) (C := RX3) (T := TX3) (N := 5) (N' := 40) (a0 := (40, .inl (fun _ => 0))) (ty := .int) (fty := .array .int) hx hb (hts (.arrayClass .int) (by decide +kernel)) rfl hK hP hD hS hA 0 rfl (fun _ h => h) (fun _ => rfl) (by decide) (by decide) (by decide) (Nat.le_of_ble_eq_true rfl) (Nat.le_of_ble_eq_true rfl) hts (by decide +kernel) tyX3 tyX3_ok nmX3 hown 0 rfl rfl 3 (by decide) (hts (.fieldLink RX3 21 "KnotHouse$Codes" "order" "[I") (by decide +kernel)) (fun _ h9 => h9) rfl hin rfl (by decide +kernel) (fun _ => rfl) (fun _ => rfl) (Nat.le_of_ble_eq_true rfl) dX3_init_30 dX3_init_32 (fun q4 H locs hP hD hS => ?_)
  have hP : va_P (dC, dI) vwCl [(h0, .inr (6, [.ref q1, .ref q2, .ref q3, .ref q4, .int 0])), (q1, .inl (cB, 1200, .inl (fun _ => 0))), (q2, .inl (cB, 40, .inl (fun _ => 0))), (q3, .inl (cB, 40, .inl (fun _ => 0))), (q4, .inl (cI, 40, .inl (fun _ => 0)))] H := hP
  have hD : va_D A [(h0, .inr (6, [.ref q1, .ref q2, .ref q3, .ref q4, .int 0])), (q1, .inl (cB, 1200, .inl (fun _ => 0))), (q2, .inl (cB, 40, .inl (fun _ => 0))), (q3, .inl (cB, 40, .inl (fun _ => 0))), (q4, .inl (cI, 40, .inl (fun _ => 0)))] := hD
  refine W.widen (k := 4) (n := 1320) (Nat.le_of_ble_eq_true rfl) (Nat.le_of_ble_eq_true rfl) ?_
  exact W.vret hx hb hr (fun t ht hW => ⟨⟨(q1, q2, q3, q4), rfl, trivial, by rw [ht]; exact hP, hD⟩, hS.F ht⟩) hS.2.2 dX3_init_35

/-- the cells of a new X3 -/
abbrev wd_X3_init_301 (cI cB cJ cZ : ClassId) (h0 : Nat) (u : Nat × Nat × Nat × Nat) : va_W := match u with
  | (q1, q2, q3, q4) => [(h0, .inr (6, [.ref q1, .ref q2, .ref q3, .ref q4, .int 0])), (q1, .inl (cB, 9030, .inl (fun _ => 0))), (q2, .inl (cB, 301, .inl (fun _ => 0))), (q3, .inl (cB, 301, .inl (fun _ => 0))), (q4, .inl (cI, 301, .inl (fun _ => 0)))]
set_option maxHeartbeats 4000000 in
set_option maxRecDepth 100000 in
theorem k_X3_init_301 (l : Launch) (dC : Nat → ClassId) (dI : Nat → Nat → Nat) (cI cB cJ cZ : ClassId) (h0 sz : Nat) : Met l yX3_init wsX3_init ({ frames := 1, cells := 4, slots := 9933, locals := 12 }) (va_Pc [.ref h0, .int 301] (fun U => U.heap.size = sz ∧ va_P (dC, dI) vwCl [(h0, .inr (6, [.null, .null, .null, .null, .int 0]))] U.heap ∧ va_K (dC, dI) vwCl [(cI, .int), (cB, .byte), (cJ, .long), (cZ, .boolean)] U ∧ va_D (fun _ => True) [(h0, .inr (6, [.null, .null, .null, .null, .int 0]))])) (va_Qv (fun _ : Nat × Nat × Nat × Nat => True) (fun u t => va_P (dC, dI) vwCl (wd_X3_init_301 cI cB cJ cZ h0 u) t.heap ∧ va_D (va_A [(h0, .inr (6, [.null, .null, .null, .null, .int 0]))] sz) (wd_X3_init_301 cI cB cJ cZ h0 u)) (va_A [(h0, .inr (6, [.null, .null, .null, .null, .int 0]))] sz)) 4 9933 (va_A [(h0, .inr (6, [.null, .null, .null, .null, .int 0]))] sz) := by
  refine Met.ofW (cc := cX3_init) (maxL := 2) (ret := none) (by decide) rfl ?_
  intro p e s m args below meth c s₁ B hml hv
  obtain ⟨rfl, hsz, hP, hK, hD0⟩ := hv
  have hx := B.exec
  have hb := B.bytes
  have hr := B.returns
  have hts := atoms_spec (ws := wsX3_init) B.pre
  have hown : s.vm.findClass RX3 = some m.cls := findClass_of_methodNamed B.named
  have hlocks := B.notSynchronized
  have hin : meth.name = "<init>" := (name_of_methodNamed B.named B.method).1
  subst hsz
  have hD := hD0.self (sz := s.heap.size)
  generalize hAe : va_A [(h0, .inr (6, [.null, .null, .null, .null, .int 0]))] s.heap.size = A at hD ⊢
  have hA : ∀ q : Nat, s.heap.size ≤ q → A q := fun q h => by rw [← hAe]; exact Or.inr h
  have hS : va_S A s.heap s.heap [] := va_S.rf
  have hP : va_P (dC, dI) vwCl [(h0, .inr (6, [.null, .null, .null, .null, .int 0]))] s.heap := hP
  have hl := lv_entry ([.ref h0, .int 301]) (n := 2) (Nat.le_of_ble_eq_true rfl)
  rw [lg_entry_eq]
  generalize (lg_sl ([.ref h0, .int 301]) ++ List.replicate (2 - (lg_sl ([.ref h0, .int 301])).length) Slot.unset).toArray = ls at hl ⊢
  have hl : lv_has ls 2 [(0, .ref h0), (1, .int 301)] := hl
  refine lv_aload_n hx hb dX3_init_0 rfl (lv_at hl 0 rfl) ?_
  refine W.objInit hx hb hown (hts (.methodLink RX3 3 objectInit) (by decide +kernel)) (hts (.instanceMethod objectInit) (by decide +kernel)) (hts (.code objectInit ⟨#[0xb1]⟩ 1 none) (by decide +kernel)) rfl (by rw [hml]; exact hl.1) rfl dX3_init_1 (Nat.le_of_ble_eq_true rfl) (Nat.le_of_ble_eq_true rfl) ?_
  refine W.eq (g2 := F0 m 4 ls []) rfl ?_
  refine lv_aload_n hx hb dX3_init_4 rfl (lv_at hl 0 rfl) ?_
  refine lv_iload_n hx hb dX3_init_5 rfl (lv_at hl 1 rfl) ?_
  refine lv_bipush (v := 30) hx hb dX3_init_6 (by decide) ?_
  refine lv_imul hx hb dX3_init_8 ?_
  refine ow_np (D := (dC, dI)) (ci := 6) (C := RX3) (T := TX3) (N := 5) (N' := 9030) (a0 := (9030, .inl (fun _ => 0))) (ty := .byte) (fty := .array .byte) hx hb (hts (.arrayClass .byte) (by decide +kernel)) rfl hK hP hD hS hA 1 rfl (fun _ h => h) (fun _ => rfl) (by decide) (by decide) (by decide) (Nat.le_of_ble_eq_true rfl) (Nat.le_of_ble_eq_true rfl) hts (by decide +kernel) tyX3 tyX3_ok nmX3 hown 0 rfl rfl 0 (by decide) (hts (.fieldLink RX3 9 "KnotHouse$Codes" "cells" "[B") (by decide +kernel)) (fun _ h9 => h9) rfl hin rfl (by decide +kernel) (fun _ => rfl) (fun _ => rfl) (Nat.le_of_ble_eq_true rfl) dX3_init_9 dX3_init_11 (fun q1 H locs hP hD hS => ?_)
  have hP : va_P (dC, dI) vwCl [(h0, .inr (6, [.ref q1, .null, .null, .null, .int 0])), (q1, .inl (cB, 9030, .inl (fun _ => 0)))] H := hP
  have hD : va_D A [(h0, .inr (6, [.ref q1, .null, .null, .null, .int 0])), (q1, .inl (cB, 9030, .inl (fun _ => 0)))] := hD
  refine lv_aload_n hx hb dX3_init_14 rfl (lv_at hl 0 rfl) ?_
  refine lv_iload_n hx hb dX3_init_15 rfl (lv_at hl 1 rfl) ?_
  refine ow_np (D := (dC, dI)) (ci := 6) (C := RX3) (T := TX3) (N := 5) (N' := 301) (a0 := (301, .inl (fun _ => 0))) (ty := .byte) (fty := .array .byte) hx hb (hts (.arrayClass .byte) (by decide +kernel)) rfl hK hP hD hS hA 1 rfl (fun _ h => h) (fun _ => rfl) (by decide) (by decide) (by decide) (Nat.le_of_ble_eq_true rfl) (Nat.le_of_ble_eq_true rfl) hts (by decide +kernel) tyX3 tyX3_ok nmX3 hown 0 rfl rfl 1 (by decide) (hts (.fieldLink RX3 15 "KnotHouse$Codes" "lengths" "[B") (by decide +kernel)) (fun _ h9 => h9) rfl hin rfl (by decide +kernel) (fun _ => rfl) (fun _ => rfl) (Nat.le_of_ble_eq_true rfl) dX3_init_16 dX3_init_18 (fun q2 H locs hP hD hS => ?_)
  have hP : va_P (dC, dI) vwCl [(h0, .inr (6, [.ref q1, .ref q2, .null, .null, .int 0])), (q1, .inl (cB, 9030, .inl (fun _ => 0))), (q2, .inl (cB, 301, .inl (fun _ => 0)))] H := hP
  have hD : va_D A [(h0, .inr (6, [.ref q1, .ref q2, .null, .null, .int 0])), (q1, .inl (cB, 9030, .inl (fun _ => 0))), (q2, .inl (cB, 301, .inl (fun _ => 0)))] := hD
  refine lv_aload_n hx hb dX3_init_21 rfl (lv_at hl 0 rfl) ?_
  refine lv_iload_n hx hb dX3_init_22 rfl (lv_at hl 1 rfl) ?_
  refine ow_np (D := (dC, dI)) (ci := 6) (C := RX3) (T := TX3) (N := 5) (N' := 301) (a0 := (301, .inl (fun _ => 0))) (ty := .byte) (fty := .array .byte) hx hb (hts (.arrayClass .byte) (by decide +kernel)) rfl hK hP hD hS hA 1 rfl (fun _ h => h) (fun _ => rfl) (by decide) (by decide) (by decide) (Nat.le_of_ble_eq_true rfl) (Nat.le_of_ble_eq_true rfl) hts (by decide +kernel) tyX3 tyX3_ok nmX3 hown 0 rfl rfl 2 (by decide) (hts (.fieldLink RX3 18 "KnotHouse$Codes" "crossings" "[B") (by decide +kernel)) (fun _ h9 => h9) rfl hin rfl (by decide +kernel) (fun _ => rfl) (fun _ => rfl) (Nat.le_of_ble_eq_true rfl) dX3_init_23 dX3_init_25 (fun q3 H locs hP hD hS => ?_)
  have hP : va_P (dC, dI) vwCl [(h0, .inr (6, [.ref q1, .ref q2, .ref q3, .null, .int 0])), (q1, .inl (cB, 9030, .inl (fun _ => 0))), (q2, .inl (cB, 301, .inl (fun _ => 0))), (q3, .inl (cB, 301, .inl (fun _ => 0)))] H := hP
  have hD : va_D A [(h0, .inr (6, [.ref q1, .ref q2, .ref q3, .null, .int 0])), (q1, .inl (cB, 9030, .inl (fun _ => 0))), (q2, .inl (cB, 301, .inl (fun _ => 0))), (q3, .inl (cB, 301, .inl (fun _ => 0)))] := hD
  refine lv_aload_n hx hb dX3_init_28 rfl (lv_at hl 0 rfl) ?_
  refine lv_iload_n hx hb dX3_init_29 rfl (lv_at hl 1 rfl) ?_
  refine ow_np (D := (dC, dI)) (ci := 6) (C := RX3) (T := TX3) (N := 5) (N' := 301) (a0 := (301, .inl (fun _ => 0))) (ty := .int) (fty := .array .int) hx hb (hts (.arrayClass .int) (by decide +kernel)) rfl hK hP hD hS hA 0 rfl (fun _ h => h) (fun _ => rfl) (by decide) (by decide) (by decide) (Nat.le_of_ble_eq_true rfl) (Nat.le_of_ble_eq_true rfl) hts (by decide +kernel) tyX3 tyX3_ok nmX3 hown 0 rfl rfl 3 (by decide) (hts (.fieldLink RX3 21 "KnotHouse$Codes" "order" "[I") (by decide +kernel)) (fun _ h9 => h9) rfl hin rfl (by decide +kernel) (fun _ => rfl) (fun _ => rfl) (Nat.le_of_ble_eq_true rfl) dX3_init_30 dX3_init_32 (fun q4 H locs hP hD hS => ?_)
  have hP : va_P (dC, dI) vwCl [(h0, .inr (6, [.ref q1, .ref q2, .ref q3, .ref q4, .int 0])), (q1, .inl (cB, 9030, .inl (fun _ => 0))), (q2, .inl (cB, 301, .inl (fun _ => 0))), (q3, .inl (cB, 301, .inl (fun _ => 0))), (q4, .inl (cI, 301, .inl (fun _ => 0)))] H := hP
  have hD : va_D A [(h0, .inr (6, [.ref q1, .ref q2, .ref q3, .ref q4, .int 0])), (q1, .inl (cB, 9030, .inl (fun _ => 0))), (q2, .inl (cB, 301, .inl (fun _ => 0))), (q3, .inl (cB, 301, .inl (fun _ => 0))), (q4, .inl (cI, 301, .inl (fun _ => 0)))] := hD
  refine W.widen (k := 4) (n := 9933) (Nat.le_of_ble_eq_true rfl) (Nat.le_of_ble_eq_true rfl) ?_
  exact W.vret hx hb hr (fun t ht hW => ⟨⟨(q1, q2, q3, q4), rfl, trivial, by rw [ht]; exact hP, hD⟩, hS.F ht⟩) hS.2.2 dX3_init_35

/-- the cells of a new X3 -/
abbrev wd_X3_init_480 (cI cB cJ cZ : ClassId) (h0 : Nat) (u : Nat × Nat × Nat × Nat) : va_W := match u with
  | (q1, q2, q3, q4) => [(h0, .inr (6, [.ref q1, .ref q2, .ref q3, .ref q4, .int 0])), (q1, .inl (cB, 14400, .inl (fun _ => 0))), (q2, .inl (cB, 480, .inl (fun _ => 0))), (q3, .inl (cB, 480, .inl (fun _ => 0))), (q4, .inl (cI, 480, .inl (fun _ => 0)))]
set_option maxHeartbeats 4000000 in
set_option maxRecDepth 100000 in
theorem k_X3_init_480 (l : Launch) (dC : Nat → ClassId) (dI : Nat → Nat → Nat) (cI cB cJ cZ : ClassId) (h0 sz : Nat) : Met l yX3_init wsX3_init ({ frames := 1, cells := 4, slots := 15840, locals := 12 }) (va_Pc [.ref h0, .int 480] (fun U => U.heap.size = sz ∧ va_P (dC, dI) vwCl [(h0, .inr (6, [.null, .null, .null, .null, .int 0]))] U.heap ∧ va_K (dC, dI) vwCl [(cI, .int), (cB, .byte), (cJ, .long), (cZ, .boolean)] U ∧ va_D (fun _ => True) [(h0, .inr (6, [.null, .null, .null, .null, .int 0]))])) (va_Qv (fun _ : Nat × Nat × Nat × Nat => True) (fun u t => va_P (dC, dI) vwCl (wd_X3_init_480 cI cB cJ cZ h0 u) t.heap ∧ va_D (va_A [(h0, .inr (6, [.null, .null, .null, .null, .int 0]))] sz) (wd_X3_init_480 cI cB cJ cZ h0 u)) (va_A [(h0, .inr (6, [.null, .null, .null, .null, .int 0]))] sz)) 4 15840 (va_A [(h0, .inr (6, [.null, .null, .null, .null, .int 0]))] sz) := by
  refine Met.ofW (cc := cX3_init) (maxL := 2) (ret := none) (by decide) rfl ?_
  intro p e s m args below meth c s₁ B hml hv
  obtain ⟨rfl, hsz, hP, hK, hD0⟩ := hv
  have hx := B.exec
  have hb := B.bytes
  have hr := B.returns
  have hts := atoms_spec (ws := wsX3_init) B.pre
  have hown : s.vm.findClass RX3 = some m.cls := findClass_of_methodNamed B.named
  have hlocks := B.notSynchronized
  have hin : meth.name = "<init>" := (name_of_methodNamed B.named B.method).1
  subst hsz
  have hD := hD0.self (sz := s.heap.size)
  generalize hAe : va_A [(h0, .inr (6, [.null, .null, .null, .null, .int 0]))] s.heap.size = A at hD ⊢
  have hA : ∀ q : Nat, s.heap.size ≤ q → A q := fun q h => by rw [← hAe]; exact Or.inr h
  have hS : va_S A s.heap s.heap [] := va_S.rf
  have hP : va_P (dC, dI) vwCl [(h0, .inr (6, [.null, .null, .null, .null, .int 0]))] s.heap := hP
  have hl := lv_entry ([.ref h0, .int 480]) (n := 2) (Nat.le_of_ble_eq_true rfl)
  rw [lg_entry_eq]
  generalize (lg_sl ([.ref h0, .int 480]) ++ List.replicate (2 - (lg_sl ([.ref h0, .int 480])).length) Slot.unset).toArray = ls at hl ⊢
  have hl : lv_has ls 2 [(0, .ref h0), (1, .int 480)] := hl
  refine lv_aload_n hx hb dX3_init_0 rfl (lv_at hl 0 rfl) ?_
  refine W.objInit hx hb hown (hts (.methodLink RX3 3 objectInit) (by decide +kernel)) (hts (.instanceMethod objectInit) (by decide +kernel)) (hts (.code objectInit ⟨#[0xb1]⟩ 1 none) (by decide +kernel)) rfl (by rw [hml]; exact hl.1) rfl dX3_init_1 (Nat.le_of_ble_eq_true rfl) (Nat.le_of_ble_eq_true rfl) ?_
  refine W.eq (g2 := F0 m 4 ls []) rfl ?_
  refine lv_aload_n hx hb dX3_init_4 rfl (lv_at hl 0 rfl) ?_
  refine lv_iload_n hx hb dX3_init_5 rfl (lv_at hl 1 rfl) ?_
  refine lv_bipush (v := 30) hx hb dX3_init_6 (by decide) ?_
  refine lv_imul hx hb dX3_init_8 ?_
  refine ow_np (D := (dC, dI)) (ci := 6) (C := RX3) (T := TX3) (N := 5) (N' := 14400) (a0 := (14400, .inl (fun _ => 0))) (ty := .byte) (fty := .array .byte) hx hb (hts (.arrayClass .byte) (by decide +kernel)) rfl hK hP hD hS hA 1 rfl (fun _ h => h) (fun _ => rfl) (by decide) (by decide) (by decide) (Nat.le_of_ble_eq_true rfl) (Nat.le_of_ble_eq_true rfl) hts (by decide +kernel) tyX3 tyX3_ok nmX3 hown 0 rfl rfl 0 (by decide) (hts (.fieldLink RX3 9 "KnotHouse$Codes" "cells" "[B") (by decide +kernel)) (fun _ h9 => h9) rfl hin rfl (by decide +kernel) (fun _ => rfl) (fun _ => rfl) (Nat.le_of_ble_eq_true rfl) dX3_init_9 dX3_init_11 (fun q1 H locs hP hD hS => ?_)
  have hP : va_P (dC, dI) vwCl [(h0, .inr (6, [.ref q1, .null, .null, .null, .int 0])), (q1, .inl (cB, 14400, .inl (fun _ => 0)))] H := hP
  have hD : va_D A [(h0, .inr (6, [.ref q1, .null, .null, .null, .int 0])), (q1, .inl (cB, 14400, .inl (fun _ => 0)))] := hD
  refine lv_aload_n hx hb dX3_init_14 rfl (lv_at hl 0 rfl) ?_
  refine lv_iload_n hx hb dX3_init_15 rfl (lv_at hl 1 rfl) ?_
  refine ow_np (D := (dC, dI)) (ci := 6) (C := RX3) (T := TX3) (N := 5) (N' := 480) (a0 := (480, .inl (fun _ => 0))) (ty := .byte) (fty := .array .byte) hx hb (hts (.arrayClass .byte) (by decide +kernel)) rfl hK hP hD hS hA 1 rfl (fun _ h => h) (fun _ => rfl) (by decide) (by decide) (by decide) (Nat.le_of_ble_eq_true rfl) (Nat.le_of_ble_eq_true rfl) hts (by decide +kernel) tyX3 tyX3_ok nmX3 hown 0 rfl rfl 1 (by decide) (hts (.fieldLink RX3 15 "KnotHouse$Codes" "lengths" "[B") (by decide +kernel)) (fun _ h9 => h9) rfl hin rfl (by decide +kernel) (fun _ => rfl) (fun _ => rfl) (Nat.le_of_ble_eq_true rfl) dX3_init_16 dX3_init_18 (fun q2 H locs hP hD hS => ?_)
  have hP : va_P (dC, dI) vwCl [(h0, .inr (6, [.ref q1, .ref q2, .null, .null, .int 0])), (q1, .inl (cB, 14400, .inl (fun _ => 0))), (q2, .inl (cB, 480, .inl (fun _ => 0)))] H := hP
  have hD : va_D A [(h0, .inr (6, [.ref q1, .ref q2, .null, .null, .int 0])), (q1, .inl (cB, 14400, .inl (fun _ => 0))), (q2, .inl (cB, 480, .inl (fun _ => 0)))] := hD
  refine lv_aload_n hx hb dX3_init_21 rfl (lv_at hl 0 rfl) ?_
  refine lv_iload_n hx hb dX3_init_22 rfl (lv_at hl 1 rfl) ?_
  refine ow_np (D := (dC, dI)) (ci := 6) (C := RX3) (T := TX3) (N := 5) (N' := 480) (a0 := (480, .inl (fun _ => 0))) (ty := .byte) (fty := .array .byte) hx hb (hts (.arrayClass .byte) (by decide +kernel)) rfl hK hP hD hS hA 1 rfl (fun _ h => h) (fun _ => rfl) (by decide) (by decide) (by decide) (Nat.le_of_ble_eq_true rfl) (Nat.le_of_ble_eq_true rfl) hts (by decide +kernel) tyX3 tyX3_ok nmX3 hown 0 rfl rfl 2 (by decide) (hts (.fieldLink RX3 18 "KnotHouse$Codes" "crossings" "[B") (by decide +kernel)) (fun _ h9 => h9) rfl hin rfl (by decide +kernel) (fun _ => rfl) (fun _ => rfl) (Nat.le_of_ble_eq_true rfl) dX3_init_23 dX3_init_25 (fun q3 H locs hP hD hS => ?_)
  have hP : va_P (dC, dI) vwCl [(h0, .inr (6, [.ref q1, .ref q2, .ref q3, .null, .int 0])), (q1, .inl (cB, 14400, .inl (fun _ => 0))), (q2, .inl (cB, 480, .inl (fun _ => 0))), (q3, .inl (cB, 480, .inl (fun _ => 0)))] H := hP
  have hD : va_D A [(h0, .inr (6, [.ref q1, .ref q2, .ref q3, .null, .int 0])), (q1, .inl (cB, 14400, .inl (fun _ => 0))), (q2, .inl (cB, 480, .inl (fun _ => 0))), (q3, .inl (cB, 480, .inl (fun _ => 0)))] := hD
  refine lv_aload_n hx hb dX3_init_28 rfl (lv_at hl 0 rfl) ?_
  refine lv_iload_n hx hb dX3_init_29 rfl (lv_at hl 1 rfl) ?_
  refine ow_np (D := (dC, dI)) (ci := 6) (C := RX3) (T := TX3) (N := 5) (N' := 480) (a0 := (480, .inl (fun _ => 0))) (ty := .int) (fty := .array .int) hx hb (hts (.arrayClass .int) (by decide +kernel)) rfl hK hP hD hS hA 0 rfl (fun _ h => h) (fun _ => rfl) (by decide) (by decide) (by decide) (Nat.le_of_ble_eq_true rfl) (Nat.le_of_ble_eq_true rfl) hts (by decide +kernel) tyX3 tyX3_ok nmX3 hown 0 rfl rfl 3 (by decide) (hts (.fieldLink RX3 21 "KnotHouse$Codes" "order" "[I") (by decide +kernel)) (fun _ h9 => h9) rfl hin rfl (by decide +kernel) (fun _ => rfl) (fun _ => rfl) (Nat.le_of_ble_eq_true rfl) dX3_init_30 dX3_init_32 (fun q4 H locs hP hD hS => ?_)
  have hP : va_P (dC, dI) vwCl [(h0, .inr (6, [.ref q1, .ref q2, .ref q3, .ref q4, .int 0])), (q1, .inl (cB, 14400, .inl (fun _ => 0))), (q2, .inl (cB, 480, .inl (fun _ => 0))), (q3, .inl (cB, 480, .inl (fun _ => 0))), (q4, .inl (cI, 480, .inl (fun _ => 0)))] H := hP
  have hD : va_D A [(h0, .inr (6, [.ref q1, .ref q2, .ref q3, .ref q4, .int 0])), (q1, .inl (cB, 14400, .inl (fun _ => 0))), (q2, .inl (cB, 480, .inl (fun _ => 0))), (q3, .inl (cB, 480, .inl (fun _ => 0))), (q4, .inl (cI, 480, .inl (fun _ => 0)))] := hD
  refine W.widen (k := 4) (n := 15840) (Nat.le_of_ble_eq_true rfl) (Nat.le_of_ble_eq_true rfl) ?_
  exact W.vret hx hb hr (fun t ht hW => ⟨⟨(q1, q2, q3, q4), rfl, trivial, by rw [ht]; exact hP, hD⟩, hS.F ht⟩) hS.2.2 dX3_init_35

/-- the cells of a new X3 -/
abbrev wd_X3_init_1848 (cI cB cJ cZ : ClassId) (h0 : Nat) (u : Nat × Nat × Nat × Nat) : va_W := match u with
  | (q1, q2, q3, q4) => [(h0, .inr (6, [.ref q1, .ref q2, .ref q3, .ref q4, .int 0])), (q1, .inl (cB, 55440, .inl (fun _ => 0))), (q2, .inl (cB, 1848, .inl (fun _ => 0))), (q3, .inl (cB, 1848, .inl (fun _ => 0))), (q4, .inl (cI, 1848, .inl (fun _ => 0)))]
set_option maxHeartbeats 4000000 in
set_option maxRecDepth 100000 in
theorem k_X3_init_1848 (l : Launch) (dC : Nat → ClassId) (dI : Nat → Nat → Nat) (cI cB cJ cZ : ClassId) (h0 sz : Nat) : Met l yX3_init wsX3_init ({ frames := 1, cells := 4, slots := 60984, locals := 12 }) (va_Pc [.ref h0, .int 1848] (fun U => U.heap.size = sz ∧ va_P (dC, dI) vwCl [(h0, .inr (6, [.null, .null, .null, .null, .int 0]))] U.heap ∧ va_K (dC, dI) vwCl [(cI, .int), (cB, .byte), (cJ, .long), (cZ, .boolean)] U ∧ va_D (fun _ => True) [(h0, .inr (6, [.null, .null, .null, .null, .int 0]))])) (va_Qv (fun _ : Nat × Nat × Nat × Nat => True) (fun u t => va_P (dC, dI) vwCl (wd_X3_init_1848 cI cB cJ cZ h0 u) t.heap ∧ va_D (va_A [(h0, .inr (6, [.null, .null, .null, .null, .int 0]))] sz) (wd_X3_init_1848 cI cB cJ cZ h0 u)) (va_A [(h0, .inr (6, [.null, .null, .null, .null, .int 0]))] sz)) 4 60984 (va_A [(h0, .inr (6, [.null, .null, .null, .null, .int 0]))] sz) := by
  refine Met.ofW (cc := cX3_init) (maxL := 2) (ret := none) (by decide) rfl ?_
  intro p e s m args below meth c s₁ B hml hv
  obtain ⟨rfl, hsz, hP, hK, hD0⟩ := hv
  have hx := B.exec
  have hb := B.bytes
  have hr := B.returns
  have hts := atoms_spec (ws := wsX3_init) B.pre
  have hown : s.vm.findClass RX3 = some m.cls := findClass_of_methodNamed B.named
  have hlocks := B.notSynchronized
  have hin : meth.name = "<init>" := (name_of_methodNamed B.named B.method).1
  subst hsz
  have hD := hD0.self (sz := s.heap.size)
  generalize hAe : va_A [(h0, .inr (6, [.null, .null, .null, .null, .int 0]))] s.heap.size = A at hD ⊢
  have hA : ∀ q : Nat, s.heap.size ≤ q → A q := fun q h => by rw [← hAe]; exact Or.inr h
  have hS : va_S A s.heap s.heap [] := va_S.rf
  have hP : va_P (dC, dI) vwCl [(h0, .inr (6, [.null, .null, .null, .null, .int 0]))] s.heap := hP
  have hl := lv_entry ([.ref h0, .int 1848]) (n := 2) (Nat.le_of_ble_eq_true rfl)
  rw [lg_entry_eq]
  generalize (lg_sl ([.ref h0, .int 1848]) ++ List.replicate (2 - (lg_sl ([.ref h0, .int 1848])).length) Slot.unset).toArray = ls at hl ⊢
  have hl : lv_has ls 2 [(0, .ref h0), (1, .int 1848)] := hl
  refine lv_aload_n hx hb dX3_init_0 rfl (lv_at hl 0 rfl) ?_
  refine W.objInit hx hb hown (hts (.methodLink RX3 3 objectInit) (by decide +kernel)) (hts (.instanceMethod objectInit) (by decide +kernel)) (hts (.code objectInit ⟨#[0xb1]⟩ 1 none) (by decide +kernel)) rfl (by rw [hml]; exact hl.1) rfl dX3_init_1 (Nat.le_of_ble_eq_true rfl) (Nat.le_of_ble_eq_true rfl) ?_
  refine W.eq (g2 := F0 m 4 ls []) rfl ?_
  refine lv_aload_n hx hb dX3_init_4 rfl (lv_at hl 0 rfl) ?_
  refine lv_iload_n hx hb dX3_init_5 rfl (lv_at hl 1 rfl) ?_
  refine lv_bipush (v := 30) hx hb dX3_init_6 (by decide) ?_
  refine lv_imul hx hb dX3_init_8 ?_
  refine ow_np (D := (dC, dI)) (ci := 6) (C := RX3) (T := TX3) (N := 5) (N' := 55440) (a0 := (55440, .inl (fun _ => 0))) (ty := .byte) (fty := .array .byte) hx hb (hts (.arrayClass .byte) (by decide +kernel)) rfl hK hP hD hS hA 1 rfl (fun _ h => h) (fun _ => rfl) (by decide) (by decide) (by decide) (Nat.le_of_ble_eq_true rfl) (Nat.le_of_ble_eq_true rfl) hts (by decide +kernel) tyX3 tyX3_ok nmX3 hown 0 rfl rfl 0 (by decide) (hts (.fieldLink RX3 9 "KnotHouse$Codes" "cells" "[B") (by decide +kernel)) (fun _ h9 => h9) rfl hin rfl (by decide +kernel) (fun _ => rfl) (fun _ => rfl) (Nat.le_of_ble_eq_true rfl) dX3_init_9 dX3_init_11 (fun q1 H locs hP hD hS => ?_)
  have hP : va_P (dC, dI) vwCl [(h0, .inr (6, [.ref q1, .null, .null, .null, .int 0])), (q1, .inl (cB, 55440, .inl (fun _ => 0)))] H := hP
  have hD : va_D A [(h0, .inr (6, [.ref q1, .null, .null, .null, .int 0])), (q1, .inl (cB, 55440, .inl (fun _ => 0)))] := hD
  refine lv_aload_n hx hb dX3_init_14 rfl (lv_at hl 0 rfl) ?_
  refine lv_iload_n hx hb dX3_init_15 rfl (lv_at hl 1 rfl) ?_
  refine ow_np (D := (dC, dI)) (ci := 6) (C := RX3) (T := TX3) (N := 5) (N' := 1848) (a0 := (1848, .inl (fun _ => 0))) (ty := .byte) (fty := .array .byte) hx hb (hts (.arrayClass .byte) (by decide +kernel)) rfl hK hP hD hS hA 1 rfl (fun _ h => h) (fun _ => rfl) (by decide) (by decide) (by decide) (Nat.le_of_ble_eq_true rfl) (Nat.le_of_ble_eq_true rfl) hts (by decide +kernel) tyX3 tyX3_ok nmX3 hown 0 rfl rfl 1 (by decide) (hts (.fieldLink RX3 15 "KnotHouse$Codes" "lengths" "[B") (by decide +kernel)) (fun _ h9 => h9) rfl hin rfl (by decide +kernel) (fun _ => rfl) (fun _ => rfl) (Nat.le_of_ble_eq_true rfl) dX3_init_16 dX3_init_18 (fun q2 H locs hP hD hS => ?_)
  have hP : va_P (dC, dI) vwCl [(h0, .inr (6, [.ref q1, .ref q2, .null, .null, .int 0])), (q1, .inl (cB, 55440, .inl (fun _ => 0))), (q2, .inl (cB, 1848, .inl (fun _ => 0)))] H := hP
  have hD : va_D A [(h0, .inr (6, [.ref q1, .ref q2, .null, .null, .int 0])), (q1, .inl (cB, 55440, .inl (fun _ => 0))), (q2, .inl (cB, 1848, .inl (fun _ => 0)))] := hD
  refine lv_aload_n hx hb dX3_init_21 rfl (lv_at hl 0 rfl) ?_
  refine lv_iload_n hx hb dX3_init_22 rfl (lv_at hl 1 rfl) ?_
  refine ow_np (D := (dC, dI)) (ci := 6) (C := RX3) (T := TX3) (N := 5) (N' := 1848) (a0 := (1848, .inl (fun _ => 0))) (ty := .byte) (fty := .array .byte) hx hb (hts (.arrayClass .byte) (by decide +kernel)) rfl hK hP hD hS hA 1 rfl (fun _ h => h) (fun _ => rfl) (by decide) (by decide) (by decide) (Nat.le_of_ble_eq_true rfl) (Nat.le_of_ble_eq_true rfl) hts (by decide +kernel) tyX3 tyX3_ok nmX3 hown 0 rfl rfl 2 (by decide) (hts (.fieldLink RX3 18 "KnotHouse$Codes" "crossings" "[B") (by decide +kernel)) (fun _ h9 => h9) rfl hin rfl (by decide +kernel) (fun _ => rfl) (fun _ => rfl) (Nat.le_of_ble_eq_true rfl) dX3_init_23 dX3_init_25 (fun q3 H locs hP hD hS => ?_)
  have hP : va_P (dC, dI) vwCl [(h0, .inr (6, [.ref q1, .ref q2, .ref q3, .null, .int 0])), (q1, .inl (cB, 55440, .inl (fun _ => 0))), (q2, .inl (cB, 1848, .inl (fun _ => 0))), (q3, .inl (cB, 1848, .inl (fun _ => 0)))] H := hP
  have hD : va_D A [(h0, .inr (6, [.ref q1, .ref q2, .ref q3, .null, .int 0])), (q1, .inl (cB, 55440, .inl (fun _ => 0))), (q2, .inl (cB, 1848, .inl (fun _ => 0))), (q3, .inl (cB, 1848, .inl (fun _ => 0)))] := hD
  refine lv_aload_n hx hb dX3_init_28 rfl (lv_at hl 0 rfl) ?_
  refine lv_iload_n hx hb dX3_init_29 rfl (lv_at hl 1 rfl) ?_
  refine ow_np (D := (dC, dI)) (ci := 6) (C := RX3) (T := TX3) (N := 5) (N' := 1848) (a0 := (1848, .inl (fun _ => 0))) (ty := .int) (fty := .array .int) hx hb (hts (.arrayClass .int) (by decide +kernel)) rfl hK hP hD hS hA 0 rfl (fun _ h => h) (fun _ => rfl) (by decide) (by decide) (by decide) (Nat.le_of_ble_eq_true rfl) (Nat.le_of_ble_eq_true rfl) hts (by decide +kernel) tyX3 tyX3_ok nmX3 hown 0 rfl rfl 3 (by decide) (hts (.fieldLink RX3 21 "KnotHouse$Codes" "order" "[I") (by decide +kernel)) (fun _ h9 => h9) rfl hin rfl (by decide +kernel) (fun _ => rfl) (fun _ => rfl) (Nat.le_of_ble_eq_true rfl) dX3_init_30 dX3_init_32 (fun q4 H locs hP hD hS => ?_)
  have hP : va_P (dC, dI) vwCl [(h0, .inr (6, [.ref q1, .ref q2, .ref q3, .ref q4, .int 0])), (q1, .inl (cB, 55440, .inl (fun _ => 0))), (q2, .inl (cB, 1848, .inl (fun _ => 0))), (q3, .inl (cB, 1848, .inl (fun _ => 0))), (q4, .inl (cI, 1848, .inl (fun _ => 0)))] H := hP
  have hD : va_D A [(h0, .inr (6, [.ref q1, .ref q2, .ref q3, .ref q4, .int 0])), (q1, .inl (cB, 55440, .inl (fun _ => 0))), (q2, .inl (cB, 1848, .inl (fun _ => 0))), (q3, .inl (cB, 1848, .inl (fun _ => 0))), (q4, .inl (cI, 1848, .inl (fun _ => 0)))] := hD
  refine W.widen (k := 4) (n := 60984) (Nat.le_of_ble_eq_true rfl) (Nat.le_of_ble_eq_true rfl) ?_
  exact W.vret hx hb hr (fun t ht hW => ⟨⟨(q1, q2, q3, q4), rfl, trivial, by rw [ht]; exact hP, hD⟩, hS.F ht⟩) hS.2.2 dX3_init_35

/-- the cells of a new X4 -/
abbrev wd_X4_init (cI cB cJ cZ : ClassId) (h0 : Nat) (u : Nat × Nat × Nat × Nat × Nat × Nat × Nat) : va_W := match u with
  | (q1, q2, q3, q4, q5, q6, q7) => [(h0, .inr (7, [.ref q1, .int 0, .ref q2, .ref q3, .ref q4, .ref q5, .ref q6, .ref q7])), (q1, .inl (cI, 48, .inl (fun _ => 0))), (q2, .inl (cI, 48, .inl (fun _ => 0))), (q3, .inl (cI, 48, .inl (fun _ => 0))), (q4, .inl (cJ, 64, .inr (.inl (fun _ => 0)))), (q5, .inl (cJ, 64, .inr (.inl (fun _ => 0)))), (q6, .inl (cJ, 64, .inr (.inl (fun _ => 0)))), (q7, .inl (cJ, 9, .inr (.inl (fun _ => 0))))]
set_option maxHeartbeats 4000000 in
set_option maxRecDepth 100000 in
theorem k_X4_init (l : Launch) (dC : Nat → ClassId) (dI : Nat → Nat → Nat) (cI cB cJ cZ : ClassId) (h0 sz : Nat) : Met l yX4_init wsX4_init ({ frames := 1, cells := 7, slots := 345, locals := 12 }) (va_Pc [.ref h0] (fun U => U.heap.size = sz ∧ va_P (dC, dI) vwCl [(h0, .inr (7, [.null, .int 0, .null, .null, .null, .null, .null, .null]))] U.heap ∧ va_K (dC, dI) vwCl [(cI, .int), (cB, .byte), (cJ, .long), (cZ, .boolean)] U ∧ va_D (fun _ => True) [(h0, .inr (7, [.null, .int 0, .null, .null, .null, .null, .null, .null]))])) (va_Qv (fun _ : Nat × Nat × Nat × Nat × Nat × Nat × Nat => True) (fun u t => va_P (dC, dI) vwCl (wd_X4_init cI cB cJ cZ h0 u) t.heap ∧ va_D (va_A [(h0, .inr (7, [.null, .int 0, .null, .null, .null, .null, .null, .null]))] sz) (wd_X4_init cI cB cJ cZ h0 u)) (va_A [(h0, .inr (7, [.null, .int 0, .null, .null, .null, .null, .null, .null]))] sz)) 7 345 (va_A [(h0, .inr (7, [.null, .int 0, .null, .null, .null, .null, .null, .null]))] sz) := by
  refine Met.ofW (cc := cX4_init) (maxL := 1) (ret := none) (by decide) rfl ?_
  intro p e s m args below meth c s₁ B hml hv
  obtain ⟨rfl, hsz, hP, hK, hD0⟩ := hv
  have hx := B.exec
  have hb := B.bytes
  have hr := B.returns
  have hts := atoms_spec (ws := wsX4_init) B.pre
  have hown : s.vm.findClass RX4 = some m.cls := findClass_of_methodNamed B.named
  have hlocks := B.notSynchronized
  have hin : meth.name = "<init>" := (name_of_methodNamed B.named B.method).1
  subst hsz
  have hD := hD0.self (sz := s.heap.size)
  generalize hAe : va_A [(h0, .inr (7, [.null, .int 0, .null, .null, .null, .null, .null, .null]))] s.heap.size = A at hD ⊢
  have hA : ∀ q : Nat, s.heap.size ≤ q → A q := fun q h => by rw [← hAe]; exact Or.inr h
  have hS : va_S A s.heap s.heap [] := va_S.rf
  have hP : va_P (dC, dI) vwCl [(h0, .inr (7, [.null, .int 0, .null, .null, .null, .null, .null, .null]))] s.heap := hP
  have hl := lv_entry ([.ref h0]) (n := 1) (Nat.le_of_ble_eq_true rfl)
  rw [lg_entry_eq]
  generalize (lg_sl ([.ref h0]) ++ List.replicate (1 - (lg_sl ([.ref h0])).length) Slot.unset).toArray = ls at hl ⊢
  have hl : lv_has ls 1 [(0, .ref h0)] := hl
  refine lv_aload_n hx hb dX4_init_0 rfl (lv_at hl 0 rfl) ?_
  refine W.objInit hx hb hown (hts (.methodLink RX4 3 objectInit) (by decide +kernel)) (hts (.instanceMethod objectInit) (by decide +kernel)) (hts (.code objectInit ⟨#[0xb1]⟩ 1 none) (by decide +kernel)) rfl (by rw [hml]; exact hl.1) rfl dX4_init_1 (Nat.le_of_ble_eq_true rfl) (Nat.le_of_ble_eq_true rfl) ?_
  refine W.eq (g2 := F0 m 4 ls []) rfl ?_
  refine lv_aload_n hx hb dX4_init_4 rfl (lv_at hl 0 rfl) ?_
  refine lv_bipush (v := 48) hx hb dX4_init_5 (by decide) ?_
  refine ow_np (D := (dC, dI)) (ci := 7) (C := RX4) (T := TX4) (N := 8) (N' := 48) (a0 := (48, .inl (fun _ => 0))) (ty := .int) (fty := .array .int) hx hb (hts (.arrayClass .int) (by decide +kernel)) rfl hK hP hD hS hA 0 rfl (fun _ h => h) (fun _ => rfl) (by decide) (by decide) (by decide) (Nat.le_of_ble_eq_true rfl) (Nat.le_of_ble_eq_true rfl) hts (by decide +kernel) tyX4 tyX4_ok nmX4 hown 0 rfl rfl 0 (by decide) (hts (.fieldLink RX4 9 "KnotHouse$Faces" "face" "[I") (by decide +kernel)) (fun _ h9 => h9) rfl hin rfl (by decide +kernel) (fun _ => rfl) (fun _ => rfl) (Nat.le_of_ble_eq_true rfl) dX4_init_7 dX4_init_9 (fun q1 H locs hP hD hS => ?_)
  have hP : va_P (dC, dI) vwCl [(h0, .inr (7, [.ref q1, .int 0, .null, .null, .null, .null, .null, .null])), (q1, .inl (cI, 48, .inl (fun _ => 0)))] H := hP
  have hD : va_D A [(h0, .inr (7, [.ref q1, .int 0, .null, .null, .null, .null, .null, .null])), (q1, .inl (cI, 48, .inl (fun _ => 0)))] := hD
  refine lv_aload_n hx hb dX4_init_12 rfl (lv_at hl 0 rfl) ?_
  refine lv_bipush (v := 48) hx hb dX4_init_13 (by decide) ?_
  refine ow_np (D := (dC, dI)) (ci := 7) (C := RX4) (T := TX4) (N := 8) (N' := 48) (a0 := (48, .inl (fun _ => 0))) (ty := .int) (fty := .array .int) hx hb (hts (.arrayClass .int) (by decide +kernel)) rfl hK hP hD hS hA 0 rfl (fun _ h => h) (fun _ => rfl) (by decide) (by decide) (by decide) (Nat.le_of_ble_eq_true rfl) (Nat.le_of_ble_eq_true rfl) hts (by decide +kernel) tyX4 tyX4_ok nmX4 hown 0 rfl rfl 2 (by decide) (hts (.fieldLink RX4 15 "KnotHouse$Faces" "colour" "[I") (by decide +kernel)) (fun _ h9 => h9) rfl hin rfl (by decide +kernel) (fun _ => rfl) (fun _ => rfl) (Nat.le_of_ble_eq_true rfl) dX4_init_15 dX4_init_17 (fun q2 H locs hP hD hS => ?_)
  have hP : va_P (dC, dI) vwCl [(h0, .inr (7, [.ref q1, .int 0, .ref q2, .null, .null, .null, .null, .null])), (q1, .inl (cI, 48, .inl (fun _ => 0))), (q2, .inl (cI, 48, .inl (fun _ => 0)))] H := hP
  have hD : va_D A [(h0, .inr (7, [.ref q1, .int 0, .ref q2, .null, .null, .null, .null, .null])), (q1, .inl (cI, 48, .inl (fun _ => 0))), (q2, .inl (cI, 48, .inl (fun _ => 0)))] := hD
  refine lv_aload_n hx hb dX4_init_20 rfl (lv_at hl 0 rfl) ?_
  refine lv_bipush (v := 48) hx hb dX4_init_21 (by decide) ?_
  refine ow_np (D := (dC, dI)) (ci := 7) (C := RX4) (T := TX4) (N := 8) (N' := 48) (a0 := (48, .inl (fun _ => 0))) (ty := .int) (fty := .array .int) hx hb (hts (.arrayClass .int) (by decide +kernel)) rfl hK hP hD hS hA 0 rfl (fun _ h => h) (fun _ => rfl) (by decide) (by decide) (by decide) (Nat.le_of_ble_eq_true rfl) (Nat.le_of_ble_eq_true rfl) hts (by decide +kernel) tyX4 tyX4_ok nmX4 hown 0 rfl rfl 3 (by decide) (hts (.fieldLink RX4 18 "KnotHouse$Faces" "row" "[I") (by decide +kernel)) (fun _ h9 => h9) rfl hin rfl (by decide +kernel) (fun _ => rfl) (fun _ => rfl) (Nat.le_of_ble_eq_true rfl) dX4_init_23 dX4_init_25 (fun q3 H locs hP hD hS => ?_)
  have hP : va_P (dC, dI) vwCl [(h0, .inr (7, [.ref q1, .int 0, .ref q2, .ref q3, .null, .null, .null, .null])), (q1, .inl (cI, 48, .inl (fun _ => 0))), (q2, .inl (cI, 48, .inl (fun _ => 0))), (q3, .inl (cI, 48, .inl (fun _ => 0)))] H := hP
  have hD : va_D A [(h0, .inr (7, [.ref q1, .int 0, .ref q2, .ref q3, .null, .null, .null, .null])), (q1, .inl (cI, 48, .inl (fun _ => 0))), (q2, .inl (cI, 48, .inl (fun _ => 0))), (q3, .inl (cI, 48, .inl (fun _ => 0)))] := hD
  refine lv_aload_n hx hb dX4_init_28 rfl (lv_at hl 0 rfl) ?_
  refine lv_bipush (v := 64) hx hb dX4_init_29 (by decide) ?_
  refine ow_np (D := (dC, dI)) (ci := 7) (C := RX4) (T := TX4) (N := 8) (N' := 64) (a0 := (64, .inr (.inl (fun _ => 0)))) (ty := .long) (fty := .array .long) hx hb (hts (.arrayClass .long) (by decide +kernel)) rfl hK hP hD hS hA 2 rfl (fun _ h => h) (fun _ => rfl) (by decide) (by decide) (by decide) (Nat.le_of_ble_eq_true rfl) (Nat.le_of_ble_eq_true rfl) hts (by decide +kernel) tyX4 tyX4_ok nmX4 hown 0 rfl rfl 4 (by decide) (hts (.fieldLink RX4 21 "KnotHouse$Faces" "matrix" "[J") (by decide +kernel)) (fun _ h9 => h9) rfl hin rfl (by decide +kernel) (fun _ => rfl) (fun _ => rfl) (Nat.le_of_ble_eq_true rfl) dX4_init_31 dX4_init_33 (fun q4 H locs hP hD hS => ?_)
  have hP : va_P (dC, dI) vwCl [(h0, .inr (7, [.ref q1, .int 0, .ref q2, .ref q3, .ref q4, .null, .null, .null])), (q1, .inl (cI, 48, .inl (fun _ => 0))), (q2, .inl (cI, 48, .inl (fun _ => 0))), (q3, .inl (cI, 48, .inl (fun _ => 0))), (q4, .inl (cJ, 64, .inr (.inl (fun _ => 0))))] H := hP
  have hD : va_D A [(h0, .inr (7, [.ref q1, .int 0, .ref q2, .ref q3, .ref q4, .null, .null, .null])), (q1, .inl (cI, 48, .inl (fun _ => 0))), (q2, .inl (cI, 48, .inl (fun _ => 0))), (q3, .inl (cI, 48, .inl (fun _ => 0))), (q4, .inl (cJ, 64, .inr (.inl (fun _ => 0))))] := hD
  refine lv_aload_n hx hb dX4_init_36 rfl (lv_at hl 0 rfl) ?_
  refine lv_bipush (v := 64) hx hb dX4_init_37 (by decide) ?_
  refine ow_np (D := (dC, dI)) (ci := 7) (C := RX4) (T := TX4) (N := 8) (N' := 64) (a0 := (64, .inr (.inl (fun _ => 0)))) (ty := .long) (fty := .array .long) hx hb (hts (.arrayClass .long) (by decide +kernel)) rfl hK hP hD hS hA 2 rfl (fun _ h => h) (fun _ => rfl) (by decide) (by decide) (by decide) (Nat.le_of_ble_eq_true rfl) (Nat.le_of_ble_eq_true rfl) hts (by decide +kernel) tyX4 tyX4_ok nmX4 hown 0 rfl rfl 5 (by decide) (hts (.fieldLink RX4 25 "KnotHouse$Faces" "power" "[J") (by decide +kernel)) (fun _ h9 => h9) rfl hin rfl (by decide +kernel) (fun _ => rfl) (fun _ => rfl) (Nat.le_of_ble_eq_true rfl) dX4_init_39 dX4_init_41 (fun q5 H locs hP hD hS => ?_)
  have hP : va_P (dC, dI) vwCl [(h0, .inr (7, [.ref q1, .int 0, .ref q2, .ref q3, .ref q4, .ref q5, .null, .null])), (q1, .inl (cI, 48, .inl (fun _ => 0))), (q2, .inl (cI, 48, .inl (fun _ => 0))), (q3, .inl (cI, 48, .inl (fun _ => 0))), (q4, .inl (cJ, 64, .inr (.inl (fun _ => 0)))), (q5, .inl (cJ, 64, .inr (.inl (fun _ => 0))))] H := hP
  have hD : va_D A [(h0, .inr (7, [.ref q1, .int 0, .ref q2, .ref q3, .ref q4, .ref q5, .null, .null])), (q1, .inl (cI, 48, .inl (fun _ => 0))), (q2, .inl (cI, 48, .inl (fun _ => 0))), (q3, .inl (cI, 48, .inl (fun _ => 0))), (q4, .inl (cJ, 64, .inr (.inl (fun _ => 0)))), (q5, .inl (cJ, 64, .inr (.inl (fun _ => 0))))] := hD
  refine lv_aload_n hx hb dX4_init_44 rfl (lv_at hl 0 rfl) ?_
  refine lv_bipush (v := 64) hx hb dX4_init_45 (by decide) ?_
  refine ow_np (D := (dC, dI)) (ci := 7) (C := RX4) (T := TX4) (N := 8) (N' := 64) (a0 := (64, .inr (.inl (fun _ => 0)))) (ty := .long) (fty := .array .long) hx hb (hts (.arrayClass .long) (by decide +kernel)) rfl hK hP hD hS hA 2 rfl (fun _ h => h) (fun _ => rfl) (by decide) (by decide) (by decide) (Nat.le_of_ble_eq_true rfl) (Nat.le_of_ble_eq_true rfl) hts (by decide +kernel) tyX4 tyX4_ok nmX4 hown 0 rfl rfl 6 (by decide) (hts (.fieldLink RX4 28 "KnotHouse$Faces" "product" "[J") (by decide +kernel)) (fun _ h9 => h9) rfl hin rfl (by decide +kernel) (fun _ => rfl) (fun _ => rfl) (Nat.le_of_ble_eq_true rfl) dX4_init_47 dX4_init_49 (fun q6 H locs hP hD hS => ?_)
  have hP : va_P (dC, dI) vwCl [(h0, .inr (7, [.ref q1, .int 0, .ref q2, .ref q3, .ref q4, .ref q5, .ref q6, .null])), (q1, .inl (cI, 48, .inl (fun _ => 0))), (q2, .inl (cI, 48, .inl (fun _ => 0))), (q3, .inl (cI, 48, .inl (fun _ => 0))), (q4, .inl (cJ, 64, .inr (.inl (fun _ => 0)))), (q5, .inl (cJ, 64, .inr (.inl (fun _ => 0)))), (q6, .inl (cJ, 64, .inr (.inl (fun _ => 0))))] H := hP
  have hD : va_D A [(h0, .inr (7, [.ref q1, .int 0, .ref q2, .ref q3, .ref q4, .ref q5, .ref q6, .null])), (q1, .inl (cI, 48, .inl (fun _ => 0))), (q2, .inl (cI, 48, .inl (fun _ => 0))), (q3, .inl (cI, 48, .inl (fun _ => 0))), (q4, .inl (cJ, 64, .inr (.inl (fun _ => 0)))), (q5, .inl (cJ, 64, .inr (.inl (fun _ => 0)))), (q6, .inl (cJ, 64, .inr (.inl (fun _ => 0))))] := hD
  refine lv_aload_n hx hb dX4_init_52 rfl (lv_at hl 0 rfl) ?_
  refine lv_bipush (v := 9) hx hb dX4_init_53 (by decide) ?_
  refine ow_np (D := (dC, dI)) (ci := 7) (C := RX4) (T := TX4) (N := 8) (N' := 9) (a0 := (9, .inr (.inl (fun _ => 0)))) (ty := .long) (fty := .array .long) hx hb (hts (.arrayClass .long) (by decide +kernel)) rfl hK hP hD hS hA 2 rfl (fun _ h => h) (fun _ => rfl) (by decide) (by decide) (by decide) (Nat.le_of_ble_eq_true rfl) (Nat.le_of_ble_eq_true rfl) hts (by decide +kernel) tyX4 tyX4_ok nmX4 hown 0 rfl rfl 7 (by decide) (hts (.fieldLink RX4 31 "KnotHouse$Faces" "characteristic" "[J") (by decide +kernel)) (fun _ h9 => h9) rfl hin rfl (by decide +kernel) (fun _ => rfl) (fun _ => rfl) (Nat.le_of_ble_eq_true rfl) dX4_init_55 dX4_init_57 (fun q7 H locs hP hD hS => ?_)
  have hP : va_P (dC, dI) vwCl [(h0, .inr (7, [.ref q1, .int 0, .ref q2, .ref q3, .ref q4, .ref q5, .ref q6, .ref q7])), (q1, .inl (cI, 48, .inl (fun _ => 0))), (q2, .inl (cI, 48, .inl (fun _ => 0))), (q3, .inl (cI, 48, .inl (fun _ => 0))), (q4, .inl (cJ, 64, .inr (.inl (fun _ => 0)))), (q5, .inl (cJ, 64, .inr (.inl (fun _ => 0)))), (q6, .inl (cJ, 64, .inr (.inl (fun _ => 0)))), (q7, .inl (cJ, 9, .inr (.inl (fun _ => 0))))] H := hP
  have hD : va_D A [(h0, .inr (7, [.ref q1, .int 0, .ref q2, .ref q3, .ref q4, .ref q5, .ref q6, .ref q7])), (q1, .inl (cI, 48, .inl (fun _ => 0))), (q2, .inl (cI, 48, .inl (fun _ => 0))), (q3, .inl (cI, 48, .inl (fun _ => 0))), (q4, .inl (cJ, 64, .inr (.inl (fun _ => 0)))), (q5, .inl (cJ, 64, .inr (.inl (fun _ => 0)))), (q6, .inl (cJ, 64, .inr (.inl (fun _ => 0)))), (q7, .inl (cJ, 9, .inr (.inl (fun _ => 0))))] := hD
  refine W.widen (k := 7) (n := 345) (Nat.le_of_ble_eq_true rfl) (Nat.le_of_ble_eq_true rfl) ?_
  exact W.vret hx hb hr (fun t ht hW => ⟨⟨(q1, q2, q3, q4, q5, q6, q7), rfl, trivial, by rw [ht]; exact hP, hD⟩, hS.F ht⟩) hS.2.2 dX4_init_60

/-- the cells of a new X5 -/
abbrev wd_X5_init (cI cB cJ cZ : ClassId) (h0 : Nat) (u : Nat) : va_W := match u with
  | q1 => [(h0, .inr (8, [.int 0, .int 0, .int 0, .ref q1, .int 0, .int 0])), (q1, .inl (cI, 24, .inl (fun _ => 0)))]
set_option maxHeartbeats 4000000 in
set_option maxRecDepth 100000 in
theorem k_X5_init (l : Launch) (dC : Nat → ClassId) (dI : Nat → Nat → Nat) (cI cB cJ cZ : ClassId) (h0 sz : Nat) : Met l yX5_init wsX5_init ({ frames := 1, cells := 1, slots := 24, locals := 12 }) (va_Pc [.ref h0] (fun U => U.heap.size = sz ∧ va_P (dC, dI) vwCl [(h0, .inr (8, [.int 0, .int 0, .int 0, .null, .int 0, .int 0]))] U.heap ∧ va_K (dC, dI) vwCl [(cI, .int), (cB, .byte), (cJ, .long), (cZ, .boolean)] U ∧ va_D (fun _ => True) [(h0, .inr (8, [.int 0, .int 0, .int 0, .null, .int 0, .int 0]))])) (va_Qv (fun _ : Nat => True) (fun u t => va_P (dC, dI) vwCl (wd_X5_init cI cB cJ cZ h0 u) t.heap ∧ va_D (va_A [(h0, .inr (8, [.int 0, .int 0, .int 0, .null, .int 0, .int 0]))] sz) (wd_X5_init cI cB cJ cZ h0 u)) (va_A [(h0, .inr (8, [.int 0, .int 0, .int 0, .null, .int 0, .int 0]))] sz)) 1 24 (va_A [(h0, .inr (8, [.int 0, .int 0, .int 0, .null, .int 0, .int 0]))] sz) := by
  refine Met.ofW (cc := cX5_init) (maxL := 1) (ret := none) (by decide) rfl ?_
  intro p e s m args below meth c s₁ B hml hv
  obtain ⟨rfl, hsz, hP, hK, hD0⟩ := hv
  have hx := B.exec
  have hb := B.bytes
  have hr := B.returns
  have hts := atoms_spec (ws := wsX5_init) B.pre
  have hown : s.vm.findClass RX5 = some m.cls := findClass_of_methodNamed B.named
  have hlocks := B.notSynchronized
  have hin : meth.name = "<init>" := (name_of_methodNamed B.named B.method).1
  subst hsz
  have hD := hD0.self (sz := s.heap.size)
  generalize hAe : va_A [(h0, .inr (8, [.int 0, .int 0, .int 0, .null, .int 0, .int 0]))] s.heap.size = A at hD ⊢
  have hA : ∀ q : Nat, s.heap.size ≤ q → A q := fun q h => by rw [← hAe]; exact Or.inr h
  have hS : va_S A s.heap s.heap [] := va_S.rf
  have hP : va_P (dC, dI) vwCl [(h0, .inr (8, [.int 0, .int 0, .int 0, .null, .int 0, .int 0]))] s.heap := hP
  have hl := lv_entry ([.ref h0]) (n := 1) (Nat.le_of_ble_eq_true rfl)
  rw [lg_entry_eq]
  generalize (lg_sl ([.ref h0]) ++ List.replicate (1 - (lg_sl ([.ref h0])).length) Slot.unset).toArray = ls at hl ⊢
  have hl : lv_has ls 1 [(0, .ref h0)] := hl
  refine lv_aload_n hx hb dX5_init_0 rfl (lv_at hl 0 rfl) ?_
  refine W.objInit hx hb hown (hts (.methodLink RX5 3 objectInit) (by decide +kernel)) (hts (.instanceMethod objectInit) (by decide +kernel)) (hts (.code objectInit ⟨#[0xb1]⟩ 1 none) (by decide +kernel)) rfl (by rw [hml]; exact hl.1) rfl dX5_init_1 (Nat.le_of_ble_eq_true rfl) (Nat.le_of_ble_eq_true rfl) ?_
  refine W.eq (g2 := F0 m 4 ls []) rfl ?_
  refine lv_aload_n hx hb dX5_init_4 rfl (lv_at hl 0 rfl) ?_
  refine lv_bipush (v := 24) hx hb dX5_init_5 (by decide) ?_
  refine ow_np (D := (dC, dI)) (ci := 8) (C := RX5) (T := TX5) (N := 6) (N' := 24) (a0 := (24, .inl (fun _ => 0))) (ty := .int) (fty := .array .int) hx hb (hts (.arrayClass .int) (by decide +kernel)) rfl hK hP hD hS hA 0 rfl (fun _ h => h) (fun _ => rfl) (by decide) (by decide) (by decide) (Nat.le_of_ble_eq_true rfl) (Nat.le_of_ble_eq_true rfl) hts (by decide +kernel) tyX5 tyX5_ok nmX5 hown 0 rfl rfl 3 (by decide) (hts (.fieldLink RX5 11 "KnotHouse$Form" "factors" "[I") (by decide +kernel)) (fun _ h9 => h9) rfl hin rfl (by decide +kernel) (fun _ => rfl) (fun _ => rfl) (Nat.le_of_ble_eq_true rfl) dX5_init_7 dX5_init_9 (fun q1 H locs hP hD hS => ?_)
  have hP : va_P (dC, dI) vwCl [(h0, .inr (8, [.int 0, .int 0, .int 0, .ref q1, .int 0, .int 0])), (q1, .inl (cI, 24, .inl (fun _ => 0)))] H := hP
  have hD : va_D A [(h0, .inr (8, [.int 0, .int 0, .int 0, .ref q1, .int 0, .int 0])), (q1, .inl (cI, 24, .inl (fun _ => 0)))] := hD
  refine W.widen (k := 1) (n := 24) (Nat.le_of_ble_eq_true rfl) (Nat.le_of_ble_eq_true rfl) ?_
  exact W.vret hx hb hr (fun t ht hW => ⟨⟨q1, rfl, trivial, by rw [ht]; exact hP, hD⟩, hS.F ht⟩) hS.2.2 dX5_init_12

/-- the cells of a new X9 -/
abbrev wd_X9_init (cI cB cJ cZ : ClassId) (h0 : Nat) (u : Nat × Nat × Nat) : va_W := match u with
  | (q1, q2, q3) => [(h0, .inr (12, [.int 0, .ref q1, .ref q2, .ref q3, .int 0, .int 0])), (q1, .inl (cB, 400, .inl (fun _ => 0))), (q2, .inl (cI, 100, .inl (fun _ => 0))), (q3, .inl (cI, 24, .inl (fun _ => 0)))]
set_option maxHeartbeats 4000000 in
set_option maxRecDepth 100000 in
theorem k_X9_init (l : Launch) (dC : Nat → ClassId) (dI : Nat → Nat → Nat) (cI cB cJ cZ : ClassId) (h0 sz : Nat) : Met l yX9_init wsX9_init ({ frames := 1, cells := 3, slots := 524, locals := 12 }) (va_Pc [.ref h0] (fun U => U.heap.size = sz ∧ va_P (dC, dI) vwCl [(h0, .inr (12, [.int 0, .null, .null, .null, .int 0, .int 0]))] U.heap ∧ va_K (dC, dI) vwCl [(cI, .int), (cB, .byte), (cJ, .long), (cZ, .boolean)] U ∧ va_D (fun _ => True) [(h0, .inr (12, [.int 0, .null, .null, .null, .int 0, .int 0]))])) (va_Qv (fun _ : Nat × Nat × Nat => True) (fun u t => va_P (dC, dI) vwCl (wd_X9_init cI cB cJ cZ h0 u) t.heap ∧ va_D (va_A [(h0, .inr (12, [.int 0, .null, .null, .null, .int 0, .int 0]))] sz) (wd_X9_init cI cB cJ cZ h0 u)) (va_A [(h0, .inr (12, [.int 0, .null, .null, .null, .int 0, .int 0]))] sz)) 3 524 (va_A [(h0, .inr (12, [.int 0, .null, .null, .null, .int 0, .int 0]))] sz) := by
  refine Met.ofW (cc := cX9_init) (maxL := 1) (ret := none) (by decide) rfl ?_
  intro p e s m args below meth c s₁ B hml hv
  obtain ⟨rfl, hsz, hP, hK, hD0⟩ := hv
  have hx := B.exec
  have hb := B.bytes
  have hr := B.returns
  have hts := atoms_spec (ws := wsX9_init) B.pre
  have hown : s.vm.findClass RX9 = some m.cls := findClass_of_methodNamed B.named
  have hlocks := B.notSynchronized
  have hin : meth.name = "<init>" := (name_of_methodNamed B.named B.method).1
  subst hsz
  have hD := hD0.self (sz := s.heap.size)
  generalize hAe : va_A [(h0, .inr (12, [.int 0, .null, .null, .null, .int 0, .int 0]))] s.heap.size = A at hD ⊢
  have hA : ∀ q : Nat, s.heap.size ≤ q → A q := fun q h => by rw [← hAe]; exact Or.inr h
  have hS : va_S A s.heap s.heap [] := va_S.rf
  have hP : va_P (dC, dI) vwCl [(h0, .inr (12, [.int 0, .null, .null, .null, .int 0, .int 0]))] s.heap := hP
  have hl := lv_entry ([.ref h0]) (n := 1) (Nat.le_of_ble_eq_true rfl)
  rw [lg_entry_eq]
  generalize (lg_sl ([.ref h0]) ++ List.replicate (1 - (lg_sl ([.ref h0])).length) Slot.unset).toArray = ls at hl ⊢
  have hl : lv_has ls 1 [(0, .ref h0)] := hl
  refine lv_aload_n hx hb dX9_init_0 rfl (lv_at hl 0 rfl) ?_
  refine W.objInit hx hb hown (hts (.methodLink RX9 3 objectInit) (by decide +kernel)) (hts (.instanceMethod objectInit) (by decide +kernel)) (hts (.code objectInit ⟨#[0xb1]⟩ 1 none) (by decide +kernel)) rfl (by rw [hml]; exact hl.1) rfl dX9_init_1 (Nat.le_of_ble_eq_true rfl) (Nat.le_of_ble_eq_true rfl) ?_
  refine W.eq (g2 := F0 m 4 ls []) rfl ?_
  refine lv_aload_n hx hb dX9_init_4 rfl (lv_at hl 0 rfl) ?_
  refine lv_sipush (v := 400) hx hb dX9_init_5 (by decide) ?_
  refine ow_np (D := (dC, dI)) (ci := 12) (C := RX9) (T := TX9) (N := 6) (N' := 400) (a0 := (400, .inl (fun _ => 0))) (ty := .byte) (fty := .array .byte) hx hb (hts (.arrayClass .byte) (by decide +kernel)) rfl hK hP hD hS hA 1 rfl (fun _ h => h) (fun _ => rfl) (by decide) (by decide) (by decide) (Nat.le_of_ble_eq_true rfl) (Nat.le_of_ble_eq_true rfl) hts (by decide +kernel) tyX9 tyX9_ok nmX9 hown 0 rfl rfl 1 (by decide) (hts (.fieldLink RX9 9 "KnotHouse$Reader" "tape" "[B") (by decide +kernel)) (fun _ h9 => h9) rfl hin rfl (by decide +kernel) (fun _ => rfl) (fun _ => rfl) (Nat.le_of_ble_eq_true rfl) dX9_init_8 dX9_init_10 (fun q1 H locs hP hD hS => ?_)
  have hP : va_P (dC, dI) vwCl [(h0, .inr (12, [.int 0, .ref q1, .null, .null, .int 0, .int 0])), (q1, .inl (cB, 400, .inl (fun _ => 0)))] H := hP
  have hD : va_D A [(h0, .inr (12, [.int 0, .ref q1, .null, .null, .int 0, .int 0])), (q1, .inl (cB, 400, .inl (fun _ => 0)))] := hD
  refine lv_aload_n hx hb dX9_init_13 rfl (lv_at hl 0 rfl) ?_
  refine lv_bipush (v := 100) hx hb dX9_init_14 (by decide) ?_
  refine ow_np (D := (dC, dI)) (ci := 12) (C := RX9) (T := TX9) (N := 6) (N' := 100) (a0 := (100, .inl (fun _ => 0))) (ty := .int) (fty := .array .int) hx hb (hts (.arrayClass .int) (by decide +kernel)) rfl hK hP hD hS hA 0 rfl (fun _ h => h) (fun _ => rfl) (by decide) (by decide) (by decide) (Nat.le_of_ble_eq_true rfl) (Nat.le_of_ble_eq_true rfl) hts (by decide +kernel) tyX9 tyX9_ok nmX9 hown 0 rfl rfl 2 (by decide) (hts (.fieldLink RX9 15 "KnotHouse$Reader" "crossingOf" "[I") (by decide +kernel)) (fun _ h9 => h9) rfl hin rfl (by decide +kernel) (fun _ => rfl) (fun _ => rfl) (Nat.le_of_ble_eq_true rfl) dX9_init_16 dX9_init_18 (fun q2 H locs hP hD hS => ?_)
  have hP : va_P (dC, dI) vwCl [(h0, .inr (12, [.int 0, .ref q1, .ref q2, .null, .int 0, .int 0])), (q1, .inl (cB, 400, .inl (fun _ => 0))), (q2, .inl (cI, 100, .inl (fun _ => 0)))] H := hP
  have hD : va_D A [(h0, .inr (12, [.int 0, .ref q1, .ref q2, .null, .int 0, .int 0])), (q1, .inl (cB, 400, .inl (fun _ => 0))), (q2, .inl (cI, 100, .inl (fun _ => 0)))] := hD
  refine lv_aload_n hx hb dX9_init_21 rfl (lv_at hl 0 rfl) ?_
  refine lv_bipush (v := 24) hx hb dX9_init_22 (by decide) ?_
  refine ow_np (D := (dC, dI)) (ci := 12) (C := RX9) (T := TX9) (N := 6) (N' := 24) (a0 := (24, .inl (fun _ => 0))) (ty := .int) (fty := .array .int) hx hb (hts (.arrayClass .int) (by decide +kernel)) rfl hK hP hD hS hA 0 rfl (fun _ h => h) (fun _ => rfl) (by decide) (by decide) (by decide) (Nat.le_of_ble_eq_true rfl) (Nat.le_of_ble_eq_true rfl) hts (by decide +kernel) tyX9 tyX9_ok nmX9 hown 0 rfl rfl 3 (by decide) (hts (.fieldLink RX9 19 "KnotHouse$Reader" "begins" "[I") (by decide +kernel)) (fun _ h9 => h9) rfl hin rfl (by decide +kernel) (fun _ => rfl) (fun _ => rfl) (Nat.le_of_ble_eq_true rfl) dX9_init_24 dX9_init_26 (fun q3 H locs hP hD hS => ?_)
  have hP : va_P (dC, dI) vwCl [(h0, .inr (12, [.int 0, .ref q1, .ref q2, .ref q3, .int 0, .int 0])), (q1, .inl (cB, 400, .inl (fun _ => 0))), (q2, .inl (cI, 100, .inl (fun _ => 0))), (q3, .inl (cI, 24, .inl (fun _ => 0)))] H := hP
  have hD : va_D A [(h0, .inr (12, [.int 0, .ref q1, .ref q2, .ref q3, .int 0, .int 0])), (q1, .inl (cB, 400, .inl (fun _ => 0))), (q2, .inl (cI, 100, .inl (fun _ => 0))), (q3, .inl (cI, 24, .inl (fun _ => 0)))] := hD
  refine W.widen (k := 3) (n := 524) (Nat.le_of_ble_eq_true rfl) (Nat.le_of_ble_eq_true rfl) ?_
  exact W.vret hx hb hr (fun t ht hW => ⟨⟨(q1, q2, q3), rfl, trivial, by rw [ht]; exact hP, hD⟩, hS.F ht⟩) hS.2.2 dX9_init_29

/-- the cells of a new X12 -/
abbrev wd_X12_init (cI cB cJ cZ : ClassId) (h0 : Nat) (u : Nat × Nat × Nat × Nat × Nat × Nat × Nat × Nat × Nat × Nat × Nat × Nat) : va_W := match u with
  | (q1, q2, q3, q4, q5, q6, q7, q8, q9, q10, q11, q12) => [(h0, .inr (15, [.int 0, .int 0, .ref q1, .ref q2, .ref q3, .ref q4, .ref q5, .ref q6, .ref q7, .ref q8, .ref q9, .ref q10, .int 0, .ref q11, .ref q12, .int 0])), (q1, .inl (cI, 40, .inl (fun _ => 0))), (q2, .inl (cI, 40, .inl (fun _ => 0))), (q3, .inl (cI, 40, .inl (fun _ => 0))), (q4, .inl (cI, 40, .inl (fun _ => 0))), (q5, .inl (cI, 40, .inl (fun _ => 0))), (q6, .inl (cI, 40, .inl (fun _ => 0))), (q7, .inl (cI, 40, .inl (fun _ => 0))), (q8, .inl (cI, 40, .inl (fun _ => 0))), (q9, .inl (cI, 40, .inl (fun _ => 0))), (q10, .inl (cI, 40, .inl (fun _ => 0))), (q11, .inl (cI, 80, .inl (fun _ => 0))), (q12, .inl (cI, 80, .inl (fun _ => 0)))]
set_option maxHeartbeats 4000000 in
set_option maxRecDepth 100000 in
theorem k_X12_init (l : Launch) (dC : Nat → ClassId) (dI : Nat → Nat → Nat) (cI cB cJ cZ : ClassId) (h0 sz : Nat) : Met l yX12_init wsX12_init ({ frames := 1, cells := 12, slots := 560, locals := 12 }) (va_Pc [.ref h0] (fun U => U.heap.size = sz ∧ va_P (dC, dI) vwCl [(h0, .inr (15, [.int 0, .int 0, .null, .null, .null, .null, .null, .null, .null, .null, .null, .null, .int 0, .null, .null, .int 0]))] U.heap ∧ va_K (dC, dI) vwCl [(cI, .int), (cB, .byte), (cJ, .long), (cZ, .boolean)] U ∧ va_D (fun _ => True) [(h0, .inr (15, [.int 0, .int 0, .null, .null, .null, .null, .null, .null, .null, .null, .null, .null, .int 0, .null, .null, .int 0]))])) (va_Qv (fun _ : Nat × Nat × Nat × Nat × Nat × Nat × Nat × Nat × Nat × Nat × Nat × Nat => True) (fun u t => va_P (dC, dI) vwCl (wd_X12_init cI cB cJ cZ h0 u) t.heap ∧ va_D (va_A [(h0, .inr (15, [.int 0, .int 0, .null, .null, .null, .null, .null, .null, .null, .null, .null, .null, .int 0, .null, .null, .int 0]))] sz) (wd_X12_init cI cB cJ cZ h0 u)) (va_A [(h0, .inr (15, [.int 0, .int 0, .null, .null, .null, .null, .null, .null, .null, .null, .null, .null, .int 0, .null, .null, .int 0]))] sz)) 12 560 (va_A [(h0, .inr (15, [.int 0, .int 0, .null, .null, .null, .null, .null, .null, .null, .null, .null, .null, .int 0, .null, .null, .int 0]))] sz) := by
  refine Met.ofW (cc := cX12_init) (maxL := 1) (ret := none) (by decide) rfl ?_
  intro p e s m args below meth c s₁ B hml hv
  obtain ⟨rfl, hsz, hP, hK, hD0⟩ := hv
  have hx := B.exec
  have hb := B.bytes
  have hr := B.returns
  have hts := atoms_spec (ws := wsX12_init) B.pre
  have hown : s.vm.findClass RX12 = some m.cls := findClass_of_methodNamed B.named
  have hlocks := B.notSynchronized
  have hin : meth.name = "<init>" := (name_of_methodNamed B.named B.method).1
  subst hsz
  have hD := hD0.self (sz := s.heap.size)
  generalize hAe : va_A [(h0, .inr (15, [.int 0, .int 0, .null, .null, .null, .null, .null, .null, .null, .null, .null, .null, .int 0, .null, .null, .int 0]))] s.heap.size = A at hD ⊢
  have hA : ∀ q : Nat, s.heap.size ≤ q → A q := fun q h => by rw [← hAe]; exact Or.inr h
  have hS : va_S A s.heap s.heap [] := va_S.rf
  have hP : va_P (dC, dI) vwCl [(h0, .inr (15, [.int 0, .int 0, .null, .null, .null, .null, .null, .null, .null, .null, .null, .null, .int 0, .null, .null, .int 0]))] s.heap := hP
  have hl := lv_entry ([.ref h0]) (n := 1) (Nat.le_of_ble_eq_true rfl)
  rw [lg_entry_eq]
  generalize (lg_sl ([.ref h0]) ++ List.replicate (1 - (lg_sl ([.ref h0])).length) Slot.unset).toArray = ls at hl ⊢
  have hl : lv_has ls 1 [(0, .ref h0)] := hl
  refine lv_aload_n hx hb dX12_init_0 rfl (lv_at hl 0 rfl) ?_
  refine W.objInit hx hb hown (hts (.methodLink RX12 3 objectInit) (by decide +kernel)) (hts (.instanceMethod objectInit) (by decide +kernel)) (hts (.code objectInit ⟨#[0xb1]⟩ 1 none) (by decide +kernel)) rfl (by rw [hml]; exact hl.1) rfl dX12_init_1 (Nat.le_of_ble_eq_true rfl) (Nat.le_of_ble_eq_true rfl) ?_
  refine W.eq (g2 := F0 m 4 ls []) rfl ?_
  refine lv_aload_n hx hb dX12_init_4 rfl (lv_at hl 0 rfl) ?_
  refine lv_bipush (v := 40) hx hb dX12_init_5 (by decide) ?_
  refine ow_np (D := (dC, dI)) (ci := 15) (C := RX12) (T := TX12) (N := 16) (N' := 40) (a0 := (40, .inl (fun _ => 0))) (ty := .int) (fty := .array .int) hx hb (hts (.arrayClass .int) (by decide +kernel)) rfl hK hP hD hS hA 0 rfl (fun _ h => h) (fun _ => rfl) (by decide) (by decide) (by decide) (Nat.le_of_ble_eq_true rfl) (Nat.le_of_ble_eq_true rfl) hts (by decide +kernel) tyX12 tyX12_ok nmX12 hown 0 rfl rfl 2 (by decide) (hts (.fieldLink RX12 9 "KnotHouseModel$Net" "begin" "[I") (by decide +kernel)) (fun _ h9 => h9) rfl hin rfl (by decide +kernel) (fun _ => rfl) (fun _ => rfl) (Nat.le_of_ble_eq_true rfl) dX12_init_7 dX12_init_9 (fun q1 H locs hP hD hS => ?_)
  have hP : va_P (dC, dI) vwCl [(h0, .inr (15, [.int 0, .int 0, .ref q1, .null, .null, .null, .null, .null, .null, .null, .null, .null, .int 0, .null, .null, .int 0])), (q1, .inl (cI, 40, .inl (fun _ => 0)))] H := hP
  have hD : va_D A [(h0, .inr (15, [.int 0, .int 0, .ref q1, .null, .null, .null, .null, .null, .null, .null, .null, .null, .int 0, .null, .null, .int 0])), (q1, .inl (cI, 40, .inl (fun _ => 0)))] := hD
  refine lv_aload_n hx hb dX12_init_12 rfl (lv_at hl 0 rfl) ?_
  refine lv_bipush (v := 40) hx hb dX12_init_13 (by decide) ?_
  refine ow_np (D := (dC, dI)) (ci := 15) (C := RX12) (T := TX12) (N := 16) (N' := 40) (a0 := (40, .inl (fun _ => 0))) (ty := .int) (fty := .array .int) hx hb (hts (.arrayClass .int) (by decide +kernel)) rfl hK hP hD hS hA 0 rfl (fun _ h => h) (fun _ => rfl) (by decide) (by decide) (by decide) (Nat.le_of_ble_eq_true rfl) (Nat.le_of_ble_eq_true rfl) hts (by decide +kernel) tyX12 tyX12_ok nmX12 hown 0 rfl rfl 3 (by decide) (hts (.fieldLink RX12 15 "KnotHouseModel$Net" "cross" "[I") (by decide +kernel)) (fun _ h9 => h9) rfl hin rfl (by decide +kernel) (fun _ => rfl) (fun _ => rfl) (Nat.le_of_ble_eq_true rfl) dX12_init_15 dX12_init_17 (fun q2 H locs hP hD hS => ?_)
  have hP : va_P (dC, dI) vwCl [(h0, .inr (15, [.int 0, .int 0, .ref q1, .ref q2, .null, .null, .null, .null, .null, .null, .null, .null, .int 0, .null, .null, .int 0])), (q1, .inl (cI, 40, .inl (fun _ => 0))), (q2, .inl (cI, 40, .inl (fun _ => 0)))] H := hP
  have hD : va_D A [(h0, .inr (15, [.int 0, .int 0, .ref q1, .ref q2, .null, .null, .null, .null, .null, .null, .null, .null, .int 0, .null, .null, .int 0])), (q1, .inl (cI, 40, .inl (fun _ => 0))), (q2, .inl (cI, 40, .inl (fun _ => 0)))] := hD
  refine lv_aload_n hx hb dX12_init_20 rfl (lv_at hl 0 rfl) ?_
  refine lv_bipush (v := 40) hx hb dX12_init_21 (by decide) ?_
  refine ow_np (D := (dC, dI)) (ci := 15) (C := RX12) (T := TX12) (N := 16) (N' := 40) (a0 := (40, .inl (fun _ => 0))) (ty := .int) (fty := .array .int) hx hb (hts (.arrayClass .int) (by decide +kernel)) rfl hK hP hD hS hA 0 rfl (fun _ h => h) (fun _ => rfl) (by decide) (by decide) (by decide) (Nat.le_of_ble_eq_true rfl) (Nat.le_of_ble_eq_true rfl) hts (by decide +kernel) tyX12 tyX12_ok nmX12 hown 0 rfl rfl 4 (by decide) (hts (.fieldLink RX12 18 "KnotHouseModel$Net" "under" "[I") (by decide +kernel)) (fun _ h9 => h9) rfl hin rfl (by decide +kernel) (fun _ => rfl) (fun _ => rfl) (Nat.le_of_ble_eq_true rfl) dX12_init_23 dX12_init_25 (fun q3 H locs hP hD hS => ?_)
  have hP : va_P (dC, dI) vwCl [(h0, .inr (15, [.int 0, .int 0, .ref q1, .ref q2, .ref q3, .null, .null, .null, .null, .null, .null, .null, .int 0, .null, .null, .int 0])), (q1, .inl (cI, 40, .inl (fun _ => 0))), (q2, .inl (cI, 40, .inl (fun _ => 0))), (q3, .inl (cI, 40, .inl (fun _ => 0)))] H := hP
  have hD : va_D A [(h0, .inr (15, [.int 0, .int 0, .ref q1, .ref q2, .ref q3, .null, .null, .null, .null, .null, .null, .null, .int 0, .null, .null, .int 0])), (q1, .inl (cI, 40, .inl (fun _ => 0))), (q2, .inl (cI, 40, .inl (fun _ => 0))), (q3, .inl (cI, 40, .inl (fun _ => 0)))] := hD
  refine lv_aload_n hx hb dX12_init_28 rfl (lv_at hl 0 rfl) ?_
  refine lv_bipush (v := 40) hx hb dX12_init_29 (by decide) ?_
  refine ow_np (D := (dC, dI)) (ci := 15) (C := RX12) (T := TX12) (N := 16) (N' := 40) (a0 := (40, .inl (fun _ => 0))) (ty := .int) (fty := .array .int) hx hb (hts (.arrayClass .int) (by decide +kernel)) rfl hK hP hD hS hA 0 rfl (fun _ h => h) (fun _ => rfl) (by decide) (by decide) (by decide) (Nat.le_of_ble_eq_true rfl) (Nat.le_of_ble_eq_true rfl) hts (by decide +kernel) tyX12 tyX12_ok nmX12 hown 0 rfl rfl 5 (by decide) (hts (.fieldLink RX12 21 "KnotHouseModel$Net" "sign" "[I") (by decide +kernel)) (fun _ h9 => h9) rfl hin rfl (by decide +kernel) (fun _ => rfl) (fun _ => rfl) (Nat.le_of_ble_eq_true rfl) dX12_init_31 dX12_init_33 (fun q4 H locs hP hD hS => ?_)
  have hP : va_P (dC, dI) vwCl [(h0, .inr (15, [.int 0, .int 0, .ref q1, .ref q2, .ref q3, .ref q4, .null, .null, .null, .null, .null, .null, .int 0, .null, .null, .int 0])), (q1, .inl (cI, 40, .inl (fun _ => 0))), (q2, .inl (cI, 40, .inl (fun _ => 0))), (q3, .inl (cI, 40, .inl (fun _ => 0))), (q4, .inl (cI, 40, .inl (fun _ => 0)))] H := hP
  have hD : va_D A [(h0, .inr (15, [.int 0, .int 0, .ref q1, .ref q2, .ref q3, .ref q4, .null, .null, .null, .null, .null, .null, .int 0, .null, .null, .int 0])), (q1, .inl (cI, 40, .inl (fun _ => 0))), (q2, .inl (cI, 40, .inl (fun _ => 0))), (q3, .inl (cI, 40, .inl (fun _ => 0))), (q4, .inl (cI, 40, .inl (fun _ => 0)))] := hD
  refine lv_aload_n hx hb dX12_init_36 rfl (lv_at hl 0 rfl) ?_
  refine lv_bipush (v := 40) hx hb dX12_init_37 (by decide) ?_
  refine ow_np (D := (dC, dI)) (ci := 15) (C := RX12) (T := TX12) (N := 16) (N' := 40) (a0 := (40, .inl (fun _ => 0))) (ty := .int) (fty := .array .int) hx hb (hts (.arrayClass .int) (by decide +kernel)) rfl hK hP hD hS hA 0 rfl (fun _ h => h) (fun _ => rfl) (by decide) (by decide) (by decide) (Nat.le_of_ble_eq_true rfl) (Nat.le_of_ble_eq_true rfl) hts (by decide +kernel) tyX12 tyX12_ok nmX12 hown 0 rfl rfl 6 (by decide) (hts (.fieldLink RX12 24 "KnotHouseModel$Net" "mate" "[I") (by decide +kernel)) (fun _ h9 => h9) rfl hin rfl (by decide +kernel) (fun _ => rfl) (fun _ => rfl) (Nat.le_of_ble_eq_true rfl) dX12_init_39 dX12_init_41 (fun q5 H locs hP hD hS => ?_)
  have hP : va_P (dC, dI) vwCl [(h0, .inr (15, [.int 0, .int 0, .ref q1, .ref q2, .ref q3, .ref q4, .ref q5, .null, .null, .null, .null, .null, .int 0, .null, .null, .int 0])), (q1, .inl (cI, 40, .inl (fun _ => 0))), (q2, .inl (cI, 40, .inl (fun _ => 0))), (q3, .inl (cI, 40, .inl (fun _ => 0))), (q4, .inl (cI, 40, .inl (fun _ => 0))), (q5, .inl (cI, 40, .inl (fun _ => 0)))] H := hP
  have hD : va_D A [(h0, .inr (15, [.int 0, .int 0, .ref q1, .ref q2, .ref q3, .ref q4, .ref q5, .null, .null, .null, .null, .null, .int 0, .null, .null, .int 0])), (q1, .inl (cI, 40, .inl (fun _ => 0))), (q2, .inl (cI, 40, .inl (fun _ => 0))), (q3, .inl (cI, 40, .inl (fun _ => 0))), (q4, .inl (cI, 40, .inl (fun _ => 0))), (q5, .inl (cI, 40, .inl (fun _ => 0)))] := hD
  refine lv_aload_n hx hb dX12_init_44 rfl (lv_at hl 0 rfl) ?_
  refine lv_bipush (v := 40) hx hb dX12_init_45 (by decide) ?_
  refine ow_np (D := (dC, dI)) (ci := 15) (C := RX12) (T := TX12) (N := 16) (N' := 40) (a0 := (40, .inl (fun _ => 0))) (ty := .int) (fty := .array .int) hx hb (hts (.arrayClass .int) (by decide +kernel)) rfl hK hP hD hS hA 0 rfl (fun _ h => h) (fun _ => rfl) (by decide) (by decide) (by decide) (Nat.le_of_ble_eq_true rfl) (Nat.le_of_ble_eq_true rfl) hts (by decide +kernel) tyX12 tyX12_ok nmX12 hown 0 rfl rfl 7 (by decide) (hts (.fieldLink RX12 27 "KnotHouseModel$Net" "comp" "[I") (by decide +kernel)) (fun _ h9 => h9) rfl hin rfl (by decide +kernel) (fun _ => rfl) (fun _ => rfl) (Nat.le_of_ble_eq_true rfl) dX12_init_47 dX12_init_49 (fun q6 H locs hP hD hS => ?_)
  have hP : va_P (dC, dI) vwCl [(h0, .inr (15, [.int 0, .int 0, .ref q1, .ref q2, .ref q3, .ref q4, .ref q5, .ref q6, .null, .null, .null, .null, .int 0, .null, .null, .int 0])), (q1, .inl (cI, 40, .inl (fun _ => 0))), (q2, .inl (cI, 40, .inl (fun _ => 0))), (q3, .inl (cI, 40, .inl (fun _ => 0))), (q4, .inl (cI, 40, .inl (fun _ => 0))), (q5, .inl (cI, 40, .inl (fun _ => 0))), (q6, .inl (cI, 40, .inl (fun _ => 0)))] H := hP
  have hD : va_D A [(h0, .inr (15, [.int 0, .int 0, .ref q1, .ref q2, .ref q3, .ref q4, .ref q5, .ref q6, .null, .null, .null, .null, .int 0, .null, .null, .int 0])), (q1, .inl (cI, 40, .inl (fun _ => 0))), (q2, .inl (cI, 40, .inl (fun _ => 0))), (q3, .inl (cI, 40, .inl (fun _ => 0))), (q4, .inl (cI, 40, .inl (fun _ => 0))), (q5, .inl (cI, 40, .inl (fun _ => 0))), (q6, .inl (cI, 40, .inl (fun _ => 0)))] := hD
  refine lv_aload_n hx hb dX12_init_52 rfl (lv_at hl 0 rfl) ?_
  refine lv_bipush (v := 40) hx hb dX12_init_53 (by decide) ?_
  refine ow_np (D := (dC, dI)) (ci := 15) (C := RX12) (T := TX12) (N := 16) (N' := 40) (a0 := (40, .inl (fun _ => 0))) (ty := .int) (fty := .array .int) hx hb (hts (.arrayClass .int) (by decide +kernel)) rfl hK hP hD hS hA 0 rfl (fun _ h => h) (fun _ => rfl) (by decide) (by decide) (by decide) (Nat.le_of_ble_eq_true rfl) (Nat.le_of_ble_eq_true rfl) hts (by decide +kernel) tyX12 tyX12_ok nmX12 hown 0 rfl rfl 8 (by decide) (hts (.fieldLink RX12 30 "KnotHouseModel$Net" "next" "[I") (by decide +kernel)) (fun _ h9 => h9) rfl hin rfl (by decide +kernel) (fun _ => rfl) (fun _ => rfl) (Nat.le_of_ble_eq_true rfl) dX12_init_55 dX12_init_57 (fun q7 H locs hP hD hS => ?_)
  have hP : va_P (dC, dI) vwCl [(h0, .inr (15, [.int 0, .int 0, .ref q1, .ref q2, .ref q3, .ref q4, .ref q5, .ref q6, .ref q7, .null, .null, .null, .int 0, .null, .null, .int 0])), (q1, .inl (cI, 40, .inl (fun _ => 0))), (q2, .inl (cI, 40, .inl (fun _ => 0))), (q3, .inl (cI, 40, .inl (fun _ => 0))), (q4, .inl (cI, 40, .inl (fun _ => 0))), (q5, .inl (cI, 40, .inl (fun _ => 0))), (q6, .inl (cI, 40, .inl (fun _ => 0))), (q7, .inl (cI, 40, .inl (fun _ => 0)))] H := hP
  have hD : va_D A [(h0, .inr (15, [.int 0, .int 0, .ref q1, .ref q2, .ref q3, .ref q4, .ref q5, .ref q6, .ref q7, .null, .null, .null, .int 0, .null, .null, .int 0])), (q1, .inl (cI, 40, .inl (fun _ => 0))), (q2, .inl (cI, 40, .inl (fun _ => 0))), (q3, .inl (cI, 40, .inl (fun _ => 0))), (q4, .inl (cI, 40, .inl (fun _ => 0))), (q5, .inl (cI, 40, .inl (fun _ => 0))), (q6, .inl (cI, 40, .inl (fun _ => 0))), (q7, .inl (cI, 40, .inl (fun _ => 0)))] := hD
  refine lv_aload_n hx hb dX12_init_60 rfl (lv_at hl 0 rfl) ?_
  refine lv_bipush (v := 40) hx hb dX12_init_61 (by decide) ?_
  refine ow_np (D := (dC, dI)) (ci := 15) (C := RX12) (T := TX12) (N := 16) (N' := 40) (a0 := (40, .inl (fun _ => 0))) (ty := .int) (fty := .array .int) hx hb (hts (.arrayClass .int) (by decide +kernel)) rfl hK hP hD hS hA 0 rfl (fun _ h => h) (fun _ => rfl) (by decide) (by decide) (by decide) (Nat.le_of_ble_eq_true rfl) (Nat.le_of_ble_eq_true rfl) hts (by decide +kernel) tyX12 tyX12_ok nmX12 hown 0 rfl rfl 9 (by decide) (hts (.fieldLink RX12 33 "KnotHouseModel$Net" "prev" "[I") (by decide +kernel)) (fun _ h9 => h9) rfl hin rfl (by decide +kernel) (fun _ => rfl) (fun _ => rfl) (Nat.le_of_ble_eq_true rfl) dX12_init_63 dX12_init_65 (fun q8 H locs hP hD hS => ?_)
  have hP : va_P (dC, dI) vwCl [(h0, .inr (15, [.int 0, .int 0, .ref q1, .ref q2, .ref q3, .ref q4, .ref q5, .ref q6, .ref q7, .ref q8, .null, .null, .int 0, .null, .null, .int 0])), (q1, .inl (cI, 40, .inl (fun _ => 0))), (q2, .inl (cI, 40, .inl (fun _ => 0))), (q3, .inl (cI, 40, .inl (fun _ => 0))), (q4, .inl (cI, 40, .inl (fun _ => 0))), (q5, .inl (cI, 40, .inl (fun _ => 0))), (q6, .inl (cI, 40, .inl (fun _ => 0))), (q7, .inl (cI, 40, .inl (fun _ => 0))), (q8, .inl (cI, 40, .inl (fun _ => 0)))] H := hP
  have hD : va_D A [(h0, .inr (15, [.int 0, .int 0, .ref q1, .ref q2, .ref q3, .ref q4, .ref q5, .ref q6, .ref q7, .ref q8, .null, .null, .int 0, .null, .null, .int 0])), (q1, .inl (cI, 40, .inl (fun _ => 0))), (q2, .inl (cI, 40, .inl (fun _ => 0))), (q3, .inl (cI, 40, .inl (fun _ => 0))), (q4, .inl (cI, 40, .inl (fun _ => 0))), (q5, .inl (cI, 40, .inl (fun _ => 0))), (q6, .inl (cI, 40, .inl (fun _ => 0))), (q7, .inl (cI, 40, .inl (fun _ => 0))), (q8, .inl (cI, 40, .inl (fun _ => 0)))] := hD
  refine lv_aload_n hx hb dX12_init_68 rfl (lv_at hl 0 rfl) ?_
  refine lv_bipush (v := 40) hx hb dX12_init_69 (by decide) ?_
  refine ow_np (D := (dC, dI)) (ci := 15) (C := RX12) (T := TX12) (N := 16) (N' := 40) (a0 := (40, .inl (fun _ => 0))) (ty := .int) (fty := .array .int) hx hb (hts (.arrayClass .int) (by decide +kernel)) rfl hK hP hD hS hA 0 rfl (fun _ h => h) (fun _ => rfl) (by decide) (by decide) (by decide) (Nat.le_of_ble_eq_true rfl) (Nat.le_of_ble_eq_true rfl) hts (by decide +kernel) tyX12 tyX12_ok nmX12 hown 0 rfl rfl 10 (by decide) (hts (.fieldLink RX12 36 "KnotHouseModel$Net" "first" "[I") (by decide +kernel)) (fun _ h9 => h9) rfl hin rfl (by decide +kernel) (fun _ => rfl) (fun _ => rfl) (Nat.le_of_ble_eq_true rfl) dX12_init_71 dX12_init_73 (fun q9 H locs hP hD hS => ?_)
  have hP : va_P (dC, dI) vwCl [(h0, .inr (15, [.int 0, .int 0, .ref q1, .ref q2, .ref q3, .ref q4, .ref q5, .ref q6, .ref q7, .ref q8, .ref q9, .null, .int 0, .null, .null, .int 0])), (q1, .inl (cI, 40, .inl (fun _ => 0))), (q2, .inl (cI, 40, .inl (fun _ => 0))), (q3, .inl (cI, 40, .inl (fun _ => 0))), (q4, .inl (cI, 40, .inl (fun _ => 0))), (q5, .inl (cI, 40, .inl (fun _ => 0))), (q6, .inl (cI, 40, .inl (fun _ => 0))), (q7, .inl (cI, 40, .inl (fun _ => 0))), (q8, .inl (cI, 40, .inl (fun _ => 0))), (q9, .inl (cI, 40, .inl (fun _ => 0)))] H := hP
  have hD : va_D A [(h0, .inr (15, [.int 0, .int 0, .ref q1, .ref q2, .ref q3, .ref q4, .ref q5, .ref q6, .ref q7, .ref q8, .ref q9, .null, .int 0, .null, .null, .int 0])), (q1, .inl (cI, 40, .inl (fun _ => 0))), (q2, .inl (cI, 40, .inl (fun _ => 0))), (q3, .inl (cI, 40, .inl (fun _ => 0))), (q4, .inl (cI, 40, .inl (fun _ => 0))), (q5, .inl (cI, 40, .inl (fun _ => 0))), (q6, .inl (cI, 40, .inl (fun _ => 0))), (q7, .inl (cI, 40, .inl (fun _ => 0))), (q8, .inl (cI, 40, .inl (fun _ => 0))), (q9, .inl (cI, 40, .inl (fun _ => 0)))] := hD
  refine lv_aload_n hx hb dX12_init_76 rfl (lv_at hl 0 rfl) ?_
  refine lv_bipush (v := 40) hx hb dX12_init_77 (by decide) ?_
  refine ow_np (D := (dC, dI)) (ci := 15) (C := RX12) (T := TX12) (N := 16) (N' := 40) (a0 := (40, .inl (fun _ => 0))) (ty := .int) (fty := .array .int) hx hb (hts (.arrayClass .int) (by decide +kernel)) rfl hK hP hD hS hA 0 rfl (fun _ h => h) (fun _ => rfl) (by decide) (by decide) (by decide) (Nat.le_of_ble_eq_true rfl) (Nat.le_of_ble_eq_true rfl) hts (by decide +kernel) tyX12 tyX12_ok nmX12 hown 0 rfl rfl 11 (by decide) (hts (.fieldLink RX12 39 "KnotHouseModel$Net" "part" "[I") (by decide +kernel)) (fun _ h9 => h9) rfl hin rfl (by decide +kernel) (fun _ => rfl) (fun _ => rfl) (Nat.le_of_ble_eq_true rfl) dX12_init_79 dX12_init_81 (fun q10 H locs hP hD hS => ?_)
  have hP : va_P (dC, dI) vwCl [(h0, .inr (15, [.int 0, .int 0, .ref q1, .ref q2, .ref q3, .ref q4, .ref q5, .ref q6, .ref q7, .ref q8, .ref q9, .ref q10, .int 0, .null, .null, .int 0])), (q1, .inl (cI, 40, .inl (fun _ => 0))), (q2, .inl (cI, 40, .inl (fun _ => 0))), (q3, .inl (cI, 40, .inl (fun _ => 0))), (q4, .inl (cI, 40, .inl (fun _ => 0))), (q5, .inl (cI, 40, .inl (fun _ => 0))), (q6, .inl (cI, 40, .inl (fun _ => 0))), (q7, .inl (cI, 40, .inl (fun _ => 0))), (q8, .inl (cI, 40, .inl (fun _ => 0))), (q9, .inl (cI, 40, .inl (fun _ => 0))), (q10, .inl (cI, 40, .inl (fun _ => 0)))] H := hP
  have hD : va_D A [(h0, .inr (15, [.int 0, .int 0, .ref q1, .ref q2, .ref q3, .ref q4, .ref q5, .ref q6, .ref q7, .ref q8, .ref q9, .ref q10, .int 0, .null, .null, .int 0])), (q1, .inl (cI, 40, .inl (fun _ => 0))), (q2, .inl (cI, 40, .inl (fun _ => 0))), (q3, .inl (cI, 40, .inl (fun _ => 0))), (q4, .inl (cI, 40, .inl (fun _ => 0))), (q5, .inl (cI, 40, .inl (fun _ => 0))), (q6, .inl (cI, 40, .inl (fun _ => 0))), (q7, .inl (cI, 40, .inl (fun _ => 0))), (q8, .inl (cI, 40, .inl (fun _ => 0))), (q9, .inl (cI, 40, .inl (fun _ => 0))), (q10, .inl (cI, 40, .inl (fun _ => 0)))] := hD
  refine lv_aload_n hx hb dX12_init_84 rfl (lv_at hl 0 rfl) ?_
  refine lv_bipush (v := 80) hx hb dX12_init_85 (by decide) ?_
  refine ow_np (D := (dC, dI)) (ci := 15) (C := RX12) (T := TX12) (N := 16) (N' := 80) (a0 := (80, .inl (fun _ => 0))) (ty := .int) (fty := .array .int) hx hb (hts (.arrayClass .int) (by decide +kernel)) rfl hK hP hD hS hA 0 rfl (fun _ h => h) (fun _ => rfl) (by decide) (by decide) (by decide) (Nat.le_of_ble_eq_true rfl) (Nat.le_of_ble_eq_true rfl) hts (by decide +kernel) tyX12 tyX12_ok nmX12 hown 0 rfl rfl 13 (by decide) (hts (.fieldLink RX12 42 "KnotHouseModel$Net" "face" "[I") (by decide +kernel)) (fun _ h9 => h9) rfl hin rfl (by decide +kernel) (fun _ => rfl) (fun _ => rfl) (Nat.le_of_ble_eq_true rfl) dX12_init_87 dX12_init_89 (fun q11 H locs hP hD hS => ?_)
  have hP : va_P (dC, dI) vwCl [(h0, .inr (15, [.int 0, .int 0, .ref q1, .ref q2, .ref q3, .ref q4, .ref q5, .ref q6, .ref q7, .ref q8, .ref q9, .ref q10, .int 0, .ref q11, .null, .int 0])), (q1, .inl (cI, 40, .inl (fun _ => 0))), (q2, .inl (cI, 40, .inl (fun _ => 0))), (q3, .inl (cI, 40, .inl (fun _ => 0))), (q4, .inl (cI, 40, .inl (fun _ => 0))), (q5, .inl (cI, 40, .inl (fun _ => 0))), (q6, .inl (cI, 40, .inl (fun _ => 0))), (q7, .inl (cI, 40, .inl (fun _ => 0))), (q8, .inl (cI, 40, .inl (fun _ => 0))), (q9, .inl (cI, 40, .inl (fun _ => 0))), (q10, .inl (cI, 40, .inl (fun _ => 0))), (q11, .inl (cI, 80, .inl (fun _ => 0)))] H := hP
  have hD : va_D A [(h0, .inr (15, [.int 0, .int 0, .ref q1, .ref q2, .ref q3, .ref q4, .ref q5, .ref q6, .ref q7, .ref q8, .ref q9, .ref q10, .int 0, .ref q11, .null, .int 0])), (q1, .inl (cI, 40, .inl (fun _ => 0))), (q2, .inl (cI, 40, .inl (fun _ => 0))), (q3, .inl (cI, 40, .inl (fun _ => 0))), (q4, .inl (cI, 40, .inl (fun _ => 0))), (q5, .inl (cI, 40, .inl (fun _ => 0))), (q6, .inl (cI, 40, .inl (fun _ => 0))), (q7, .inl (cI, 40, .inl (fun _ => 0))), (q8, .inl (cI, 40, .inl (fun _ => 0))), (q9, .inl (cI, 40, .inl (fun _ => 0))), (q10, .inl (cI, 40, .inl (fun _ => 0))), (q11, .inl (cI, 80, .inl (fun _ => 0)))] := hD
  refine lv_aload_n hx hb dX12_init_92 rfl (lv_at hl 0 rfl) ?_
  refine lv_bipush (v := 80) hx hb dX12_init_93 (by decide) ?_
  refine ow_np (D := (dC, dI)) (ci := 15) (C := RX12) (T := TX12) (N := 16) (N' := 80) (a0 := (80, .inl (fun _ => 0))) (ty := .int) (fty := .array .int) hx hb (hts (.arrayClass .int) (by decide +kernel)) rfl hK hP hD hS hA 0 rfl (fun _ h => h) (fun _ => rfl) (by decide) (by decide) (by decide) (Nat.le_of_ble_eq_true rfl) (Nat.le_of_ble_eq_true rfl) hts (by decide +kernel) tyX12 tyX12_ok nmX12 hown 0 rfl rfl 14 (by decide) (hts (.fieldLink RX12 45 "KnotHouseModel$Net" "sides" "[I") (by decide +kernel)) (fun _ h9 => h9) rfl hin rfl (by decide +kernel) (fun _ => rfl) (fun _ => rfl) (Nat.le_of_ble_eq_true rfl) dX12_init_95 dX12_init_97 (fun q12 H locs hP hD hS => ?_)
  have hP : va_P (dC, dI) vwCl [(h0, .inr (15, [.int 0, .int 0, .ref q1, .ref q2, .ref q3, .ref q4, .ref q5, .ref q6, .ref q7, .ref q8, .ref q9, .ref q10, .int 0, .ref q11, .ref q12, .int 0])), (q1, .inl (cI, 40, .inl (fun _ => 0))), (q2, .inl (cI, 40, .inl (fun _ => 0))), (q3, .inl (cI, 40, .inl (fun _ => 0))), (q4, .inl (cI, 40, .inl (fun _ => 0))), (q5, .inl (cI, 40, .inl (fun _ => 0))), (q6, .inl (cI, 40, .inl (fun _ => 0))), (q7, .inl (cI, 40, .inl (fun _ => 0))), (q8, .inl (cI, 40, .inl (fun _ => 0))), (q9, .inl (cI, 40, .inl (fun _ => 0))), (q10, .inl (cI, 40, .inl (fun _ => 0))), (q11, .inl (cI, 80, .inl (fun _ => 0))), (q12, .inl (cI, 80, .inl (fun _ => 0)))] H := hP
  have hD : va_D A [(h0, .inr (15, [.int 0, .int 0, .ref q1, .ref q2, .ref q3, .ref q4, .ref q5, .ref q6, .ref q7, .ref q8, .ref q9, .ref q10, .int 0, .ref q11, .ref q12, .int 0])), (q1, .inl (cI, 40, .inl (fun _ => 0))), (q2, .inl (cI, 40, .inl (fun _ => 0))), (q3, .inl (cI, 40, .inl (fun _ => 0))), (q4, .inl (cI, 40, .inl (fun _ => 0))), (q5, .inl (cI, 40, .inl (fun _ => 0))), (q6, .inl (cI, 40, .inl (fun _ => 0))), (q7, .inl (cI, 40, .inl (fun _ => 0))), (q8, .inl (cI, 40, .inl (fun _ => 0))), (q9, .inl (cI, 40, .inl (fun _ => 0))), (q10, .inl (cI, 40, .inl (fun _ => 0))), (q11, .inl (cI, 80, .inl (fun _ => 0))), (q12, .inl (cI, 80, .inl (fun _ => 0)))] := hD
  refine W.widen (k := 12) (n := 560) (Nat.le_of_ble_eq_true rfl) (Nat.le_of_ble_eq_true rfl) ?_
  exact W.vret hx hb hr (fun t ht hW => ⟨⟨(q1, q2, q3, q4, q5, q6, q7, q8, q9, q10, q11, q12), rfl, trivial, by rw [ht]; exact hP, hD⟩, hS.F ht⟩) hS.2.2 dX12_init_100
