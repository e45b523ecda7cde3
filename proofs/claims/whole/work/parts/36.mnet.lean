/-! fields of Net that the outer class reads -/
def ow_N13 (U : State) : Prop := va_Nw (.fieldLinkNest RX13 44 "KnotHouseModel$Net" "visits" "I" "KnotHouseModel") U ∧ va_Nw (.fieldLinkNest RX13 78 "KnotHouseModel$Net" "parts" "I" "KnotHouseModel") U
theorem dX12_clear_0 : decode cX12_clear 0 = .ok (.aload_n 0, 1) := by decide +kernel
theorem dX12_clear_1 : decode cX12_clear 1 = .ok (.iconst 0, 1) := by decide +kernel
theorem dX12_clear_2 : decode cX12_clear 2 = .ok (.putfield 48, 3) := by decide +kernel
theorem dX12_clear_5 : decode cX12_clear 5 = .ok (.aload_n 0, 1) := by decide +kernel
theorem dX12_clear_6 : decode cX12_clear 6 = .ok (.iconst 0, 1) := by decide +kernel
theorem dX12_clear_7 : decode cX12_clear 7 = .ok (.putfield 52, 3) := by decide +kernel
theorem dX12_clear_10 : decode cX12_clear 10 = .ok (.aload_n 0, 1) := by decide +kernel
theorem dX12_clear_11 : decode cX12_clear 11 = .ok (.getfield 9, 3) := by decide +kernel
theorem dX12_clear_14 : decode cX12_clear 14 = .ok (.iconst 0, 1) := by decide +kernel
theorem dX12_clear_15 : decode cX12_clear 15 = .ok (.iconst 0, 1) := by decide +kernel
theorem dX12_clear_16 : decode cX12_clear 16 = .ok (.iastore, 1) := by decide +kernel
theorem dX12_clear_17 : decode cX12_clear 17 = .ok (.return_, 1) := by decide +kernel
def wf_Nclear : List Cond := .code yX12_clear cX12_clear 1 none :: ([.fieldLink RX12 48 "KnotHouseModel$Net" "visits" "I", .fieldLink RX12 52 "KnotHouseModel$Net" "comps" "I", .fieldLink RX12 9 "KnotHouseModel$Net" "begin" "[I"] ++ wsX120 ++ [])
set_option maxHeartbeats 4000000 in
set_option maxRecDepth 100000 in
theorem kf_X12_clear (l : Launch) (dC : Nat → ClassId) (dI : Nat → Nat → Nat) (cI cB cJ cZ : ClassId) (aX : Nat) (nx : Nat → Nat) (x0 x1 x2 x3 : Int32) (fB : Nat → Int32) (sz : Nat) : Met l yX12_clear wf_Nclear (({ frames := 0, cells := 0, slots := 0, locals := 0 } : Room)) (va_Pc [.ref aX] (fun U => U.heap.size = sz ∧ va_P (dC, dI) vwCl [(aX, .inr (15, [.int x0, .int x1, .ref (nx 2), .ref (nx 3), .ref (nx 4), .ref (nx 5), .ref (nx 6), .ref (nx 7), .ref (nx 8), .ref (nx 9), .ref (nx 10), .ref (nx 11), .int x2, .ref (nx 13), .ref (nx 14), .int x3])), ((nx 2), .inl (cI, 40, .inl fB))] U.heap ∧ va_K (dC, dI) vwCl [(cI, .int), (cB, .byte), (cJ, .long), (cZ, .boolean)] U ∧ va_D (fun _ => True) [(aX, .inr (15, [.int x0, .int x1, .ref (nx 2), .ref (nx 3), .ref (nx 4), .ref (nx 5), .ref (nx 6), .ref (nx 7), .ref (nx 8), .ref (nx 9), .ref (nx 10), .ref (nx 11), .int x2, .ref (nx 13), .ref (nx 14), .int x3])), ((nx 2), .inl (cI, 40, .inl fB))])) (va_Qv (fun (g : Nat → Int32) => g 0 = 0) (fun g t => va_P (dC, dI) vwCl [(aX, .inr (15, [.int 0, .int 0, .ref (nx 2), .ref (nx 3), .ref (nx 4), .ref (nx 5), .ref (nx 6), .ref (nx 7), .ref (nx 8), .ref (nx 9), .ref (nx 10), .ref (nx 11), .int x2, .ref (nx 13), .ref (nx 14), .int x3])), ((nx 2), .inl (cI, 40, .inl g))] t.heap ∧ va_D (va_A [(aX, .inr (15, [.int x0, .int x1, .ref (nx 2), .ref (nx 3), .ref (nx 4), .ref (nx 5), .ref (nx 6), .ref (nx 7), .ref (nx 8), .ref (nx 9), .ref (nx 10), .ref (nx 11), .int x2, .ref (nx 13), .ref (nx 14), .int x3])), ((nx 2), .inl (cI, 40, .inl fB))] sz) [(aX, .inr (15, [.int 0, .int 0, .ref (nx 2), .ref (nx 3), .ref (nx 4), .ref (nx 5), .ref (nx 6), .ref (nx 7), .ref (nx 8), .ref (nx 9), .ref (nx 10), .ref (nx 11), .int x2, .ref (nx 13), .ref (nx 14), .int x3])), ((nx 2), .inl (cI, 40, .inl g))]) (va_A [(aX, .inr (15, [.int x0, .int x1, .ref (nx 2), .ref (nx 3), .ref (nx 4), .ref (nx 5), .ref (nx 6), .ref (nx 7), .ref (nx 8), .ref (nx 9), .ref (nx 10), .ref (nx 11), .int x2, .ref (nx 13), .ref (nx 14), .int x3])), ((nx 2), .inl (cI, 40, .inl fB))] sz)) 0 0 (va_A [(aX, .inr (15, [.int x0, .int x1, .ref (nx 2), .ref (nx 3), .ref (nx 4), .ref (nx 5), .ref (nx 6), .ref (nx 7), .ref (nx 8), .ref (nx 9), .ref (nx 10), .ref (nx 11), .int x2, .ref (nx 13), .ref (nx 14), .int x3])), ((nx 2), .inl (cI, 40, .inl fB))] sz) := by
  refine Met.ofW (cc := cX12_clear) (maxL := 1) (ret := none) (by decide) rfl ?_
  intro p e s m args below meth c s₁ B hml hv
  obtain ⟨rfl, hsz, hP, hK, hD0⟩ := hv
  have hx := B.exec
  have hb := B.bytes
  have hr := B.returns
  have hts := atoms_spec (ws := wf_Nclear) B.pre
  have hown : s.vm.findClass RX12 = some m.cls := findClass_of_methodNamed B.named
  have hlocks := B.notSynchronized
  subst hsz
  have hD := hD0.self (sz := s.heap.size)
  generalize hAe : va_A [(aX, .inr (15, [.int x0, .int x1, .ref (nx 2), .ref (nx 3), .ref (nx 4), .ref (nx 5), .ref (nx 6), .ref (nx 7), .ref (nx 8), .ref (nx 9), .ref (nx 10), .ref (nx 11), .int x2, .ref (nx 13), .ref (nx 14), .int x3])), ((nx 2), .inl (cI, 40, .inl fB))] s.heap.size = A at hD ⊢
  have hA : ∀ q : Nat, s.heap.size ≤ q → A q := fun q h => by rw [← hAe]; exact Or.inr h
  have hS : va_S A s.heap s.heap [] := va_S.rf
  have hP : va_P (dC, dI) vwCl [(aX, .inr (15, [.int x0, .int x1, .ref (nx 2), .ref (nx 3), .ref (nx 4), .ref (nx 5), .ref (nx 6), .ref (nx 7), .ref (nx 8), .ref (nx 9), .ref (nx 10), .ref (nx 11), .int x2, .ref (nx 13), .ref (nx 14), .int x3])), ((nx 2), .inl (cI, 40, .inl fB))] s.heap := hP
  have hl := lv_entry ([.ref aX]) (n := 1) (Nat.le_of_ble_eq_true rfl)
  rw [lg_entry_eq]
  generalize (lg_sl ([.ref aX]) ++ List.replicate (1 - (lg_sl ([.ref aX])).length) Slot.unset).toArray = ls at hl ⊢
  have hl : lv_has ls 1 [(0, .ref aX)] := hl
  refine ow_named (fun QQ hQQ => ?_)
  refine lv_aload_n hx hb dX12_clear_0 rfl (lv_at hl 0 rfl) ?_
  refine lv_iconst (v := 0) hx hb dX12_clear_1 (by decide) ?_
  refine va_put (D := (dC, dI)) (ci := 15) (v := .int 0) (ty := .int) (C := RX12) (T := TX12) (N := 16) hx hb hts (fun _ h => List.mem_cons_of_mem _ (List.mem_append_left _ (List.mem_append_right _ h))) tyX12 tyX12_ok nmX12 hown hK hP hD hS 0 rfl rfl 0 (by decide) (hts (.fieldLink RX12 48 "KnotHouseModel$Net" "visits" "I") (by decide +kernel)) (fun _ h9 => h9) rfl (by decide +kernel) rfl rfl (Nat.le_of_ble_eq_true rfl) dX12_clear_2 (fun H locs hP hD hS => ?_)
  have hP : va_P (dC, dI) vwCl [(aX, .inr (15, [.int 0, .int x1, .ref (nx 2), .ref (nx 3), .ref (nx 4), .ref (nx 5), .ref (nx 6), .ref (nx 7), .ref (nx 8), .ref (nx 9), .ref (nx 10), .ref (nx 11), .int x2, .ref (nx 13), .ref (nx 14), .int x3])), ((nx 2), .inl (cI, 40, .inl fB))] H := hP
  have hD : va_D A [(aX, .inr (15, [.int 0, .int x1, .ref (nx 2), .ref (nx 3), .ref (nx 4), .ref (nx 5), .ref (nx 6), .ref (nx 7), .ref (nx 8), .ref (nx 9), .ref (nx 10), .ref (nx 11), .int x2, .ref (nx 13), .ref (nx 14), .int x3])), ((nx 2), .inl (cI, 40, .inl fB))] := hD
  refine lv_aload_n hx hb dX12_clear_5 rfl (lv_at hl 0 rfl) ?_
  refine lv_iconst (v := 0) hx hb dX12_clear_6 (by decide) ?_
  refine va_put (D := (dC, dI)) (ci := 15) (v := .int 0) (ty := .int) (C := RX12) (T := TX12) (N := 16) hx hb hts (fun _ h => List.mem_cons_of_mem _ (List.mem_append_left _ (List.mem_append_right _ h))) tyX12 tyX12_ok nmX12 hown hK hP hD hS 0 rfl rfl 1 (by decide) (hts (.fieldLink RX12 52 "KnotHouseModel$Net" "comps" "I") (by decide +kernel)) (fun _ h9 => h9) rfl (by decide +kernel) rfl rfl (Nat.le_of_ble_eq_true rfl) dX12_clear_7 (fun H locs hP hD hS => ?_)
  have hP : va_P (dC, dI) vwCl [(aX, .inr (15, [.int 0, .int 0, .ref (nx 2), .ref (nx 3), .ref (nx 4), .ref (nx 5), .ref (nx 6), .ref (nx 7), .ref (nx 8), .ref (nx 9), .ref (nx 10), .ref (nx 11), .int x2, .ref (nx 13), .ref (nx 14), .int x3])), ((nx 2), .inl (cI, 40, .inl fB))] H := hP
  have hD : va_D A [(aX, .inr (15, [.int 0, .int 0, .ref (nx 2), .ref (nx 3), .ref (nx 4), .ref (nx 5), .ref (nx 6), .ref (nx 7), .ref (nx 8), .ref (nx 9), .ref (nx 10), .ref (nx 11), .int x2, .ref (nx 13), .ref (nx 14), .int x3])), ((nx 2), .inl (cI, 40, .inl fB))] := hD
  refine lv_aload_n hx hb dX12_clear_10 rfl (lv_at hl 0 rfl) ?_
  refine va_get (D := (dC, dI)) (ci := 15) (v := .ref (nx 2)) (C := RX12) (T := TX12) (N := 16) hx hb hts (fun _ h => List.mem_cons_of_mem _ (List.mem_append_left _ (List.mem_append_right _ h))) hown hK hP 0 rfl rfl 2 (by decide) (hts (.fieldLink RX12 9 "KnotHouseModel$Net" "begin" "[I") (by decide +kernel)) (fun _ h9 => h9) rfl dX12_clear_11 ?_
  refine lv_iconst (v := 0) hx hb dX12_clear_14 (by decide) ?_
  refine lv_iconst (v := 0) hx hb dX12_clear_15 (by decide) ?_
  refine ow_iastU (j := 0) hx hb hK hP hD hS 1 0 rfl rfl rfl (by omega) (by decide) dX12_clear_16 (fun f1 H locs ef1 nf1 hP hD hS => ?_)
  have hP : va_P (dC, dI) vwCl [(aX, .inr (15, [.int 0, .int 0, .ref (nx 2), .ref (nx 3), .ref (nx 4), .ref (nx 5), .ref (nx 6), .ref (nx 7), .ref (nx 8), .ref (nx 9), .ref (nx 10), .ref (nx 11), .int x2, .ref (nx 13), .ref (nx 14), .int x3])), ((nx 2), .inl (cI, 40, .inl f1))] H := hP
  have hD : va_D A [(aX, .inr (15, [.int 0, .int 0, .ref (nx 2), .ref (nx 3), .ref (nx 4), .ref (nx 5), .ref (nx 6), .ref (nx 7), .ref (nx 8), .ref (nx 9), .ref (nx 10), .ref (nx 11), .int x2, .ref (nx 13), .ref (nx 14), .int x3])), ((nx 2), .inl (cI, 40, .inl f1))] := hD
  rw [hQQ]
  exact W.vret hx hb hr (fun t ht hW => ⟨⟨f1, rfl, ef1, by rw [ht]; exact hP, hD⟩, hS.F ht⟩) hS.2.2 dX12_clear_17
theorem dX12_end_0 : decode cX12_end 0 = .ok (.aload_n 0, 1) := by decide +kernel
theorem dX12_end_1 : decode cX12_end 1 = .ok (.dup, 1) := by decide +kernel
theorem dX12_end_2 : decode cX12_end 2 = .ok (.getfield 52, 3) := by decide +kernel
theorem dX12_end_5 : decode cX12_end 5 = .ok (.iconst 1, 1) := by decide +kernel
theorem dX12_end_6 : decode cX12_end 6 = .ok (.iadd, 1) := by decide +kernel
theorem dX12_end_7 : decode cX12_end 7 = .ok (.putfield 52, 3) := by decide +kernel
theorem dX12_end_10 : decode cX12_end 10 = .ok (.aload_n 0, 1) := by decide +kernel
theorem dX12_end_11 : decode cX12_end 11 = .ok (.getfield 9, 3) := by decide +kernel
theorem dX12_end_14 : decode cX12_end 14 = .ok (.aload_n 0, 1) := by decide +kernel
theorem dX12_end_15 : decode cX12_end 15 = .ok (.getfield 52, 3) := by decide +kernel
theorem dX12_end_18 : decode cX12_end 18 = .ok (.aload_n 0, 1) := by decide +kernel
theorem dX12_end_19 : decode cX12_end 19 = .ok (.getfield 48, 3) := by decide +kernel
theorem dX12_end_22 : decode cX12_end 22 = .ok (.iastore, 1) := by decide +kernel
theorem dX12_end_23 : decode cX12_end 23 = .ok (.return_, 1) := by decide +kernel
def wf_Nend : List Cond := .code yX12_end cX12_end 1 none :: ([.fieldLink RX12 48 "KnotHouseModel$Net" "visits" "I", .fieldLink RX12 52 "KnotHouseModel$Net" "comps" "I", .fieldLink RX12 9 "KnotHouseModel$Net" "begin" "[I"] ++ wsX120 ++ [])
set_option maxHeartbeats 4000000 in
set_option maxRecDepth 100000 in
theorem kf_X12_end (l : Launch) (dC : Nat → ClassId) (dI : Nat → Nat → Nat) (cI cB cJ cZ : ClassId) (aX : Nat) (nx : Nat → Nat) (x2 x3 : Int32) (fB : Nat → Int32) (hB : fB 0 = 0) (sz : Nat) : Met l yX12_end wf_Nend (({ frames := 0, cells := 0, slots := 0, locals := 0 } : Room)) (va_Pc [.ref aX] (fun U => U.heap.size = sz ∧ va_P (dC, dI) vwCl [(aX, .inr (15, [.int 0, .int 0, .ref (nx 2), .ref (nx 3), .ref (nx 4), .ref (nx 5), .ref (nx 6), .ref (nx 7), .ref (nx 8), .ref (nx 9), .ref (nx 10), .ref (nx 11), .int x2, .ref (nx 13), .ref (nx 14), .int x3])), ((nx 2), .inl (cI, 40, .inl fB))] U.heap ∧ va_K (dC, dI) vwCl [(cI, .int), (cB, .byte), (cJ, .long), (cZ, .boolean)] U ∧ va_D (fun _ => True) [(aX, .inr (15, [.int 0, .int 0, .ref (nx 2), .ref (nx 3), .ref (nx 4), .ref (nx 5), .ref (nx 6), .ref (nx 7), .ref (nx 8), .ref (nx 9), .ref (nx 10), .ref (nx 11), .int x2, .ref (nx 13), .ref (nx 14), .int x3])), ((nx 2), .inl (cI, 40, .inl fB))])) (va_Qv (fun (g : Nat → Int32) => g 0 = 0 ∧ g 1 = 0) (fun g t => va_P (dC, dI) vwCl [(aX, .inr (15, [.int 0, .int 1, .ref (nx 2), .ref (nx 3), .ref (nx 4), .ref (nx 5), .ref (nx 6), .ref (nx 7), .ref (nx 8), .ref (nx 9), .ref (nx 10), .ref (nx 11), .int x2, .ref (nx 13), .ref (nx 14), .int x3])), ((nx 2), .inl (cI, 40, .inl g))] t.heap ∧ va_D (va_A [(aX, .inr (15, [.int 0, .int 0, .ref (nx 2), .ref (nx 3), .ref (nx 4), .ref (nx 5), .ref (nx 6), .ref (nx 7), .ref (nx 8), .ref (nx 9), .ref (nx 10), .ref (nx 11), .int x2, .ref (nx 13), .ref (nx 14), .int x3])), ((nx 2), .inl (cI, 40, .inl fB))] sz) [(aX, .inr (15, [.int 0, .int 1, .ref (nx 2), .ref (nx 3), .ref (nx 4), .ref (nx 5), .ref (nx 6), .ref (nx 7), .ref (nx 8), .ref (nx 9), .ref (nx 10), .ref (nx 11), .int x2, .ref (nx 13), .ref (nx 14), .int x3])), ((nx 2), .inl (cI, 40, .inl g))]) (va_A [(aX, .inr (15, [.int 0, .int 0, .ref (nx 2), .ref (nx 3), .ref (nx 4), .ref (nx 5), .ref (nx 6), .ref (nx 7), .ref (nx 8), .ref (nx 9), .ref (nx 10), .ref (nx 11), .int x2, .ref (nx 13), .ref (nx 14), .int x3])), ((nx 2), .inl (cI, 40, .inl fB))] sz)) 0 0 (va_A [(aX, .inr (15, [.int 0, .int 0, .ref (nx 2), .ref (nx 3), .ref (nx 4), .ref (nx 5), .ref (nx 6), .ref (nx 7), .ref (nx 8), .ref (nx 9), .ref (nx 10), .ref (nx 11), .int x2, .ref (nx 13), .ref (nx 14), .int x3])), ((nx 2), .inl (cI, 40, .inl fB))] sz) := by
  refine Met.ofW (cc := cX12_end) (maxL := 1) (ret := none) (by decide) rfl ?_
  intro p e s m args below meth c s₁ B hml hv
  obtain ⟨rfl, hsz, hP, hK, hD0⟩ := hv
  have hx := B.exec
  have hb := B.bytes
  have hr := B.returns
  have hts := atoms_spec (ws := wf_Nend) B.pre
  have hown : s.vm.findClass RX12 = some m.cls := findClass_of_methodNamed B.named
  have hlocks := B.notSynchronized
  subst hsz
  have hD := hD0.self (sz := s.heap.size)
  generalize hAe : va_A [(aX, .inr (15, [.int 0, .int 0, .ref (nx 2), .ref (nx 3), .ref (nx 4), .ref (nx 5), .ref (nx 6), .ref (nx 7), .ref (nx 8), .ref (nx 9), .ref (nx 10), .ref (nx 11), .int x2, .ref (nx 13), .ref (nx 14), .int x3])), ((nx 2), .inl (cI, 40, .inl fB))] s.heap.size = A at hD ⊢
  have hA : ∀ q : Nat, s.heap.size ≤ q → A q := fun q h => by rw [← hAe]; exact Or.inr h
  have hS : va_S A s.heap s.heap [] := va_S.rf
  have hP : va_P (dC, dI) vwCl [(aX, .inr (15, [.int 0, .int 0, .ref (nx 2), .ref (nx 3), .ref (nx 4), .ref (nx 5), .ref (nx 6), .ref (nx 7), .ref (nx 8), .ref (nx 9), .ref (nx 10), .ref (nx 11), .int x2, .ref (nx 13), .ref (nx 14), .int x3])), ((nx 2), .inl (cI, 40, .inl fB))] s.heap := hP
  have hl := lv_entry ([.ref aX]) (n := 1) (Nat.le_of_ble_eq_true rfl)
  rw [lg_entry_eq]
  generalize (lg_sl ([.ref aX]) ++ List.replicate (1 - (lg_sl ([.ref aX])).length) Slot.unset).toArray = ls at hl ⊢
  have hl : lv_has ls 1 [(0, .ref aX)] := hl
  refine ow_named (fun QQ hQQ => ?_)
  refine lv_aload_n hx hb dX12_end_0 rfl (lv_at hl 0 rfl) ?_
  refine lv_dup hx hb dX12_end_1 rfl ?_
  refine va_get (D := (dC, dI)) (ci := 15) (v := .int 0) (C := RX12) (T := TX12) (N := 16) hx hb hts (fun _ h => List.mem_cons_of_mem _ (List.mem_append_left _ (List.mem_append_right _ h))) hown hK hP 0 rfl rfl 1 (by decide) (hts (.fieldLink RX12 52 "KnotHouseModel$Net" "comps" "I") (by decide +kernel)) (fun _ h9 => h9) rfl dX12_end_2 ?_
  refine lv_iconst (v := 1) hx hb dX12_end_5 (by decide) ?_
  refine lv_iadd hx hb dX12_end_6 ?_
  refine ow_topi (y := 1) (by decide) ?_
  refine va_put (D := (dC, dI)) (ci := 15) (v := .int (1)) (ty := .int) (C := RX12) (T := TX12) (N := 16) hx hb hts (fun _ h => List.mem_cons_of_mem _ (List.mem_append_left _ (List.mem_append_right _ h))) tyX12 tyX12_ok nmX12 hown hK hP hD hS 0 rfl rfl 1 (by decide) (hts (.fieldLink RX12 52 "KnotHouseModel$Net" "comps" "I") (by decide +kernel)) (fun _ h9 => h9) rfl (by decide +kernel) rfl rfl (Nat.le_of_ble_eq_true rfl) dX12_end_7 (fun H locs hP hD hS => ?_)
  have hP : va_P (dC, dI) vwCl [(aX, .inr (15, [.int 0, .int (1), .ref (nx 2), .ref (nx 3), .ref (nx 4), .ref (nx 5), .ref (nx 6), .ref (nx 7), .ref (nx 8), .ref (nx 9), .ref (nx 10), .ref (nx 11), .int x2, .ref (nx 13), .ref (nx 14), .int x3])), ((nx 2), .inl (cI, 40, .inl fB))] H := hP
  have hD : va_D A [(aX, .inr (15, [.int 0, .int (1), .ref (nx 2), .ref (nx 3), .ref (nx 4), .ref (nx 5), .ref (nx 6), .ref (nx 7), .ref (nx 8), .ref (nx 9), .ref (nx 10), .ref (nx 11), .int x2, .ref (nx 13), .ref (nx 14), .int x3])), ((nx 2), .inl (cI, 40, .inl fB))] := hD
  refine lv_aload_n hx hb dX12_end_10 rfl (lv_at hl 0 rfl) ?_
  refine va_get (D := (dC, dI)) (ci := 15) (v := .ref (nx 2)) (C := RX12) (T := TX12) (N := 16) hx hb hts (fun _ h => List.mem_cons_of_mem _ (List.mem_append_left _ (List.mem_append_right _ h))) hown hK hP 0 rfl rfl 2 (by decide) (hts (.fieldLink RX12 9 "KnotHouseModel$Net" "begin" "[I") (by decide +kernel)) (fun _ h9 => h9) rfl dX12_end_11 ?_
  refine lv_aload_n hx hb dX12_end_14 rfl (lv_at hl 0 rfl) ?_
  refine va_get (D := (dC, dI)) (ci := 15) (v := .int (1)) (C := RX12) (T := TX12) (N := 16) hx hb hts (fun _ h => List.mem_cons_of_mem _ (List.mem_append_left _ (List.mem_append_right _ h))) hown hK hP 0 rfl rfl 1 (by decide) (hts (.fieldLink RX12 52 "KnotHouseModel$Net" "comps" "I") (by decide +kernel)) (fun _ h9 => h9) rfl dX12_end_15 ?_
  refine lv_aload_n hx hb dX12_end_18 rfl (lv_at hl 0 rfl) ?_
  refine va_get (D := (dC, dI)) (ci := 15) (v := .int 0) (C := RX12) (T := TX12) (N := 16) hx hb hts (fun _ h => List.mem_cons_of_mem _ (List.mem_append_left _ (List.mem_append_right _ h))) hown hK hP 0 rfl rfl 0 (by decide) (hts (.fieldLink RX12 48 "KnotHouseModel$Net" "visits" "I") (by decide +kernel)) (fun _ h9 => h9) rfl dX12_end_19 ?_
  refine ow_iastU (j := 1) hx hb hK hP hD hS 1 0 rfl rfl rfl (by omega) (by decide) dX12_end_22 (fun f1 H locs ef1 nf1 hP hD hS => ?_)
  have hP : va_P (dC, dI) vwCl [(aX, .inr (15, [.int 0, .int (1), .ref (nx 2), .ref (nx 3), .ref (nx 4), .ref (nx 5), .ref (nx 6), .ref (nx 7), .ref (nx 8), .ref (nx 9), .ref (nx 10), .ref (nx 11), .int x2, .ref (nx 13), .ref (nx 14), .int x3])), ((nx 2), .inl (cI, 40, .inl f1))] H := hP
  have hD : va_D A [(aX, .inr (15, [.int 0, .int (1), .ref (nx 2), .ref (nx 3), .ref (nx 4), .ref (nx 5), .ref (nx 6), .ref (nx 7), .ref (nx 8), .ref (nx 9), .ref (nx 10), .ref (nx 11), .int x2, .ref (nx 13), .ref (nx 14), .int x3])), ((nx 2), .inl (cI, 40, .inl f1))] := hD
  rw [hQQ]
  exact W.vret hx hb hr (fun t ht hW => ⟨⟨f1, rfl, ⟨(nf1 0 (by decide)).trans hB, ef1⟩, by rw [ht]; exact hP, hD⟩, hS.F ht⟩) hS.2.2 dX12_end_23
theorem dX12_link_0 : decode cX12_link 0 = .ok (.iconst 0, 1) := by decide +kernel
theorem dX12_link_1 : decode cX12_link 1 = .ok (.istore_n 1, 1) := by decide +kernel
theorem dX12_link_2 : decode cX12_link 2 = .ok (.iload_n 1, 1) := by decide +kernel
theorem dX12_link_3 : decode cX12_link 3 = .ok (.bipush 40, 2) := by decide +kernel
theorem dX12_link_5 : decode cX12_link 5 = .ok (.if_icmp .ge 16, 3) := by decide +kernel
theorem dX12_link_8 : decode cX12_link 8 = .ok (.aload_n 0, 1) := by decide +kernel
theorem dX12_link_9 : decode cX12_link 9 = .ok (.getfield 36, 3) := by decide +kernel
theorem dX12_link_12 : decode cX12_link 12 = .ok (.iload_n 1, 1) := by decide +kernel
theorem dX12_link_13 : decode cX12_link 13 = .ok (.iconst (-1), 1) := by decide +kernel
theorem dX12_link_14 : decode cX12_link 14 = .ok (.iastore, 1) := by decide +kernel
theorem dX12_link_15 : decode cX12_link 15 = .ok (.iinc 1 1, 3) := by decide +kernel
theorem dX12_link_18 : decode cX12_link 18 = .ok (.goto (-16), 3) := by decide +kernel
theorem dX12_link_21 : decode cX12_link 21 = .ok (.iconst 0, 1) := by decide +kernel
theorem dX12_link_22 : decode cX12_link 22 = .ok (.istore_n 1, 1) := by decide +kernel
theorem dX12_link_23 : decode cX12_link 23 = .ok (.iload_n 1, 1) := by decide +kernel
theorem dX12_link_24 : decode cX12_link 24 = .ok (.aload_n 0, 1) := by decide +kernel
theorem dX12_link_25 : decode cX12_link 25 = .ok (.getfield 52, 3) := by decide +kernel
theorem dX12_link_28 : decode cX12_link 28 = .ok (.if_icmp .ge 156, 3) := by decide +kernel
theorem dX12_link_31 : decode cX12_link 31 = .ok (.aload_n 0, 1) := by decide +kernel
theorem dX12_link_32 : decode cX12_link 32 = .ok (.getfield 9, 3) := by decide +kernel
theorem dX12_link_35 : decode cX12_link 35 = .ok (.iload_n 1, 1) := by decide +kernel
theorem dX12_link_36 : decode cX12_link 36 = .ok (.iaload, 1) := by decide +kernel
theorem dX12_link_37 : decode cX12_link 37 = .ok (.istore_n 2, 1) := by decide +kernel
theorem dX12_link_38 : decode cX12_link 38 = .ok (.iload_n 2, 1) := by decide +kernel
theorem dX12_link_39 : decode cX12_link 39 = .ok (.aload_n 0, 1) := by decide +kernel
theorem dX12_link_40 : decode cX12_link 40 = .ok (.getfield 9, 3) := by decide +kernel
theorem dX12_link_43 : decode cX12_link 43 = .ok (.iload_n 1, 1) := by decide +kernel
theorem dX12_link_44 : decode cX12_link 44 = .ok (.iconst 1, 1) := by decide +kernel
theorem dX12_link_45 : decode cX12_link 45 = .ok (.iadd, 1) := by decide +kernel
theorem dX12_link_46 : decode cX12_link 46 = .ok (.iaload, 1) := by decide +kernel
theorem dX12_link_47 : decode cX12_link 47 = .ok (.if_icmp .ge 131, 3) := by decide +kernel
theorem dX12_link_178 : decode cX12_link 178 = .ok (.iinc 1 1, 3) := by decide +kernel
theorem dX12_link_181 : decode cX12_link 181 = .ok (.goto (-158), 3) := by decide +kernel
theorem dX12_link_184 : decode cX12_link 184 = .ok (.return_, 1) := by decide +kernel
def wf_Nlink : List Cond := .code yX12_link cX12_link 4 none :: ([.fieldLink RX12 36 "KnotHouseModel$Net" "first" "[I", .fieldLink RX12 52 "KnotHouseModel$Net" "comps" "I", .fieldLink RX12 9 "KnotHouseModel$Net" "begin" "[I"] ++ wsX120 ++ [])
set_option maxHeartbeats 4000000 in
set_option maxRecDepth 100000 in
theorem kf_X12_link (l : Launch) (dC : Nat → ClassId) (dI : Nat → Nat → Nat) (cI cB cJ cZ : ClassId) (aX : Nat) (nx : Nat → Nat) (x2 x3 : Int32) (fB fF : Nat → Int32) (hB : fB 0 = 0 ∧ fB 1 = 0) (sz : Nat) : Met l yX12_link wf_Nlink (({ frames := 0, cells := 0, slots := 0, locals := 0 } : Room)) (va_Pc [.ref aX] (fun U => U.heap.size = sz ∧ va_P (dC, dI) vwCl [(aX, .inr (15, [.int 0, .int 1, .ref (nx 2), .ref (nx 3), .ref (nx 4), .ref (nx 5), .ref (nx 6), .ref (nx 7), .ref (nx 8), .ref (nx 9), .ref (nx 10), .ref (nx 11), .int x2, .ref (nx 13), .ref (nx 14), .int x3])), ((nx 2), .inl (cI, 40, .inl fB)), ((nx 10), .inl (cI, 40, .inl fF))] U.heap ∧ va_K (dC, dI) vwCl [(cI, .int), (cB, .byte), (cJ, .long), (cZ, .boolean)] U ∧ va_D (fun _ => True) [(aX, .inr (15, [.int 0, .int 1, .ref (nx 2), .ref (nx 3), .ref (nx 4), .ref (nx 5), .ref (nx 6), .ref (nx 7), .ref (nx 8), .ref (nx 9), .ref (nx 10), .ref (nx 11), .int x2, .ref (nx 13), .ref (nx 14), .int x3])), ((nx 2), .inl (cI, 40, .inl fB)), ((nx 10), .inl (cI, 40, .inl fF))])) (va_Qv (fun (g : Nat → Int32) => True) (fun g t => va_P (dC, dI) vwCl [(aX, .inr (15, [.int 0, .int 1, .ref (nx 2), .ref (nx 3), .ref (nx 4), .ref (nx 5), .ref (nx 6), .ref (nx 7), .ref (nx 8), .ref (nx 9), .ref (nx 10), .ref (nx 11), .int x2, .ref (nx 13), .ref (nx 14), .int x3])), ((nx 2), .inl (cI, 40, .inl fB)), ((nx 10), .inl (cI, 40, .inl g))] t.heap ∧ va_D (va_A [(aX, .inr (15, [.int 0, .int 1, .ref (nx 2), .ref (nx 3), .ref (nx 4), .ref (nx 5), .ref (nx 6), .ref (nx 7), .ref (nx 8), .ref (nx 9), .ref (nx 10), .ref (nx 11), .int x2, .ref (nx 13), .ref (nx 14), .int x3])), ((nx 2), .inl (cI, 40, .inl fB)), ((nx 10), .inl (cI, 40, .inl fF))] sz) [(aX, .inr (15, [.int 0, .int 1, .ref (nx 2), .ref (nx 3), .ref (nx 4), .ref (nx 5), .ref (nx 6), .ref (nx 7), .ref (nx 8), .ref (nx 9), .ref (nx 10), .ref (nx 11), .int x2, .ref (nx 13), .ref (nx 14), .int x3])), ((nx 2), .inl (cI, 40, .inl fB)), ((nx 10), .inl (cI, 40, .inl g))]) (va_A [(aX, .inr (15, [.int 0, .int 1, .ref (nx 2), .ref (nx 3), .ref (nx 4), .ref (nx 5), .ref (nx 6), .ref (nx 7), .ref (nx 8), .ref (nx 9), .ref (nx 10), .ref (nx 11), .int x2, .ref (nx 13), .ref (nx 14), .int x3])), ((nx 2), .inl (cI, 40, .inl fB)), ((nx 10), .inl (cI, 40, .inl fF))] sz)) 0 0 (va_A [(aX, .inr (15, [.int 0, .int 1, .ref (nx 2), .ref (nx 3), .ref (nx 4), .ref (nx 5), .ref (nx 6), .ref (nx 7), .ref (nx 8), .ref (nx 9), .ref (nx 10), .ref (nx 11), .int x2, .ref (nx 13), .ref (nx 14), .int x3])), ((nx 2), .inl (cI, 40, .inl fB)), ((nx 10), .inl (cI, 40, .inl fF))] sz) := by
  refine Met.ofW (cc := cX12_link) (maxL := 4) (ret := none) (by decide) rfl ?_
  intro p e s m args below meth c s₁ B hml hv
  obtain ⟨rfl, hsz, hP, hK, hD0⟩ := hv
  have hx := B.exec
  have hb := B.bytes
  have hr := B.returns
  have hts := atoms_spec (ws := wf_Nlink) B.pre
  have hown : s.vm.findClass RX12 = some m.cls := findClass_of_methodNamed B.named
  have hlocks := B.notSynchronized
  subst hsz
  have hD := hD0.self (sz := s.heap.size)
  generalize hAe : va_A [(aX, .inr (15, [.int 0, .int 1, .ref (nx 2), .ref (nx 3), .ref (nx 4), .ref (nx 5), .ref (nx 6), .ref (nx 7), .ref (nx 8), .ref (nx 9), .ref (nx 10), .ref (nx 11), .int x2, .ref (nx 13), .ref (nx 14), .int x3])), ((nx 2), .inl (cI, 40, .inl fB)), ((nx 10), .inl (cI, 40, .inl fF))] s.heap.size = A at hD ⊢
  have hA : ∀ q : Nat, s.heap.size ≤ q → A q := fun q h => by rw [← hAe]; exact Or.inr h
  have hS : va_S A s.heap s.heap [] := va_S.rf
  have hP : va_P (dC, dI) vwCl [(aX, .inr (15, [.int 0, .int 1, .ref (nx 2), .ref (nx 3), .ref (nx 4), .ref (nx 5), .ref (nx 6), .ref (nx 7), .ref (nx 8), .ref (nx 9), .ref (nx 10), .ref (nx 11), .int x2, .ref (nx 13), .ref (nx 14), .int x3])), ((nx 2), .inl (cI, 40, .inl fB)), ((nx 10), .inl (cI, 40, .inl fF))] s.heap := hP
  have hl := lv_entry ([.ref aX]) (n := 4) (Nat.le_of_ble_eq_true rfl)
  rw [lg_entry_eq]
  generalize (lg_sl ([.ref aX]) ++ List.replicate (4 - (lg_sl ([.ref aX])).length) Slot.unset).toArray = ls at hl ⊢
  have hl : lv_has ls 4 [(0, .ref aX)] := hl
  refine ow_named (fun QQ hQQ => ?_)
  have L2 : ∀ (d k : Nat), k + d = 40 → ∀ (H : Heap) (locs : List Loc) (ls : Array Slot) (fF : Nat → Int32), va_P (dC, dI) vwCl [(aX, .inr (15, [.int 0, .int 1, .ref (nx 2), .ref (nx 3), .ref (nx 4), .ref (nx 5), .ref (nx 6), .ref (nx 7), .ref (nx 8), .ref (nx 9), .ref (nx 10), .ref (nx 11), .int x2, .ref (nx 13), .ref (nx 14), .int x3])), ((nx 2), .inl (cI, 40, .inl fB)), ((nx 10), .inl (cI, 40, .inl fF))] H → va_D A [(aX, .inr (15, [.int 0, .int 1, .ref (nx 2), .ref (nx 3), .ref (nx 4), .ref (nx 5), .ref (nx 6), .ref (nx 7), .ref (nx 8), .ref (nx 9), .ref (nx 10), .ref (nx 11), .int x2, .ref (nx 13), .ref (nx 14), .int x3])), ((nx 2), .inl (cI, 40, .inl fB)), ((nx 10), .inl (cI, 40, .inl fF))] → va_S A s.heap H locs → lv_has ls 4 [(0, .ref aX), (1, .int (nI k))] → W p l e ({ frames := 0, cells := 0, slots := 0, locals := 0 } : Room) s m ([.ref aX] : List Value).toArray below meth c H locs 0 0 QQ (F0 m 2 ls []) := by
    intro d
    induction d with
    | zero =>
      intro k hv_k H locs ls fF hP hD hS hl
      refine lv_iload_n hx hb dX12_link_2 rfl (lv_at hl 1 rfl) ?_
      refine lv_bipush (v := 40) hx hb dX12_link_3 (by decide) ?_
      refine lv_icmp_ge (tgt := 21) hx hb dX12_link_5 (by decide) (fun _ => ?_) (fun c9 => absurd (nI_le (a := 40) (b := k) (by omega) (by omega)) c9)
      refine lv_iconst (v := 0) hx hb dX12_link_21 (by decide) ?_
      refine lv_istore_n (lv' := [(1, .int 0), (0, .ref aX)]) hx hb dX12_link_22 rfl hl (by decide) rfl (fun ls hl => ?_)
      refine lv_iload_n hx hb dX12_link_23 rfl (lv_at hl 0 rfl) ?_
      refine lv_aload_n hx hb dX12_link_24 rfl (lv_at hl 1 rfl) ?_
      refine va_get (D := (dC, dI)) (ci := 15) (v := .int 1) (C := RX12) (T := TX12) (N := 16) hx hb hts (fun _ h => List.mem_cons_of_mem _ (List.mem_append_left _ (List.mem_append_right _ h))) hown hK hP 0 rfl rfl 1 (by decide) (hts (.fieldLink RX12 52 "KnotHouseModel$Net" "comps" "I") (by decide +kernel)) (fun _ h9 => h9) rfl dX12_link_25 ?_
      refine lv_icmp_ge (tgt := 184) hx hb dX12_link_28 (by decide) (fun c9 => absurd c9 (by decide)) (fun _ => ?_)
      refine lv_aload_n hx hb dX12_link_31 rfl (lv_at hl 1 rfl) ?_
      refine va_get (D := (dC, dI)) (ci := 15) (v := .ref (nx 2)) (C := RX12) (T := TX12) (N := 16) hx hb hts (fun _ h => List.mem_cons_of_mem _ (List.mem_append_left _ (List.mem_append_right _ h))) hown hK hP 0 rfl rfl 2 (by decide) (hts (.fieldLink RX12 9 "KnotHouseModel$Net" "begin" "[I") (by decide +kernel)) (fun _ h9 => h9) rfl dX12_link_32 ?_
      refine lv_iload_n hx hb dX12_link_35 rfl (lv_at hl 0 rfl) ?_
      refine va_iald hx hb hK hP 1 0 rfl rfl (vp_in_nI (n := 0) (N := 40) (by decide) (by decide)) dX12_link_36 ?_
      refine ow_topi (y := 0) (hB.1) ?_
      refine lv_istore_n (lv' := [(2, .int (0)), (1, .int 0), (0, .ref aX)]) hx hb dX12_link_37 rfl hl (by decide) rfl (fun ls hl => ?_)
      refine lv_iload_n hx hb dX12_link_38 rfl (lv_at hl 0 rfl) ?_
      refine lv_aload_n hx hb dX12_link_39 rfl (lv_at hl 2 rfl) ?_
      refine va_get (D := (dC, dI)) (ci := 15) (v := .ref (nx 2)) (C := RX12) (T := TX12) (N := 16) hx hb hts (fun _ h => List.mem_cons_of_mem _ (List.mem_append_left _ (List.mem_append_right _ h))) hown hK hP 0 rfl rfl 2 (by decide) (hts (.fieldLink RX12 9 "KnotHouseModel$Net" "begin" "[I") (by decide +kernel)) (fun _ h9 => h9) rfl dX12_link_40 ?_
      refine lv_iload_n hx hb dX12_link_43 rfl (lv_at hl 1 rfl) ?_
      refine lv_iconst (v := 1) hx hb dX12_link_44 (by decide) ?_
      refine lv_iadd hx hb dX12_link_45 ?_
      refine ow_topi (y := 1) (by decide) ?_
      refine va_iald hx hb hK hP 1 0 rfl rfl (vp_in_nI (n := 1) (N := 40) (by decide) (by decide)) dX12_link_46 ?_
      refine ow_topi (y := 0) (hB.2) ?_
      refine lv_icmp_ge (tgt := 178) hx hb dX12_link_47 (by decide) (fun _ => ?_) (fun c9 => absurd (by decide) c9)
      refine lv_iinc (v := 1) (lv' := [(1, .int 1), (2, .int (0)), (0, .ref aX)]) hx hb dX12_link_178 hl (k := 1) rfl (by decide) (by decide) rfl (fun ls hl => ?_)
      refine lv_goto (tgt := 23) hx hb dX12_link_181 (by decide) ?_
      refine lv_iload_n hx hb dX12_link_23 rfl (lv_at hl 0 rfl) ?_
      refine lv_aload_n hx hb dX12_link_24 rfl (lv_at hl 2 rfl) ?_
      refine va_get (D := (dC, dI)) (ci := 15) (v := .int 1) (C := RX12) (T := TX12) (N := 16) hx hb hts (fun _ h => List.mem_cons_of_mem _ (List.mem_append_left _ (List.mem_append_right _ h))) hown hK hP 0 rfl rfl 1 (by decide) (hts (.fieldLink RX12 52 "KnotHouseModel$Net" "comps" "I") (by decide +kernel)) (fun _ h9 => h9) rfl dX12_link_25 ?_
      refine lv_icmp_ge (tgt := 184) hx hb dX12_link_28 (by decide) (fun _ => ?_) (fun c9 => absurd (by decide) c9)
      rw [hQQ]
      exact W.vret hx hb hr (fun t ht hW => ⟨⟨fF, rfl, trivial, by rw [ht]; exact hP, hD⟩, hS.F ht⟩) hS.2.2 dX12_link_184
    | succ d ih_k =>
      intro k hv_k H locs ls fF hP hD hS hl
      refine lv_iload_n hx hb dX12_link_2 rfl (lv_at hl 1 rfl) ?_
      refine lv_bipush (v := 40) hx hb dX12_link_3 (by decide) ?_
      refine lv_icmp_ge (tgt := 21) hx hb dX12_link_5 (by decide) (fun c9 => absurd c9 (nI_ge (a := k) (b := 40) (by omega) (by decide))) (fun _ => ?_)
      refine lv_aload_n hx hb dX12_link_8 rfl (lv_at hl 0 rfl) ?_
      refine va_get (D := (dC, dI)) (ci := 15) (v := .ref (nx 10)) (C := RX12) (T := TX12) (N := 16) hx hb hts (fun _ h => List.mem_cons_of_mem _ (List.mem_append_left _ (List.mem_append_right _ h))) hown hK hP 0 rfl rfl 10 (by decide) (hts (.fieldLink RX12 36 "KnotHouseModel$Net" "first" "[I") (by decide +kernel)) (fun _ h9 => h9) rfl dX12_link_9 ?_
      refine lv_iload_n hx hb dX12_link_12 rfl (lv_at hl 1 rfl) ?_
      refine lv_iconst (v := (-1)) hx hb dX12_link_13 (by decide) ?_
      refine ow_iast hx hb hK hP hD hS 2 0 rfl rfl (vp_in_nI (n := k) (N := 40) (by omega) (by decide)) dX12_link_14 (fun f3 H locs hP hD hS => ?_)
      have hP : va_P (dC, dI) vwCl [(aX, .inr (15, [.int 0, .int 1, .ref (nx 2), .ref (nx 3), .ref (nx 4), .ref (nx 5), .ref (nx 6), .ref (nx 7), .ref (nx 8), .ref (nx 9), .ref (nx 10), .ref (nx 11), .int x2, .ref (nx 13), .ref (nx 14), .int x3])), ((nx 2), .inl (cI, 40, .inl fB)), ((nx 10), .inl (cI, 40, .inl f3))] H := hP
      have hD : va_D A [(aX, .inr (15, [.int 0, .int 1, .ref (nx 2), .ref (nx 3), .ref (nx 4), .ref (nx 5), .ref (nx 6), .ref (nx 7), .ref (nx 8), .ref (nx 9), .ref (nx 10), .ref (nx 11), .int x2, .ref (nx 13), .ref (nx 14), .int x3])), ((nx 2), .inl (cI, 40, .inl fB)), ((nx 10), .inl (cI, 40, .inl f3))] := hD
      refine lv_iinc (v := nI (k + 1)) (lv' := [(1, .int (nI (k + 1))), (0, .ref aX)]) hx hb dX12_link_15 hl (k := 1) rfl (nI_1 k) (by decide) rfl (fun ls hl => ?_)
      refine lv_goto (tgt := 2) hx hb dX12_link_18 (by decide) ?_
      exact ih_k (k + 1) (by omega) H locs ls _ hP hD hS (lv_sub hl [1, 0] rfl)
  refine lv_iconst (v := 0) hx hb dX12_link_0 (by decide) ?_
  refine ow_topi (y := nI 0) (by decide) ?_
  refine lv_istore_n (lv' := [(1, .int (nI 0)), (0, .ref aX)]) hx hb dX12_link_1 rfl hl (by decide) rfl (fun ls hl => ?_)
  exact L2 40 0 (by omega) s.heap [] ls _ hP hD hS (lv_sub hl [1, 0] rfl)
theorem dX12_split_0 : decode cX12_split 0 = .ok (.iconst 0, 1) := by decide +kernel
theorem dX12_split_1 : decode cX12_split 1 = .ok (.istore_n 1, 1) := by decide +kernel
theorem dX12_split_2 : decode cX12_split 2 = .ok (.iload_n 1, 1) := by decide +kernel
theorem dX12_split_3 : decode cX12_split 3 = .ok (.aload_n 0, 1) := by decide +kernel
theorem dX12_split_4 : decode cX12_split 4 = .ok (.getfield 52, 3) := by decide +kernel
theorem dX12_split_7 : decode cX12_split 7 = .ok (.if_icmp .ge 16, 3) := by decide +kernel
theorem dX12_split_10 : decode cX12_split 10 = .ok (.aload_n 0, 1) := by decide +kernel
theorem dX12_split_11 : decode cX12_split 11 = .ok (.getfield 39, 3) := by decide +kernel
theorem dX12_split_14 : decode cX12_split 14 = .ok (.iload_n 1, 1) := by decide +kernel
theorem dX12_split_15 : decode cX12_split 15 = .ok (.iconst (-1), 1) := by decide +kernel
theorem dX12_split_16 : decode cX12_split 16 = .ok (.iastore, 1) := by decide +kernel
theorem dX12_split_17 : decode cX12_split 17 = .ok (.iinc 1 1, 3) := by decide +kernel
theorem dX12_split_20 : decode cX12_split 20 = .ok (.goto (-18), 3) := by decide +kernel
theorem dX12_split_23 : decode cX12_split 23 = .ok (.aload_n 0, 1) := by decide +kernel
theorem dX12_split_24 : decode cX12_split 24 = .ok (.iconst 0, 1) := by decide +kernel
theorem dX12_split_25 : decode cX12_split 25 = .ok (.putfield 69, 3) := by decide +kernel
theorem dX12_split_28 : decode cX12_split 28 = .ok (.iconst 0, 1) := by decide +kernel
theorem dX12_split_29 : decode cX12_split 29 = .ok (.istore_n 1, 1) := by decide +kernel
theorem dX12_split_30 : decode cX12_split 30 = .ok (.iload_n 1, 1) := by decide +kernel
theorem dX12_split_31 : decode cX12_split 31 = .ok (.aload_n 0, 1) := by decide +kernel
theorem dX12_split_32 : decode cX12_split 32 = .ok (.getfield 52, 3) := by decide +kernel
theorem dX12_split_35 : decode cX12_split 35 = .ok (.if_icmp .ge 126, 3) := by decide +kernel
theorem dX12_split_38 : decode cX12_split 38 = .ok (.aload_n 0, 1) := by decide +kernel
theorem dX12_split_39 : decode cX12_split 39 = .ok (.getfield 39, 3) := by decide +kernel
theorem dX12_split_42 : decode cX12_split 42 = .ok (.iload_n 1, 1) := by decide +kernel
theorem dX12_split_43 : decode cX12_split 43 = .ok (.iaload, 1) := by decide +kernel
theorem dX12_split_44 : decode cX12_split 44 = .ok (.iconst (-1), 1) := by decide +kernel
theorem dX12_split_45 : decode cX12_split 45 = .ok (.if_icmp .ne 110, 3) := by decide +kernel
theorem dX12_split_48 : decode cX12_split 48 = .ok (.aload_n 0, 1) := by decide +kernel
theorem dX12_split_49 : decode cX12_split 49 = .ok (.getfield 39, 3) := by decide +kernel
theorem dX12_split_52 : decode cX12_split 52 = .ok (.iload_n 1, 1) := by decide +kernel
theorem dX12_split_53 : decode cX12_split 53 = .ok (.aload_n 0, 1) := by decide +kernel
theorem dX12_split_54 : decode cX12_split 54 = .ok (.getfield 69, 3) := by decide +kernel
theorem dX12_split_57 : decode cX12_split 57 = .ok (.iastore, 1) := by decide +kernel
theorem dX12_split_58 : decode cX12_split 58 = .ok (.iconst 1, 1) := by decide +kernel
theorem dX12_split_59 : decode cX12_split 59 = .ok (.istore_n 2, 1) := by decide +kernel
theorem dX12_split_60 : decode cX12_split 60 = .ok (.iload_n 2, 1) := by decide +kernel
theorem dX12_split_61 : decode cX12_split 61 = .ok (.ifCond .eq 84, 3) := by decide +kernel
theorem dX12_split_64 : decode cX12_split 64 = .ok (.iconst 0, 1) := by decide +kernel
theorem dX12_split_65 : decode cX12_split 65 = .ok (.istore_n 2, 1) := by decide +kernel
theorem dX12_split_66 : decode cX12_split 66 = .ok (.iconst 0, 1) := by decide +kernel
theorem dX12_split_67 : decode cX12_split 67 = .ok (.istore_n 3, 1) := by decide +kernel
theorem dX12_split_68 : decode cX12_split 68 = .ok (.iload_n 3, 1) := by decide +kernel
theorem dX12_split_69 : decode cX12_split 69 = .ok (.aload_n 0, 1) := by decide +kernel
theorem dX12_split_70 : decode cX12_split 70 = .ok (.getfield 48, 3) := by decide +kernel
theorem dX12_split_73 : decode cX12_split 73 = .ok (.if_icmp .ge 69, 3) := by decide +kernel
theorem dX12_split_142 : decode cX12_split 142 = .ok (.goto (-82), 3) := by decide +kernel
theorem dX12_split_145 : decode cX12_split 145 = .ok (.aload_n 0, 1) := by decide +kernel
theorem dX12_split_146 : decode cX12_split 146 = .ok (.dup, 1) := by decide +kernel
theorem dX12_split_147 : decode cX12_split 147 = .ok (.getfield 69, 3) := by decide +kernel
theorem dX12_split_150 : decode cX12_split 150 = .ok (.iconst 1, 1) := by decide +kernel
theorem dX12_split_151 : decode cX12_split 151 = .ok (.iadd, 1) := by decide +kernel
theorem dX12_split_152 : decode cX12_split 152 = .ok (.putfield 69, 3) := by decide +kernel
theorem dX12_split_155 : decode cX12_split 155 = .ok (.iinc 1 1, 3) := by decide +kernel
theorem dX12_split_158 : decode cX12_split 158 = .ok (.goto (-128), 3) := by decide +kernel
theorem dX12_split_161 : decode cX12_split 161 = .ok (.return_, 1) := by decide +kernel
def wf_Nsplit : List Cond := .code yX12_split cX12_split 4 none :: ([.fieldLink RX12 52 "KnotHouseModel$Net" "comps" "I", .fieldLink RX12 39 "KnotHouseModel$Net" "part" "[I", .fieldLink RX12 69 "KnotHouseModel$Net" "parts" "I", .fieldLink RX12 48 "KnotHouseModel$Net" "visits" "I"] ++ wsX120 ++ [])
set_option maxHeartbeats 4000000 in
set_option maxRecDepth 100000 in
theorem kf_X12_split (l : Launch) (dC : Nat → ClassId) (dI : Nat → Nat → Nat) (cI cB cJ cZ : ClassId) (aX : Nat) (nx : Nat → Nat) (x2 x3 : Int32) (fP : Nat → Int32) (sz : Nat) : Met l yX12_split wf_Nsplit (({ frames := 0, cells := 0, slots := 0, locals := 0 } : Room)) (va_Pc [.ref aX] (fun U => U.heap.size = sz ∧ va_P (dC, dI) vwCl [(aX, .inr (15, [.int 0, .int 1, .ref (nx 2), .ref (nx 3), .ref (nx 4), .ref (nx 5), .ref (nx 6), .ref (nx 7), .ref (nx 8), .ref (nx 9), .ref (nx 10), .ref (nx 11), .int x2, .ref (nx 13), .ref (nx 14), .int x3])), ((nx 11), .inl (cI, 40, .inl fP))] U.heap ∧ va_K (dC, dI) vwCl [(cI, .int), (cB, .byte), (cJ, .long), (cZ, .boolean)] U ∧ va_D (fun _ => True) [(aX, .inr (15, [.int 0, .int 1, .ref (nx 2), .ref (nx 3), .ref (nx 4), .ref (nx 5), .ref (nx 6), .ref (nx 7), .ref (nx 8), .ref (nx 9), .ref (nx 10), .ref (nx 11), .int x2, .ref (nx 13), .ref (nx 14), .int x3])), ((nx 11), .inl (cI, 40, .inl fP))])) (va_Qv (fun (g : Nat → Int32) => g 0 = 0) (fun g t => va_P (dC, dI) vwCl [(aX, .inr (15, [.int 0, .int 1, .ref (nx 2), .ref (nx 3), .ref (nx 4), .ref (nx 5), .ref (nx 6), .ref (nx 7), .ref (nx 8), .ref (nx 9), .ref (nx 10), .ref (nx 11), .int 1, .ref (nx 13), .ref (nx 14), .int x3])), ((nx 11), .inl (cI, 40, .inl g))] t.heap ∧ va_D (va_A [(aX, .inr (15, [.int 0, .int 1, .ref (nx 2), .ref (nx 3), .ref (nx 4), .ref (nx 5), .ref (nx 6), .ref (nx 7), .ref (nx 8), .ref (nx 9), .ref (nx 10), .ref (nx 11), .int x2, .ref (nx 13), .ref (nx 14), .int x3])), ((nx 11), .inl (cI, 40, .inl fP))] sz) [(aX, .inr (15, [.int 0, .int 1, .ref (nx 2), .ref (nx 3), .ref (nx 4), .ref (nx 5), .ref (nx 6), .ref (nx 7), .ref (nx 8), .ref (nx 9), .ref (nx 10), .ref (nx 11), .int 1, .ref (nx 13), .ref (nx 14), .int x3])), ((nx 11), .inl (cI, 40, .inl g))]) (va_A [(aX, .inr (15, [.int 0, .int 1, .ref (nx 2), .ref (nx 3), .ref (nx 4), .ref (nx 5), .ref (nx 6), .ref (nx 7), .ref (nx 8), .ref (nx 9), .ref (nx 10), .ref (nx 11), .int x2, .ref (nx 13), .ref (nx 14), .int x3])), ((nx 11), .inl (cI, 40, .inl fP))] sz)) 0 0 (va_A [(aX, .inr (15, [.int 0, .int 1, .ref (nx 2), .ref (nx 3), .ref (nx 4), .ref (nx 5), .ref (nx 6), .ref (nx 7), .ref (nx 8), .ref (nx 9), .ref (nx 10), .ref (nx 11), .int x2, .ref (nx 13), .ref (nx 14), .int x3])), ((nx 11), .inl (cI, 40, .inl fP))] sz) := by
  refine Met.ofW (cc := cX12_split) (maxL := 4) (ret := none) (by decide) rfl ?_
  intro p e s m args below meth c s₁ B hml hv
  obtain ⟨rfl, hsz, hP, hK, hD0⟩ := hv
  have hx := B.exec
  have hb := B.bytes
  have hr := B.returns
  have hts := atoms_spec (ws := wf_Nsplit) B.pre
  have hown : s.vm.findClass RX12 = some m.cls := findClass_of_methodNamed B.named
  have hlocks := B.notSynchronized
  subst hsz
  have hD := hD0.self (sz := s.heap.size)
  generalize hAe : va_A [(aX, .inr (15, [.int 0, .int 1, .ref (nx 2), .ref (nx 3), .ref (nx 4), .ref (nx 5), .ref (nx 6), .ref (nx 7), .ref (nx 8), .ref (nx 9), .ref (nx 10), .ref (nx 11), .int x2, .ref (nx 13), .ref (nx 14), .int x3])), ((nx 11), .inl (cI, 40, .inl fP))] s.heap.size = A at hD ⊢
  have hA : ∀ q : Nat, s.heap.size ≤ q → A q := fun q h => by rw [← hAe]; exact Or.inr h
  have hS : va_S A s.heap s.heap [] := va_S.rf
  have hP : va_P (dC, dI) vwCl [(aX, .inr (15, [.int 0, .int 1, .ref (nx 2), .ref (nx 3), .ref (nx 4), .ref (nx 5), .ref (nx 6), .ref (nx 7), .ref (nx 8), .ref (nx 9), .ref (nx 10), .ref (nx 11), .int x2, .ref (nx 13), .ref (nx 14), .int x3])), ((nx 11), .inl (cI, 40, .inl fP))] s.heap := hP
  have hl := lv_entry ([.ref aX]) (n := 4) (Nat.le_of_ble_eq_true rfl)
  rw [lg_entry_eq]
  generalize (lg_sl ([.ref aX]) ++ List.replicate (4 - (lg_sl ([.ref aX])).length) Slot.unset).toArray = ls at hl ⊢
  have hl : lv_has ls 4 [(0, .ref aX)] := hl
  refine ow_named (fun QQ hQQ => ?_)
  refine lv_iconst (v := 0) hx hb dX12_split_0 (by decide) ?_
  refine lv_istore_n (lv' := [(1, .int 0), (0, .ref aX)]) hx hb dX12_split_1 rfl hl (by decide) rfl (fun ls hl => ?_)
  refine lv_iload_n hx hb dX12_split_2 rfl (lv_at hl 0 rfl) ?_
  refine lv_aload_n hx hb dX12_split_3 rfl (lv_at hl 1 rfl) ?_
  refine va_get (D := (dC, dI)) (ci := 15) (v := .int 1) (C := RX12) (T := TX12) (N := 16) hx hb hts (fun _ h => List.mem_cons_of_mem _ (List.mem_append_left _ (List.mem_append_right _ h))) hown hK hP 0 rfl rfl 1 (by decide) (hts (.fieldLink RX12 52 "KnotHouseModel$Net" "comps" "I") (by decide +kernel)) (fun _ h9 => h9) rfl dX12_split_4 ?_
  refine lv_icmp_ge (tgt := 23) hx hb dX12_split_7 (by decide) (fun c9 => absurd c9 (by decide)) (fun _ => ?_)
  refine lv_aload_n hx hb dX12_split_10 rfl (lv_at hl 1 rfl) ?_
  refine va_get (D := (dC, dI)) (ci := 15) (v := .ref (nx 11)) (C := RX12) (T := TX12) (N := 16) hx hb hts (fun _ h => List.mem_cons_of_mem _ (List.mem_append_left _ (List.mem_append_right _ h))) hown hK hP 0 rfl rfl 11 (by decide) (hts (.fieldLink RX12 39 "KnotHouseModel$Net" "part" "[I") (by decide +kernel)) (fun _ h9 => h9) rfl dX12_split_11 ?_
  refine lv_iload_n hx hb dX12_split_14 rfl (lv_at hl 0 rfl) ?_
  refine lv_iconst (v := (-1)) hx hb dX12_split_15 (by decide) ?_
  refine ow_iastU (j := 0) hx hb hK hP hD hS 1 0 rfl rfl rfl (by omega) (by decide) dX12_split_16 (fun f1 H locs ef1 nf1 hP hD hS => ?_)
  have hP : va_P (dC, dI) vwCl [(aX, .inr (15, [.int 0, .int 1, .ref (nx 2), .ref (nx 3), .ref (nx 4), .ref (nx 5), .ref (nx 6), .ref (nx 7), .ref (nx 8), .ref (nx 9), .ref (nx 10), .ref (nx 11), .int x2, .ref (nx 13), .ref (nx 14), .int x3])), ((nx 11), .inl (cI, 40, .inl f1))] H := hP
  have hD : va_D A [(aX, .inr (15, [.int 0, .int 1, .ref (nx 2), .ref (nx 3), .ref (nx 4), .ref (nx 5), .ref (nx 6), .ref (nx 7), .ref (nx 8), .ref (nx 9), .ref (nx 10), .ref (nx 11), .int x2, .ref (nx 13), .ref (nx 14), .int x3])), ((nx 11), .inl (cI, 40, .inl f1))] := hD
  refine lv_iinc (v := 1) (lv' := [(1, .int 1), (0, .ref aX)]) hx hb dX12_split_17 hl (k := 0) rfl (by decide) (by decide) rfl (fun ls hl => ?_)
  refine lv_goto (tgt := 2) hx hb dX12_split_20 (by decide) ?_
  refine lv_iload_n hx hb dX12_split_2 rfl (lv_at hl 0 rfl) ?_
  refine lv_aload_n hx hb dX12_split_3 rfl (lv_at hl 1 rfl) ?_
  refine va_get (D := (dC, dI)) (ci := 15) (v := .int 1) (C := RX12) (T := TX12) (N := 16) hx hb hts (fun _ h => List.mem_cons_of_mem _ (List.mem_append_left _ (List.mem_append_right _ h))) hown hK hP 0 rfl rfl 1 (by decide) (hts (.fieldLink RX12 52 "KnotHouseModel$Net" "comps" "I") (by decide +kernel)) (fun _ h9 => h9) rfl dX12_split_4 ?_
  refine lv_icmp_ge (tgt := 23) hx hb dX12_split_7 (by decide) (fun _ => ?_) (fun c9 => absurd (by decide) c9)
  refine lv_aload_n hx hb dX12_split_23 rfl (lv_at hl 1 rfl) ?_
  refine lv_iconst (v := 0) hx hb dX12_split_24 (by decide) ?_
  refine va_put (D := (dC, dI)) (ci := 15) (v := .int 0) (ty := .int) (C := RX12) (T := TX12) (N := 16) hx hb hts (fun _ h => List.mem_cons_of_mem _ (List.mem_append_left _ (List.mem_append_right _ h))) tyX12 tyX12_ok nmX12 hown hK hP hD hS 0 rfl rfl 12 (by decide) (hts (.fieldLink RX12 69 "KnotHouseModel$Net" "parts" "I") (by decide +kernel)) (fun _ h9 => h9) rfl (by decide +kernel) rfl rfl (Nat.le_of_ble_eq_true rfl) dX12_split_25 (fun H locs hP hD hS => ?_)
  have hP : va_P (dC, dI) vwCl [(aX, .inr (15, [.int 0, .int 1, .ref (nx 2), .ref (nx 3), .ref (nx 4), .ref (nx 5), .ref (nx 6), .ref (nx 7), .ref (nx 8), .ref (nx 9), .ref (nx 10), .ref (nx 11), .int 0, .ref (nx 13), .ref (nx 14), .int x3])), ((nx 11), .inl (cI, 40, .inl f1))] H := hP
  have hD : va_D A [(aX, .inr (15, [.int 0, .int 1, .ref (nx 2), .ref (nx 3), .ref (nx 4), .ref (nx 5), .ref (nx 6), .ref (nx 7), .ref (nx 8), .ref (nx 9), .ref (nx 10), .ref (nx 11), .int 0, .ref (nx 13), .ref (nx 14), .int x3])), ((nx 11), .inl (cI, 40, .inl f1))] := hD
  refine lv_iconst (v := 0) hx hb dX12_split_28 (by decide) ?_
  refine lv_istore_n (lv' := [(1, .int 0), (0, .ref aX)]) hx hb dX12_split_29 rfl hl (by decide) rfl (fun ls hl => ?_)
  refine lv_iload_n hx hb dX12_split_30 rfl (lv_at hl 0 rfl) ?_
  refine lv_aload_n hx hb dX12_split_31 rfl (lv_at hl 1 rfl) ?_
  refine va_get (D := (dC, dI)) (ci := 15) (v := .int 1) (C := RX12) (T := TX12) (N := 16) hx hb hts (fun _ h => List.mem_cons_of_mem _ (List.mem_append_left _ (List.mem_append_right _ h))) hown hK hP 0 rfl rfl 1 (by decide) (hts (.fieldLink RX12 52 "KnotHouseModel$Net" "comps" "I") (by decide +kernel)) (fun _ h9 => h9) rfl dX12_split_32 ?_
  refine lv_icmp_ge (tgt := 161) hx hb dX12_split_35 (by decide) (fun c9 => absurd c9 (by decide)) (fun _ => ?_)
  refine lv_aload_n hx hb dX12_split_38 rfl (lv_at hl 1 rfl) ?_
  refine va_get (D := (dC, dI)) (ci := 15) (v := .ref (nx 11)) (C := RX12) (T := TX12) (N := 16) hx hb hts (fun _ h => List.mem_cons_of_mem _ (List.mem_append_left _ (List.mem_append_right _ h))) hown hK hP 0 rfl rfl 11 (by decide) (hts (.fieldLink RX12 39 "KnotHouseModel$Net" "part" "[I") (by decide +kernel)) (fun _ h9 => h9) rfl dX12_split_39 ?_
  refine lv_iload_n hx hb dX12_split_42 rfl (lv_at hl 0 rfl) ?_
  refine va_iald hx hb hK hP 1 0 rfl rfl (vp_in_nI (n := 0) (N := 40) (by decide) (by decide)) dX12_split_43 ?_
  refine ow_topi (y := (-1)) (ef1) ?_
  refine lv_iconst (v := (-1)) hx hb dX12_split_44 (by decide) ?_
  refine lv_icmp_ne (tgt := 155) hx hb dX12_split_45 (by decide) (fun c9 => absurd c9 (not_not_intro rfl)) (fun _ => ?_)
  refine lv_aload_n hx hb dX12_split_48 rfl (lv_at hl 1 rfl) ?_
  refine va_get (D := (dC, dI)) (ci := 15) (v := .ref (nx 11)) (C := RX12) (T := TX12) (N := 16) hx hb hts (fun _ h => List.mem_cons_of_mem _ (List.mem_append_left _ (List.mem_append_right _ h))) hown hK hP 0 rfl rfl 11 (by decide) (hts (.fieldLink RX12 39 "KnotHouseModel$Net" "part" "[I") (by decide +kernel)) (fun _ h9 => h9) rfl dX12_split_49 ?_
  refine lv_iload_n hx hb dX12_split_52 rfl (lv_at hl 0 rfl) ?_
  refine lv_aload_n hx hb dX12_split_53 rfl (lv_at hl 1 rfl) ?_
  refine va_get (D := (dC, dI)) (ci := 15) (v := .int 0) (C := RX12) (T := TX12) (N := 16) hx hb hts (fun _ h => List.mem_cons_of_mem _ (List.mem_append_left _ (List.mem_append_right _ h))) hown hK hP 0 rfl rfl 12 (by decide) (hts (.fieldLink RX12 69 "KnotHouseModel$Net" "parts" "I") (by decide +kernel)) (fun _ h9 => h9) rfl dX12_split_54 ?_
  refine ow_iastU (j := 0) hx hb hK hP hD hS 1 0 rfl rfl rfl (by omega) (by decide) dX12_split_57 (fun f3 H locs ef3 nf3 hP hD hS => ?_)
  have hP : va_P (dC, dI) vwCl [(aX, .inr (15, [.int 0, .int 1, .ref (nx 2), .ref (nx 3), .ref (nx 4), .ref (nx 5), .ref (nx 6), .ref (nx 7), .ref (nx 8), .ref (nx 9), .ref (nx 10), .ref (nx 11), .int 0, .ref (nx 13), .ref (nx 14), .int x3])), ((nx 11), .inl (cI, 40, .inl f3))] H := hP
  have hD : va_D A [(aX, .inr (15, [.int 0, .int 1, .ref (nx 2), .ref (nx 3), .ref (nx 4), .ref (nx 5), .ref (nx 6), .ref (nx 7), .ref (nx 8), .ref (nx 9), .ref (nx 10), .ref (nx 11), .int 0, .ref (nx 13), .ref (nx 14), .int x3])), ((nx 11), .inl (cI, 40, .inl f3))] := hD
  refine lv_iconst (v := 1) hx hb dX12_split_58 (by decide) ?_
  refine lv_istore_n (lv' := [(2, .int 1), (1, .int 0), (0, .ref aX)]) hx hb dX12_split_59 rfl hl (by decide) rfl (fun ls hl => ?_)
  refine lv_iload_n hx hb dX12_split_60 rfl (lv_at hl 0 rfl) ?_
  refine lv_if_eq (tgt := 145) hx hb dX12_split_61 (by decide) (fun c9 => absurd c9 (by decide)) (fun _ => ?_)
  refine lv_iconst (v := 0) hx hb dX12_split_64 (by decide) ?_
  refine lv_istore_n (lv' := [(2, .int 0), (1, .int 0), (0, .ref aX)]) hx hb dX12_split_65 rfl hl (by decide) rfl (fun ls hl => ?_)
  refine lv_iconst (v := 0) hx hb dX12_split_66 (by decide) ?_
  refine lv_istore_n (lv' := [(3, .int 0), (2, .int 0), (1, .int 0), (0, .ref aX)]) hx hb dX12_split_67 rfl hl (by decide) rfl (fun ls hl => ?_)
  refine lv_iload_n hx hb dX12_split_68 rfl (lv_at hl 0 rfl) ?_
  refine lv_aload_n hx hb dX12_split_69 rfl (lv_at hl 3 rfl) ?_
  refine va_get (D := (dC, dI)) (ci := 15) (v := .int 0) (C := RX12) (T := TX12) (N := 16) hx hb hts (fun _ h => List.mem_cons_of_mem _ (List.mem_append_left _ (List.mem_append_right _ h))) hown hK hP 0 rfl rfl 0 (by decide) (hts (.fieldLink RX12 48 "KnotHouseModel$Net" "visits" "I") (by decide +kernel)) (fun _ h9 => h9) rfl dX12_split_70 ?_
  refine lv_icmp_ge (tgt := 142) hx hb dX12_split_73 (by decide) (fun _ => ?_) (fun c9 => absurd (by decide) c9)
  refine lv_goto (tgt := 60) hx hb dX12_split_142 (by decide) ?_
  refine lv_iload_n hx hb dX12_split_60 rfl (lv_at hl 1 rfl) ?_
  refine lv_if_eq (tgt := 145) hx hb dX12_split_61 (by decide) (fun _ => ?_) (fun c9 => absurd (by decide) c9)
  refine lv_aload_n hx hb dX12_split_145 rfl (lv_at hl 3 rfl) ?_
  refine lv_dup hx hb dX12_split_146 rfl ?_
  refine va_get (D := (dC, dI)) (ci := 15) (v := .int 0) (C := RX12) (T := TX12) (N := 16) hx hb hts (fun _ h => List.mem_cons_of_mem _ (List.mem_append_left _ (List.mem_append_right _ h))) hown hK hP 0 rfl rfl 12 (by decide) (hts (.fieldLink RX12 69 "KnotHouseModel$Net" "parts" "I") (by decide +kernel)) (fun _ h9 => h9) rfl dX12_split_147 ?_
  refine lv_iconst (v := 1) hx hb dX12_split_150 (by decide) ?_
  refine lv_iadd hx hb dX12_split_151 ?_
  refine ow_topi (y := 1) (by decide) ?_
  refine va_put (D := (dC, dI)) (ci := 15) (v := .int (1)) (ty := .int) (C := RX12) (T := TX12) (N := 16) hx hb hts (fun _ h => List.mem_cons_of_mem _ (List.mem_append_left _ (List.mem_append_right _ h))) tyX12 tyX12_ok nmX12 hown hK hP hD hS 0 rfl rfl 12 (by decide) (hts (.fieldLink RX12 69 "KnotHouseModel$Net" "parts" "I") (by decide +kernel)) (fun _ h9 => h9) rfl (by decide +kernel) rfl rfl (Nat.le_of_ble_eq_true rfl) dX12_split_152 (fun H locs hP hD hS => ?_)
  have hP : va_P (dC, dI) vwCl [(aX, .inr (15, [.int 0, .int 1, .ref (nx 2), .ref (nx 3), .ref (nx 4), .ref (nx 5), .ref (nx 6), .ref (nx 7), .ref (nx 8), .ref (nx 9), .ref (nx 10), .ref (nx 11), .int (1), .ref (nx 13), .ref (nx 14), .int x3])), ((nx 11), .inl (cI, 40, .inl f3))] H := hP
  have hD : va_D A [(aX, .inr (15, [.int 0, .int 1, .ref (nx 2), .ref (nx 3), .ref (nx 4), .ref (nx 5), .ref (nx 6), .ref (nx 7), .ref (nx 8), .ref (nx 9), .ref (nx 10), .ref (nx 11), .int (1), .ref (nx 13), .ref (nx 14), .int x3])), ((nx 11), .inl (cI, 40, .inl f3))] := hD
  refine lv_iinc (v := 1) (lv' := [(1, .int 1), (3, .int 0), (2, .int 0), (0, .ref aX)]) hx hb dX12_split_155 hl (k := 2) rfl (by decide) (by decide) rfl (fun ls hl => ?_)
  refine lv_goto (tgt := 30) hx hb dX12_split_158 (by decide) ?_
  refine lv_iload_n hx hb dX12_split_30 rfl (lv_at hl 0 rfl) ?_
  refine lv_aload_n hx hb dX12_split_31 rfl (lv_at hl 3 rfl) ?_
  refine va_get (D := (dC, dI)) (ci := 15) (v := .int 1) (C := RX12) (T := TX12) (N := 16) hx hb hts (fun _ h => List.mem_cons_of_mem _ (List.mem_append_left _ (List.mem_append_right _ h))) hown hK hP 0 rfl rfl 1 (by decide) (hts (.fieldLink RX12 52 "KnotHouseModel$Net" "comps" "I") (by decide +kernel)) (fun _ h9 => h9) rfl dX12_split_32 ?_
  refine lv_icmp_ge (tgt := 161) hx hb dX12_split_35 (by decide) (fun _ => ?_) (fun c9 => absurd (by decide) c9)
  rw [hQQ]
  exact W.vret hx hb hr (fun t ht hW => ⟨⟨f3, rfl, ef3, by rw [ht]; exact hP, hD⟩, hS.F ht⟩) hS.2.2 dX12_split_161
theorem dX12_walk_0 : decode cX12_walk 0 = .ok (.iconst 0, 1) := by decide +kernel
theorem dX12_walk_1 : decode cX12_walk 1 = .ok (.istore_n 1, 1) := by decide +kernel
theorem dX12_walk_2 : decode cX12_walk 2 = .ok (.iload_n 1, 1) := by decide +kernel
theorem dX12_walk_3 : decode cX12_walk 3 = .ok (.iconst 2, 1) := by decide +kernel
theorem dX12_walk_4 : decode cX12_walk 4 = .ok (.aload_n 0, 1) := by decide +kernel
theorem dX12_walk_5 : decode cX12_walk 5 = .ok (.getfield 48, 3) := by decide +kernel
theorem dX12_walk_8 : decode cX12_walk 8 = .ok (.imul, 1) := by decide +kernel
theorem dX12_walk_9 : decode cX12_walk 9 = .ok (.if_icmp .ge 16, 3) := by decide +kernel
theorem dX12_walk_25 : decode cX12_walk 25 = .ok (.aload_n 0, 1) := by decide +kernel
theorem dX12_walk_26 : decode cX12_walk 26 = .ok (.iconst 0, 1) := by decide +kernel
theorem dX12_walk_27 : decode cX12_walk 27 = .ok (.putfield 72, 3) := by decide +kernel
theorem dX12_walk_30 : decode cX12_walk 30 = .ok (.iconst 0, 1) := by decide +kernel
theorem dX12_walk_31 : decode cX12_walk 31 = .ok (.istore_n 1, 1) := by decide +kernel
theorem dX12_walk_32 : decode cX12_walk 32 = .ok (.iload_n 1, 1) := by decide +kernel
theorem dX12_walk_33 : decode cX12_walk 33 = .ok (.iconst 2, 1) := by decide +kernel
theorem dX12_walk_34 : decode cX12_walk 34 = .ok (.aload_n 0, 1) := by decide +kernel
theorem dX12_walk_35 : decode cX12_walk 35 = .ok (.getfield 48, 3) := by decide +kernel
theorem dX12_walk_38 : decode cX12_walk 38 = .ok (.imul, 1) := by decide +kernel
theorem dX12_walk_39 : decode cX12_walk 39 = .ok (.if_icmp .ge 202, 3) := by decide +kernel
theorem dX12_walk_241 : decode cX12_walk 241 = .ok (.return_, 1) := by decide +kernel
def wf_Nwalk : List Cond := .code yX12_walk cX12_walk 7 none :: ([.fieldLink RX12 48 "KnotHouseModel$Net" "visits" "I", .fieldLink RX12 72 "KnotHouseModel$Net" "faces" "I"] ++ wsX120 ++ [])
set_option maxHeartbeats 4000000 in
set_option maxRecDepth 100000 in
theorem kf_X12_walk (l : Launch) (dC : Nat → ClassId) (dI : Nat → Nat → Nat) (cI cB cJ cZ : ClassId) (aX : Nat) (nx : Nat → Nat) (x2 x3 : Int32) (sz : Nat) : Met l yX12_walk wf_Nwalk (({ frames := 0, cells := 0, slots := 0, locals := 0 } : Room)) (va_Pc [.ref aX] (fun U => U.heap.size = sz ∧ va_P (dC, dI) vwCl [(aX, .inr (15, [.int 0, .int 1, .ref (nx 2), .ref (nx 3), .ref (nx 4), .ref (nx 5), .ref (nx 6), .ref (nx 7), .ref (nx 8), .ref (nx 9), .ref (nx 10), .ref (nx 11), .int x2, .ref (nx 13), .ref (nx 14), .int x3]))] U.heap ∧ va_K (dC, dI) vwCl [(cI, .int), (cB, .byte), (cJ, .long), (cZ, .boolean)] U ∧ va_D (fun _ => True) [(aX, .inr (15, [.int 0, .int 1, .ref (nx 2), .ref (nx 3), .ref (nx 4), .ref (nx 5), .ref (nx 6), .ref (nx 7), .ref (nx 8), .ref (nx 9), .ref (nx 10), .ref (nx 11), .int x2, .ref (nx 13), .ref (nx 14), .int x3]))])) (va_Qv (fun (g : Unit) => True) (fun g t => va_P (dC, dI) vwCl [(aX, .inr (15, [.int 0, .int 1, .ref (nx 2), .ref (nx 3), .ref (nx 4), .ref (nx 5), .ref (nx 6), .ref (nx 7), .ref (nx 8), .ref (nx 9), .ref (nx 10), .ref (nx 11), .int x2, .ref (nx 13), .ref (nx 14), .int 0]))] t.heap ∧ va_D (va_A [(aX, .inr (15, [.int 0, .int 1, .ref (nx 2), .ref (nx 3), .ref (nx 4), .ref (nx 5), .ref (nx 6), .ref (nx 7), .ref (nx 8), .ref (nx 9), .ref (nx 10), .ref (nx 11), .int x2, .ref (nx 13), .ref (nx 14), .int x3]))] sz) [(aX, .inr (15, [.int 0, .int 1, .ref (nx 2), .ref (nx 3), .ref (nx 4), .ref (nx 5), .ref (nx 6), .ref (nx 7), .ref (nx 8), .ref (nx 9), .ref (nx 10), .ref (nx 11), .int x2, .ref (nx 13), .ref (nx 14), .int 0]))]) (va_A [(aX, .inr (15, [.int 0, .int 1, .ref (nx 2), .ref (nx 3), .ref (nx 4), .ref (nx 5), .ref (nx 6), .ref (nx 7), .ref (nx 8), .ref (nx 9), .ref (nx 10), .ref (nx 11), .int x2, .ref (nx 13), .ref (nx 14), .int x3]))] sz)) 0 0 (va_A [(aX, .inr (15, [.int 0, .int 1, .ref (nx 2), .ref (nx 3), .ref (nx 4), .ref (nx 5), .ref (nx 6), .ref (nx 7), .ref (nx 8), .ref (nx 9), .ref (nx 10), .ref (nx 11), .int x2, .ref (nx 13), .ref (nx 14), .int x3]))] sz) := by
  refine Met.ofW (cc := cX12_walk) (maxL := 7) (ret := none) (by decide) rfl ?_
  intro p e s m args below meth c s₁ B hml hv
  obtain ⟨rfl, hsz, hP, hK, hD0⟩ := hv
  have hx := B.exec
  have hb := B.bytes
  have hr := B.returns
  have hts := atoms_spec (ws := wf_Nwalk) B.pre
  have hown : s.vm.findClass RX12 = some m.cls := findClass_of_methodNamed B.named
  have hlocks := B.notSynchronized
  subst hsz
  have hD := hD0.self (sz := s.heap.size)
  generalize hAe : va_A [(aX, .inr (15, [.int 0, .int 1, .ref (nx 2), .ref (nx 3), .ref (nx 4), .ref (nx 5), .ref (nx 6), .ref (nx 7), .ref (nx 8), .ref (nx 9), .ref (nx 10), .ref (nx 11), .int x2, .ref (nx 13), .ref (nx 14), .int x3]))] s.heap.size = A at hD ⊢
  have hA : ∀ q : Nat, s.heap.size ≤ q → A q := fun q h => by rw [← hAe]; exact Or.inr h
  have hS : va_S A s.heap s.heap [] := va_S.rf
  have hP : va_P (dC, dI) vwCl [(aX, .inr (15, [.int 0, .int 1, .ref (nx 2), .ref (nx 3), .ref (nx 4), .ref (nx 5), .ref (nx 6), .ref (nx 7), .ref (nx 8), .ref (nx 9), .ref (nx 10), .ref (nx 11), .int x2, .ref (nx 13), .ref (nx 14), .int x3]))] s.heap := hP
  have hl := lv_entry ([.ref aX]) (n := 7) (Nat.le_of_ble_eq_true rfl)
  rw [lg_entry_eq]
  generalize (lg_sl ([.ref aX]) ++ List.replicate (7 - (lg_sl ([.ref aX])).length) Slot.unset).toArray = ls at hl ⊢
  have hl : lv_has ls 7 [(0, .ref aX)] := hl
  refine ow_named (fun QQ hQQ => ?_)
  refine lv_iconst (v := 0) hx hb dX12_walk_0 (by decide) ?_
  refine lv_istore_n (lv' := [(1, .int 0), (0, .ref aX)]) hx hb dX12_walk_1 rfl hl (by decide) rfl (fun ls hl => ?_)
  refine lv_iload_n hx hb dX12_walk_2 rfl (lv_at hl 0 rfl) ?_
  refine lv_iconst (v := 2) hx hb dX12_walk_3 (by decide) ?_
  refine lv_aload_n hx hb dX12_walk_4 rfl (lv_at hl 1 rfl) ?_
  refine va_get (D := (dC, dI)) (ci := 15) (v := .int 0) (C := RX12) (T := TX12) (N := 16) hx hb hts (fun _ h => List.mem_cons_of_mem _ (List.mem_append_left _ (List.mem_append_right _ h))) hown hK hP 0 rfl rfl 0 (by decide) (hts (.fieldLink RX12 48 "KnotHouseModel$Net" "visits" "I") (by decide +kernel)) (fun _ h9 => h9) rfl dX12_walk_5 ?_
  refine lv_imul hx hb dX12_walk_8 ?_
  refine ow_topi (y := 0) (by decide) ?_
  refine lv_icmp_ge (tgt := 25) hx hb dX12_walk_9 (by decide) (fun _ => ?_) (fun c9 => absurd (by decide) c9)
  refine lv_aload_n hx hb dX12_walk_25 rfl (lv_at hl 1 rfl) ?_
  refine lv_iconst (v := 0) hx hb dX12_walk_26 (by decide) ?_
  refine va_put (D := (dC, dI)) (ci := 15) (v := .int 0) (ty := .int) (C := RX12) (T := TX12) (N := 16) hx hb hts (fun _ h => List.mem_cons_of_mem _ (List.mem_append_left _ (List.mem_append_right _ h))) tyX12 tyX12_ok nmX12 hown hK hP hD hS 0 rfl rfl 15 (by decide) (hts (.fieldLink RX12 72 "KnotHouseModel$Net" "faces" "I") (by decide +kernel)) (fun _ h9 => h9) rfl (by decide +kernel) rfl rfl (Nat.le_of_ble_eq_true rfl) dX12_walk_27 (fun H locs hP hD hS => ?_)
  have hP : va_P (dC, dI) vwCl [(aX, .inr (15, [.int 0, .int 1, .ref (nx 2), .ref (nx 3), .ref (nx 4), .ref (nx 5), .ref (nx 6), .ref (nx 7), .ref (nx 8), .ref (nx 9), .ref (nx 10), .ref (nx 11), .int x2, .ref (nx 13), .ref (nx 14), .int 0]))] H := hP
  have hD : va_D A [(aX, .inr (15, [.int 0, .int 1, .ref (nx 2), .ref (nx 3), .ref (nx 4), .ref (nx 5), .ref (nx 6), .ref (nx 7), .ref (nx 8), .ref (nx 9), .ref (nx 10), .ref (nx 11), .int x2, .ref (nx 13), .ref (nx 14), .int 0]))] := hD
  refine lv_iconst (v := 0) hx hb dX12_walk_30 (by decide) ?_
  refine lv_istore_n (lv' := [(1, .int 0), (0, .ref aX)]) hx hb dX12_walk_31 rfl hl (by decide) rfl (fun ls hl => ?_)
  refine lv_iload_n hx hb dX12_walk_32 rfl (lv_at hl 0 rfl) ?_
  refine lv_iconst (v := 2) hx hb dX12_walk_33 (by decide) ?_
  refine lv_aload_n hx hb dX12_walk_34 rfl (lv_at hl 1 rfl) ?_
  refine va_get (D := (dC, dI)) (ci := 15) (v := .int 0) (C := RX12) (T := TX12) (N := 16) hx hb hts (fun _ h => List.mem_cons_of_mem _ (List.mem_append_left _ (List.mem_append_right _ h))) hown hK hP 0 rfl rfl 0 (by decide) (hts (.fieldLink RX12 48 "KnotHouseModel$Net" "visits" "I") (by decide +kernel)) (fun _ h9 => h9) rfl dX12_walk_35 ?_
  refine lv_imul hx hb dX12_walk_38 ?_
  refine ow_topi (y := 0) (by decide) ?_
  refine lv_icmp_ge (tgt := 241) hx hb dX12_walk_39 (by decide) (fun _ => ?_) (fun c9 => absurd (by decide) c9)
  rw [hQQ]
  exact W.vret hx hb hr (fun t ht hW => ⟨⟨(), rfl, trivial, by rw [ht]; exact hP, hD⟩, hS.F ht⟩) hS.2.2 dX12_walk_241
theorem dX12_isCircle_0 : decode cX12_isCircle 0 = .ok (.aload_n 0, 1) := by decide +kernel
theorem dX12_isCircle_1 : decode cX12_isCircle 1 = .ok (.getfield 9, 3) := by decide +kernel
theorem dX12_isCircle_4 : decode cX12_isCircle 4 = .ok (.iload_n 1, 1) := by decide +kernel
theorem dX12_isCircle_5 : decode cX12_isCircle 5 = .ok (.iaload, 1) := by decide +kernel
theorem dX12_isCircle_6 : decode cX12_isCircle 6 = .ok (.aload_n 0, 1) := by decide +kernel
theorem dX12_isCircle_7 : decode cX12_isCircle 7 = .ok (.getfield 9, 3) := by decide +kernel
theorem dX12_isCircle_10 : decode cX12_isCircle 10 = .ok (.iload_n 1, 1) := by decide +kernel
theorem dX12_isCircle_11 : decode cX12_isCircle 11 = .ok (.iconst 1, 1) := by decide +kernel
theorem dX12_isCircle_12 : decode cX12_isCircle 12 = .ok (.iadd, 1) := by decide +kernel
theorem dX12_isCircle_13 : decode cX12_isCircle 13 = .ok (.iaload, 1) := by decide +kernel
theorem dX12_isCircle_14 : decode cX12_isCircle 14 = .ok (.if_icmp .ne 7, 3) := by decide +kernel
theorem dX12_isCircle_17 : decode cX12_isCircle 17 = .ok (.iconst 1, 1) := by decide +kernel
theorem dX12_isCircle_18 : decode cX12_isCircle 18 = .ok (.goto 4, 3) := by decide +kernel
theorem dX12_isCircle_21 : decode cX12_isCircle 21 = .ok (.iconst 0, 1) := by decide +kernel
theorem dX12_isCircle_22 : decode cX12_isCircle 22 = .ok (.ireturn, 1) := by decide +kernel
def wf_NisCircle : List Cond := .code yX12_isCircle cX12_isCircle 2 (some .boolean) :: ([.fieldLink RX12 9 "KnotHouseModel$Net" "begin" "[I"] ++ wsX120 ++ [])
set_option maxHeartbeats 4000000 in
set_option maxRecDepth 100000 in
theorem kf_X12_isCircle (l : Launch) (dC : Nat → ClassId) (dI : Nat → Nat → Nat) (cI cB cJ cZ : ClassId) (aX : Nat) (nx : Nat → Nat) (x2 x3 : Int32) (fB : Nat → Int32) (hB : fB 0 = 0 ∧ fB 1 = 0) (sz : Nat) : Met l yX12_isCircle wf_NisCircle (({ frames := 0, cells := 0, slots := 0, locals := 0 } : Room)) (va_Pc [.ref aX, .int 0] (fun U => U.heap.size = sz ∧ va_P (dC, dI) vwCl [(aX, .inr (15, [.int 0, .int 1, .ref (nx 2), .ref (nx 3), .ref (nx 4), .ref (nx 5), .ref (nx 6), .ref (nx 7), .ref (nx 8), .ref (nx 9), .ref (nx 10), .ref (nx 11), .int x2, .ref (nx 13), .ref (nx 14), .int x3])), ((nx 2), .inl (cI, 40, .inl fB))] U.heap ∧ va_K (dC, dI) vwCl [(cI, .int), (cB, .byte), (cJ, .long), (cZ, .boolean)] U ∧ va_D (fun _ => True) [(aX, .inr (15, [.int 0, .int 1, .ref (nx 2), .ref (nx 3), .ref (nx 4), .ref (nx 5), .ref (nx 6), .ref (nx 7), .ref (nx 8), .ref (nx 9), .ref (nx 10), .ref (nx 11), .int x2, .ref (nx 13), .ref (nx 14), .int x3])), ((nx 2), .inl (cI, 40, .inl fB))])) (va_Qi (fun r (g : Unit) => r = 1) (fun g t => va_P (dC, dI) vwCl [(aX, .inr (15, [.int 0, .int 1, .ref (nx 2), .ref (nx 3), .ref (nx 4), .ref (nx 5), .ref (nx 6), .ref (nx 7), .ref (nx 8), .ref (nx 9), .ref (nx 10), .ref (nx 11), .int x2, .ref (nx 13), .ref (nx 14), .int x3])), ((nx 2), .inl (cI, 40, .inl fB))] t.heap ∧ va_D (va_A [(aX, .inr (15, [.int 0, .int 1, .ref (nx 2), .ref (nx 3), .ref (nx 4), .ref (nx 5), .ref (nx 6), .ref (nx 7), .ref (nx 8), .ref (nx 9), .ref (nx 10), .ref (nx 11), .int x2, .ref (nx 13), .ref (nx 14), .int x3])), ((nx 2), .inl (cI, 40, .inl fB))] sz) [(aX, .inr (15, [.int 0, .int 1, .ref (nx 2), .ref (nx 3), .ref (nx 4), .ref (nx 5), .ref (nx 6), .ref (nx 7), .ref (nx 8), .ref (nx 9), .ref (nx 10), .ref (nx 11), .int x2, .ref (nx 13), .ref (nx 14), .int x3])), ((nx 2), .inl (cI, 40, .inl fB))]) (va_A [(aX, .inr (15, [.int 0, .int 1, .ref (nx 2), .ref (nx 3), .ref (nx 4), .ref (nx 5), .ref (nx 6), .ref (nx 7), .ref (nx 8), .ref (nx 9), .ref (nx 10), .ref (nx 11), .int x2, .ref (nx 13), .ref (nx 14), .int x3])), ((nx 2), .inl (cI, 40, .inl fB))] sz)) 0 0 (va_A [(aX, .inr (15, [.int 0, .int 1, .ref (nx 2), .ref (nx 3), .ref (nx 4), .ref (nx 5), .ref (nx 6), .ref (nx 7), .ref (nx 8), .ref (nx 9), .ref (nx 10), .ref (nx 11), .int x2, .ref (nx 13), .ref (nx 14), .int x3])), ((nx 2), .inl (cI, 40, .inl fB))] sz) := by
  refine Met.ofW (cc := cX12_isCircle) (maxL := 2) (ret := (some .boolean)) (by decide) rfl ?_
  intro p e s m args below meth c s₁ B hml hv
  obtain ⟨rfl, hsz, hP, hK, hD0⟩ := hv
  have hx := B.exec
  have hb := B.bytes
  have hr := B.returns
  have hts := atoms_spec (ws := wf_NisCircle) B.pre
  have hown : s.vm.findClass RX12 = some m.cls := findClass_of_methodNamed B.named
  have hlocks := B.notSynchronized
  subst hsz
  have hD := hD0.self (sz := s.heap.size)
  generalize hAe : va_A [(aX, .inr (15, [.int 0, .int 1, .ref (nx 2), .ref (nx 3), .ref (nx 4), .ref (nx 5), .ref (nx 6), .ref (nx 7), .ref (nx 8), .ref (nx 9), .ref (nx 10), .ref (nx 11), .int x2, .ref (nx 13), .ref (nx 14), .int x3])), ((nx 2), .inl (cI, 40, .inl fB))] s.heap.size = A at hD ⊢
  have hA : ∀ q : Nat, s.heap.size ≤ q → A q := fun q h => by rw [← hAe]; exact Or.inr h
  have hS : va_S A s.heap s.heap [] := va_S.rf
  have hP : va_P (dC, dI) vwCl [(aX, .inr (15, [.int 0, .int 1, .ref (nx 2), .ref (nx 3), .ref (nx 4), .ref (nx 5), .ref (nx 6), .ref (nx 7), .ref (nx 8), .ref (nx 9), .ref (nx 10), .ref (nx 11), .int x2, .ref (nx 13), .ref (nx 14), .int x3])), ((nx 2), .inl (cI, 40, .inl fB))] s.heap := hP
  have hl := lv_entry ([.ref aX, .int 0]) (n := 2) (Nat.le_of_ble_eq_true rfl)
  rw [lg_entry_eq]
  generalize (lg_sl ([.ref aX, .int 0]) ++ List.replicate (2 - (lg_sl ([.ref aX, .int 0])).length) Slot.unset).toArray = ls at hl ⊢
  have hl : lv_has ls 2 [(0, .ref aX), (1, .int 0)] := hl
  refine ow_named (fun QQ hQQ => ?_)
  refine lv_aload_n hx hb dX12_isCircle_0 rfl (lv_at hl 0 rfl) ?_
  refine va_get (D := (dC, dI)) (ci := 15) (v := .ref (nx 2)) (C := RX12) (T := TX12) (N := 16) hx hb hts (fun _ h => List.mem_cons_of_mem _ (List.mem_append_left _ (List.mem_append_right _ h))) hown hK hP 0 rfl rfl 2 (by decide) (hts (.fieldLink RX12 9 "KnotHouseModel$Net" "begin" "[I") (by decide +kernel)) (fun _ h9 => h9) rfl dX12_isCircle_1 ?_
  refine lv_iload_n hx hb dX12_isCircle_4 rfl (lv_at hl 1 rfl) ?_
  refine va_iald hx hb hK hP 1 0 rfl rfl (vp_in_nI (n := 0) (N := 40) (by decide) (by decide)) dX12_isCircle_5 ?_
  refine ow_topi (y := 0) (hB.1) ?_
  refine lv_aload_n hx hb dX12_isCircle_6 rfl (lv_at hl 0 rfl) ?_
  refine va_get (D := (dC, dI)) (ci := 15) (v := .ref (nx 2)) (C := RX12) (T := TX12) (N := 16) hx hb hts (fun _ h => List.mem_cons_of_mem _ (List.mem_append_left _ (List.mem_append_right _ h))) hown hK hP 0 rfl rfl 2 (by decide) (hts (.fieldLink RX12 9 "KnotHouseModel$Net" "begin" "[I") (by decide +kernel)) (fun _ h9 => h9) rfl dX12_isCircle_7 ?_
  refine lv_iload_n hx hb dX12_isCircle_10 rfl (lv_at hl 1 rfl) ?_
  refine lv_iconst (v := 1) hx hb dX12_isCircle_11 (by decide) ?_
  refine lv_iadd hx hb dX12_isCircle_12 ?_
  refine ow_topi (y := 1) (by decide) ?_
  refine va_iald hx hb hK hP 1 0 rfl rfl (vp_in_nI (n := 1) (N := 40) (by decide) (by decide)) dX12_isCircle_13 ?_
  refine ow_topi (y := 0) (hB.2) ?_
  refine lv_icmp_ne (tgt := 21) hx hb dX12_isCircle_14 (by decide) (fun c9 => absurd c9 (not_not_intro rfl)) (fun _ => ?_)
  refine lv_iconst (v := 1) hx hb dX12_isCircle_17 (by decide) ?_
  refine lv_goto (tgt := 22) hx hb dX12_isCircle_18 (by decide) ?_
  rw [hQQ]
  exact W.zret (v := 1) (ty := .boolean) hx hb hr rfl (fun t ht hW => ⟨⟨1, (), rfl, rfl, by rw [ht]; exact hP, hD⟩, hS.F ht⟩) hS.2.2 dX12_isCircle_22
theorem dX12_isPlane_0 : decode cX12_isPlane 0 = .ok (.aload_n 0, 1) := by decide +kernel
theorem dX12_isPlane_1 : decode cX12_isPlane 1 = .ok (.invokevirtual 75, 3) := by decide +kernel
theorem dX12_isPlane_4 : decode cX12_isPlane 4 = .ok (.aload_n 0, 1) := by decide +kernel
theorem dX12_isPlane_5 : decode cX12_isPlane 5 = .ok (.invokevirtual 78, 3) := by decide +kernel
theorem dX12_isPlane_8 : decode cX12_isPlane 8 = .ok (.aload_n 0, 1) := by decide +kernel
theorem dX12_isPlane_9 : decode cX12_isPlane 9 = .ok (.getfield 48, 3) := by decide +kernel
theorem dX12_isPlane_12 : decode cX12_isPlane 12 = .ok (.iconst 2, 1) := by decide +kernel
theorem dX12_isPlane_13 : decode cX12_isPlane 13 = .ok (.idiv, 1) := by decide +kernel
theorem dX12_isPlane_14 : decode cX12_isPlane 14 = .ok (.istore_n 1, 1) := by decide +kernel
theorem dX12_isPlane_15 : decode cX12_isPlane 15 = .ok (.iconst 0, 1) := by decide +kernel
theorem dX12_isPlane_16 : decode cX12_isPlane 16 = .ok (.istore_n 2, 1) := by decide +kernel
theorem dX12_isPlane_17 : decode cX12_isPlane 17 = .ok (.iload_n 2, 1) := by decide +kernel
theorem dX12_isPlane_18 : decode cX12_isPlane 18 = .ok (.aload_n 0, 1) := by decide +kernel
theorem dX12_isPlane_19 : decode cX12_isPlane 19 = .ok (.getfield 69, 3) := by decide +kernel
theorem dX12_isPlane_22 : decode cX12_isPlane 22 = .ok (.if_icmp .ge 69, 3) := by decide +kernel
theorem dX12_isPlane_25 : decode cX12_isPlane 25 = .ok (.iconst 0, 1) := by decide +kernel
theorem dX12_isPlane_26 : decode cX12_isPlane 26 = .ok (.istore_n 3, 1) := by decide +kernel
theorem dX12_isPlane_27 : decode cX12_isPlane 27 = .ok (.iconst 0, 1) := by decide +kernel
theorem dX12_isPlane_28 : decode cX12_isPlane 28 = .ok (.istore 4, 2) := by decide +kernel
theorem dX12_isPlane_30 : decode cX12_isPlane 30 = .ok (.iload 4, 2) := by decide +kernel
theorem dX12_isPlane_32 : decode cX12_isPlane 32 = .ok (.aload_n 0, 1) := by decide +kernel
theorem dX12_isPlane_33 : decode cX12_isPlane 33 = .ok (.getfield 52, 3) := by decide +kernel
theorem dX12_isPlane_36 : decode cX12_isPlane 36 = .ok (.if_icmp .ge 37, 3) := by decide +kernel
theorem dX12_isPlane_39 : decode cX12_isPlane 39 = .ok (.iload_n 3, 1) := by decide +kernel
theorem dX12_isPlane_40 : decode cX12_isPlane 40 = .ok (.aload_n 0, 1) := by decide +kernel
theorem dX12_isPlane_41 : decode cX12_isPlane 41 = .ok (.getfield 39, 3) := by decide +kernel
theorem dX12_isPlane_44 : decode cX12_isPlane 44 = .ok (.iload 4, 2) := by decide +kernel
theorem dX12_isPlane_46 : decode cX12_isPlane 46 = .ok (.iaload, 1) := by decide +kernel
theorem dX12_isPlane_47 : decode cX12_isPlane 47 = .ok (.iload_n 2, 1) := by decide +kernel
theorem dX12_isPlane_48 : decode cX12_isPlane 48 = .ok (.if_icmp .ne 16, 3) := by decide +kernel
theorem dX12_isPlane_51 : decode cX12_isPlane 51 = .ok (.aload_n 0, 1) := by decide +kernel
theorem dX12_isPlane_52 : decode cX12_isPlane 52 = .ok (.iload 4, 2) := by decide +kernel
theorem dX12_isPlane_54 : decode cX12_isPlane 54 = .ok (.invokevirtual 81, 3) := by decide +kernel
theorem dX12_isPlane_57 : decode cX12_isPlane 57 = .ok (.ifCond .ne 7, 3) := by decide +kernel
theorem dX12_isPlane_60 : decode cX12_isPlane 60 = .ok (.iconst 1, 1) := by decide +kernel
theorem dX12_isPlane_61 : decode cX12_isPlane 61 = .ok (.goto 4, 3) := by decide +kernel
theorem dX12_isPlane_64 : decode cX12_isPlane 64 = .ok (.iconst 0, 1) := by decide +kernel
theorem dX12_isPlane_65 : decode cX12_isPlane 65 = .ok (.ior, 1) := by decide +kernel
theorem dX12_isPlane_66 : decode cX12_isPlane 66 = .ok (.istore_n 3, 1) := by decide +kernel
theorem dX12_isPlane_67 : decode cX12_isPlane 67 = .ok (.iinc 4 1, 3) := by decide +kernel
theorem dX12_isPlane_70 : decode cX12_isPlane 70 = .ok (.goto (-40), 3) := by decide +kernel
theorem dX12_isPlane_73 : decode cX12_isPlane 73 = .ok (.iload_n 1, 1) := by decide +kernel
theorem dX12_isPlane_74 : decode cX12_isPlane 74 = .ok (.iload_n 3, 1) := by decide +kernel
theorem dX12_isPlane_75 : decode cX12_isPlane 75 = .ok (.ifCond .eq 7, 3) := by decide +kernel
theorem dX12_isPlane_78 : decode cX12_isPlane 78 = .ok (.iconst 2, 1) := by decide +kernel
theorem dX12_isPlane_79 : decode cX12_isPlane 79 = .ok (.goto 4, 3) := by decide +kernel
theorem dX12_isPlane_82 : decode cX12_isPlane 82 = .ok (.iconst 0, 1) := by decide +kernel
theorem dX12_isPlane_83 : decode cX12_isPlane 83 = .ok (.iadd, 1) := by decide +kernel
theorem dX12_isPlane_84 : decode cX12_isPlane 84 = .ok (.istore_n 1, 1) := by decide +kernel
theorem dX12_isPlane_85 : decode cX12_isPlane 85 = .ok (.iinc 2 1, 3) := by decide +kernel
theorem dX12_isPlane_88 : decode cX12_isPlane 88 = .ok (.goto (-71), 3) := by decide +kernel
theorem dX12_isPlane_91 : decode cX12_isPlane 91 = .ok (.aload_n 0, 1) := by decide +kernel
theorem dX12_isPlane_92 : decode cX12_isPlane 92 = .ok (.getfield 72, 3) := by decide +kernel
theorem dX12_isPlane_95 : decode cX12_isPlane 95 = .ok (.iload_n 1, 1) := by decide +kernel
theorem dX12_isPlane_96 : decode cX12_isPlane 96 = .ok (.if_icmp .ne 7, 3) := by decide +kernel
theorem dX12_isPlane_99 : decode cX12_isPlane 99 = .ok (.iconst 1, 1) := by decide +kernel
theorem dX12_isPlane_100 : decode cX12_isPlane 100 = .ok (.goto 4, 3) := by decide +kernel
theorem dX12_isPlane_103 : decode cX12_isPlane 103 = .ok (.iconst 0, 1) := by decide +kernel
theorem dX12_isPlane_104 : decode cX12_isPlane 104 = .ok (.ireturn, 1) := by decide +kernel
def wf_NisPlane : List Cond := .code yX12_isPlane cX12_isPlane 5 (some .boolean) :: ([.fieldLink RX12 48 "KnotHouseModel$Net" "visits" "I", .fieldLink RX12 69 "KnotHouseModel$Net" "parts" "I", .fieldLink RX12 52 "KnotHouseModel$Net" "comps" "I", .fieldLink RX12 39 "KnotHouseModel$Net" "part" "[I", .fieldLink RX12 72 "KnotHouseModel$Net" "faces" "I"] ++ wsX120 ++ (wsV RX12 75 RX12 yX12_split wf_Nsplit ++ (wsV RX12 78 RX12 yX12_walk wf_Nwalk ++ (wsV RX12 81 RX12 yX12_isCircle wf_NisCircle ++ []))))
theorem gf_X12_isPlane_0 : GoodIn wf_NisPlane (wsV RX12 75 RX12 yX12_split wf_Nsplit) := goodIn_sub (fun _ h => List.mem_cons_of_mem _ (List.mem_append_right _ (List.mem_append_left _ h))) (by decide +kernel)
theorem gf_X12_isPlane_1 : GoodIn wf_NisPlane (wsV RX12 78 RX12 yX12_walk wf_Nwalk) := goodIn_sub (fun _ h => List.mem_cons_of_mem _ (List.mem_append_right _ (List.mem_append_right _ (List.mem_append_left _ h)))) (by decide +kernel)
theorem gf_X12_isPlane_2 : GoodIn wf_NisPlane (wsV RX12 81 RX12 yX12_isCircle wf_NisCircle) := goodIn_sub (fun _ h => List.mem_cons_of_mem _ (List.mem_append_right _ (List.mem_append_right _ (List.mem_append_right _ (List.mem_append_left _ h))))) (by decide +kernel)
set_option maxHeartbeats 4000000 in
set_option maxRecDepth 100000 in
theorem kf_X12_isPlane (l : Launch) (dC : Nat → ClassId) (dI : Nat → Nat → Nat) (cI cB cJ cZ : ClassId) (aX : Nat) (nx : Nat → Nat) (x2 x3 : Int32) (fB fP : Nat → Int32) (hB : fB 0 = 0 ∧ fB 1 = 0) (sz : Nat) : Met l yX12_isPlane wf_NisPlane (({ frames := 1, cells := 0, slots := 0, locals := 30 } : Room)) (va_Pc [.ref aX] (fun U => U.heap.size = sz ∧ va_P (dC, dI) vwCl [(aX, .inr (15, [.int 0, .int 1, .ref (nx 2), .ref (nx 3), .ref (nx 4), .ref (nx 5), .ref (nx 6), .ref (nx 7), .ref (nx 8), .ref (nx 9), .ref (nx 10), .ref (nx 11), .int x2, .ref (nx 13), .ref (nx 14), .int x3])), ((nx 2), .inl (cI, 40, .inl fB)), ((nx 11), .inl (cI, 40, .inl fP))] U.heap ∧ va_K (dC, dI) vwCl [(cI, .int), (cB, .byte), (cJ, .long), (cZ, .boolean)] U ∧ va_D (fun _ => True) [(aX, .inr (15, [.int 0, .int 1, .ref (nx 2), .ref (nx 3), .ref (nx 4), .ref (nx 5), .ref (nx 6), .ref (nx 7), .ref (nx 8), .ref (nx 9), .ref (nx 10), .ref (nx 11), .int x2, .ref (nx 13), .ref (nx 14), .int x3])), ((nx 2), .inl (cI, 40, .inl fB)), ((nx 11), .inl (cI, 40, .inl fP))])) (va_Qi (fun r (g : Nat → Int32) => r = 1) (fun g t => va_P (dC, dI) vwCl [(aX, .inr (15, [.int 0, .int 1, .ref (nx 2), .ref (nx 3), .ref (nx 4), .ref (nx 5), .ref (nx 6), .ref (nx 7), .ref (nx 8), .ref (nx 9), .ref (nx 10), .ref (nx 11), .int 1, .ref (nx 13), .ref (nx 14), .int 0])), ((nx 2), .inl (cI, 40, .inl fB)), ((nx 11), .inl (cI, 40, .inl g))] t.heap ∧ va_D (va_A [(aX, .inr (15, [.int 0, .int 1, .ref (nx 2), .ref (nx 3), .ref (nx 4), .ref (nx 5), .ref (nx 6), .ref (nx 7), .ref (nx 8), .ref (nx 9), .ref (nx 10), .ref (nx 11), .int x2, .ref (nx 13), .ref (nx 14), .int x3])), ((nx 2), .inl (cI, 40, .inl fB)), ((nx 11), .inl (cI, 40, .inl fP))] sz) [(aX, .inr (15, [.int 0, .int 1, .ref (nx 2), .ref (nx 3), .ref (nx 4), .ref (nx 5), .ref (nx 6), .ref (nx 7), .ref (nx 8), .ref (nx 9), .ref (nx 10), .ref (nx 11), .int 1, .ref (nx 13), .ref (nx 14), .int 0])), ((nx 2), .inl (cI, 40, .inl fB)), ((nx 11), .inl (cI, 40, .inl g))]) (va_A [(aX, .inr (15, [.int 0, .int 1, .ref (nx 2), .ref (nx 3), .ref (nx 4), .ref (nx 5), .ref (nx 6), .ref (nx 7), .ref (nx 8), .ref (nx 9), .ref (nx 10), .ref (nx 11), .int x2, .ref (nx 13), .ref (nx 14), .int x3])), ((nx 2), .inl (cI, 40, .inl fB)), ((nx 11), .inl (cI, 40, .inl fP))] sz)) 0 0 (va_A [(aX, .inr (15, [.int 0, .int 1, .ref (nx 2), .ref (nx 3), .ref (nx 4), .ref (nx 5), .ref (nx 6), .ref (nx 7), .ref (nx 8), .ref (nx 9), .ref (nx 10), .ref (nx 11), .int x2, .ref (nx 13), .ref (nx 14), .int x3])), ((nx 2), .inl (cI, 40, .inl fB)), ((nx 11), .inl (cI, 40, .inl fP))] sz) := by
  refine Met.ofW (cc := cX12_isPlane) (maxL := 5) (ret := (some .boolean)) (by decide) rfl ?_
  intro p e s m args below meth c s₁ B hml hv
  obtain ⟨rfl, hsz, hP, hK, hD0⟩ := hv
  have hx := B.exec
  have hb := B.bytes
  have hr := B.returns
  have hts := atoms_spec (ws := wf_NisPlane) B.pre
  have hown : s.vm.findClass RX12 = some m.cls := findClass_of_methodNamed B.named
  have hlocks := B.notSynchronized
  subst hsz
  have hD := hD0.self (sz := s.heap.size)
  generalize hAe : va_A [(aX, .inr (15, [.int 0, .int 1, .ref (nx 2), .ref (nx 3), .ref (nx 4), .ref (nx 5), .ref (nx 6), .ref (nx 7), .ref (nx 8), .ref (nx 9), .ref (nx 10), .ref (nx 11), .int x2, .ref (nx 13), .ref (nx 14), .int x3])), ((nx 2), .inl (cI, 40, .inl fB)), ((nx 11), .inl (cI, 40, .inl fP))] s.heap.size = A at hD ⊢
  have hA : ∀ q : Nat, s.heap.size ≤ q → A q := fun q h => by rw [← hAe]; exact Or.inr h
  have hS : va_S A s.heap s.heap [] := va_S.rf
  have hP : va_P (dC, dI) vwCl [(aX, .inr (15, [.int 0, .int 1, .ref (nx 2), .ref (nx 3), .ref (nx 4), .ref (nx 5), .ref (nx 6), .ref (nx 7), .ref (nx 8), .ref (nx 9), .ref (nx 10), .ref (nx 11), .int x2, .ref (nx 13), .ref (nx 14), .int x3])), ((nx 2), .inl (cI, 40, .inl fB)), ((nx 11), .inl (cI, 40, .inl fP))] s.heap := hP
  have hl := lv_entry ([.ref aX]) (n := 5) (Nat.le_of_ble_eq_true rfl)
  rw [lg_entry_eq]
  generalize (lg_sl ([.ref aX]) ++ List.replicate (5 - (lg_sl ([.ref aX])).length) Slot.unset).toArray = ls at hl ⊢
  have hl : lv_has ls 5 [(0, .ref aX)] := hl
  refine ow_named (fun QQ hQQ => ?_)
  refine lv_aload_n hx hb dX12_isPlane_0 rfl (lv_at hl 0 rfl) ?_
  have hPc := hP.sub (ws' := [(aX, .inr (15, [.int 0, .int 1, .ref (nx 2), .ref (nx 3), .ref (nx 4), .ref (nx 5), .ref (nx 6), .ref (nx 7), .ref (nx 8), .ref (nx 9), .ref (nx 10), .ref (nx 11), .int x2, .ref (nx 13), .ref (nx 14), .int x3])), ((nx 11), .inl (cI, 40, .inl fP))]) [0, 2] rfl
  have hDc := hD.sub (ws' := [(aX, .inr (15, [.int 0, .int 1, .ref (nx 2), .ref (nx 3), .ref (nx 4), .ref (nx 5), .ref (nx 6), .ref (nx 7), .ref (nx 8), .ref (nx 9), .ref (nx 10), .ref (nx 11), .int x2, .ref (nx 13), .ref (nx 14), .int x3])), ((nx 11), .inl (cI, 40, .inl fP))]) [0, 2] (by decide) rfl
  have hFc := va_free (wc := [(aX, .inr (15, [.int 0, .int 1, .ref (nx 2), .ref (nx 3), .ref (nx 4), .ref (nx 5), .ref (nx 6), .ref (nx 7), .ref (nx 8), .ref (nx 9), .ref (nx 10), .ref (nx 11), .int x2, .ref (nx 13), .ref (nx 14), .int x3])), ((nx 11), .inl (cI, 40, .inl fP))]) hD hS hA [0, 2] rfl
  refine va_callv (va_runV (As := []) (rest := []) ⟨hx, hb, hml, hown, hts⟩ (kf_X12_split l dC dI cI cB cJ cZ aX nx x2 x3 fP s.heap.size) (cwV 0 hts gf_X12_isPlane_0 rfl rfl rfl (by decide +kernel) ⟨(Nat.le_of_ble_eq_true rfl), (Nat.le_of_ble_eq_true rfl)⟩) ⟨fun a U g mk q => by obtain ⟨q0, q1, qP, qK, qD⟩ := q; exact ⟨q0, q1, qP, va_K.moved (u := U) (U := U.calling g mk a) (Vm.Alike.refl U.vm) qK, qD⟩, va_recv hK hPc (ci := 15) (q0 := 0) rfl rfl, fun U hU hW => ⟨rfl, by rw [hU], by rw [hU]; exact hPc, va_K.moved hW.alike hK, hDc.weaken (fun _ _ _ _ => trivial)⟩⟩ rfl rfl hl.1 rfl (lv_room (Nat.le_of_ble_eq_true rfl)) dX12_isPlane_1 ⟨(Nat.le_of_ble_eq_true rfl), (Nat.le_of_ble_eq_true rfl)⟩) hS (fun q _ h => hFc q h) hFc (fun g1 t H1 locs ht hvm hw hB hz1 hk1 hS => ?_)
  obtain ⟨hP1, hD1⟩ := hB
  rw [ht] at hP1
  obtain ⟨hP, hD⟩ := va_join (wr := [((nx 2), .inl (cI, 40, .inl fB))]) (w1 := [(aX, .inr (15, [.int 0, .int 1, .ref (nx 2), .ref (nx 3), .ref (nx 4), .ref (nx 5), .ref (nx 6), .ref (nx 7), .ref (nx 8), .ref (nx 9), .ref (nx 10), .ref (nx 11), .int 1, .ref (nx 13), .ref (nx 14), .int x3])), ((nx 11), .inl (cI, 40, .inl g1))]) hP hD [0, 2] [1] rfl rfl (by decide) (by decide) hk1 hFc hP1 hD1
  generalize H1 = H at hP hS ⊢
  have hP : va_P (dC, dI) vwCl [((nx 2), .inl (cI, 40, .inl fB)), (aX, .inr (15, [.int 0, .int 1, .ref (nx 2), .ref (nx 3), .ref (nx 4), .ref (nx 5), .ref (nx 6), .ref (nx 7), .ref (nx 8), .ref (nx 9), .ref (nx 10), .ref (nx 11), .int 1, .ref (nx 13), .ref (nx 14), .int x3])), ((nx 11), .inl (cI, 40, .inl g1))] H := hP
  have hD : va_D A [((nx 2), .inl (cI, 40, .inl fB)), (aX, .inr (15, [.int 0, .int 1, .ref (nx 2), .ref (nx 3), .ref (nx 4), .ref (nx 5), .ref (nx 6), .ref (nx 7), .ref (nx 8), .ref (nx 9), .ref (nx 10), .ref (nx 11), .int 1, .ref (nx 13), .ref (nx 14), .int x3])), ((nx 11), .inl (cI, 40, .inl g1))] := hD
  have hP := hP.sub (ws' := [(aX, .inr (15, [.int 0, .int 1, .ref (nx 2), .ref (nx 3), .ref (nx 4), .ref (nx 5), .ref (nx 6), .ref (nx 7), .ref (nx 8), .ref (nx 9), .ref (nx 10), .ref (nx 11), .int 1, .ref (nx 13), .ref (nx 14), .int x3])), ((nx 2), .inl (cI, 40, .inl fB)), ((nx 11), .inl (cI, 40, .inl g1))]) [1, 0, 2] rfl
  have hD := hD.sub (ws' := [(aX, .inr (15, [.int 0, .int 1, .ref (nx 2), .ref (nx 3), .ref (nx 4), .ref (nx 5), .ref (nx 6), .ref (nx 7), .ref (nx 8), .ref (nx 9), .ref (nx 10), .ref (nx 11), .int 1, .ref (nx 13), .ref (nx 14), .int x3])), ((nx 2), .inl (cI, 40, .inl fB)), ((nx 11), .inl (cI, 40, .inl g1))]) [1, 0, 2] (by decide) rfl
  have hg0 : g1 0 = 0 := hw
  refine lv_aload_n hx hb dX12_isPlane_4 rfl (lv_at hl 0 rfl) ?_
  have hPc := hP.sub (ws' := [(aX, .inr (15, [.int 0, .int 1, .ref (nx 2), .ref (nx 3), .ref (nx 4), .ref (nx 5), .ref (nx 6), .ref (nx 7), .ref (nx 8), .ref (nx 9), .ref (nx 10), .ref (nx 11), .int 1, .ref (nx 13), .ref (nx 14), .int x3]))]) [0] rfl
  have hDc := hD.sub (ws' := [(aX, .inr (15, [.int 0, .int 1, .ref (nx 2), .ref (nx 3), .ref (nx 4), .ref (nx 5), .ref (nx 6), .ref (nx 7), .ref (nx 8), .ref (nx 9), .ref (nx 10), .ref (nx 11), .int 1, .ref (nx 13), .ref (nx 14), .int x3]))]) [0] (by decide) rfl
  have hFc := va_free (wc := [(aX, .inr (15, [.int 0, .int 1, .ref (nx 2), .ref (nx 3), .ref (nx 4), .ref (nx 5), .ref (nx 6), .ref (nx 7), .ref (nx 8), .ref (nx 9), .ref (nx 10), .ref (nx 11), .int 1, .ref (nx 13), .ref (nx 14), .int x3]))]) hD hS hA [0] rfl
  refine va_callv (va_runV (As := []) (rest := []) ⟨hx, hb, hml, hown, hts⟩ (kf_X12_walk l dC dI cI cB cJ cZ aX nx 1 x3 H.size) (cwV 0 hts gf_X12_isPlane_1 rfl rfl rfl (by decide +kernel) ⟨(Nat.le_of_ble_eq_true rfl), (Nat.le_of_ble_eq_true rfl)⟩) ⟨fun a U g mk q => by obtain ⟨q0, q1, qP, qK, qD⟩ := q; exact ⟨q0, q1, qP, va_K.moved (u := U) (U := U.calling g mk a) (Vm.Alike.refl U.vm) qK, qD⟩, va_recv hK hPc (ci := 15) (q0 := 0) rfl rfl, fun U hU hW => ⟨rfl, by rw [hU], by rw [hU]; exact hPc, va_K.moved hW.alike hK, hDc.weaken (fun _ _ _ _ => trivial)⟩⟩ rfl rfl hl.1 rfl (lv_room (Nat.le_of_ble_eq_true rfl)) dX12_isPlane_5 ⟨(Nat.le_of_ble_eq_true rfl), (Nat.le_of_ble_eq_true rfl)⟩) hS (fun q _ h => hFc q h) hFc (fun u9 t H1 locs ht hvm hw hB hz1 hk1 hS => ?_)
  obtain ⟨hP1, hD1⟩ := hB
  rw [ht] at hP1
  obtain ⟨hP, hD⟩ := va_join (wr := [((nx 2), .inl (cI, 40, .inl fB)), ((nx 11), .inl (cI, 40, .inl g1))]) (w1 := [(aX, .inr (15, [.int 0, .int 1, .ref (nx 2), .ref (nx 3), .ref (nx 4), .ref (nx 5), .ref (nx 6), .ref (nx 7), .ref (nx 8), .ref (nx 9), .ref (nx 10), .ref (nx 11), .int 1, .ref (nx 13), .ref (nx 14), .int 0]))]) hP hD [0] [1, 2] rfl rfl (by decide) (by decide) hk1 hFc hP1 hD1
  generalize H1 = H at hP hS ⊢
  have hP : va_P (dC, dI) vwCl [((nx 2), .inl (cI, 40, .inl fB)), ((nx 11), .inl (cI, 40, .inl g1)), (aX, .inr (15, [.int 0, .int 1, .ref (nx 2), .ref (nx 3), .ref (nx 4), .ref (nx 5), .ref (nx 6), .ref (nx 7), .ref (nx 8), .ref (nx 9), .ref (nx 10), .ref (nx 11), .int 1, .ref (nx 13), .ref (nx 14), .int 0]))] H := hP
  have hD : va_D A [((nx 2), .inl (cI, 40, .inl fB)), ((nx 11), .inl (cI, 40, .inl g1)), (aX, .inr (15, [.int 0, .int 1, .ref (nx 2), .ref (nx 3), .ref (nx 4), .ref (nx 5), .ref (nx 6), .ref (nx 7), .ref (nx 8), .ref (nx 9), .ref (nx 10), .ref (nx 11), .int 1, .ref (nx 13), .ref (nx 14), .int 0]))] := hD
  have hP := hP.sub (ws' := [(aX, .inr (15, [.int 0, .int 1, .ref (nx 2), .ref (nx 3), .ref (nx 4), .ref (nx 5), .ref (nx 6), .ref (nx 7), .ref (nx 8), .ref (nx 9), .ref (nx 10), .ref (nx 11), .int 1, .ref (nx 13), .ref (nx 14), .int 0])), ((nx 2), .inl (cI, 40, .inl fB)), ((nx 11), .inl (cI, 40, .inl g1))]) [2, 0, 1] rfl
  have hD := hD.sub (ws' := [(aX, .inr (15, [.int 0, .int 1, .ref (nx 2), .ref (nx 3), .ref (nx 4), .ref (nx 5), .ref (nx 6), .ref (nx 7), .ref (nx 8), .ref (nx 9), .ref (nx 10), .ref (nx 11), .int 1, .ref (nx 13), .ref (nx 14), .int 0])), ((nx 2), .inl (cI, 40, .inl fB)), ((nx 11), .inl (cI, 40, .inl g1))]) [2, 0, 1] (by decide) rfl
  refine lv_aload_n hx hb dX12_isPlane_8 rfl (lv_at hl 0 rfl) ?_
  refine va_get (D := (dC, dI)) (ci := 15) (v := .int 0) (C := RX12) (T := TX12) (N := 16) hx hb hts (fun _ h => List.mem_cons_of_mem _ (List.mem_append_left _ (List.mem_append_right _ h))) hown hK hP 0 rfl rfl 0 (by decide) (hts (.fieldLink RX12 48 "KnotHouseModel$Net" "visits" "I") (by decide +kernel)) (fun _ h9 => h9) rfl dX12_isPlane_9 ?_
  refine lv_iconst (v := 2) hx hb dX12_isPlane_12 (by decide) ?_
  refine lv_idiv hx hb dX12_isPlane_13 (by decide) ?_
  refine ow_topi (y := 0) (by decide) ?_
  refine lv_istore_n (lv' := [(1, .int 0), (0, .ref aX)]) hx hb dX12_isPlane_14 rfl hl (by decide) rfl (fun ls hl => ?_)
  refine lv_iconst (v := 0) hx hb dX12_isPlane_15 (by decide) ?_
  refine lv_istore_n (lv' := [(2, .int 0), (1, .int 0), (0, .ref aX)]) hx hb dX12_isPlane_16 rfl hl (by decide) rfl (fun ls hl => ?_)
  refine lv_iload_n hx hb dX12_isPlane_17 rfl (lv_at hl 0 rfl) ?_
  refine lv_aload_n hx hb dX12_isPlane_18 rfl (lv_at hl 2 rfl) ?_
  refine va_get (D := (dC, dI)) (ci := 15) (v := .int 1) (C := RX12) (T := TX12) (N := 16) hx hb hts (fun _ h => List.mem_cons_of_mem _ (List.mem_append_left _ (List.mem_append_right _ h))) hown hK hP 0 rfl rfl 12 (by decide) (hts (.fieldLink RX12 69 "KnotHouseModel$Net" "parts" "I") (by decide +kernel)) (fun _ h9 => h9) rfl dX12_isPlane_19 ?_
  refine lv_icmp_ge (tgt := 91) hx hb dX12_isPlane_22 (by decide) (fun c9 => absurd c9 (by decide)) (fun _ => ?_)
  refine lv_iconst (v := 0) hx hb dX12_isPlane_25 (by decide) ?_
  refine lv_istore_n (lv' := [(3, .int 0), (2, .int 0), (1, .int 0), (0, .ref aX)]) hx hb dX12_isPlane_26 rfl hl (by decide) rfl (fun ls hl => ?_)
  refine lv_iconst (v := 0) hx hb dX12_isPlane_27 (by decide) ?_
  refine lv_istore (lv' := [(4, .int 0), (3, .int 0), (2, .int 0), (1, .int 0), (0, .ref aX)]) hx hb dX12_isPlane_28 hl (by decide) rfl (fun ls hl => ?_)
  refine lv_iload hx hb dX12_isPlane_30 (lv_at hl 0 rfl) ?_
  refine lv_aload_n hx hb dX12_isPlane_32 rfl (lv_at hl 4 rfl) ?_
  refine va_get (D := (dC, dI)) (ci := 15) (v := .int 1) (C := RX12) (T := TX12) (N := 16) hx hb hts (fun _ h => List.mem_cons_of_mem _ (List.mem_append_left _ (List.mem_append_right _ h))) hown hK hP 0 rfl rfl 1 (by decide) (hts (.fieldLink RX12 52 "KnotHouseModel$Net" "comps" "I") (by decide +kernel)) (fun _ h9 => h9) rfl dX12_isPlane_33 ?_
  refine lv_icmp_ge (tgt := 73) hx hb dX12_isPlane_36 (by decide) (fun c9 => absurd c9 (by decide)) (fun _ => ?_)
  refine lv_iload_n hx hb dX12_isPlane_39 rfl (lv_at hl 1 rfl) ?_
  refine lv_aload_n hx hb dX12_isPlane_40 rfl (lv_at hl 4 rfl) ?_
  refine va_get (D := (dC, dI)) (ci := 15) (v := .ref (nx 11)) (C := RX12) (T := TX12) (N := 16) hx hb hts (fun _ h => List.mem_cons_of_mem _ (List.mem_append_left _ (List.mem_append_right _ h))) hown hK hP 0 rfl rfl 11 (by decide) (hts (.fieldLink RX12 39 "KnotHouseModel$Net" "part" "[I") (by decide +kernel)) (fun _ h9 => h9) rfl dX12_isPlane_41 ?_
  refine lv_iload hx hb dX12_isPlane_44 (lv_at hl 0 rfl) ?_
  refine va_iald hx hb hK hP 2 0 rfl rfl (vp_in_nI (n := 0) (N := 40) (by decide) (by decide)) dX12_isPlane_46 ?_
  refine ow_topi (y := 0) (hg0) ?_
  refine lv_iload_n hx hb dX12_isPlane_47 rfl (lv_at hl 2 rfl) ?_
  refine lv_icmp_ne (tgt := 64) hx hb dX12_isPlane_48 (by decide) (fun c9 => absurd c9 (not_not_intro rfl)) (fun _ => ?_)
  refine lv_aload_n hx hb dX12_isPlane_51 rfl (lv_at hl 4 rfl) ?_
  refine lv_iload hx hb dX12_isPlane_52 (lv_at hl 0 rfl) ?_
  have hPc := hP.sub (ws' := [(aX, .inr (15, [.int 0, .int 1, .ref (nx 2), .ref (nx 3), .ref (nx 4), .ref (nx 5), .ref (nx 6), .ref (nx 7), .ref (nx 8), .ref (nx 9), .ref (nx 10), .ref (nx 11), .int 1, .ref (nx 13), .ref (nx 14), .int 0])), ((nx 2), .inl (cI, 40, .inl fB))]) [0, 1] rfl
  have hDc := hD.sub (ws' := [(aX, .inr (15, [.int 0, .int 1, .ref (nx 2), .ref (nx 3), .ref (nx 4), .ref (nx 5), .ref (nx 6), .ref (nx 7), .ref (nx 8), .ref (nx 9), .ref (nx 10), .ref (nx 11), .int 1, .ref (nx 13), .ref (nx 14), .int 0])), ((nx 2), .inl (cI, 40, .inl fB))]) [0, 1] (by decide) rfl
  have hFc := va_free (wc := [(aX, .inr (15, [.int 0, .int 1, .ref (nx 2), .ref (nx 3), .ref (nx 4), .ref (nx 5), .ref (nx 6), .ref (nx 7), .ref (nx 8), .ref (nx 9), .ref (nx 10), .ref (nx 11), .int 1, .ref (nx 13), .ref (nx 14), .int 0])), ((nx 2), .inl (cI, 40, .inl fB))]) hD hS hA [0, 1] rfl
  refine va_calli (va_runV (As := [.int 0]) (rest := [.int 0]) ⟨hx, hb, hml, hown, hts⟩ (kf_X12_isCircle l dC dI cI cB cJ cZ aX nx 1 0 fB hB H.size) (cwV 1 hts gf_X12_isPlane_2 rfl rfl rfl (by decide +kernel) ⟨(Nat.le_of_ble_eq_true rfl), (Nat.le_of_ble_eq_true rfl)⟩) ⟨fun a U g mk q => by obtain ⟨q0, q1, qP, qK, qD⟩ := q; exact ⟨q0, q1, qP, va_K.moved (u := U) (U := U.calling g mk a) (Vm.Alike.refl U.vm) qK, qD⟩, va_recv hK hPc (ci := 15) (q0 := 0) rfl rfl, fun U hU hW => ⟨rfl, by rw [hU], by rw [hU]; exact hPc, va_K.moved hW.alike hK, hDc.weaken (fun _ _ _ _ => trivial)⟩⟩ rfl rfl hl.1 rfl (lv_room (Nat.le_of_ble_eq_true rfl)) dX12_isPlane_54 ⟨(Nat.le_of_ble_eq_true rfl), (Nat.le_of_ble_eq_true rfl)⟩) hS (fun q _ h => hFc q h) hFc (fun r9 u9 t H1 locs ht hvm hw hB hz1 hk1 hS => ?_)
  obtain ⟨hP1, hD1⟩ := hB
  rw [ht] at hP1
  obtain ⟨hP, hD⟩ := va_join (wr := [((nx 11), .inl (cI, 40, .inl g1))]) (w1 := [(aX, .inr (15, [.int 0, .int 1, .ref (nx 2), .ref (nx 3), .ref (nx 4), .ref (nx 5), .ref (nx 6), .ref (nx 7), .ref (nx 8), .ref (nx 9), .ref (nx 10), .ref (nx 11), .int 1, .ref (nx 13), .ref (nx 14), .int 0])), ((nx 2), .inl (cI, 40, .inl fB))]) hP hD [0, 1] [2] rfl rfl (by decide) (by decide) hk1 hFc hP1 hD1
  generalize H1 = H at hP hS ⊢
  have hP : va_P (dC, dI) vwCl [((nx 11), .inl (cI, 40, .inl g1)), (aX, .inr (15, [.int 0, .int 1, .ref (nx 2), .ref (nx 3), .ref (nx 4), .ref (nx 5), .ref (nx 6), .ref (nx 7), .ref (nx 8), .ref (nx 9), .ref (nx 10), .ref (nx 11), .int 1, .ref (nx 13), .ref (nx 14), .int 0])), ((nx 2), .inl (cI, 40, .inl fB))] H := hP
  have hD : va_D A [((nx 11), .inl (cI, 40, .inl g1)), (aX, .inr (15, [.int 0, .int 1, .ref (nx 2), .ref (nx 3), .ref (nx 4), .ref (nx 5), .ref (nx 6), .ref (nx 7), .ref (nx 8), .ref (nx 9), .ref (nx 10), .ref (nx 11), .int 1, .ref (nx 13), .ref (nx 14), .int 0])), ((nx 2), .inl (cI, 40, .inl fB))] := hD
  have hP := hP.sub (ws' := [(aX, .inr (15, [.int 0, .int 1, .ref (nx 2), .ref (nx 3), .ref (nx 4), .ref (nx 5), .ref (nx 6), .ref (nx 7), .ref (nx 8), .ref (nx 9), .ref (nx 10), .ref (nx 11), .int 1, .ref (nx 13), .ref (nx 14), .int 0])), ((nx 2), .inl (cI, 40, .inl fB)), ((nx 11), .inl (cI, 40, .inl g1))]) [1, 2, 0] rfl
  have hD := hD.sub (ws' := [(aX, .inr (15, [.int 0, .int 1, .ref (nx 2), .ref (nx 3), .ref (nx 4), .ref (nx 5), .ref (nx 6), .ref (nx 7), .ref (nx 8), .ref (nx 9), .ref (nx 10), .ref (nx 11), .int 1, .ref (nx 13), .ref (nx 14), .int 0])), ((nx 2), .inl (cI, 40, .inl fB)), ((nx 11), .inl (cI, 40, .inl g1))]) [1, 2, 0] (by decide) rfl
  obtain rfl : r9 = 1 := hw
  refine lv_if_ne (tgt := 64) hx hb dX12_isPlane_57 (by decide) (fun _ => ?_) (fun c9 => absurd c9 (by decide))
  refine lv_iconst (v := 0) hx hb dX12_isPlane_64 (by decide) ?_
  refine lv_ior hx hb dX12_isPlane_65 ?_
  refine ow_topi (y := 0) (by decide) ?_
  refine lv_istore_n (lv' := [(3, .int (0)), (4, .int 0), (2, .int 0), (1, .int 0), (0, .ref aX)]) hx hb dX12_isPlane_66 rfl hl (by decide) rfl (fun ls hl => ?_)
  refine lv_iinc (v := 1) (lv' := [(4, .int 1), (3, .int (0)), (2, .int 0), (1, .int 0), (0, .ref aX)]) hx hb dX12_isPlane_67 hl (k := 1) rfl (by decide) (by decide) rfl (fun ls hl => ?_)
  refine lv_goto (tgt := 30) hx hb dX12_isPlane_70 (by decide) ?_
  refine lv_iload hx hb dX12_isPlane_30 (lv_at hl 0 rfl) ?_
  refine lv_aload_n hx hb dX12_isPlane_32 rfl (lv_at hl 4 rfl) ?_
  refine va_get (D := (dC, dI)) (ci := 15) (v := .int 1) (C := RX12) (T := TX12) (N := 16) hx hb hts (fun _ h => List.mem_cons_of_mem _ (List.mem_append_left _ (List.mem_append_right _ h))) hown hK hP 0 rfl rfl 1 (by decide) (hts (.fieldLink RX12 52 "KnotHouseModel$Net" "comps" "I") (by decide +kernel)) (fun _ h9 => h9) rfl dX12_isPlane_33 ?_
  refine lv_icmp_ge (tgt := 73) hx hb dX12_isPlane_36 (by decide) (fun _ => ?_) (fun c9 => absurd (by decide) c9)
  refine lv_iload_n hx hb dX12_isPlane_73 rfl (lv_at hl 3 rfl) ?_
  refine lv_iload_n hx hb dX12_isPlane_74 rfl (lv_at hl 1 rfl) ?_
  refine lv_if_eq (tgt := 82) hx hb dX12_isPlane_75 (by decide) (fun _ => ?_) (fun c9 => absurd (by decide) c9)
  refine lv_iconst (v := 0) hx hb dX12_isPlane_82 (by decide) ?_
  refine lv_iadd hx hb dX12_isPlane_83 ?_
  refine ow_topi (y := 0) (by decide) ?_
  refine lv_istore_n (lv' := [(1, .int (0)), (4, .int 1), (3, .int (0)), (2, .int 0), (0, .ref aX)]) hx hb dX12_isPlane_84 rfl hl (by decide) rfl (fun ls hl => ?_)
  refine lv_iinc (v := 1) (lv' := [(2, .int 1), (1, .int (0)), (4, .int 1), (3, .int (0)), (0, .ref aX)]) hx hb dX12_isPlane_85 hl (k := 3) rfl (by decide) (by decide) rfl (fun ls hl => ?_)
  refine lv_goto (tgt := 17) hx hb dX12_isPlane_88 (by decide) ?_
  refine lv_iload_n hx hb dX12_isPlane_17 rfl (lv_at hl 0 rfl) ?_
  refine lv_aload_n hx hb dX12_isPlane_18 rfl (lv_at hl 4 rfl) ?_
  refine va_get (D := (dC, dI)) (ci := 15) (v := .int 1) (C := RX12) (T := TX12) (N := 16) hx hb hts (fun _ h => List.mem_cons_of_mem _ (List.mem_append_left _ (List.mem_append_right _ h))) hown hK hP 0 rfl rfl 12 (by decide) (hts (.fieldLink RX12 69 "KnotHouseModel$Net" "parts" "I") (by decide +kernel)) (fun _ h9 => h9) rfl dX12_isPlane_19 ?_
  refine lv_icmp_ge (tgt := 91) hx hb dX12_isPlane_22 (by decide) (fun _ => ?_) (fun c9 => absurd (by decide) c9)
  refine lv_aload_n hx hb dX12_isPlane_91 rfl (lv_at hl 4 rfl) ?_
  refine va_get (D := (dC, dI)) (ci := 15) (v := .int 0) (C := RX12) (T := TX12) (N := 16) hx hb hts (fun _ h => List.mem_cons_of_mem _ (List.mem_append_left _ (List.mem_append_right _ h))) hown hK hP 0 rfl rfl 15 (by decide) (hts (.fieldLink RX12 72 "KnotHouseModel$Net" "faces" "I") (by decide +kernel)) (fun _ h9 => h9) rfl dX12_isPlane_92 ?_
  refine lv_iload_n hx hb dX12_isPlane_95 rfl (lv_at hl 1 rfl) ?_
  refine lv_icmp_ne (tgt := 103) hx hb dX12_isPlane_96 (by decide) (fun c9 => absurd c9 (not_not_intro rfl)) (fun _ => ?_)
  refine lv_iconst (v := 1) hx hb dX12_isPlane_99 (by decide) ?_
  refine lv_goto (tgt := 104) hx hb dX12_isPlane_100 (by decide) ?_
  rw [hQQ]
  exact W.zret (v := 1) (ty := .boolean) hx hb hr rfl (fun t ht hW => ⟨⟨1, g1, rfl, rfl, by rw [ht]; exact hP, hD⟩, hS.F ht⟩) hS.2.2 dX12_isPlane_104
theorem dX13_free_0 : decode cX13_free 0 = .ok (.iconst 0, 1) := by decide +kernel
theorem dX13_free_1 : decode cX13_free 1 = .ok (.istore_n 1, 1) := by decide +kernel
theorem dX13_free_2 : decode cX13_free 2 = .ok (.iload_n 1, 1) := by decide +kernel
theorem dX13_free_3 : decode cX13_free 3 = .ok (.bipush 40, 2) := by decide +kernel
theorem dX13_free_5 : decode cX13_free 5 = .ok (.if_icmp .ge 21, 3) := by decide +kernel
theorem dX13_free_8 : decode cX13_free 8 = .ok (.aload_n 0, 1) := by decide +kernel
theorem dX13_free_9 : decode cX13_free 9 = .ok (.getfield 110, 3) := by decide +kernel
theorem dX13_free_12 : decode cX13_free 12 = .ok (.bipush 32, 2) := by decide +kernel
theorem dX13_free_14 : decode cX13_free 14 = .ok (.iload_n 1, 1) := by decide +kernel
theorem dX13_free_15 : decode cX13_free 15 = .ok (.imul, 1) := by decide +kernel
theorem dX13_free_16 : decode cX13_free 16 = .ok (.iaload, 1) := by decide +kernel
theorem dX13_free_17 : decode cX13_free 17 = .ok (.ifCond .le 9, 3) := by decide +kernel
theorem dX13_free_20 : decode cX13_free 20 = .ok (.iinc 1 1, 3) := by decide +kernel
theorem dX13_free_23 : decode cX13_free 23 = .ok (.goto (-21), 3) := by decide +kernel
theorem dX13_free_26 : decode cX13_free 26 = .ok (.iload_n 1, 1) := by decide +kernel
theorem dX13_free_27 : decode cX13_free 27 = .ok (.bipush 40, 2) := by decide +kernel
theorem dX13_free_29 : decode cX13_free 29 = .ok (.if_icmp .ge 7, 3) := by decide +kernel
theorem dX13_free_32 : decode cX13_free 32 = .ok (.iload_n 1, 1) := by decide +kernel
theorem dX13_free_33 : decode cX13_free 33 = .ok (.goto 4, 3) := by decide +kernel
theorem dX13_free_36 : decode cX13_free 36 = .ok (.iconst (-1), 1) := by decide +kernel
theorem dX13_free_37 : decode cX13_free 37 = .ok (.ireturn, 1) := by decide +kernel
def wf_Mfree : List Cond := .code yX13_free cX13_free 2 (some .int) :: ([.fieldLink RX13 110 "KnotHouseModel" "rows" "[I"] ++ wsX130)
set_option maxHeartbeats 4000000 in
set_option maxRecDepth 100000 in
theorem kf_X13_free (l : Launch) (dC : Nat → ClassId) (dI : Nat → Nat → Nat) (cI cB cJ cZ : ClassId) (h0 ar : Nat) (fs : List Value) (hfs : fs.length = 120) (hk : fs[11]? = some (.ref ar)) : Met l yX13_free wf_Mfree (({ frames := 0, cells := 0, slots := 0, locals := 0 } : Room)) (va_Pc [.ref h0] (fun U => va_P (dC, dI) vwCl [(h0, .inr (16, fs)), (ar, .inl (cI, 1280, .inl (fun _ => 0)))] U.heap ∧ va_K (dC, dI) vwCl [(cI, .int), (cB, .byte), (cJ, .long), (cZ, .boolean)] U)) (va_Qi (fun r (_ : Unit) => r = 0) (fun _ _ => True) (fun _ => False)) 0 0 (fun _ => False) := by
  refine Met.ofW (cc := cX13_free) (maxL := 2) (ret := (some .int)) (by decide) rfl ?_
  intro p e s m args below meth c s₁ B hml hv
  obtain ⟨rfl, hP, hK⟩ := hv
  have hx := B.exec
  have hb := B.bytes
  have hr := B.returns
  have hts := atoms_spec (ws := wf_Mfree) B.pre
  have hown : s.vm.findClass RX13 = some m.cls := findClass_of_methodNamed B.named
  have hlocks := B.notSynchronized
  have hS : va_S (fun _ => False) s.heap s.heap [] := va_S.rf
  have hP : va_P (dC, dI) vwCl [(h0, .inr (16, fs)), (ar, .inl (cI, 1280, .inl (fun _ => 0)))] s.heap := hP
  have hl := lv_entry ([.ref h0]) (n := 2) (Nat.le_of_ble_eq_true rfl)
  rw [lg_entry_eq]
  generalize (lg_sl ([.ref h0]) ++ List.replicate (2 - (lg_sl ([.ref h0])).length) Slot.unset).toArray = ls at hl ⊢
  have hl : lv_has ls 2 [(0, .ref h0)] := hl
  refine ow_named (fun QQ hQQ => ?_)
  refine lv_iconst (v := 0) hx hb dX13_free_0 (by decide) ?_
  refine lv_istore_n (lv' := [(1, .int 0), (0, .ref h0)]) hx hb dX13_free_1 rfl hl (by decide) rfl (fun ls hl => ?_)
  refine lv_iload_n hx hb dX13_free_2 rfl (lv_at hl 0 rfl) ?_
  refine lv_bipush (v := 40) hx hb dX13_free_3 (by decide) ?_
  refine lv_icmp_ge (tgt := 26) hx hb dX13_free_5 (by decide) (fun c9 => absurd c9 (by decide)) (fun _ => ?_)
  refine lv_aload_n hx hb dX13_free_8 rfl (lv_at hl 1 rfl) ?_
  refine va_get (D := (dC, dI)) (ci := 16) (v := .ref ar) (C := RX13) (T := TX13) (N := 120) hx hb hts (fun _ h => List.mem_cons_of_mem _ (List.mem_append_right _ h)) hown hK hP 0 rfl rfl 11 (by decide) (hts (.fieldLink RX13 110 "KnotHouseModel" "rows" "[I") (by decide +kernel)) (fun _ h9 => h9) hk dX13_free_9 ?_
  refine lv_bipush (v := 32) hx hb dX13_free_12 (by decide) ?_
  refine lv_iload_n hx hb dX13_free_14 rfl (lv_at hl 0 rfl) ?_
  refine lv_imul hx hb dX13_free_15 ?_
  refine ow_topi (y := 0) (by decide) ?_
  refine va_iald hx hb hK hP 1 0 rfl rfl (vp_in_nI (n := 0) (N := 1280) (by decide) (by decide)) dX13_free_16 ?_
  refine ow_topi (y := 0) (rfl) ?_
  refine lv_if_le (tgt := 26) hx hb dX13_free_17 (by decide) (fun _ => ?_) (fun c9 => absurd (by decide) c9)
  refine lv_iload_n hx hb dX13_free_26 rfl (lv_at hl 0 rfl) ?_
  refine lv_bipush (v := 40) hx hb dX13_free_27 (by decide) ?_
  refine lv_icmp_ge (tgt := 36) hx hb dX13_free_29 (by decide) (fun c9 => absurd c9 (by decide)) (fun _ => ?_)
  refine lv_iload_n hx hb dX13_free_32 rfl (lv_at hl 0 rfl) ?_
  refine lv_goto (tgt := 37) hx hb dX13_free_33 (by decide) ?_
  rw [hQQ]
  exact W.iret (v := 0) hx hb hr (fun t ht hW => ⟨⟨0, (), rfl, rfl, trivial⟩, hS.F ht⟩) hS.2.2 dX13_free_37
theorem dX13_read_0 : decode cX13_read 0 = .ok (.aload_n 0, 1) := by decide +kernel
theorem dX13_read_1 : decode cX13_read 1 = .ok (.getfield 121, 3) := by decide +kernel
theorem dX13_read_4 : decode cX13_read 4 = .ok (.invokevirtual 91, 3) := by decide +kernel
theorem dX13_read_7 : decode cX13_read 7 = .ok (.iconst 0, 1) := by decide +kernel
theorem dX13_read_8 : decode cX13_read 8 = .ok (.istore_n 1, 1) := by decide +kernel
theorem dX13_read_9 : decode cX13_read 9 = .ok (.iconst 0, 1) := by decide +kernel
theorem dX13_read_10 : decode cX13_read 10 = .ok (.istore_n 2, 1) := by decide +kernel
theorem dX13_read_11 : decode cX13_read 11 = .ok (.iload_n 2, 1) := by decide +kernel
theorem dX13_read_12 : decode cX13_read 12 = .ok (.aload_n 0, 1) := by decide +kernel
theorem dX13_read_13 : decode cX13_read 13 = .ok (.getfield 400, 3) := by decide +kernel
theorem dX13_read_16 : decode cX13_read 16 = .ok (.if_icmp .ge 368, 3) := by decide +kernel
theorem dX13_read_384 : decode cX13_read 384 = .ok (.aload_n 0, 1) := by decide +kernel
theorem dX13_read_385 : decode cX13_read 385 = .ok (.getfield 121, 3) := by decide +kernel
theorem dX13_read_388 : decode cX13_read 388 = .ok (.invokevirtual 94, 3) := by decide +kernel
theorem dX13_read_391 : decode cX13_read 391 = .ok (.aload_n 0, 1) := by decide +kernel
theorem dX13_read_392 : decode cX13_read 392 = .ok (.getfield 400, 3) := by decide +kernel
theorem dX13_read_395 : decode cX13_read 395 = .ok (.iconst 1, 1) := by decide +kernel
theorem dX13_read_396 : decode cX13_read 396 = .ok (.iadd, 1) := by decide +kernel
theorem dX13_read_397 : decode cX13_read 397 = .ok (.istore_n 3, 1) := by decide +kernel
theorem dX13_read_398 : decode cX13_read 398 = .ok (.iconst 0, 1) := by decide +kernel
theorem dX13_read_399 : decode cX13_read 399 = .ok (.istore 4, 2) := by decide +kernel
theorem dX13_read_401 : decode cX13_read 401 = .ok (.iload 4, 2) := by decide +kernel
theorem dX13_read_403 : decode cX13_read 403 = .ok (.iload_n 1, 1) := by decide +kernel
theorem dX13_read_404 : decode cX13_read 404 = .ok (.if_icmp .ge 32, 3) := by decide +kernel
theorem dX13_read_436 : decode cX13_read 436 = .ok (.iload_n 3, 1) := by decide +kernel
theorem dX13_read_437 : decode cX13_read 437 = .ok (.aload_n 0, 1) := by decide +kernel
theorem dX13_read_438 : decode cX13_read 438 = .ok (.getfield 400, 3) := by decide +kernel
theorem dX13_read_441 : decode cX13_read 441 = .ok (.if_icmp .gt 5, 3) := by decide +kernel
theorem dX13_read_444 : decode cX13_read 444 = .ok (.iload_n 3, 1) := by decide +kernel
theorem dX13_read_445 : decode cX13_read 445 = .ok (.ireturn, 1) := by decide +kernel
theorem dX13_read_446 : decode cX13_read 446 = .ok (.aload_n 0, 1) := by decide +kernel
theorem dX13_read_447 : decode cX13_read 447 = .ok (.getfield 121, 3) := by decide +kernel
theorem dX13_read_450 : decode cX13_read 450 = .ok (.invokevirtual 71, 3) := by decide +kernel
theorem dX13_read_453 : decode cX13_read 453 = .ok (.aload_n 0, 1) := by decide +kernel
theorem dX13_read_454 : decode cX13_read 454 = .ok (.getfield 121, 3) := by decide +kernel
theorem dX13_read_457 : decode cX13_read 457 = .ok (.invokevirtual 413, 3) := by decide +kernel
theorem dX13_read_460 : decode cX13_read 460 = .ok (.ifCond .eq 7, 3) := by decide +kernel
theorem dX13_read_463 : decode cX13_read 463 = .ok (.iconst (-1), 1) := by decide +kernel
theorem dX13_read_464 : decode cX13_read 464 = .ok (.goto 7, 3) := by decide +kernel
theorem dX13_read_467 : decode cX13_read 467 = .ok (.aload_n 0, 1) := by decide +kernel
theorem dX13_read_468 : decode cX13_read 468 = .ok (.getfield 400, 3) := by decide +kernel
theorem dX13_read_471 : decode cX13_read 471 = .ok (.ireturn, 1) := by decide +kernel
def wf_N_read : List Cond := .code yX13_read cX13_read 9 (some .int) :: ([.fieldLink RX13 121 "KnotHouseModel" "made" "LKnotHouseModel$Net;", .fieldLink RX13 400 "KnotHouseModel" "taped" "I"] ++ wsX130 ++ (wsX120 ++ (wsV RX13 91 RX12 yX12_clear wf_Nclear ++ (wsV RX13 94 RX12 yX12_end wf_Nend ++ (wsV RX13 71 RX12 yX12_link wf_Nlink ++ (wsV RX13 413 RX12 yX12_isPlane wf_NisPlane ++ []))))))
theorem gf_X13_read_0 : GoodIn wf_N_read (wsV RX13 91 RX12 yX12_clear wf_Nclear) := goodIn_sub (fun _ h => List.mem_cons_of_mem _ (List.mem_append_right _ (List.mem_append_right _ (List.mem_append_left _ h)))) (by decide +kernel)
theorem gf_X13_read_1 : GoodIn wf_N_read (wsV RX13 94 RX12 yX12_end wf_Nend) := goodIn_sub (fun _ h => List.mem_cons_of_mem _ (List.mem_append_right _ (List.mem_append_right _ (List.mem_append_right _ (List.mem_append_left _ h))))) (by decide +kernel)
theorem gf_X13_read_2 : GoodIn wf_N_read (wsV RX13 71 RX12 yX12_link wf_Nlink) := goodIn_sub (fun _ h => List.mem_cons_of_mem _ (List.mem_append_right _ (List.mem_append_right _ (List.mem_append_right _ (List.mem_append_right _ (List.mem_append_left _ h)))))) (by decide +kernel)
theorem gf_X13_read_3 : GoodIn wf_N_read (wsV RX13 413 RX12 yX12_isPlane wf_NisPlane) := goodIn_sub (fun _ h => List.mem_cons_of_mem _ (List.mem_append_right _ (List.mem_append_right _ (List.mem_append_right _ (List.mem_append_right _ (List.mem_append_right _ (List.mem_append_left _ h))))))) (by decide +kernel)
set_option maxHeartbeats 4000000 in
set_option maxRecDepth 100000 in
theorem kf_X13_read (l : Launch) (dC : Nat → ClassId) (dI : Nat → Nat → Nat) (cI cB cJ cZ : ClassId) (h0 : Nat) (fs : List Value) (hfs : fs.length = 120) (aX : Nat) (nx : Nat → Nat) (hk10 : fs[10]? = some (.int 0)) (hk14 : fs[14]? = some (.ref aX)) (x0 x1 x2 x3 : Int32) (fB fF fP : Nat → Int32) (sz : Nat) : Met l yX13_read wf_N_read (({ frames := 2, cells := 0, slots := 0, locals := 60 } : Room)) (va_Pc [.ref h0] (fun U => U.heap.size = sz ∧ va_P (dC, dI) vwCl [(h0, .inr (16, fs)), (aX, .inr (15, [.int x0, .int x1, .ref (nx 2), .ref (nx 3), .ref (nx 4), .ref (nx 5), .ref (nx 6), .ref (nx 7), .ref (nx 8), .ref (nx 9), .ref (nx 10), .ref (nx 11), .int x2, .ref (nx 13), .ref (nx 14), .int x3])), ((nx 2), .inl (cI, 40, .inl fB)), ((nx 10), .inl (cI, 40, .inl fF)), ((nx 11), .inl (cI, 40, .inl fP))] U.heap ∧ va_K (dC, dI) vwCl [(cI, .int), (cB, .byte), (cJ, .long), (cZ, .boolean)] U ∧ va_D (fun _ => True) [(h0, .inr (16, fs)), (aX, .inr (15, [.int x0, .int x1, .ref (nx 2), .ref (nx 3), .ref (nx 4), .ref (nx 5), .ref (nx 6), .ref (nx 7), .ref (nx 8), .ref (nx 9), .ref (nx 10), .ref (nx 11), .int x2, .ref (nx 13), .ref (nx 14), .int x3])), ((nx 2), .inl (cI, 40, .inl fB)), ((nx 10), .inl (cI, 40, .inl fF)), ((nx 11), .inl (cI, 40, .inl fP))])) (va_Qi (fun r (g : (Nat → Int32) × (Nat → Int32) × (Nat → Int32)) => r = -1 ∧ g.1 0 = 0 ∧ g.1 1 = 0) (fun g t => va_P (dC, dI) vwCl [(h0, .inr (16, fs)), (aX, .inr (15, [.int 0, .int 1, .ref (nx 2), .ref (nx 3), .ref (nx 4), .ref (nx 5), .ref (nx 6), .ref (nx 7), .ref (nx 8), .ref (nx 9), .ref (nx 10), .ref (nx 11), .int 1, .ref (nx 13), .ref (nx 14), .int 0])), ((nx 2), .inl (cI, 40, .inl g.1)), ((nx 10), .inl (cI, 40, .inl g.2.1)), ((nx 11), .inl (cI, 40, .inl g.2.2))] t.heap ∧ va_D (va_A [(h0, .inr (16, fs)), (aX, .inr (15, [.int x0, .int x1, .ref (nx 2), .ref (nx 3), .ref (nx 4), .ref (nx 5), .ref (nx 6), .ref (nx 7), .ref (nx 8), .ref (nx 9), .ref (nx 10), .ref (nx 11), .int x2, .ref (nx 13), .ref (nx 14), .int x3])), ((nx 2), .inl (cI, 40, .inl fB)), ((nx 10), .inl (cI, 40, .inl fF)), ((nx 11), .inl (cI, 40, .inl fP))] sz) [(h0, .inr (16, fs)), (aX, .inr (15, [.int 0, .int 1, .ref (nx 2), .ref (nx 3), .ref (nx 4), .ref (nx 5), .ref (nx 6), .ref (nx 7), .ref (nx 8), .ref (nx 9), .ref (nx 10), .ref (nx 11), .int 1, .ref (nx 13), .ref (nx 14), .int 0])), ((nx 2), .inl (cI, 40, .inl g.1)), ((nx 10), .inl (cI, 40, .inl g.2.1)), ((nx 11), .inl (cI, 40, .inl g.2.2))]) (va_A [(h0, .inr (16, fs)), (aX, .inr (15, [.int x0, .int x1, .ref (nx 2), .ref (nx 3), .ref (nx 4), .ref (nx 5), .ref (nx 6), .ref (nx 7), .ref (nx 8), .ref (nx 9), .ref (nx 10), .ref (nx 11), .int x2, .ref (nx 13), .ref (nx 14), .int x3])), ((nx 2), .inl (cI, 40, .inl fB)), ((nx 10), .inl (cI, 40, .inl fF)), ((nx 11), .inl (cI, 40, .inl fP))] sz)) 0 0 (va_A [(h0, .inr (16, fs)), (aX, .inr (15, [.int x0, .int x1, .ref (nx 2), .ref (nx 3), .ref (nx 4), .ref (nx 5), .ref (nx 6), .ref (nx 7), .ref (nx 8), .ref (nx 9), .ref (nx 10), .ref (nx 11), .int x2, .ref (nx 13), .ref (nx 14), .int x3])), ((nx 2), .inl (cI, 40, .inl fB)), ((nx 10), .inl (cI, 40, .inl fF)), ((nx 11), .inl (cI, 40, .inl fP))] sz) := by
  refine Met.ofW (cc := cX13_read) (maxL := 9) (ret := (some .int)) (by decide) rfl ?_
  intro p e s m args below meth c s₁ B hml hv
  obtain ⟨rfl, hsz, hP, hK, hD0⟩ := hv
  have hx := B.exec
  have hb := B.bytes
  have hr := B.returns
  have hts := atoms_spec (ws := wf_N_read) B.pre
  have hown : s.vm.findClass RX13 = some m.cls := findClass_of_methodNamed B.named
  have hlocks := B.notSynchronized
  subst hsz
  have hD := hD0.self (sz := s.heap.size)
  generalize hAe : va_A [(h0, .inr (16, fs)), (aX, .inr (15, [.int x0, .int x1, .ref (nx 2), .ref (nx 3), .ref (nx 4), .ref (nx 5), .ref (nx 6), .ref (nx 7), .ref (nx 8), .ref (nx 9), .ref (nx 10), .ref (nx 11), .int x2, .ref (nx 13), .ref (nx 14), .int x3])), ((nx 2), .inl (cI, 40, .inl fB)), ((nx 10), .inl (cI, 40, .inl fF)), ((nx 11), .inl (cI, 40, .inl fP))] s.heap.size = A at hD ⊢
  have hA : ∀ q : Nat, s.heap.size ≤ q → A q := fun q h => by rw [← hAe]; exact Or.inr h
  have hS : va_S A s.heap s.heap [] := va_S.rf
  have hP : va_P (dC, dI) vwCl [(h0, .inr (16, fs)), (aX, .inr (15, [.int x0, .int x1, .ref (nx 2), .ref (nx 3), .ref (nx 4), .ref (nx 5), .ref (nx 6), .ref (nx 7), .ref (nx 8), .ref (nx 9), .ref (nx 10), .ref (nx 11), .int x2, .ref (nx 13), .ref (nx 14), .int x3])), ((nx 2), .inl (cI, 40, .inl fB)), ((nx 10), .inl (cI, 40, .inl fF)), ((nx 11), .inl (cI, 40, .inl fP))] s.heap := hP
  have hl := lv_entry ([.ref h0]) (n := 9) (Nat.le_of_ble_eq_true rfl)
  rw [lg_entry_eq]
  generalize (lg_sl ([.ref h0]) ++ List.replicate (9 - (lg_sl ([.ref h0])).length) Slot.unset).toArray = ls at hl ⊢
  have hl : lv_has ls 9 [(0, .ref h0)] := hl
  refine ow_named (fun QQ hQQ => ?_)
  refine lv_aload_n hx hb dX13_read_0 rfl (lv_at hl 0 rfl) ?_
  refine va_get (D := (dC, dI)) (ci := 16) (v := .ref aX) (C := RX13) (T := TX13) (N := 120) hx hb hts (fun _ h => List.mem_cons_of_mem _ (List.mem_append_left _ (List.mem_append_right _ h))) hown hK hP 0 rfl rfl 14 (by decide) (hts (.fieldLink RX13 121 "KnotHouseModel" "made" "LKnotHouseModel$Net;") (by decide +kernel)) (fun _ h9 => h9) hk14 dX13_read_1 ?_
  have hPc := hP.sub (ws' := [(aX, .inr (15, [.int x0, .int x1, .ref (nx 2), .ref (nx 3), .ref (nx 4), .ref (nx 5), .ref (nx 6), .ref (nx 7), .ref (nx 8), .ref (nx 9), .ref (nx 10), .ref (nx 11), .int x2, .ref (nx 13), .ref (nx 14), .int x3])), ((nx 2), .inl (cI, 40, .inl fB))]) [1, 2] rfl
  have hDc := hD.sub (ws' := [(aX, .inr (15, [.int x0, .int x1, .ref (nx 2), .ref (nx 3), .ref (nx 4), .ref (nx 5), .ref (nx 6), .ref (nx 7), .ref (nx 8), .ref (nx 9), .ref (nx 10), .ref (nx 11), .int x2, .ref (nx 13), .ref (nx 14), .int x3])), ((nx 2), .inl (cI, 40, .inl fB))]) [1, 2] (by decide) rfl
  have hFc := va_free (wc := [(aX, .inr (15, [.int x0, .int x1, .ref (nx 2), .ref (nx 3), .ref (nx 4), .ref (nx 5), .ref (nx 6), .ref (nx 7), .ref (nx 8), .ref (nx 9), .ref (nx 10), .ref (nx 11), .int x2, .ref (nx 13), .ref (nx 14), .int x3])), ((nx 2), .inl (cI, 40, .inl fB))]) hD hS hA [1, 2] rfl
  refine va_callv (va_runV (As := []) (rest := []) ⟨hx, hb, hml, hown, hts⟩ (kf_X12_clear l dC dI cI cB cJ cZ aX nx x0 x1 x2 x3 fB s.heap.size) (cwV 0 hts gf_X13_read_0 rfl rfl rfl (by decide +kernel) ⟨(Nat.le_of_ble_eq_true rfl), (Nat.le_of_ble_eq_true rfl)⟩) ⟨fun a U g mk q => by obtain ⟨q0, q1, qP, qK, qD⟩ := q; exact ⟨q0, q1, qP, va_K.moved (u := U) (U := U.calling g mk a) (Vm.Alike.refl U.vm) qK, qD⟩, va_recv hK hPc (ci := 15) (q0 := 0) rfl rfl, fun U hU hW => ⟨rfl, by rw [hU], by rw [hU]; exact hPc, va_K.moved hW.alike hK, hDc.weaken (fun _ _ _ _ => trivial)⟩⟩ rfl rfl hl.1 rfl (lv_room (Nat.le_of_ble_eq_true rfl)) dX13_read_4 ⟨(Nat.le_of_ble_eq_true rfl), (Nat.le_of_ble_eq_true rfl)⟩) hS (fun q _ h => hFc q h) hFc (fun g1 t H1 locs ht hvm hw hB hz1 hk1 hS => ?_)
  obtain ⟨hP1, hD1⟩ := hB
  rw [ht] at hP1
  obtain ⟨hP, hD⟩ := va_join (wr := [(h0, .inr (16, fs)), ((nx 10), .inl (cI, 40, .inl fF)), ((nx 11), .inl (cI, 40, .inl fP))]) (w1 := [(aX, .inr (15, [.int 0, .int 0, .ref (nx 2), .ref (nx 3), .ref (nx 4), .ref (nx 5), .ref (nx 6), .ref (nx 7), .ref (nx 8), .ref (nx 9), .ref (nx 10), .ref (nx 11), .int x2, .ref (nx 13), .ref (nx 14), .int x3])), ((nx 2), .inl (cI, 40, .inl g1))]) hP hD [1, 2] [0, 3, 4] rfl rfl (by decide) (by decide) hk1 hFc hP1 hD1
  generalize H1 = H at hP hS ⊢
  have hP : va_P (dC, dI) vwCl [(h0, .inr (16, fs)), ((nx 10), .inl (cI, 40, .inl fF)), ((nx 11), .inl (cI, 40, .inl fP)), (aX, .inr (15, [.int 0, .int 0, .ref (nx 2), .ref (nx 3), .ref (nx 4), .ref (nx 5), .ref (nx 6), .ref (nx 7), .ref (nx 8), .ref (nx 9), .ref (nx 10), .ref (nx 11), .int x2, .ref (nx 13), .ref (nx 14), .int x3])), ((nx 2), .inl (cI, 40, .inl g1))] H := hP
  have hD : va_D A [(h0, .inr (16, fs)), ((nx 10), .inl (cI, 40, .inl fF)), ((nx 11), .inl (cI, 40, .inl fP)), (aX, .inr (15, [.int 0, .int 0, .ref (nx 2), .ref (nx 3), .ref (nx 4), .ref (nx 5), .ref (nx 6), .ref (nx 7), .ref (nx 8), .ref (nx 9), .ref (nx 10), .ref (nx 11), .int x2, .ref (nx 13), .ref (nx 14), .int x3])), ((nx 2), .inl (cI, 40, .inl g1))] := hD
  have hP := hP.sub (ws' := [(h0, .inr (16, fs)), (aX, .inr (15, [.int 0, .int 0, .ref (nx 2), .ref (nx 3), .ref (nx 4), .ref (nx 5), .ref (nx 6), .ref (nx 7), .ref (nx 8), .ref (nx 9), .ref (nx 10), .ref (nx 11), .int x2, .ref (nx 13), .ref (nx 14), .int x3])), ((nx 2), .inl (cI, 40, .inl g1)), ((nx 10), .inl (cI, 40, .inl fF)), ((nx 11), .inl (cI, 40, .inl fP))]) [0, 3, 4, 1, 2] rfl
  have hD := hD.sub (ws' := [(h0, .inr (16, fs)), (aX, .inr (15, [.int 0, .int 0, .ref (nx 2), .ref (nx 3), .ref (nx 4), .ref (nx 5), .ref (nx 6), .ref (nx 7), .ref (nx 8), .ref (nx 9), .ref (nx 10), .ref (nx 11), .int x2, .ref (nx 13), .ref (nx 14), .int x3])), ((nx 2), .inl (cI, 40, .inl g1)), ((nx 10), .inl (cI, 40, .inl fF)), ((nx 11), .inl (cI, 40, .inl fP))]) [0, 3, 4, 1, 2] (by decide) rfl
  have hg1 : g1 0 = 0 := hw
  refine lv_iconst (v := 0) hx hb dX13_read_7 (by decide) ?_
  refine lv_istore_n (lv' := [(1, .int 0), (0, .ref h0)]) hx hb dX13_read_8 rfl hl (by decide) rfl (fun ls hl => ?_)
  refine lv_iconst (v := 0) hx hb dX13_read_9 (by decide) ?_
  refine lv_istore_n (lv' := [(2, .int 0), (1, .int 0), (0, .ref h0)]) hx hb dX13_read_10 rfl hl (by decide) rfl (fun ls hl => ?_)
  refine lv_iload_n hx hb dX13_read_11 rfl (lv_at hl 0 rfl) ?_
  refine lv_aload_n hx hb dX13_read_12 rfl (lv_at hl 2 rfl) ?_
  refine va_get (D := (dC, dI)) (ci := 16) (v := .int 0) (C := RX13) (T := TX13) (N := 120) hx hb hts (fun _ h => List.mem_cons_of_mem _ (List.mem_append_left _ (List.mem_append_right _ h))) hown hK hP 0 rfl rfl 10 (by decide) (hts (.fieldLink RX13 400 "KnotHouseModel" "taped" "I") (by decide +kernel)) (fun _ h9 => h9) hk10 dX13_read_13 ?_
  refine lv_icmp_ge (tgt := 384) hx hb dX13_read_16 (by decide) (fun _ => ?_) (fun c9 => absurd (by decide) c9)
  refine lv_aload_n hx hb dX13_read_384 rfl (lv_at hl 2 rfl) ?_
  refine va_get (D := (dC, dI)) (ci := 16) (v := .ref aX) (C := RX13) (T := TX13) (N := 120) hx hb hts (fun _ h => List.mem_cons_of_mem _ (List.mem_append_left _ (List.mem_append_right _ h))) hown hK hP 0 rfl rfl 14 (by decide) (hts (.fieldLink RX13 121 "KnotHouseModel" "made" "LKnotHouseModel$Net;") (by decide +kernel)) (fun _ h9 => h9) hk14 dX13_read_385 ?_
  have hPc := hP.sub (ws' := [(aX, .inr (15, [.int 0, .int 0, .ref (nx 2), .ref (nx 3), .ref (nx 4), .ref (nx 5), .ref (nx 6), .ref (nx 7), .ref (nx 8), .ref (nx 9), .ref (nx 10), .ref (nx 11), .int x2, .ref (nx 13), .ref (nx 14), .int x3])), ((nx 2), .inl (cI, 40, .inl g1))]) [1, 2] rfl
  have hDc := hD.sub (ws' := [(aX, .inr (15, [.int 0, .int 0, .ref (nx 2), .ref (nx 3), .ref (nx 4), .ref (nx 5), .ref (nx 6), .ref (nx 7), .ref (nx 8), .ref (nx 9), .ref (nx 10), .ref (nx 11), .int x2, .ref (nx 13), .ref (nx 14), .int x3])), ((nx 2), .inl (cI, 40, .inl g1))]) [1, 2] (by decide) rfl
  have hFc := va_free (wc := [(aX, .inr (15, [.int 0, .int 0, .ref (nx 2), .ref (nx 3), .ref (nx 4), .ref (nx 5), .ref (nx 6), .ref (nx 7), .ref (nx 8), .ref (nx 9), .ref (nx 10), .ref (nx 11), .int x2, .ref (nx 13), .ref (nx 14), .int x3])), ((nx 2), .inl (cI, 40, .inl g1))]) hD hS hA [1, 2] rfl
  refine va_callv (va_runV (As := []) (rest := []) ⟨hx, hb, hml, hown, hts⟩ (kf_X12_end l dC dI cI cB cJ cZ aX nx x2 x3 g1 hg1 H.size) (cwV 0 hts gf_X13_read_1 rfl rfl rfl (by decide +kernel) ⟨(Nat.le_of_ble_eq_true rfl), (Nat.le_of_ble_eq_true rfl)⟩) ⟨fun a U g mk q => by obtain ⟨q0, q1, qP, qK, qD⟩ := q; exact ⟨q0, q1, qP, va_K.moved (u := U) (U := U.calling g mk a) (Vm.Alike.refl U.vm) qK, qD⟩, va_recv hK hPc (ci := 15) (q0 := 0) rfl rfl, fun U hU hW => ⟨rfl, by rw [hU], by rw [hU]; exact hPc, va_K.moved hW.alike hK, hDc.weaken (fun _ _ _ _ => trivial)⟩⟩ rfl rfl hl.1 rfl (lv_room (Nat.le_of_ble_eq_true rfl)) dX13_read_388 ⟨(Nat.le_of_ble_eq_true rfl), (Nat.le_of_ble_eq_true rfl)⟩) hS (fun q _ h => hFc q h) hFc (fun g2 t H1 locs ht hvm hw hB hz1 hk1 hS => ?_)
  obtain ⟨hP1, hD1⟩ := hB
  rw [ht] at hP1
  obtain ⟨hP, hD⟩ := va_join (wr := [(h0, .inr (16, fs)), ((nx 10), .inl (cI, 40, .inl fF)), ((nx 11), .inl (cI, 40, .inl fP))]) (w1 := [(aX, .inr (15, [.int 0, .int 1, .ref (nx 2), .ref (nx 3), .ref (nx 4), .ref (nx 5), .ref (nx 6), .ref (nx 7), .ref (nx 8), .ref (nx 9), .ref (nx 10), .ref (nx 11), .int x2, .ref (nx 13), .ref (nx 14), .int x3])), ((nx 2), .inl (cI, 40, .inl g2))]) hP hD [1, 2] [0, 3, 4] rfl rfl (by decide) (by decide) hk1 hFc hP1 hD1
  generalize H1 = H at hP hS ⊢
  have hP : va_P (dC, dI) vwCl [(h0, .inr (16, fs)), ((nx 10), .inl (cI, 40, .inl fF)), ((nx 11), .inl (cI, 40, .inl fP)), (aX, .inr (15, [.int 0, .int 1, .ref (nx 2), .ref (nx 3), .ref (nx 4), .ref (nx 5), .ref (nx 6), .ref (nx 7), .ref (nx 8), .ref (nx 9), .ref (nx 10), .ref (nx 11), .int x2, .ref (nx 13), .ref (nx 14), .int x3])), ((nx 2), .inl (cI, 40, .inl g2))] H := hP
  have hD : va_D A [(h0, .inr (16, fs)), ((nx 10), .inl (cI, 40, .inl fF)), ((nx 11), .inl (cI, 40, .inl fP)), (aX, .inr (15, [.int 0, .int 1, .ref (nx 2), .ref (nx 3), .ref (nx 4), .ref (nx 5), .ref (nx 6), .ref (nx 7), .ref (nx 8), .ref (nx 9), .ref (nx 10), .ref (nx 11), .int x2, .ref (nx 13), .ref (nx 14), .int x3])), ((nx 2), .inl (cI, 40, .inl g2))] := hD
  have hP := hP.sub (ws' := [(h0, .inr (16, fs)), (aX, .inr (15, [.int 0, .int 1, .ref (nx 2), .ref (nx 3), .ref (nx 4), .ref (nx 5), .ref (nx 6), .ref (nx 7), .ref (nx 8), .ref (nx 9), .ref (nx 10), .ref (nx 11), .int x2, .ref (nx 13), .ref (nx 14), .int x3])), ((nx 2), .inl (cI, 40, .inl g2)), ((nx 10), .inl (cI, 40, .inl fF)), ((nx 11), .inl (cI, 40, .inl fP))]) [0, 3, 4, 1, 2] rfl
  have hD := hD.sub (ws' := [(h0, .inr (16, fs)), (aX, .inr (15, [.int 0, .int 1, .ref (nx 2), .ref (nx 3), .ref (nx 4), .ref (nx 5), .ref (nx 6), .ref (nx 7), .ref (nx 8), .ref (nx 9), .ref (nx 10), .ref (nx 11), .int x2, .ref (nx 13), .ref (nx 14), .int x3])), ((nx 2), .inl (cI, 40, .inl g2)), ((nx 10), .inl (cI, 40, .inl fF)), ((nx 11), .inl (cI, 40, .inl fP))]) [0, 3, 4, 1, 2] (by decide) rfl
  have hg2 : g2 0 = 0 ∧ g2 1 = 0 := hw
  refine lv_aload_n hx hb dX13_read_391 rfl (lv_at hl 2 rfl) ?_
  refine va_get (D := (dC, dI)) (ci := 16) (v := .int 0) (C := RX13) (T := TX13) (N := 120) hx hb hts (fun _ h => List.mem_cons_of_mem _ (List.mem_append_left _ (List.mem_append_right _ h))) hown hK hP 0 rfl rfl 10 (by decide) (hts (.fieldLink RX13 400 "KnotHouseModel" "taped" "I") (by decide +kernel)) (fun _ h9 => h9) hk10 dX13_read_392 ?_
  refine lv_iconst (v := 1) hx hb dX13_read_395 (by decide) ?_
  refine lv_iadd hx hb dX13_read_396 ?_
  refine ow_topi (y := 1) (by decide) ?_
  refine lv_istore_n (lv' := [(3, .int (1)), (2, .int 0), (1, .int 0), (0, .ref h0)]) hx hb dX13_read_397 rfl hl (by decide) rfl (fun ls hl => ?_)
  refine lv_iconst (v := 0) hx hb dX13_read_398 (by decide) ?_
  refine lv_istore (lv' := [(4, .int 0), (3, .int (1)), (2, .int 0), (1, .int 0), (0, .ref h0)]) hx hb dX13_read_399 hl (by decide) rfl (fun ls hl => ?_)
  refine lv_iload hx hb dX13_read_401 (lv_at hl 0 rfl) ?_
  refine lv_iload_n hx hb dX13_read_403 rfl (lv_at hl 3 rfl) ?_
  refine lv_icmp_ge (tgt := 436) hx hb dX13_read_404 (by decide) (fun _ => ?_) (fun c9 => absurd (by decide) c9)
  refine lv_iload_n hx hb dX13_read_436 rfl (lv_at hl 1 rfl) ?_
  refine lv_aload_n hx hb dX13_read_437 rfl (lv_at hl 4 rfl) ?_
  refine va_get (D := (dC, dI)) (ci := 16) (v := .int 0) (C := RX13) (T := TX13) (N := 120) hx hb hts (fun _ h => List.mem_cons_of_mem _ (List.mem_append_left _ (List.mem_append_right _ h))) hown hK hP 0 rfl rfl 10 (by decide) (hts (.fieldLink RX13 400 "KnotHouseModel" "taped" "I") (by decide +kernel)) (fun _ h9 => h9) hk10 dX13_read_438 ?_
  refine lv_icmp_gt (tgt := 446) hx hb dX13_read_441 (by decide) (fun _ => ?_) (fun c9 => absurd (by decide) c9)
  refine lv_aload_n hx hb dX13_read_446 rfl (lv_at hl 4 rfl) ?_
  refine va_get (D := (dC, dI)) (ci := 16) (v := .ref aX) (C := RX13) (T := TX13) (N := 120) hx hb hts (fun _ h => List.mem_cons_of_mem _ (List.mem_append_left _ (List.mem_append_right _ h))) hown hK hP 0 rfl rfl 14 (by decide) (hts (.fieldLink RX13 121 "KnotHouseModel" "made" "LKnotHouseModel$Net;") (by decide +kernel)) (fun _ h9 => h9) hk14 dX13_read_447 ?_
  have hPc := hP.sub (ws' := [(aX, .inr (15, [.int 0, .int 1, .ref (nx 2), .ref (nx 3), .ref (nx 4), .ref (nx 5), .ref (nx 6), .ref (nx 7), .ref (nx 8), .ref (nx 9), .ref (nx 10), .ref (nx 11), .int x2, .ref (nx 13), .ref (nx 14), .int x3])), ((nx 2), .inl (cI, 40, .inl g2)), ((nx 10), .inl (cI, 40, .inl fF))]) [1, 2, 3] rfl
  have hDc := hD.sub (ws' := [(aX, .inr (15, [.int 0, .int 1, .ref (nx 2), .ref (nx 3), .ref (nx 4), .ref (nx 5), .ref (nx 6), .ref (nx 7), .ref (nx 8), .ref (nx 9), .ref (nx 10), .ref (nx 11), .int x2, .ref (nx 13), .ref (nx 14), .int x3])), ((nx 2), .inl (cI, 40, .inl g2)), ((nx 10), .inl (cI, 40, .inl fF))]) [1, 2, 3] (by decide) rfl
  have hFc := va_free (wc := [(aX, .inr (15, [.int 0, .int 1, .ref (nx 2), .ref (nx 3), .ref (nx 4), .ref (nx 5), .ref (nx 6), .ref (nx 7), .ref (nx 8), .ref (nx 9), .ref (nx 10), .ref (nx 11), .int x2, .ref (nx 13), .ref (nx 14), .int x3])), ((nx 2), .inl (cI, 40, .inl g2)), ((nx 10), .inl (cI, 40, .inl fF))]) hD hS hA [1, 2, 3] rfl
  refine va_callv (va_runV (As := []) (rest := []) ⟨hx, hb, hml, hown, hts⟩ (kf_X12_link l dC dI cI cB cJ cZ aX nx x2 x3 g2 fF hg2 H.size) (cwV 0 hts gf_X13_read_2 rfl rfl rfl (by decide +kernel) ⟨(Nat.le_of_ble_eq_true rfl), (Nat.le_of_ble_eq_true rfl)⟩) ⟨fun a U g mk q => by obtain ⟨q0, q1, qP, qK, qD⟩ := q; exact ⟨q0, q1, qP, va_K.moved (u := U) (U := U.calling g mk a) (Vm.Alike.refl U.vm) qK, qD⟩, va_recv hK hPc (ci := 15) (q0 := 0) rfl rfl, fun U hU hW => ⟨rfl, by rw [hU], by rw [hU]; exact hPc, va_K.moved hW.alike hK, hDc.weaken (fun _ _ _ _ => trivial)⟩⟩ rfl rfl hl.1 rfl (lv_room (Nat.le_of_ble_eq_true rfl)) dX13_read_450 ⟨(Nat.le_of_ble_eq_true rfl), (Nat.le_of_ble_eq_true rfl)⟩) hS (fun q _ h => hFc q h) hFc (fun g3 t H1 locs ht hvm hw hB hz1 hk1 hS => ?_)
  obtain ⟨hP1, hD1⟩ := hB
  rw [ht] at hP1
  obtain ⟨hP, hD⟩ := va_join (wr := [(h0, .inr (16, fs)), ((nx 11), .inl (cI, 40, .inl fP))]) (w1 := [(aX, .inr (15, [.int 0, .int 1, .ref (nx 2), .ref (nx 3), .ref (nx 4), .ref (nx 5), .ref (nx 6), .ref (nx 7), .ref (nx 8), .ref (nx 9), .ref (nx 10), .ref (nx 11), .int x2, .ref (nx 13), .ref (nx 14), .int x3])), ((nx 2), .inl (cI, 40, .inl g2)), ((nx 10), .inl (cI, 40, .inl g3))]) hP hD [1, 2, 3] [0, 4] rfl rfl (by decide) (by decide) hk1 hFc hP1 hD1
  generalize H1 = H at hP hS ⊢
  have hP : va_P (dC, dI) vwCl [(h0, .inr (16, fs)), ((nx 11), .inl (cI, 40, .inl fP)), (aX, .inr (15, [.int 0, .int 1, .ref (nx 2), .ref (nx 3), .ref (nx 4), .ref (nx 5), .ref (nx 6), .ref (nx 7), .ref (nx 8), .ref (nx 9), .ref (nx 10), .ref (nx 11), .int x2, .ref (nx 13), .ref (nx 14), .int x3])), ((nx 2), .inl (cI, 40, .inl g2)), ((nx 10), .inl (cI, 40, .inl g3))] H := hP
  have hD : va_D A [(h0, .inr (16, fs)), ((nx 11), .inl (cI, 40, .inl fP)), (aX, .inr (15, [.int 0, .int 1, .ref (nx 2), .ref (nx 3), .ref (nx 4), .ref (nx 5), .ref (nx 6), .ref (nx 7), .ref (nx 8), .ref (nx 9), .ref (nx 10), .ref (nx 11), .int x2, .ref (nx 13), .ref (nx 14), .int x3])), ((nx 2), .inl (cI, 40, .inl g2)), ((nx 10), .inl (cI, 40, .inl g3))] := hD
  have hP := hP.sub (ws' := [(h0, .inr (16, fs)), (aX, .inr (15, [.int 0, .int 1, .ref (nx 2), .ref (nx 3), .ref (nx 4), .ref (nx 5), .ref (nx 6), .ref (nx 7), .ref (nx 8), .ref (nx 9), .ref (nx 10), .ref (nx 11), .int x2, .ref (nx 13), .ref (nx 14), .int x3])), ((nx 2), .inl (cI, 40, .inl g2)), ((nx 10), .inl (cI, 40, .inl g3)), ((nx 11), .inl (cI, 40, .inl fP))]) [0, 2, 3, 4, 1] rfl
  have hD := hD.sub (ws' := [(h0, .inr (16, fs)), (aX, .inr (15, [.int 0, .int 1, .ref (nx 2), .ref (nx 3), .ref (nx 4), .ref (nx 5), .ref (nx 6), .ref (nx 7), .ref (nx 8), .ref (nx 9), .ref (nx 10), .ref (nx 11), .int x2, .ref (nx 13), .ref (nx 14), .int x3])), ((nx 2), .inl (cI, 40, .inl g2)), ((nx 10), .inl (cI, 40, .inl g3)), ((nx 11), .inl (cI, 40, .inl fP))]) [0, 2, 3, 4, 1] (by decide) rfl
  refine lv_aload_n hx hb dX13_read_453 rfl (lv_at hl 4 rfl) ?_
  refine va_get (D := (dC, dI)) (ci := 16) (v := .ref aX) (C := RX13) (T := TX13) (N := 120) hx hb hts (fun _ h => List.mem_cons_of_mem _ (List.mem_append_left _ (List.mem_append_right _ h))) hown hK hP 0 rfl rfl 14 (by decide) (hts (.fieldLink RX13 121 "KnotHouseModel" "made" "LKnotHouseModel$Net;") (by decide +kernel)) (fun _ h9 => h9) hk14 dX13_read_454 ?_
  have hPc := hP.sub (ws' := [(aX, .inr (15, [.int 0, .int 1, .ref (nx 2), .ref (nx 3), .ref (nx 4), .ref (nx 5), .ref (nx 6), .ref (nx 7), .ref (nx 8), .ref (nx 9), .ref (nx 10), .ref (nx 11), .int x2, .ref (nx 13), .ref (nx 14), .int x3])), ((nx 2), .inl (cI, 40, .inl g2)), ((nx 11), .inl (cI, 40, .inl fP))]) [1, 2, 4] rfl
  have hDc := hD.sub (ws' := [(aX, .inr (15, [.int 0, .int 1, .ref (nx 2), .ref (nx 3), .ref (nx 4), .ref (nx 5), .ref (nx 6), .ref (nx 7), .ref (nx 8), .ref (nx 9), .ref (nx 10), .ref (nx 11), .int x2, .ref (nx 13), .ref (nx 14), .int x3])), ((nx 2), .inl (cI, 40, .inl g2)), ((nx 11), .inl (cI, 40, .inl fP))]) [1, 2, 4] (by decide) rfl
  have hFc := va_free (wc := [(aX, .inr (15, [.int 0, .int 1, .ref (nx 2), .ref (nx 3), .ref (nx 4), .ref (nx 5), .ref (nx 6), .ref (nx 7), .ref (nx 8), .ref (nx 9), .ref (nx 10), .ref (nx 11), .int x2, .ref (nx 13), .ref (nx 14), .int x3])), ((nx 2), .inl (cI, 40, .inl g2)), ((nx 11), .inl (cI, 40, .inl fP))]) hD hS hA [1, 2, 4] rfl
  refine va_calli (va_runV (As := []) (rest := []) ⟨hx, hb, hml, hown, hts⟩ (kf_X12_isPlane l dC dI cI cB cJ cZ aX nx x2 x3 g2 fP hg2 H.size) (cwV 0 hts gf_X13_read_3 rfl rfl rfl (by decide +kernel) ⟨(Nat.le_of_ble_eq_true rfl), (Nat.le_of_ble_eq_true rfl)⟩) ⟨fun a U g mk q => by obtain ⟨q0, q1, qP, qK, qD⟩ := q; exact ⟨q0, q1, qP, va_K.moved (u := U) (U := U.calling g mk a) (Vm.Alike.refl U.vm) qK, qD⟩, va_recv hK hPc (ci := 15) (q0 := 0) rfl rfl, fun U hU hW => ⟨rfl, by rw [hU], by rw [hU]; exact hPc, va_K.moved hW.alike hK, hDc.weaken (fun _ _ _ _ => trivial)⟩⟩ rfl rfl hl.1 rfl (lv_room (Nat.le_of_ble_eq_true rfl)) dX13_read_457 ⟨(Nat.le_of_ble_eq_true rfl), (Nat.le_of_ble_eq_true rfl)⟩) hS (fun q _ h => hFc q h) hFc (fun r9 g4 t H1 locs ht hvm hw hB hz1 hk1 hS => ?_)
  obtain ⟨hP1, hD1⟩ := hB
  rw [ht] at hP1
  obtain ⟨hP, hD⟩ := va_join (wr := [(h0, .inr (16, fs)), ((nx 10), .inl (cI, 40, .inl g3))]) (w1 := [(aX, .inr (15, [.int 0, .int 1, .ref (nx 2), .ref (nx 3), .ref (nx 4), .ref (nx 5), .ref (nx 6), .ref (nx 7), .ref (nx 8), .ref (nx 9), .ref (nx 10), .ref (nx 11), .int 1, .ref (nx 13), .ref (nx 14), .int 0])), ((nx 2), .inl (cI, 40, .inl g2)), ((nx 11), .inl (cI, 40, .inl g4))]) hP hD [1, 2, 4] [0, 3] rfl rfl (by decide) (by decide) hk1 hFc hP1 hD1
  generalize H1 = H at hP hS ⊢
  have hP : va_P (dC, dI) vwCl [(h0, .inr (16, fs)), ((nx 10), .inl (cI, 40, .inl g3)), (aX, .inr (15, [.int 0, .int 1, .ref (nx 2), .ref (nx 3), .ref (nx 4), .ref (nx 5), .ref (nx 6), .ref (nx 7), .ref (nx 8), .ref (nx 9), .ref (nx 10), .ref (nx 11), .int 1, .ref (nx 13), .ref (nx 14), .int 0])), ((nx 2), .inl (cI, 40, .inl g2)), ((nx 11), .inl (cI, 40, .inl g4))] H := hP
  have hD : va_D A [(h0, .inr (16, fs)), ((nx 10), .inl (cI, 40, .inl g3)), (aX, .inr (15, [.int 0, .int 1, .ref (nx 2), .ref (nx 3), .ref (nx 4), .ref (nx 5), .ref (nx 6), .ref (nx 7), .ref (nx 8), .ref (nx 9), .ref (nx 10), .ref (nx 11), .int 1, .ref (nx 13), .ref (nx 14), .int 0])), ((nx 2), .inl (cI, 40, .inl g2)), ((nx 11), .inl (cI, 40, .inl g4))] := hD
  have hP := hP.sub (ws' := [(h0, .inr (16, fs)), (aX, .inr (15, [.int 0, .int 1, .ref (nx 2), .ref (nx 3), .ref (nx 4), .ref (nx 5), .ref (nx 6), .ref (nx 7), .ref (nx 8), .ref (nx 9), .ref (nx 10), .ref (nx 11), .int 1, .ref (nx 13), .ref (nx 14), .int 0])), ((nx 2), .inl (cI, 40, .inl g2)), ((nx 10), .inl (cI, 40, .inl g3)), ((nx 11), .inl (cI, 40, .inl g4))]) [0, 2, 3, 1, 4] rfl
  have hD := hD.sub (ws' := [(h0, .inr (16, fs)), (aX, .inr (15, [.int 0, .int 1, .ref (nx 2), .ref (nx 3), .ref (nx 4), .ref (nx 5), .ref (nx 6), .ref (nx 7), .ref (nx 8), .ref (nx 9), .ref (nx 10), .ref (nx 11), .int 1, .ref (nx 13), .ref (nx 14), .int 0])), ((nx 2), .inl (cI, 40, .inl g2)), ((nx 10), .inl (cI, 40, .inl g3)), ((nx 11), .inl (cI, 40, .inl g4))]) [0, 2, 3, 1, 4] (by decide) rfl
  obtain rfl : r9 = 1 := hw
  refine lv_if_eq (tgt := 467) hx hb dX13_read_460 (by decide) (fun c9 => absurd c9 (by decide)) (fun _ => ?_)
  refine lv_iconst (v := (-1)) hx hb dX13_read_463 (by decide) ?_
  refine lv_goto (tgt := 471) hx hb dX13_read_464 (by decide) ?_
  rw [hQQ]
  exact W.iret (v := (-1)) hx hb hr (fun t ht hW => ⟨⟨(-1), (g2, g3, g4), rfl, ⟨rfl, hg2⟩, by rw [ht]; exact hP, hD⟩, hS.F ht⟩) hS.2.2 dX13_read_471
theorem dX13_leastOf_0 : decode cX13_leastOf 0 = .ok (.iconst 0, 1) := by decide +kernel
theorem dX13_leastOf_1 : decode cX13_leastOf 1 = .ok (.istore 4, 2) := by decide +kernel
theorem dX13_leastOf_3 : decode cX13_leastOf 3 = .ok (.iconst 0, 1) := by decide +kernel
theorem dX13_leastOf_4 : decode cX13_leastOf 4 = .ok (.istore 5, 2) := by decide +kernel
theorem dX13_leastOf_6 : decode cX13_leastOf 6 = .ok (.iload 5, 2) := by decide +kernel
theorem dX13_leastOf_8 : decode cX13_leastOf 8 = .ok (.aload_n 1, 1) := by decide +kernel
theorem dX13_leastOf_9 : decode cX13_leastOf 9 = .ok (.getfield 44, 3) := by decide +kernel
theorem dX13_leastOf_12 : decode cX13_leastOf 12 = .ok (.if_icmp .ge 91, 3) := by decide +kernel
theorem dX13_leastOf_103 : decode cX13_leastOf 103 = .ok (.iload 4, 2) := by decide +kernel
theorem dX13_leastOf_105 : decode cX13_leastOf 105 = .ok (.ireturn, 1) := by decide +kernel
def wf_N_leastOf : List Cond := .code yX13_leastOf cX13_leastOf 7 (some .int) :: ([] ++ wsX130 ++ (wsX120 ++ []))
set_option maxHeartbeats 4000000 in
set_option maxRecDepth 100000 in
theorem kf_X13_leastOf (l : Launch) (dC : Nat → ClassId) (dI : Nat → Nat → Nat) (cI cB cJ cZ : ClassId) (h0 : Nat) (fs : List Value) (hfs : fs.length = 120) (aX : Nat) (nx : Nat → Nat) (x2 x3 : Int32) (sz : Nat) : Met l yX13_leastOf wf_N_leastOf (({ frames := 0, cells := 0, slots := 0, locals := 0 } : Room)) (va_Pc [.ref h0, .ref aX, .int 0, .int 0] (fun U => U.heap.size = sz ∧ va_P (dC, dI) vwCl [(h0, .inr (16, fs)), (aX, .inr (15, [.int 0, .int 1, .ref (nx 2), .ref (nx 3), .ref (nx 4), .ref (nx 5), .ref (nx 6), .ref (nx 7), .ref (nx 8), .ref (nx 9), .ref (nx 10), .ref (nx 11), .int x2, .ref (nx 13), .ref (nx 14), .int x3]))] U.heap ∧ va_K (dC, dI) vwCl [(cI, .int), (cB, .byte), (cJ, .long), (cZ, .boolean)] U ∧ va_D (fun _ => True) [(h0, .inr (16, fs)), (aX, .inr (15, [.int 0, .int 1, .ref (nx 2), .ref (nx 3), .ref (nx 4), .ref (nx 5), .ref (nx 6), .ref (nx 7), .ref (nx 8), .ref (nx 9), .ref (nx 10), .ref (nx 11), .int x2, .ref (nx 13), .ref (nx 14), .int x3]))] ∧ ow_N13 U)) (va_Qi (fun r (g : Unit) => r = 0) (fun g t => va_P (dC, dI) vwCl [(h0, .inr (16, fs)), (aX, .inr (15, [.int 0, .int 1, .ref (nx 2), .ref (nx 3), .ref (nx 4), .ref (nx 5), .ref (nx 6), .ref (nx 7), .ref (nx 8), .ref (nx 9), .ref (nx 10), .ref (nx 11), .int x2, .ref (nx 13), .ref (nx 14), .int x3]))] t.heap ∧ va_D (va_A [(h0, .inr (16, fs)), (aX, .inr (15, [.int 0, .int 1, .ref (nx 2), .ref (nx 3), .ref (nx 4), .ref (nx 5), .ref (nx 6), .ref (nx 7), .ref (nx 8), .ref (nx 9), .ref (nx 10), .ref (nx 11), .int x2, .ref (nx 13), .ref (nx 14), .int x3]))] sz) [(h0, .inr (16, fs)), (aX, .inr (15, [.int 0, .int 1, .ref (nx 2), .ref (nx 3), .ref (nx 4), .ref (nx 5), .ref (nx 6), .ref (nx 7), .ref (nx 8), .ref (nx 9), .ref (nx 10), .ref (nx 11), .int x2, .ref (nx 13), .ref (nx 14), .int x3]))]) (va_A [(h0, .inr (16, fs)), (aX, .inr (15, [.int 0, .int 1, .ref (nx 2), .ref (nx 3), .ref (nx 4), .ref (nx 5), .ref (nx 6), .ref (nx 7), .ref (nx 8), .ref (nx 9), .ref (nx 10), .ref (nx 11), .int x2, .ref (nx 13), .ref (nx 14), .int x3]))] sz)) 0 0 (va_A [(h0, .inr (16, fs)), (aX, .inr (15, [.int 0, .int 1, .ref (nx 2), .ref (nx 3), .ref (nx 4), .ref (nx 5), .ref (nx 6), .ref (nx 7), .ref (nx 8), .ref (nx 9), .ref (nx 10), .ref (nx 11), .int x2, .ref (nx 13), .ref (nx 14), .int x3]))] sz) := by
  refine Met.ofW (cc := cX13_leastOf) (maxL := 7) (ret := (some .int)) (by decide) rfl ?_
  intro p e s m args below meth c s₁ B hml hv
  obtain ⟨rfl, hsz, hP, hK, hD0, hN⟩ := hv
  have hx := B.exec
  have hb := B.bytes
  have hr := B.returns
  have hts := atoms_spec (ws := wf_N_leastOf) B.pre
  have hown : s.vm.findClass RX13 = some m.cls := findClass_of_methodNamed B.named
  have hlocks := B.notSynchronized
  subst hsz
  have hD := hD0.self (sz := s.heap.size)
  generalize hAe : va_A [(h0, .inr (16, fs)), (aX, .inr (15, [.int 0, .int 1, .ref (nx 2), .ref (nx 3), .ref (nx 4), .ref (nx 5), .ref (nx 6), .ref (nx 7), .ref (nx 8), .ref (nx 9), .ref (nx 10), .ref (nx 11), .int x2, .ref (nx 13), .ref (nx 14), .int x3]))] s.heap.size = A at hD ⊢
  have hA : ∀ q : Nat, s.heap.size ≤ q → A q := fun q h => by rw [← hAe]; exact Or.inr h
  have hS : va_S A s.heap s.heap [] := va_S.rf
  have hP : va_P (dC, dI) vwCl [(h0, .inr (16, fs)), (aX, .inr (15, [.int 0, .int 1, .ref (nx 2), .ref (nx 3), .ref (nx 4), .ref (nx 5), .ref (nx 6), .ref (nx 7), .ref (nx 8), .ref (nx 9), .ref (nx 10), .ref (nx 11), .int x2, .ref (nx 13), .ref (nx 14), .int x3]))] s.heap := hP
  have hl := lv_entry ([.ref h0, .ref aX, .int 0, .int 0]) (n := 7) (Nat.le_of_ble_eq_true rfl)
  rw [lg_entry_eq]
  generalize (lg_sl ([.ref h0, .ref aX, .int 0, .int 0]) ++ List.replicate (7 - (lg_sl ([.ref h0, .ref aX, .int 0, .int 0])).length) Slot.unset).toArray = ls at hl ⊢
  have hl : lv_has ls 7 [(0, .ref h0), (1, .ref aX), (2, .int 0), (3, .int 0)] := hl
  refine ow_named (fun QQ hQQ => ?_)
  refine lv_iconst (v := 0) hx hb dX13_leastOf_0 (by decide) ?_
  refine lv_istore (lv' := [(4, .int 0), (0, .ref h0), (1, .ref aX), (2, .int 0), (3, .int 0)]) hx hb dX13_leastOf_1 hl (by decide) rfl (fun ls hl => ?_)
  refine lv_iconst (v := 0) hx hb dX13_leastOf_3 (by decide) ?_
  refine lv_istore (lv' := [(5, .int 0), (4, .int 0), (0, .ref h0), (1, .ref aX), (2, .int 0), (3, .int 0)]) hx hb dX13_leastOf_4 hl (by decide) rfl (fun ls hl => ?_)
  refine lv_iload hx hb dX13_leastOf_6 (lv_at hl 0 rfl) ?_
  refine lv_aload_n hx hb dX13_leastOf_8 rfl (lv_at hl 3 rfl) ?_
  refine va_getN (D := (dC, dI)) (ci := 15) (v := .int 0) (C := RX12) (T := TX12) (N := 16) hx hb hts (fun _ h => List.mem_cons_of_mem _ (List.mem_append_right _ (List.mem_append_left _ h))) hown hK hP 1 rfl rfl 0 (by decide) (va_Nw.use rfl hN.1) (fun _ h9 => h9) rfl dX13_leastOf_9 ?_
  refine lv_icmp_ge (tgt := 103) hx hb dX13_leastOf_12 (by decide) (fun _ => ?_) (fun c9 => absurd (by decide) c9)
  refine lv_iload hx hb dX13_leastOf_103 (lv_at hl 1 rfl) ?_
  rw [hQQ]
  exact W.iret (v := 0) hx hb hr (fun t ht hW => ⟨⟨0, (), rfl, rfl, by rw [ht]; exact hP, hD⟩, hS.F ht⟩) hS.2.2 dX13_leastOf_105
theorem dX13_pack_0 : decode cX13_pack 0 = .ok (.aload_n 1, 1) := by decide +kernel
theorem dX13_pack_1 : decode cX13_pack 1 = .ok (.invokevirtual 71, 3) := by decide +kernel
theorem dX13_pack_4 : decode cX13_pack 4 = .ok (.aload_n 1, 1) := by decide +kernel
theorem dX13_pack_5 : decode cX13_pack 5 = .ok (.invokevirtual 75, 3) := by decide +kernel
theorem dX13_pack_8 : decode cX13_pack 8 = .ok (.iconst 0, 1) := by decide +kernel
theorem dX13_pack_9 : decode cX13_pack 9 = .ok (.istore 4, 2) := by decide +kernel
theorem dX13_pack_11 : decode cX13_pack 11 = .ok (.iconst 0, 1) := by decide +kernel
theorem dX13_pack_12 : decode cX13_pack 12 = .ok (.istore 5, 2) := by decide +kernel
theorem dX13_pack_14 : decode cX13_pack 14 = .ok (.iconst 0, 1) := by decide +kernel
theorem dX13_pack_15 : decode cX13_pack 15 = .ok (.istore 6, 2) := by decide +kernel
theorem dX13_pack_17 : decode cX13_pack 17 = .ok (.iload 6, 2) := by decide +kernel
theorem dX13_pack_19 : decode cX13_pack 19 = .ok (.aload_n 1, 1) := by decide +kernel
theorem dX13_pack_20 : decode cX13_pack 20 = .ok (.getfield 78, 3) := by decide +kernel
theorem dX13_pack_23 : decode cX13_pack 23 = .ok (.if_icmp .ge 54, 3) := by decide +kernel
theorem dX13_pack_26 : decode cX13_pack 26 = .ok (.aload_n 0, 1) := by decide +kernel
theorem dX13_pack_27 : decode cX13_pack 27 = .ok (.aload_n 1, 1) := by decide +kernel
theorem dX13_pack_28 : decode cX13_pack 28 = .ok (.iload 6, 2) := by decide +kernel
theorem dX13_pack_30 : decode cX13_pack 30 = .ok (.bipush 32, 2) := by decide +kernel
theorem dX13_pack_32 : decode cX13_pack 32 = .ok (.iload 4, 2) := by decide +kernel
theorem dX13_pack_34 : decode cX13_pack 34 = .ok (.imul, 1) := by decide +kernel
theorem dX13_pack_35 : decode cX13_pack 35 = .ok (.invokevirtual 81, 3) := by decide +kernel
theorem dX13_pack_38 : decode cX13_pack 38 = .ok (.istore 7, 2) := by decide +kernel
theorem dX13_pack_40 : decode cX13_pack 40 = .ok (.iload 7, 2) := by decide +kernel
theorem dX13_pack_42 : decode cX13_pack 42 = .ok (.ifCond .ne 9, 3) := by decide +kernel
theorem dX13_pack_45 : decode cX13_pack 45 = .ok (.iinc 5 1, 3) := by decide +kernel
theorem dX13_pack_48 : decode cX13_pack 48 = .ok (.goto 23, 3) := by decide +kernel
theorem dX13_pack_71 : decode cX13_pack 71 = .ok (.iinc 6 1, 3) := by decide +kernel
theorem dX13_pack_74 : decode cX13_pack 74 = .ok (.goto (-57), 3) := by decide +kernel
theorem dX13_pack_77 : decode cX13_pack 77 = .ok (.iconst 0, 1) := by decide +kernel
theorem dX13_pack_78 : decode cX13_pack 78 = .ok (.istore 6, 2) := by decide +kernel
theorem dX13_pack_80 : decode cX13_pack 80 = .ok (.iconst 0, 1) := by decide +kernel
theorem dX13_pack_81 : decode cX13_pack 81 = .ok (.istore 7, 2) := by decide +kernel
theorem dX13_pack_83 : decode cX13_pack 83 = .ok (.iconst 0, 1) := by decide +kernel
theorem dX13_pack_84 : decode cX13_pack 84 = .ok (.istore 8, 2) := by decide +kernel
theorem dX13_pack_86 : decode cX13_pack 86 = .ok (.iload 8, 2) := by decide +kernel
theorem dX13_pack_88 : decode cX13_pack 88 = .ok (.iload 4, 2) := by decide +kernel
theorem dX13_pack_90 : decode cX13_pack 90 = .ok (.if_icmp .ge 192, 3) := by decide +kernel
theorem dX13_pack_282 : decode cX13_pack 282 = .ok (.iconst 0, 1) := by decide +kernel
theorem dX13_pack_283 : decode cX13_pack 283 = .ok (.istore 8, 2) := by decide +kernel
theorem dX13_pack_285 : decode cX13_pack 285 = .ok (.iload 8, 2) := by decide +kernel
theorem dX13_pack_287 : decode cX13_pack 287 = .ok (.iload 5, 2) := by decide +kernel
theorem dX13_pack_289 : decode cX13_pack 289 = .ok (.if_icmp .ge 19, 3) := by decide +kernel
theorem dX13_pack_292 : decode cX13_pack 292 = .ok (.iinc 6 1, 3) := by decide +kernel
theorem dX13_pack_295 : decode cX13_pack 295 = .ok (.aload_n 2, 1) := by decide +kernel
theorem dX13_pack_296 : decode cX13_pack 296 = .ok (.iload_n 3, 1) := by decide +kernel
theorem dX13_pack_297 : decode cX13_pack 297 = .ok (.iload 6, 2) := by decide +kernel
theorem dX13_pack_299 : decode cX13_pack 299 = .ok (.iadd, 1) := by decide +kernel
theorem dX13_pack_300 : decode cX13_pack 300 = .ok (.iconst 0, 1) := by decide +kernel
theorem dX13_pack_301 : decode cX13_pack 301 = .ok (.iastore, 1) := by decide +kernel
theorem dX13_pack_302 : decode cX13_pack 302 = .ok (.iinc 8 1, 3) := by decide +kernel
theorem dX13_pack_305 : decode cX13_pack 305 = .ok (.goto (-20), 3) := by decide +kernel
theorem dX13_pack_308 : decode cX13_pack 308 = .ok (.aload_n 2, 1) := by decide +kernel
theorem dX13_pack_309 : decode cX13_pack 309 = .ok (.iload_n 3, 1) := by decide +kernel
theorem dX13_pack_310 : decode cX13_pack 310 = .ok (.iload 6, 2) := by decide +kernel
theorem dX13_pack_312 : decode cX13_pack 312 = .ok (.iastore, 1) := by decide +kernel
theorem dX13_pack_313 : decode cX13_pack 313 = .ok (.return_, 1) := by decide +kernel
def wf_N_pack : List Cond := .code yX13_pack cX13_pack 12 none :: ([] ++ wsX130 ++ (wsX120 ++ (wsV RX13 71 RX12 yX12_link wf_Nlink ++ (wsV RX13 75 RX12 yX12_split wf_Nsplit ++ (wsV RX13 81 RX13 yX13_leastOf wf_N_leastOf ++ [])))))
theorem gf_X13_pack_0 : GoodIn wf_N_pack (wsV RX13 71 RX12 yX12_link wf_Nlink) := goodIn_sub (fun _ h => List.mem_cons_of_mem _ (List.mem_append_right _ (List.mem_append_right _ (List.mem_append_left _ h)))) (by decide +kernel)
theorem gf_X13_pack_1 : GoodIn wf_N_pack (wsV RX13 75 RX12 yX12_split wf_Nsplit) := goodIn_sub (fun _ h => List.mem_cons_of_mem _ (List.mem_append_right _ (List.mem_append_right _ (List.mem_append_right _ (List.mem_append_left _ h))))) (by decide +kernel)
theorem gf_X13_pack_2 : GoodIn wf_N_pack (wsV RX13 81 RX13 yX13_leastOf wf_N_leastOf) := goodIn_sub (fun _ h => List.mem_cons_of_mem _ (List.mem_append_right _ (List.mem_append_right _ (List.mem_append_right _ (List.mem_append_right _ (List.mem_append_left _ h)))))) (by decide +kernel)
set_option maxHeartbeats 4000000 in
set_option maxRecDepth 100000 in
theorem kf_X13_pack (l : Launch) (dC : Nat → ClassId) (dI : Nat → Nat → Nat) (cI cB cJ cZ : ClassId) (h0 : Nat) (fs : List Value) (hfs : fs.length = 120) (aX : Nat) (nx : Nat → Nat) (aW : Nat) (x2 x3 : Int32) (fB fF fP fW : Nat → Int32) (hB : fB 0 = 0 ∧ fB 1 = 0) (sz : Nat) : Met l yX13_pack wf_N_pack (({ frames := 1, cells := 0, slots := 0, locals := 30 } : Room)) (va_Pc [.ref h0, .ref aX, .ref aW, .int 0] (fun U => U.heap.size = sz ∧ va_P (dC, dI) vwCl [(h0, .inr (16, fs)), (aX, .inr (15, [.int 0, .int 1, .ref (nx 2), .ref (nx 3), .ref (nx 4), .ref (nx 5), .ref (nx 6), .ref (nx 7), .ref (nx 8), .ref (nx 9), .ref (nx 10), .ref (nx 11), .int x2, .ref (nx 13), .ref (nx 14), .int x3])), ((nx 2), .inl (cI, 40, .inl fB)), ((nx 10), .inl (cI, 40, .inl fF)), ((nx 11), .inl (cI, 40, .inl fP)), (aW, .inl (cI, 1280, .inl fW))] U.heap ∧ va_K (dC, dI) vwCl [(cI, .int), (cB, .byte), (cJ, .long), (cZ, .boolean)] U ∧ va_D (fun _ => True) [(h0, .inr (16, fs)), (aX, .inr (15, [.int 0, .int 1, .ref (nx 2), .ref (nx 3), .ref (nx 4), .ref (nx 5), .ref (nx 6), .ref (nx 7), .ref (nx 8), .ref (nx 9), .ref (nx 10), .ref (nx 11), .int x2, .ref (nx 13), .ref (nx 14), .int x3])), ((nx 2), .inl (cI, 40, .inl fB)), ((nx 10), .inl (cI, 40, .inl fF)), ((nx 11), .inl (cI, 40, .inl fP)), (aW, .inl (cI, 1280, .inl fW))] ∧ ow_N13 U)) (va_Qv (fun (g : (Nat → Int32) × (Nat → Int32) × (Nat → Int32)) => True) (fun g t => va_P (dC, dI) vwCl [(h0, .inr (16, fs)), (aX, .inr (15, [.int 0, .int 1, .ref (nx 2), .ref (nx 3), .ref (nx 4), .ref (nx 5), .ref (nx 6), .ref (nx 7), .ref (nx 8), .ref (nx 9), .ref (nx 10), .ref (nx 11), .int 1, .ref (nx 13), .ref (nx 14), .int x3])), ((nx 2), .inl (cI, 40, .inl fB)), ((nx 10), .inl (cI, 40, .inl g.1)), ((nx 11), .inl (cI, 40, .inl g.2.1)), (aW, .inl (cI, 1280, .inl g.2.2))] t.heap ∧ va_D (va_A [(h0, .inr (16, fs)), (aX, .inr (15, [.int 0, .int 1, .ref (nx 2), .ref (nx 3), .ref (nx 4), .ref (nx 5), .ref (nx 6), .ref (nx 7), .ref (nx 8), .ref (nx 9), .ref (nx 10), .ref (nx 11), .int x2, .ref (nx 13), .ref (nx 14), .int x3])), ((nx 2), .inl (cI, 40, .inl fB)), ((nx 10), .inl (cI, 40, .inl fF)), ((nx 11), .inl (cI, 40, .inl fP)), (aW, .inl (cI, 1280, .inl fW))] sz) [(h0, .inr (16, fs)), (aX, .inr (15, [.int 0, .int 1, .ref (nx 2), .ref (nx 3), .ref (nx 4), .ref (nx 5), .ref (nx 6), .ref (nx 7), .ref (nx 8), .ref (nx 9), .ref (nx 10), .ref (nx 11), .int 1, .ref (nx 13), .ref (nx 14), .int x3])), ((nx 2), .inl (cI, 40, .inl fB)), ((nx 10), .inl (cI, 40, .inl g.1)), ((nx 11), .inl (cI, 40, .inl g.2.1)), (aW, .inl (cI, 1280, .inl g.2.2))]) (va_A [(h0, .inr (16, fs)), (aX, .inr (15, [.int 0, .int 1, .ref (nx 2), .ref (nx 3), .ref (nx 4), .ref (nx 5), .ref (nx 6), .ref (nx 7), .ref (nx 8), .ref (nx 9), .ref (nx 10), .ref (nx 11), .int x2, .ref (nx 13), .ref (nx 14), .int x3])), ((nx 2), .inl (cI, 40, .inl fB)), ((nx 10), .inl (cI, 40, .inl fF)), ((nx 11), .inl (cI, 40, .inl fP)), (aW, .inl (cI, 1280, .inl fW))] sz)) 0 0 (va_A [(h0, .inr (16, fs)), (aX, .inr (15, [.int 0, .int 1, .ref (nx 2), .ref (nx 3), .ref (nx 4), .ref (nx 5), .ref (nx 6), .ref (nx 7), .ref (nx 8), .ref (nx 9), .ref (nx 10), .ref (nx 11), .int x2, .ref (nx 13), .ref (nx 14), .int x3])), ((nx 2), .inl (cI, 40, .inl fB)), ((nx 10), .inl (cI, 40, .inl fF)), ((nx 11), .inl (cI, 40, .inl fP)), (aW, .inl (cI, 1280, .inl fW))] sz) := by
  refine Met.ofW (cc := cX13_pack) (maxL := 12) (ret := none) (by decide) rfl ?_
  intro p e s m args below meth c s₁ B hml hv
  obtain ⟨rfl, hsz, hP, hK, hD0, hN⟩ := hv
  have hx := B.exec
  have hb := B.bytes
  have hr := B.returns
  have hts := atoms_spec (ws := wf_N_pack) B.pre
  have hown : s.vm.findClass RX13 = some m.cls := findClass_of_methodNamed B.named
  have hlocks := B.notSynchronized
  subst hsz
  have hD := hD0.self (sz := s.heap.size)
  generalize hAe : va_A [(h0, .inr (16, fs)), (aX, .inr (15, [.int 0, .int 1, .ref (nx 2), .ref (nx 3), .ref (nx 4), .ref (nx 5), .ref (nx 6), .ref (nx 7), .ref (nx 8), .ref (nx 9), .ref (nx 10), .ref (nx 11), .int x2, .ref (nx 13), .ref (nx 14), .int x3])), ((nx 2), .inl (cI, 40, .inl fB)), ((nx 10), .inl (cI, 40, .inl fF)), ((nx 11), .inl (cI, 40, .inl fP)), (aW, .inl (cI, 1280, .inl fW))] s.heap.size = A at hD ⊢
  have hA : ∀ q : Nat, s.heap.size ≤ q → A q := fun q h => by rw [← hAe]; exact Or.inr h
  have hS : va_S A s.heap s.heap [] := va_S.rf
  have hP : va_P (dC, dI) vwCl [(h0, .inr (16, fs)), (aX, .inr (15, [.int 0, .int 1, .ref (nx 2), .ref (nx 3), .ref (nx 4), .ref (nx 5), .ref (nx 6), .ref (nx 7), .ref (nx 8), .ref (nx 9), .ref (nx 10), .ref (nx 11), .int x2, .ref (nx 13), .ref (nx 14), .int x3])), ((nx 2), .inl (cI, 40, .inl fB)), ((nx 10), .inl (cI, 40, .inl fF)), ((nx 11), .inl (cI, 40, .inl fP)), (aW, .inl (cI, 1280, .inl fW))] s.heap := hP
  have hl := lv_entry ([.ref h0, .ref aX, .ref aW, .int 0]) (n := 12) (Nat.le_of_ble_eq_true rfl)
  rw [lg_entry_eq]
  generalize (lg_sl ([.ref h0, .ref aX, .ref aW, .int 0]) ++ List.replicate (12 - (lg_sl ([.ref h0, .ref aX, .ref aW, .int 0])).length) Slot.unset).toArray = ls at hl ⊢
  have hl : lv_has ls 12 [(0, .ref h0), (1, .ref aX), (2, .ref aW), (3, .int 0)] := hl
  refine ow_named (fun QQ hQQ => ?_)
  refine lv_aload_n hx hb dX13_pack_0 rfl (lv_at hl 1 rfl) ?_
  have hPc := hP.sub (ws' := [(aX, .inr (15, [.int 0, .int 1, .ref (nx 2), .ref (nx 3), .ref (nx 4), .ref (nx 5), .ref (nx 6), .ref (nx 7), .ref (nx 8), .ref (nx 9), .ref (nx 10), .ref (nx 11), .int x2, .ref (nx 13), .ref (nx 14), .int x3])), ((nx 2), .inl (cI, 40, .inl fB)), ((nx 10), .inl (cI, 40, .inl fF))]) [1, 2, 3] rfl
  have hDc := hD.sub (ws' := [(aX, .inr (15, [.int 0, .int 1, .ref (nx 2), .ref (nx 3), .ref (nx 4), .ref (nx 5), .ref (nx 6), .ref (nx 7), .ref (nx 8), .ref (nx 9), .ref (nx 10), .ref (nx 11), .int x2, .ref (nx 13), .ref (nx 14), .int x3])), ((nx 2), .inl (cI, 40, .inl fB)), ((nx 10), .inl (cI, 40, .inl fF))]) [1, 2, 3] (by decide) rfl
  have hFc := va_free (wc := [(aX, .inr (15, [.int 0, .int 1, .ref (nx 2), .ref (nx 3), .ref (nx 4), .ref (nx 5), .ref (nx 6), .ref (nx 7), .ref (nx 8), .ref (nx 9), .ref (nx 10), .ref (nx 11), .int x2, .ref (nx 13), .ref (nx 14), .int x3])), ((nx 2), .inl (cI, 40, .inl fB)), ((nx 10), .inl (cI, 40, .inl fF))]) hD hS hA [1, 2, 3] rfl
  refine va_callv (va_runV (As := []) (rest := []) ⟨hx, hb, hml, hown, hts⟩ (kf_X12_link l dC dI cI cB cJ cZ aX nx x2 x3 fB fF hB s.heap.size) (cwV 0 hts gf_X13_pack_0 rfl rfl rfl (by decide +kernel) ⟨(Nat.le_of_ble_eq_true rfl), (Nat.le_of_ble_eq_true rfl)⟩) ⟨fun a U g mk q => by obtain ⟨q0, q1, qP, qK, qD⟩ := q; exact ⟨q0, q1, qP, va_K.moved (u := U) (U := U.calling g mk a) (Vm.Alike.refl U.vm) qK, qD⟩, va_recv hK hPc (ci := 15) (q0 := 0) rfl rfl, fun U hU hW => ⟨rfl, by rw [hU], by rw [hU]; exact hPc, va_K.moved hW.alike hK, hDc.weaken (fun _ _ _ _ => trivial)⟩⟩ rfl rfl hl.1 rfl (lv_room (Nat.le_of_ble_eq_true rfl)) dX13_pack_1 ⟨(Nat.le_of_ble_eq_true rfl), (Nat.le_of_ble_eq_true rfl)⟩) hS (fun q _ h => hFc q h) hFc (fun g3 t H1 locs ht hvm hw hB hz1 hk1 hS => ?_)
  obtain ⟨hP1, hD1⟩ := hB
  rw [ht] at hP1
  obtain ⟨hP, hD⟩ := va_join (wr := [(h0, .inr (16, fs)), ((nx 11), .inl (cI, 40, .inl fP)), (aW, .inl (cI, 1280, .inl fW))]) (w1 := [(aX, .inr (15, [.int 0, .int 1, .ref (nx 2), .ref (nx 3), .ref (nx 4), .ref (nx 5), .ref (nx 6), .ref (nx 7), .ref (nx 8), .ref (nx 9), .ref (nx 10), .ref (nx 11), .int x2, .ref (nx 13), .ref (nx 14), .int x3])), ((nx 2), .inl (cI, 40, .inl fB)), ((nx 10), .inl (cI, 40, .inl g3))]) hP hD [1, 2, 3] [0, 4, 5] rfl rfl (by decide) (by decide) hk1 hFc hP1 hD1
  generalize H1 = H at hP hS ⊢
  have hP : va_P (dC, dI) vwCl [(h0, .inr (16, fs)), ((nx 11), .inl (cI, 40, .inl fP)), (aW, .inl (cI, 1280, .inl fW)), (aX, .inr (15, [.int 0, .int 1, .ref (nx 2), .ref (nx 3), .ref (nx 4), .ref (nx 5), .ref (nx 6), .ref (nx 7), .ref (nx 8), .ref (nx 9), .ref (nx 10), .ref (nx 11), .int x2, .ref (nx 13), .ref (nx 14), .int x3])), ((nx 2), .inl (cI, 40, .inl fB)), ((nx 10), .inl (cI, 40, .inl g3))] H := hP
  have hD : va_D A [(h0, .inr (16, fs)), ((nx 11), .inl (cI, 40, .inl fP)), (aW, .inl (cI, 1280, .inl fW)), (aX, .inr (15, [.int 0, .int 1, .ref (nx 2), .ref (nx 3), .ref (nx 4), .ref (nx 5), .ref (nx 6), .ref (nx 7), .ref (nx 8), .ref (nx 9), .ref (nx 10), .ref (nx 11), .int x2, .ref (nx 13), .ref (nx 14), .int x3])), ((nx 2), .inl (cI, 40, .inl fB)), ((nx 10), .inl (cI, 40, .inl g3))] := hD
  have hP := hP.sub (ws' := [(h0, .inr (16, fs)), (aX, .inr (15, [.int 0, .int 1, .ref (nx 2), .ref (nx 3), .ref (nx 4), .ref (nx 5), .ref (nx 6), .ref (nx 7), .ref (nx 8), .ref (nx 9), .ref (nx 10), .ref (nx 11), .int x2, .ref (nx 13), .ref (nx 14), .int x3])), ((nx 2), .inl (cI, 40, .inl fB)), ((nx 10), .inl (cI, 40, .inl g3)), ((nx 11), .inl (cI, 40, .inl fP)), (aW, .inl (cI, 1280, .inl fW))]) [0, 3, 4, 5, 1, 2] rfl
  have hD := hD.sub (ws' := [(h0, .inr (16, fs)), (aX, .inr (15, [.int 0, .int 1, .ref (nx 2), .ref (nx 3), .ref (nx 4), .ref (nx 5), .ref (nx 6), .ref (nx 7), .ref (nx 8), .ref (nx 9), .ref (nx 10), .ref (nx 11), .int x2, .ref (nx 13), .ref (nx 14), .int x3])), ((nx 2), .inl (cI, 40, .inl fB)), ((nx 10), .inl (cI, 40, .inl g3)), ((nx 11), .inl (cI, 40, .inl fP)), (aW, .inl (cI, 1280, .inl fW))]) [0, 3, 4, 5, 1, 2] (by decide) rfl
  refine lv_aload_n hx hb dX13_pack_4 rfl (lv_at hl 1 rfl) ?_
  have hPc := hP.sub (ws' := [(aX, .inr (15, [.int 0, .int 1, .ref (nx 2), .ref (nx 3), .ref (nx 4), .ref (nx 5), .ref (nx 6), .ref (nx 7), .ref (nx 8), .ref (nx 9), .ref (nx 10), .ref (nx 11), .int x2, .ref (nx 13), .ref (nx 14), .int x3])), ((nx 11), .inl (cI, 40, .inl fP))]) [1, 4] rfl
  have hDc := hD.sub (ws' := [(aX, .inr (15, [.int 0, .int 1, .ref (nx 2), .ref (nx 3), .ref (nx 4), .ref (nx 5), .ref (nx 6), .ref (nx 7), .ref (nx 8), .ref (nx 9), .ref (nx 10), .ref (nx 11), .int x2, .ref (nx 13), .ref (nx 14), .int x3])), ((nx 11), .inl (cI, 40, .inl fP))]) [1, 4] (by decide) rfl
  have hFc := va_free (wc := [(aX, .inr (15, [.int 0, .int 1, .ref (nx 2), .ref (nx 3), .ref (nx 4), .ref (nx 5), .ref (nx 6), .ref (nx 7), .ref (nx 8), .ref (nx 9), .ref (nx 10), .ref (nx 11), .int x2, .ref (nx 13), .ref (nx 14), .int x3])), ((nx 11), .inl (cI, 40, .inl fP))]) hD hS hA [1, 4] rfl
  refine va_callv (va_runV (As := []) (rest := []) ⟨hx, hb, hml, hown, hts⟩ (kf_X12_split l dC dI cI cB cJ cZ aX nx x2 x3 fP H.size) (cwV 0 hts gf_X13_pack_1 rfl rfl rfl (by decide +kernel) ⟨(Nat.le_of_ble_eq_true rfl), (Nat.le_of_ble_eq_true rfl)⟩) ⟨fun a U g mk q => by obtain ⟨q0, q1, qP, qK, qD⟩ := q; exact ⟨q0, q1, qP, va_K.moved (u := U) (U := U.calling g mk a) (Vm.Alike.refl U.vm) qK, qD⟩, va_recv hK hPc (ci := 15) (q0 := 0) rfl rfl, fun U hU hW => ⟨rfl, by rw [hU], by rw [hU]; exact hPc, va_K.moved hW.alike hK, hDc.weaken (fun _ _ _ _ => trivial)⟩⟩ rfl rfl hl.1 rfl (lv_room (Nat.le_of_ble_eq_true rfl)) dX13_pack_5 ⟨(Nat.le_of_ble_eq_true rfl), (Nat.le_of_ble_eq_true rfl)⟩) hS (fun q _ h => hFc q h) hFc (fun g4 t H1 locs ht hvm hw hB hz1 hk1 hS => ?_)
  obtain ⟨hP1, hD1⟩ := hB
  rw [ht] at hP1
  obtain ⟨hP, hD⟩ := va_join (wr := [(h0, .inr (16, fs)), ((nx 2), .inl (cI, 40, .inl fB)), ((nx 10), .inl (cI, 40, .inl g3)), (aW, .inl (cI, 1280, .inl fW))]) (w1 := [(aX, .inr (15, [.int 0, .int 1, .ref (nx 2), .ref (nx 3), .ref (nx 4), .ref (nx 5), .ref (nx 6), .ref (nx 7), .ref (nx 8), .ref (nx 9), .ref (nx 10), .ref (nx 11), .int 1, .ref (nx 13), .ref (nx 14), .int x3])), ((nx 11), .inl (cI, 40, .inl g4))]) hP hD [1, 4] [0, 2, 3, 5] rfl rfl (by decide) (by decide) hk1 hFc hP1 hD1
  generalize H1 = H at hP hS ⊢
  have hP : va_P (dC, dI) vwCl [(h0, .inr (16, fs)), ((nx 2), .inl (cI, 40, .inl fB)), ((nx 10), .inl (cI, 40, .inl g3)), (aW, .inl (cI, 1280, .inl fW)), (aX, .inr (15, [.int 0, .int 1, .ref (nx 2), .ref (nx 3), .ref (nx 4), .ref (nx 5), .ref (nx 6), .ref (nx 7), .ref (nx 8), .ref (nx 9), .ref (nx 10), .ref (nx 11), .int 1, .ref (nx 13), .ref (nx 14), .int x3])), ((nx 11), .inl (cI, 40, .inl g4))] H := hP
  have hD : va_D A [(h0, .inr (16, fs)), ((nx 2), .inl (cI, 40, .inl fB)), ((nx 10), .inl (cI, 40, .inl g3)), (aW, .inl (cI, 1280, .inl fW)), (aX, .inr (15, [.int 0, .int 1, .ref (nx 2), .ref (nx 3), .ref (nx 4), .ref (nx 5), .ref (nx 6), .ref (nx 7), .ref (nx 8), .ref (nx 9), .ref (nx 10), .ref (nx 11), .int 1, .ref (nx 13), .ref (nx 14), .int x3])), ((nx 11), .inl (cI, 40, .inl g4))] := hD
  have hP := hP.sub (ws' := [(h0, .inr (16, fs)), (aX, .inr (15, [.int 0, .int 1, .ref (nx 2), .ref (nx 3), .ref (nx 4), .ref (nx 5), .ref (nx 6), .ref (nx 7), .ref (nx 8), .ref (nx 9), .ref (nx 10), .ref (nx 11), .int 1, .ref (nx 13), .ref (nx 14), .int x3])), ((nx 2), .inl (cI, 40, .inl fB)), ((nx 10), .inl (cI, 40, .inl g3)), ((nx 11), .inl (cI, 40, .inl g4)), (aW, .inl (cI, 1280, .inl fW))]) [0, 4, 1, 2, 5, 3] rfl
  have hD := hD.sub (ws' := [(h0, .inr (16, fs)), (aX, .inr (15, [.int 0, .int 1, .ref (nx 2), .ref (nx 3), .ref (nx 4), .ref (nx 5), .ref (nx 6), .ref (nx 7), .ref (nx 8), .ref (nx 9), .ref (nx 10), .ref (nx 11), .int 1, .ref (nx 13), .ref (nx 14), .int x3])), ((nx 2), .inl (cI, 40, .inl fB)), ((nx 10), .inl (cI, 40, .inl g3)), ((nx 11), .inl (cI, 40, .inl g4)), (aW, .inl (cI, 1280, .inl fW))]) [0, 4, 1, 2, 5, 3] (by decide) rfl
  refine lv_iconst (v := 0) hx hb dX13_pack_8 (by decide) ?_
  refine lv_istore (lv' := [(4, .int 0), (0, .ref h0), (1, .ref aX), (2, .ref aW), (3, .int 0)]) hx hb dX13_pack_9 hl (by decide) rfl (fun ls hl => ?_)
  refine lv_iconst (v := 0) hx hb dX13_pack_11 (by decide) ?_
  refine lv_istore (lv' := [(5, .int 0), (4, .int 0), (0, .ref h0), (1, .ref aX), (2, .ref aW), (3, .int 0)]) hx hb dX13_pack_12 hl (by decide) rfl (fun ls hl => ?_)
  refine lv_iconst (v := 0) hx hb dX13_pack_14 (by decide) ?_
  refine lv_istore (lv' := [(6, .int 0), (5, .int 0), (4, .int 0), (0, .ref h0), (1, .ref aX), (2, .ref aW), (3, .int 0)]) hx hb dX13_pack_15 hl (by decide) rfl (fun ls hl => ?_)
  refine lv_iload hx hb dX13_pack_17 (lv_at hl 0 rfl) ?_
  refine lv_aload_n hx hb dX13_pack_19 rfl (lv_at hl 4 rfl) ?_
  refine va_getN (D := (dC, dI)) (ci := 15) (v := .int 1) (C := RX12) (T := TX12) (N := 16) hx hb hts (fun _ h => List.mem_cons_of_mem _ (List.mem_append_right _ (List.mem_append_left _ h))) hown hK hP 1 rfl rfl 12 (by decide) (va_Nw.use rfl hN.2) (fun _ h9 => h9) rfl dX13_pack_20 ?_
  refine lv_icmp_ge (tgt := 77) hx hb dX13_pack_23 (by decide) (fun c9 => absurd c9 (by decide)) (fun _ => ?_)
  refine lv_aload_n hx hb dX13_pack_26 rfl (lv_at hl 3 rfl) ?_
  refine lv_aload_n hx hb dX13_pack_27 rfl (lv_at hl 4 rfl) ?_
  refine lv_iload hx hb dX13_pack_28 (lv_at hl 0 rfl) ?_
  refine lv_bipush (v := 32) hx hb dX13_pack_30 (by decide) ?_
  refine lv_iload hx hb dX13_pack_32 (lv_at hl 2 rfl) ?_
  refine lv_imul hx hb dX13_pack_34 ?_
  refine ow_topi (y := 0) (by decide) ?_
  have hPc := hP.sub (ws' := [(h0, .inr (16, fs)), (aX, .inr (15, [.int 0, .int 1, .ref (nx 2), .ref (nx 3), .ref (nx 4), .ref (nx 5), .ref (nx 6), .ref (nx 7), .ref (nx 8), .ref (nx 9), .ref (nx 10), .ref (nx 11), .int 1, .ref (nx 13), .ref (nx 14), .int x3]))]) [0, 1] rfl
  have hDc := hD.sub (ws' := [(h0, .inr (16, fs)), (aX, .inr (15, [.int 0, .int 1, .ref (nx 2), .ref (nx 3), .ref (nx 4), .ref (nx 5), .ref (nx 6), .ref (nx 7), .ref (nx 8), .ref (nx 9), .ref (nx 10), .ref (nx 11), .int 1, .ref (nx 13), .ref (nx 14), .int x3]))]) [0, 1] (by decide) rfl
  have hFc := va_free (wc := [(h0, .inr (16, fs)), (aX, .inr (15, [.int 0, .int 1, .ref (nx 2), .ref (nx 3), .ref (nx 4), .ref (nx 5), .ref (nx 6), .ref (nx 7), .ref (nx 8), .ref (nx 9), .ref (nx 10), .ref (nx 11), .int 1, .ref (nx 13), .ref (nx 14), .int x3]))]) hD hS hA [0, 1] rfl
  refine va_calli (va_runV (As := [.ref aX, .int 0, .int 0]) (rest := []) ⟨hx, hb, hml, hown, hts⟩ (kf_X13_leastOf l dC dI cI cB cJ cZ h0 fs hfs aX nx 1 x3 H.size) (cwV 3 hts gf_X13_pack_2 rfl rfl rfl (by decide +kernel) ⟨(Nat.le_of_ble_eq_true rfl), (Nat.le_of_ble_eq_true rfl)⟩) ⟨fun a U g mk q => by obtain ⟨q0, q1, qP, qK, qD, qN⟩ := q; exact ⟨q0, q1, qP, va_K.moved (u := U) (U := U.calling g mk a) (Vm.Alike.refl U.vm) qK, qD, ⟨va_Nw.same rfl rfl qN.1, va_Nw.same rfl rfl qN.2⟩⟩, va_recv hK hPc (ci := 16) (q0 := 0) rfl rfl, fun U hU hW => ⟨rfl, by rw [hU], by rw [hU]; exact hPc, va_K.moved hW.alike hK, hDc.weaken (fun _ _ _ _ => trivial), ⟨va_Nw.warmF hW hN.1, va_Nw.warmF hW hN.2⟩⟩⟩ rfl rfl hl.1 rfl (lv_room (Nat.le_of_ble_eq_true rfl)) dX13_pack_35 ⟨(Nat.le_of_ble_eq_true rfl), (Nat.le_of_ble_eq_true rfl)⟩) hS (fun q _ h => hFc q h) hFc (fun r9 u9 t H1 locs ht hvm hw hB hz1 hk1 hS => ?_)
  obtain ⟨hP1, hD1⟩ := hB
  rw [ht] at hP1
  obtain ⟨hP, hD⟩ := va_join (wr := [((nx 2), .inl (cI, 40, .inl fB)), ((nx 10), .inl (cI, 40, .inl g3)), ((nx 11), .inl (cI, 40, .inl g4)), (aW, .inl (cI, 1280, .inl fW))]) (w1 := [(h0, .inr (16, fs)), (aX, .inr (15, [.int 0, .int 1, .ref (nx 2), .ref (nx 3), .ref (nx 4), .ref (nx 5), .ref (nx 6), .ref (nx 7), .ref (nx 8), .ref (nx 9), .ref (nx 10), .ref (nx 11), .int 1, .ref (nx 13), .ref (nx 14), .int x3]))]) hP hD [0, 1] [2, 3, 4, 5] rfl rfl (by decide) (by decide) hk1 hFc hP1 hD1
  generalize H1 = H at hP hS ⊢
  have hP : va_P (dC, dI) vwCl [((nx 2), .inl (cI, 40, .inl fB)), ((nx 10), .inl (cI, 40, .inl g3)), ((nx 11), .inl (cI, 40, .inl g4)), (aW, .inl (cI, 1280, .inl fW)), (h0, .inr (16, fs)), (aX, .inr (15, [.int 0, .int 1, .ref (nx 2), .ref (nx 3), .ref (nx 4), .ref (nx 5), .ref (nx 6), .ref (nx 7), .ref (nx 8), .ref (nx 9), .ref (nx 10), .ref (nx 11), .int 1, .ref (nx 13), .ref (nx 14), .int x3]))] H := hP
  have hD : va_D A [((nx 2), .inl (cI, 40, .inl fB)), ((nx 10), .inl (cI, 40, .inl g3)), ((nx 11), .inl (cI, 40, .inl g4)), (aW, .inl (cI, 1280, .inl fW)), (h0, .inr (16, fs)), (aX, .inr (15, [.int 0, .int 1, .ref (nx 2), .ref (nx 3), .ref (nx 4), .ref (nx 5), .ref (nx 6), .ref (nx 7), .ref (nx 8), .ref (nx 9), .ref (nx 10), .ref (nx 11), .int 1, .ref (nx 13), .ref (nx 14), .int x3]))] := hD
  have hP := hP.sub (ws' := [(h0, .inr (16, fs)), (aX, .inr (15, [.int 0, .int 1, .ref (nx 2), .ref (nx 3), .ref (nx 4), .ref (nx 5), .ref (nx 6), .ref (nx 7), .ref (nx 8), .ref (nx 9), .ref (nx 10), .ref (nx 11), .int 1, .ref (nx 13), .ref (nx 14), .int x3])), ((nx 2), .inl (cI, 40, .inl fB)), ((nx 10), .inl (cI, 40, .inl g3)), ((nx 11), .inl (cI, 40, .inl g4)), (aW, .inl (cI, 1280, .inl fW))]) [4, 5, 0, 1, 2, 3] rfl
  have hD := hD.sub (ws' := [(h0, .inr (16, fs)), (aX, .inr (15, [.int 0, .int 1, .ref (nx 2), .ref (nx 3), .ref (nx 4), .ref (nx 5), .ref (nx 6), .ref (nx 7), .ref (nx 8), .ref (nx 9), .ref (nx 10), .ref (nx 11), .int 1, .ref (nx 13), .ref (nx 14), .int x3])), ((nx 2), .inl (cI, 40, .inl fB)), ((nx 10), .inl (cI, 40, .inl g3)), ((nx 11), .inl (cI, 40, .inl g4)), (aW, .inl (cI, 1280, .inl fW))]) [4, 5, 0, 1, 2, 3] (by decide) rfl
  obtain rfl : r9 = 0 := hw
  refine lv_istore (lv' := [(7, .int 0), (6, .int 0), (5, .int 0), (4, .int 0), (0, .ref h0), (1, .ref aX), (2, .ref aW), (3, .int 0)]) hx hb dX13_pack_38 hl (by decide) rfl (fun ls hl => ?_)
  refine lv_iload hx hb dX13_pack_40 (lv_at hl 0 rfl) ?_
  refine lv_if_ne (tgt := 51) hx hb dX13_pack_42 (by decide) (fun c9 => absurd c9 (by decide)) (fun _ => ?_)
  refine lv_iinc (v := 1) (lv' := [(5, .int 1), (7, .int 0), (6, .int 0), (4, .int 0), (0, .ref h0), (1, .ref aX), (2, .ref aW), (3, .int 0)]) hx hb dX13_pack_45 hl (k := 2) rfl (by decide) (by decide) rfl (fun ls hl => ?_)
  refine lv_goto (tgt := 71) hx hb dX13_pack_48 (by decide) ?_
  refine lv_iinc (v := 1) (lv' := [(6, .int 1), (5, .int 1), (7, .int 0), (4, .int 0), (0, .ref h0), (1, .ref aX), (2, .ref aW), (3, .int 0)]) hx hb dX13_pack_71 hl (k := 2) rfl (by decide) (by decide) rfl (fun ls hl => ?_)
  refine lv_goto (tgt := 17) hx hb dX13_pack_74 (by decide) ?_
  refine lv_iload hx hb dX13_pack_17 (lv_at hl 0 rfl) ?_
  refine lv_aload_n hx hb dX13_pack_19 rfl (lv_at hl 5 rfl) ?_
  refine va_getN (D := (dC, dI)) (ci := 15) (v := .int 1) (C := RX12) (T := TX12) (N := 16) hx hb hts (fun _ h => List.mem_cons_of_mem _ (List.mem_append_right _ (List.mem_append_left _ h))) hown hK hP 1 rfl rfl 12 (by decide) (va_Nw.use rfl hN.2) (fun _ h9 => h9) rfl dX13_pack_20 ?_
  refine lv_icmp_ge (tgt := 77) hx hb dX13_pack_23 (by decide) (fun _ => ?_) (fun c9 => absurd (by decide) c9)
  refine lv_iconst (v := 0) hx hb dX13_pack_77 (by decide) ?_
  refine lv_istore (lv' := [(6, .int 0), (5, .int 1), (7, .int 0), (4, .int 0), (0, .ref h0), (1, .ref aX), (2, .ref aW), (3, .int 0)]) hx hb dX13_pack_78 hl (by decide) rfl (fun ls hl => ?_)
  refine lv_iconst (v := 0) hx hb dX13_pack_80 (by decide) ?_
  refine lv_istore (lv' := [(7, .int 0), (6, .int 0), (5, .int 1), (4, .int 0), (0, .ref h0), (1, .ref aX), (2, .ref aW), (3, .int 0)]) hx hb dX13_pack_81 hl (by decide) rfl (fun ls hl => ?_)
  refine lv_iconst (v := 0) hx hb dX13_pack_83 (by decide) ?_
  refine lv_istore (lv' := [(8, .int 0), (7, .int 0), (6, .int 0), (5, .int 1), (4, .int 0), (0, .ref h0), (1, .ref aX), (2, .ref aW), (3, .int 0)]) hx hb dX13_pack_84 hl (by decide) rfl (fun ls hl => ?_)
  refine lv_iload hx hb dX13_pack_86 (lv_at hl 0 rfl) ?_
  refine lv_iload hx hb dX13_pack_88 (lv_at hl 4 rfl) ?_
  refine lv_icmp_ge (tgt := 282) hx hb dX13_pack_90 (by decide) (fun _ => ?_) (fun c9 => absurd (by decide) c9)
  refine lv_iconst (v := 0) hx hb dX13_pack_282 (by decide) ?_
  refine lv_istore (lv' := [(8, .int 0), (7, .int 0), (6, .int 0), (5, .int 1), (4, .int 0), (0, .ref h0), (1, .ref aX), (2, .ref aW), (3, .int 0)]) hx hb dX13_pack_283 hl (by decide) rfl (fun ls hl => ?_)
  refine lv_iload hx hb dX13_pack_285 (lv_at hl 0 rfl) ?_
  refine lv_iload hx hb dX13_pack_287 (lv_at hl 3 rfl) ?_
  refine lv_icmp_ge (tgt := 308) hx hb dX13_pack_289 (by decide) (fun c9 => absurd c9 (by decide)) (fun _ => ?_)
  refine lv_iinc (v := 1) (lv' := [(6, .int 1), (8, .int 0), (7, .int 0), (5, .int 1), (4, .int 0), (0, .ref h0), (1, .ref aX), (2, .ref aW), (3, .int 0)]) hx hb dX13_pack_292 hl (k := 2) rfl (by decide) (by decide) rfl (fun ls hl => ?_)
  refine lv_aload_n hx hb dX13_pack_295 rfl (lv_at hl 7 rfl) ?_
  refine lv_iload_n hx hb dX13_pack_296 rfl (lv_at hl 8 rfl) ?_
  refine lv_iload hx hb dX13_pack_297 (lv_at hl 0 rfl) ?_
  refine lv_iadd hx hb dX13_pack_299 ?_
  refine ow_topi (y := 1) (by decide) ?_
  refine lv_iconst (v := 0) hx hb dX13_pack_300 (by decide) ?_
  refine ow_iast hx hb hK hP hD hS 5 0 rfl rfl (vp_in_nI (n := 1) (N := 1280) (by decide) (by decide)) dX13_pack_301 (fun f1 H locs hP hD hS => ?_)
  have hP : va_P (dC, dI) vwCl [(h0, .inr (16, fs)), (aX, .inr (15, [.int 0, .int 1, .ref (nx 2), .ref (nx 3), .ref (nx 4), .ref (nx 5), .ref (nx 6), .ref (nx 7), .ref (nx 8), .ref (nx 9), .ref (nx 10), .ref (nx 11), .int 1, .ref (nx 13), .ref (nx 14), .int x3])), ((nx 2), .inl (cI, 40, .inl fB)), ((nx 10), .inl (cI, 40, .inl g3)), ((nx 11), .inl (cI, 40, .inl g4)), (aW, .inl (cI, 1280, .inl f1))] H := hP
  have hD : va_D A [(h0, .inr (16, fs)), (aX, .inr (15, [.int 0, .int 1, .ref (nx 2), .ref (nx 3), .ref (nx 4), .ref (nx 5), .ref (nx 6), .ref (nx 7), .ref (nx 8), .ref (nx 9), .ref (nx 10), .ref (nx 11), .int 1, .ref (nx 13), .ref (nx 14), .int x3])), ((nx 2), .inl (cI, 40, .inl fB)), ((nx 10), .inl (cI, 40, .inl g3)), ((nx 11), .inl (cI, 40, .inl g4)), (aW, .inl (cI, 1280, .inl f1))] := hD
  refine lv_iinc (v := 1) (lv' := [(8, .int 1), (6, .int 1), (7, .int 0), (5, .int 1), (4, .int 0), (0, .ref h0), (1, .ref aX), (2, .ref aW), (3, .int 0)]) hx hb dX13_pack_302 hl (k := 1) rfl (by decide) (by decide) rfl (fun ls hl => ?_)
  refine lv_goto (tgt := 285) hx hb dX13_pack_305 (by decide) ?_
  refine lv_iload hx hb dX13_pack_285 (lv_at hl 0 rfl) ?_
  refine lv_iload hx hb dX13_pack_287 (lv_at hl 3 rfl) ?_
  refine lv_icmp_ge (tgt := 308) hx hb dX13_pack_289 (by decide) (fun _ => ?_) (fun c9 => absurd (by decide) c9)
  refine lv_aload_n hx hb dX13_pack_308 rfl (lv_at hl 7 rfl) ?_
  refine lv_iload_n hx hb dX13_pack_309 rfl (lv_at hl 8 rfl) ?_
  refine lv_iload hx hb dX13_pack_310 (lv_at hl 1 rfl) ?_
  refine ow_iast hx hb hK hP hD hS 5 0 rfl rfl (vp_in_nI (n := 0) (N := 1280) (by decide) (by decide)) dX13_pack_312 (fun f2 H locs hP hD hS => ?_)
  have hP : va_P (dC, dI) vwCl [(h0, .inr (16, fs)), (aX, .inr (15, [.int 0, .int 1, .ref (nx 2), .ref (nx 3), .ref (nx 4), .ref (nx 5), .ref (nx 6), .ref (nx 7), .ref (nx 8), .ref (nx 9), .ref (nx 10), .ref (nx 11), .int 1, .ref (nx 13), .ref (nx 14), .int x3])), ((nx 2), .inl (cI, 40, .inl fB)), ((nx 10), .inl (cI, 40, .inl g3)), ((nx 11), .inl (cI, 40, .inl g4)), (aW, .inl (cI, 1280, .inl f2))] H := hP
  have hD : va_D A [(h0, .inr (16, fs)), (aX, .inr (15, [.int 0, .int 1, .ref (nx 2), .ref (nx 3), .ref (nx 4), .ref (nx 5), .ref (nx 6), .ref (nx 7), .ref (nx 8), .ref (nx 9), .ref (nx 10), .ref (nx 11), .int 1, .ref (nx 13), .ref (nx 14), .int x3])), ((nx 2), .inl (cI, 40, .inl fB)), ((nx 10), .inl (cI, 40, .inl g3)), ((nx 11), .inl (cI, 40, .inl g4)), (aW, .inl (cI, 1280, .inl f2))] := hD
  rw [hQQ]
  exact W.vret hx hb hr (fun t ht hW => ⟨⟨(g3, g4, f2), rfl, trivial, by rw [ht]; exact hP, hD⟩, hS.F ht⟩) hS.2.2 dX13_pack_313
theorem dX13_keep_0 : decode cX13_keep 0 = .ok (.aload_n 0, 1) := by decide +kernel
theorem dX13_keep_1 : decode cX13_keep 1 = .ok (.invokevirtual 392, 3) := by decide +kernel
theorem dX13_keep_4 : decode cX13_keep 4 = .ok (.istore_n 1, 1) := by decide +kernel
theorem dX13_keep_5 : decode cX13_keep 5 = .ok (.aload_n 0, 1) := by decide +kernel
theorem dX13_keep_6 : decode cX13_keep 6 = .ok (.aload_n 0, 1) := by decide +kernel
theorem dX13_keep_7 : decode cX13_keep 7 = .ok (.getfield 121, 3) := by decide +kernel
theorem dX13_keep_10 : decode cX13_keep 10 = .ok (.aload_n 0, 1) := by decide +kernel
theorem dX13_keep_11 : decode cX13_keep 11 = .ok (.getfield 110, 3) := by decide +kernel
theorem dX13_keep_14 : decode cX13_keep 14 = .ok (.bipush 32, 2) := by decide +kernel
theorem dX13_keep_16 : decode cX13_keep 16 = .ok (.iload_n 1, 1) := by decide +kernel
theorem dX13_keep_17 : decode cX13_keep 17 = .ok (.imul, 1) := by decide +kernel
theorem dX13_keep_18 : decode cX13_keep 18 = .ok (.invokevirtual 396, 3) := by decide +kernel
theorem dX13_keep_21 : decode cX13_keep 21 = .ok (.iload_n 1, 1) := by decide +kernel
theorem dX13_keep_22 : decode cX13_keep 22 = .ok (.ireturn, 1) := by decide +kernel
def wf_N_keep : List Cond := .code yX13_keep cX13_keep 2 (some .int) :: ([.fieldLink RX13 121 "KnotHouseModel" "made" "LKnotHouseModel$Net;", .fieldLink RX13 110 "KnotHouseModel" "rows" "[I"] ++ wsX130 ++ (wsX120 ++ (wsV RX13 392 RX13 yX13_free wf_Mfree ++ (wsV RX13 396 RX13 yX13_pack wf_N_pack ++ []))))
theorem gf_X13_keep_0 : GoodIn wf_N_keep (wsV RX13 392 RX13 yX13_free wf_Mfree) := goodIn_sub (fun _ h => List.mem_cons_of_mem _ (List.mem_append_right _ (List.mem_append_right _ (List.mem_append_left _ h)))) (by decide +kernel)
theorem gf_X13_keep_1 : GoodIn wf_N_keep (wsV RX13 396 RX13 yX13_pack wf_N_pack) := goodIn_sub (fun _ h => List.mem_cons_of_mem _ (List.mem_append_right _ (List.mem_append_right _ (List.mem_append_right _ (List.mem_append_left _ h))))) (by decide +kernel)
set_option maxHeartbeats 4000000 in
set_option maxRecDepth 100000 in
theorem kf_X13_keep (l : Launch) (dC : Nat → ClassId) (dI : Nat → Nat → Nat) (cI cB cJ cZ : ClassId) (h0 : Nat) (fs : List Value) (hfs : fs.length = 120) (aX : Nat) (nx : Nat → Nat) (aW : Nat) (hk11 : fs[11]? = some (.ref aW)) (hk14 : fs[14]? = some (.ref aX)) (x2 x3 : Int32) (fB fF fP : Nat → Int32) (hBg : fB 0 = 0 ∧ fB 1 = 0) (sz : Nat) : Met l yX13_keep wf_N_keep (({ frames := 2, cells := 0, slots := 0, locals := 70 } : Room)) (va_Pc [.ref h0] (fun U => U.heap.size = sz ∧ va_P (dC, dI) vwCl [(h0, .inr (16, fs)), (aX, .inr (15, [.int 0, .int 1, .ref (nx 2), .ref (nx 3), .ref (nx 4), .ref (nx 5), .ref (nx 6), .ref (nx 7), .ref (nx 8), .ref (nx 9), .ref (nx 10), .ref (nx 11), .int x2, .ref (nx 13), .ref (nx 14), .int x3])), ((nx 2), .inl (cI, 40, .inl fB)), ((nx 10), .inl (cI, 40, .inl fF)), ((nx 11), .inl (cI, 40, .inl fP)), (aW, .inl (cI, 1280, .inl (fun _ => 0)))] U.heap ∧ va_K (dC, dI) vwCl [(cI, .int), (cB, .byte), (cJ, .long), (cZ, .boolean)] U ∧ va_D (fun _ => True) [(h0, .inr (16, fs)), (aX, .inr (15, [.int 0, .int 1, .ref (nx 2), .ref (nx 3), .ref (nx 4), .ref (nx 5), .ref (nx 6), .ref (nx 7), .ref (nx 8), .ref (nx 9), .ref (nx 10), .ref (nx 11), .int x2, .ref (nx 13), .ref (nx 14), .int x3])), ((nx 2), .inl (cI, 40, .inl fB)), ((nx 10), .inl (cI, 40, .inl fF)), ((nx 11), .inl (cI, 40, .inl fP)), (aW, .inl (cI, 1280, .inl (fun _ => 0)))] ∧ ow_N13 U)) (va_Qi (fun r (g : Unit) => r = 0) (fun g t => va_P (dC, dI) vwCl [(h0, .inr (16, fs))] t.heap ∧ va_D (va_A [(h0, .inr (16, fs)), (aX, .inr (15, [.int 0, .int 1, .ref (nx 2), .ref (nx 3), .ref (nx 4), .ref (nx 5), .ref (nx 6), .ref (nx 7), .ref (nx 8), .ref (nx 9), .ref (nx 10), .ref (nx 11), .int x2, .ref (nx 13), .ref (nx 14), .int x3])), ((nx 2), .inl (cI, 40, .inl fB)), ((nx 10), .inl (cI, 40, .inl fF)), ((nx 11), .inl (cI, 40, .inl fP)), (aW, .inl (cI, 1280, .inl (fun _ => 0)))] sz) [(h0, .inr (16, fs))]) (va_A [(h0, .inr (16, fs)), (aX, .inr (15, [.int 0, .int 1, .ref (nx 2), .ref (nx 3), .ref (nx 4), .ref (nx 5), .ref (nx 6), .ref (nx 7), .ref (nx 8), .ref (nx 9), .ref (nx 10), .ref (nx 11), .int x2, .ref (nx 13), .ref (nx 14), .int x3])), ((nx 2), .inl (cI, 40, .inl fB)), ((nx 10), .inl (cI, 40, .inl fF)), ((nx 11), .inl (cI, 40, .inl fP)), (aW, .inl (cI, 1280, .inl (fun _ => 0)))] sz)) 0 0 (va_A [(h0, .inr (16, fs)), (aX, .inr (15, [.int 0, .int 1, .ref (nx 2), .ref (nx 3), .ref (nx 4), .ref (nx 5), .ref (nx 6), .ref (nx 7), .ref (nx 8), .ref (nx 9), .ref (nx 10), .ref (nx 11), .int x2, .ref (nx 13), .ref (nx 14), .int x3])), ((nx 2), .inl (cI, 40, .inl fB)), ((nx 10), .inl (cI, 40, .inl fF)), ((nx 11), .inl (cI, 40, .inl fP)), (aW, .inl (cI, 1280, .inl (fun _ => 0)))] sz) := by
  refine Met.ofW (cc := cX13_keep) (maxL := 2) (ret := (some .int)) (by decide) rfl ?_
  intro p e s m args below meth c s₁ B hml hv
  obtain ⟨rfl, hsz, hP, hK, hD0, hN⟩ := hv
  have hx := B.exec
  have hb := B.bytes
  have hr := B.returns
  have hts := atoms_spec (ws := wf_N_keep) B.pre
  have hown : s.vm.findClass RX13 = some m.cls := findClass_of_methodNamed B.named
  have hlocks := B.notSynchronized
  subst hsz
  have hD := hD0.self (sz := s.heap.size)
  generalize hAe : va_A [(h0, .inr (16, fs)), (aX, .inr (15, [.int 0, .int 1, .ref (nx 2), .ref (nx 3), .ref (nx 4), .ref (nx 5), .ref (nx 6), .ref (nx 7), .ref (nx 8), .ref (nx 9), .ref (nx 10), .ref (nx 11), .int x2, .ref (nx 13), .ref (nx 14), .int x3])), ((nx 2), .inl (cI, 40, .inl fB)), ((nx 10), .inl (cI, 40, .inl fF)), ((nx 11), .inl (cI, 40, .inl fP)), (aW, .inl (cI, 1280, .inl (fun _ => 0)))] s.heap.size = A at hD ⊢
  have hA : ∀ q : Nat, s.heap.size ≤ q → A q := fun q h => by rw [← hAe]; exact Or.inr h
  have hS : va_S A s.heap s.heap [] := va_S.rf
  have hP : va_P (dC, dI) vwCl [(h0, .inr (16, fs)), (aX, .inr (15, [.int 0, .int 1, .ref (nx 2), .ref (nx 3), .ref (nx 4), .ref (nx 5), .ref (nx 6), .ref (nx 7), .ref (nx 8), .ref (nx 9), .ref (nx 10), .ref (nx 11), .int x2, .ref (nx 13), .ref (nx 14), .int x3])), ((nx 2), .inl (cI, 40, .inl fB)), ((nx 10), .inl (cI, 40, .inl fF)), ((nx 11), .inl (cI, 40, .inl fP)), (aW, .inl (cI, 1280, .inl (fun _ => 0)))] s.heap := hP
  have hl := lv_entry ([.ref h0]) (n := 2) (Nat.le_of_ble_eq_true rfl)
  rw [lg_entry_eq]
  generalize (lg_sl ([.ref h0]) ++ List.replicate (2 - (lg_sl ([.ref h0])).length) Slot.unset).toArray = ls at hl ⊢
  have hl : lv_has ls 2 [(0, .ref h0)] := hl
  refine ow_named (fun QQ hQQ => ?_)
  refine lv_aload_n hx hb dX13_keep_0 rfl (lv_at hl 0 rfl) ?_
  have hPc := hP.sub (ws' := [(h0, .inr (16, fs)), (aW, .inl (cI, 1280, .inl (fun _ => 0)))]) [0, 5] rfl
  refine va_calli (va_runV (As := []) (rest := []) ⟨hx, hb, hml, hown, hts⟩ (kf_X13_free l dC dI cI cB cJ cZ h0 aW fs hfs hk11) (cwV 0 hts gf_X13_keep_0 rfl rfl rfl (by decide +kernel) ⟨(Nat.le_of_ble_eq_true rfl), (Nat.le_of_ble_eq_true rfl)⟩) ⟨fun a U g mk q => by obtain ⟨q0, qP, qK⟩ := q; exact ⟨q0, qP, va_K.moved (u := U) (U := U.calling g mk a) (Vm.Alike.refl U.vm) qK⟩, va_recv hK hPc (ci := 16) (q0 := 0) rfl rfl, fun U hU hW => ⟨rfl, by rw [hU]; exact hPc, va_K.moved hW.alike hK⟩⟩ rfl rfl hl.1 rfl (lv_room (Nat.le_of_ble_eq_true rfl)) dX13_keep_1 ⟨(Nat.le_of_ble_eq_true rfl), (Nat.le_of_ble_eq_true rfl)⟩) hS (fun q _ h => h.elim) (fun q h => h.elim) (fun r9 un t H1 locs ht hvm hw hB hz1 hk1 hS => ?_)
  obtain rfl : r9 = 0 := hw
  have hP := hP.kept (fun k9 x9 h9 => hk1 x9.1 ((hP k9 x9 h9).lt) id)
  generalize H1 = H at hP hS ⊢
  refine lv_istore_n (lv' := [(1, .int 0), (0, .ref h0)]) hx hb dX13_keep_4 rfl hl (by decide) rfl (fun ls hl => ?_)
  refine lv_aload_n hx hb dX13_keep_5 rfl (lv_at hl 1 rfl) ?_
  refine lv_aload_n hx hb dX13_keep_6 rfl (lv_at hl 1 rfl) ?_
  refine va_get (D := (dC, dI)) (ci := 16) (v := .ref aX) (C := RX13) (T := TX13) (N := 120) hx hb hts (fun _ h => List.mem_cons_of_mem _ (List.mem_append_left _ (List.mem_append_right _ h))) hown hK hP 0 rfl rfl 14 (by decide) (hts (.fieldLink RX13 121 "KnotHouseModel" "made" "LKnotHouseModel$Net;") (by decide +kernel)) (fun _ h9 => h9) hk14 dX13_keep_7 ?_
  refine lv_aload_n hx hb dX13_keep_10 rfl (lv_at hl 1 rfl) ?_
  refine va_get (D := (dC, dI)) (ci := 16) (v := .ref aW) (C := RX13) (T := TX13) (N := 120) hx hb hts (fun _ h => List.mem_cons_of_mem _ (List.mem_append_left _ (List.mem_append_right _ h))) hown hK hP 0 rfl rfl 11 (by decide) (hts (.fieldLink RX13 110 "KnotHouseModel" "rows" "[I") (by decide +kernel)) (fun _ h9 => h9) hk11 dX13_keep_11 ?_
  refine lv_bipush (v := 32) hx hb dX13_keep_14 (by decide) ?_
  refine lv_iload_n hx hb dX13_keep_16 rfl (lv_at hl 0 rfl) ?_
  refine lv_imul hx hb dX13_keep_17 ?_
  refine ow_topi (y := 0) (by decide) ?_
  have hPc := hP.sub (ws' := [(h0, .inr (16, fs)), (aX, .inr (15, [.int 0, .int 1, .ref (nx 2), .ref (nx 3), .ref (nx 4), .ref (nx 5), .ref (nx 6), .ref (nx 7), .ref (nx 8), .ref (nx 9), .ref (nx 10), .ref (nx 11), .int x2, .ref (nx 13), .ref (nx 14), .int x3])), ((nx 2), .inl (cI, 40, .inl fB)), ((nx 10), .inl (cI, 40, .inl fF)), ((nx 11), .inl (cI, 40, .inl fP)), (aW, .inl (cI, 1280, .inl (fun _ => 0)))]) [0, 1, 2, 3, 4, 5] rfl
  have hDc := hD.sub (ws' := [(h0, .inr (16, fs)), (aX, .inr (15, [.int 0, .int 1, .ref (nx 2), .ref (nx 3), .ref (nx 4), .ref (nx 5), .ref (nx 6), .ref (nx 7), .ref (nx 8), .ref (nx 9), .ref (nx 10), .ref (nx 11), .int x2, .ref (nx 13), .ref (nx 14), .int x3])), ((nx 2), .inl (cI, 40, .inl fB)), ((nx 10), .inl (cI, 40, .inl fF)), ((nx 11), .inl (cI, 40, .inl fP)), (aW, .inl (cI, 1280, .inl (fun _ => 0)))]) [0, 1, 2, 3, 4, 5] (by decide) rfl
  have hFc := va_free (wc := [(h0, .inr (16, fs)), (aX, .inr (15, [.int 0, .int 1, .ref (nx 2), .ref (nx 3), .ref (nx 4), .ref (nx 5), .ref (nx 6), .ref (nx 7), .ref (nx 8), .ref (nx 9), .ref (nx 10), .ref (nx 11), .int x2, .ref (nx 13), .ref (nx 14), .int x3])), ((nx 2), .inl (cI, 40, .inl fB)), ((nx 10), .inl (cI, 40, .inl fF)), ((nx 11), .inl (cI, 40, .inl fP)), (aW, .inl (cI, 1280, .inl (fun _ => 0)))]) hD hS hA [0, 1, 2, 3, 4, 5] rfl
  refine va_callv (va_runV (As := [.ref aX, .ref aW, .int 0]) (rest := []) ⟨hx, hb, hml, hown, hts⟩ (kf_X13_pack l dC dI cI cB cJ cZ h0 fs hfs aX nx aW x2 x3 fB fF fP (fun _ => 0) hBg H.size) (cwV 3 hts gf_X13_keep_1 rfl rfl rfl (by decide +kernel) ⟨(Nat.le_of_ble_eq_true rfl), (Nat.le_of_ble_eq_true rfl)⟩) ⟨fun a U g mk q => by obtain ⟨q0, q1, qP, qK, qD, qN⟩ := q; exact ⟨q0, q1, qP, va_K.moved (u := U) (U := U.calling g mk a) (Vm.Alike.refl U.vm) qK, qD, ⟨va_Nw.same rfl rfl qN.1, va_Nw.same rfl rfl qN.2⟩⟩, va_recv hK hPc (ci := 16) (q0 := 0) rfl rfl, fun U hU hW => ⟨rfl, by rw [hU], by rw [hU]; exact hPc, va_K.moved hW.alike hK, hDc.weaken (fun _ _ _ _ => trivial), ⟨va_Nw.warmF hW hN.1, va_Nw.warmF hW hN.2⟩⟩⟩ rfl rfl hl.1 rfl (lv_room (Nat.le_of_ble_eq_true rfl)) dX13_keep_18 ⟨(Nat.le_of_ble_eq_true rfl), (Nat.le_of_ble_eq_true rfl)⟩) hS (fun q _ h => hFc q h) hFc (fun g3 t H1 locs ht hvm hw hB hz1 hk1 hS => ?_)
  obtain ⟨hP1, hD1⟩ := hB
  rw [ht] at hP1
  obtain ⟨hP, hD⟩ := va_join (wr := []) (w1 := [(h0, .inr (16, fs)), (aX, .inr (15, [.int 0, .int 1, .ref (nx 2), .ref (nx 3), .ref (nx 4), .ref (nx 5), .ref (nx 6), .ref (nx 7), .ref (nx 8), .ref (nx 9), .ref (nx 10), .ref (nx 11), .int 1, .ref (nx 13), .ref (nx 14), .int x3])), ((nx 2), .inl (cI, 40, .inl fB)), ((nx 10), .inl (cI, 40, .inl g3.1)), ((nx 11), .inl (cI, 40, .inl g3.2.1)), (aW, .inl (cI, 1280, .inl g3.2.2))]) hP hD [0, 1, 2, 3, 4, 5] [] rfl rfl (by decide) (by decide) hk1 hFc hP1 hD1
  generalize H1 = H at hP hS ⊢
  have hP : va_P (dC, dI) vwCl [(h0, .inr (16, fs)), (aX, .inr (15, [.int 0, .int 1, .ref (nx 2), .ref (nx 3), .ref (nx 4), .ref (nx 5), .ref (nx 6), .ref (nx 7), .ref (nx 8), .ref (nx 9), .ref (nx 10), .ref (nx 11), .int 1, .ref (nx 13), .ref (nx 14), .int x3])), ((nx 2), .inl (cI, 40, .inl fB)), ((nx 10), .inl (cI, 40, .inl g3.1)), ((nx 11), .inl (cI, 40, .inl g3.2.1)), (aW, .inl (cI, 1280, .inl g3.2.2))] H := hP
  have hD : va_D A [(h0, .inr (16, fs)), (aX, .inr (15, [.int 0, .int 1, .ref (nx 2), .ref (nx 3), .ref (nx 4), .ref (nx 5), .ref (nx 6), .ref (nx 7), .ref (nx 8), .ref (nx 9), .ref (nx 10), .ref (nx 11), .int 1, .ref (nx 13), .ref (nx 14), .int x3])), ((nx 2), .inl (cI, 40, .inl fB)), ((nx 10), .inl (cI, 40, .inl g3.1)), ((nx 11), .inl (cI, 40, .inl g3.2.1)), (aW, .inl (cI, 1280, .inl g3.2.2))] := hD
  refine lv_iload_n hx hb dX13_keep_21 rfl (lv_at hl 0 rfl) ?_
  have hP := hP.sub (ws' := [(h0, .inr (16, fs))]) [0] rfl
  have hD := hD.sub (ws' := [(h0, .inr (16, fs))]) [0] (by decide) rfl
  rw [hQQ]
  exact W.iret (v := 0) hx hb hr (fun t ht hW => ⟨⟨0, (), rfl, rfl, by rw [ht]; exact hP, hD⟩, hS.F ht⟩) hS.2.2 dX13_keep_22
theorem dX13_diagram_0 : decode cX13_diagram 0 = .ok (.aload_n 0, 1) := by decide +kernel
theorem dX13_diagram_1 : decode cX13_diagram 1 = .ok (.iconst 0, 1) := by decide +kernel
theorem dX13_diagram_2 : decode cX13_diagram 2 = .ok (.putfield 1, 3) := by decide +kernel
theorem dX13_diagram_5 : decode cX13_diagram 5 = .ok (.aload_n 0, 1) := by decide +kernel
theorem dX13_diagram_6 : decode cX13_diagram 6 = .ok (.invokevirtual 392, 3) := by decide +kernel
theorem dX13_diagram_9 : decode cX13_diagram 9 = .ok (.iconst (-1), 1) := by decide +kernel
theorem dX13_diagram_10 : decode cX13_diagram 10 = .ok (.if_icmp .ne 9, 3) := by decide +kernel
theorem dX13_diagram_19 : decode cX13_diagram 19 = .ok (.aload_n 0, 1) := by decide +kernel
theorem dX13_diagram_20 : decode cX13_diagram 20 = .ok (.invokevirtual 417, 3) := by decide +kernel
theorem dX13_diagram_23 : decode cX13_diagram 23 = .ok (.istore_n 1, 1) := by decide +kernel
theorem dX13_diagram_24 : decode cX13_diagram 24 = .ok (.aload_n 0, 1) := by decide +kernel
theorem dX13_diagram_25 : decode cX13_diagram 25 = .ok (.iconst 0, 1) := by decide +kernel
theorem dX13_diagram_26 : decode cX13_diagram 26 = .ok (.putfield 400, 3) := by decide +kernel
theorem dX13_diagram_29 : decode cX13_diagram 29 = .ok (.iload_n 1, 1) := by decide +kernel
theorem dX13_diagram_30 : decode cX13_diagram 30 = .ok (.iconst (-1), 1) := by decide +kernel
theorem dX13_diagram_31 : decode cX13_diagram 31 = .ok (.if_icmp .eq 9, 3) := by decide +kernel
theorem dX13_diagram_40 : decode cX13_diagram 40 = .ok (.aload_n 0, 1) := by decide +kernel
theorem dX13_diagram_41 : decode cX13_diagram 41 = .ok (.invokevirtual 420, 3) := by decide +kernel
theorem dX13_diagram_44 : decode cX13_diagram 44 = .ok (.ireturn, 1) := by decide +kernel
def wf_N_diagram : List Cond := .code yX13_diagram cX13_diagram 2 (some .int) :: ([.fieldLink RX13 1 "KnotHouseModel" "thrown" "I", .fieldLink RX13 400 "KnotHouseModel" "taped" "I"] ++ wsX130 ++ (wsX120 ++ (wsV RX13 392 RX13 yX13_free wf_Mfree ++ (wsV RX13 417 RX13 yX13_read wf_N_read ++ (wsV RX13 420 RX13 yX13_keep wf_N_keep ++ [])))))
theorem gf_X13_diagram_0 : GoodIn wf_N_diagram (wsV RX13 392 RX13 yX13_free wf_Mfree) := goodIn_sub (fun _ h => List.mem_cons_of_mem _ (List.mem_append_right _ (List.mem_append_right _ (List.mem_append_left _ h)))) (by decide +kernel)
theorem gf_X13_diagram_1 : GoodIn wf_N_diagram (wsV RX13 417 RX13 yX13_read wf_N_read) := goodIn_sub (fun _ h => List.mem_cons_of_mem _ (List.mem_append_right _ (List.mem_append_right _ (List.mem_append_right _ (List.mem_append_left _ h))))) (by decide +kernel)
theorem gf_X13_diagram_2 : GoodIn wf_N_diagram (wsV RX13 420 RX13 yX13_keep wf_N_keep) := goodIn_sub (fun _ h => List.mem_cons_of_mem _ (List.mem_append_right _ (List.mem_append_right _ (List.mem_append_right _ (List.mem_append_right _ (List.mem_append_left _ h)))))) (by decide +kernel)
set_option maxHeartbeats 4000000 in
set_option maxRecDepth 100000 in
theorem kf_X13_diagram (l : Launch) (dC : Nat → ClassId) (dI : Nat → Nat → Nat) (cI cB cJ cZ : ClassId) (h0 sz : Nat) (fs : List Value) (hfs : fs.length = 120) (aX : Nat) (nx : Nat → Nat) (aW : Nat) (hk10 : fs[10]? = some (.int 0)) (hk11 : fs[11]? = some (.ref aW)) (hk14 : fs[14]? = some (.ref aX)) : Met l yX13_diagram wf_N_diagram (({ frames := 3, cells := 0, slots := 0, locals := 100 } : Room)) (va_Pc [.ref h0] (fun U => U.heap.size = sz ∧ va_P (dC, dI) vwCl [(h0, .inr (16, fs)), (aX, .inr (15, [.int 0, .int 0, .ref (nx 2), .ref (nx 3), .ref (nx 4), .ref (nx 5), .ref (nx 6), .ref (nx 7), .ref (nx 8), .ref (nx 9), .ref (nx 10), .ref (nx 11), .int 0, .ref (nx 13), .ref (nx 14), .int 0])), ((nx 2), .inl (cI, 40, .inl (fun _ => 0))), ((nx 10), .inl (cI, 40, .inl (fun _ => 0))), ((nx 11), .inl (cI, 40, .inl (fun _ => 0))), (aW, .inl (cI, 1280, .inl (fun _ => 0)))] U.heap ∧ va_K (dC, dI) vwCl [(cI, .int), (cB, .byte), (cJ, .long), (cZ, .boolean)] U ∧ va_D (fun _ => True) [(h0, .inr (16, fs)), (aX, .inr (15, [.int 0, .int 0, .ref (nx 2), .ref (nx 3), .ref (nx 4), .ref (nx 5), .ref (nx 6), .ref (nx 7), .ref (nx 8), .ref (nx 9), .ref (nx 10), .ref (nx 11), .int 0, .ref (nx 13), .ref (nx 14), .int 0])), ((nx 2), .inl (cI, 40, .inl (fun _ => 0))), ((nx 10), .inl (cI, 40, .inl (fun _ => 0))), ((nx 11), .inl (cI, 40, .inl (fun _ => 0))), (aW, .inl (cI, 1280, .inl (fun _ => 0)))] ∧ ow_N13 U)) (va_Qi (fun r (g : List Value) => r = 0 ∧ g[0]? = some (.int 0)) (fun g t => va_P (dC, dI) vwCl [(h0, .inr (16, g))] t.heap ∧ va_D (va_A [(h0, .inr (16, fs)), (aX, .inr (15, [.int 0, .int 0, .ref (nx 2), .ref (nx 3), .ref (nx 4), .ref (nx 5), .ref (nx 6), .ref (nx 7), .ref (nx 8), .ref (nx 9), .ref (nx 10), .ref (nx 11), .int 0, .ref (nx 13), .ref (nx 14), .int 0])), ((nx 2), .inl (cI, 40, .inl (fun _ => 0))), ((nx 10), .inl (cI, 40, .inl (fun _ => 0))), ((nx 11), .inl (cI, 40, .inl (fun _ => 0))), (aW, .inl (cI, 1280, .inl (fun _ => 0)))] sz) [(h0, .inr (16, g))]) (va_A [(h0, .inr (16, fs)), (aX, .inr (15, [.int 0, .int 0, .ref (nx 2), .ref (nx 3), .ref (nx 4), .ref (nx 5), .ref (nx 6), .ref (nx 7), .ref (nx 8), .ref (nx 9), .ref (nx 10), .ref (nx 11), .int 0, .ref (nx 13), .ref (nx 14), .int 0])), ((nx 2), .inl (cI, 40, .inl (fun _ => 0))), ((nx 10), .inl (cI, 40, .inl (fun _ => 0))), ((nx 11), .inl (cI, 40, .inl (fun _ => 0))), (aW, .inl (cI, 1280, .inl (fun _ => 0)))] sz)) 0 0 (va_A [(h0, .inr (16, fs)), (aX, .inr (15, [.int 0, .int 0, .ref (nx 2), .ref (nx 3), .ref (nx 4), .ref (nx 5), .ref (nx 6), .ref (nx 7), .ref (nx 8), .ref (nx 9), .ref (nx 10), .ref (nx 11), .int 0, .ref (nx 13), .ref (nx 14), .int 0])), ((nx 2), .inl (cI, 40, .inl (fun _ => 0))), ((nx 10), .inl (cI, 40, .inl (fun _ => 0))), ((nx 11), .inl (cI, 40, .inl (fun _ => 0))), (aW, .inl (cI, 1280, .inl (fun _ => 0)))] sz) := by
  refine Met.ofW (cc := cX13_diagram) (maxL := 2) (ret := (some .int)) (by decide) rfl ?_
  intro p e s m args below meth c s₁ B hml hv
  obtain ⟨rfl, hsz, hP, hK, hD0, hN⟩ := hv
  have hx := B.exec
  have hb := B.bytes
  have hr := B.returns
  have hts := atoms_spec (ws := wf_N_diagram) B.pre
  have hown : s.vm.findClass RX13 = some m.cls := findClass_of_methodNamed B.named
  have hlocks := B.notSynchronized
  subst hsz
  have hD := hD0.self (sz := s.heap.size)
  generalize hAe : va_A [(h0, .inr (16, fs)), (aX, .inr (15, [.int 0, .int 0, .ref (nx 2), .ref (nx 3), .ref (nx 4), .ref (nx 5), .ref (nx 6), .ref (nx 7), .ref (nx 8), .ref (nx 9), .ref (nx 10), .ref (nx 11), .int 0, .ref (nx 13), .ref (nx 14), .int 0])), ((nx 2), .inl (cI, 40, .inl (fun _ => 0))), ((nx 10), .inl (cI, 40, .inl (fun _ => 0))), ((nx 11), .inl (cI, 40, .inl (fun _ => 0))), (aW, .inl (cI, 1280, .inl (fun _ => 0)))] s.heap.size = A at hD ⊢
  have hA : ∀ q : Nat, s.heap.size ≤ q → A q := fun q h => by rw [← hAe]; exact Or.inr h
  have hS : va_S A s.heap s.heap [] := va_S.rf
  have hP : va_P (dC, dI) vwCl [(h0, .inr (16, fs)), (aX, .inr (15, [.int 0, .int 0, .ref (nx 2), .ref (nx 3), .ref (nx 4), .ref (nx 5), .ref (nx 6), .ref (nx 7), .ref (nx 8), .ref (nx 9), .ref (nx 10), .ref (nx 11), .int 0, .ref (nx 13), .ref (nx 14), .int 0])), ((nx 2), .inl (cI, 40, .inl (fun _ => 0))), ((nx 10), .inl (cI, 40, .inl (fun _ => 0))), ((nx 11), .inl (cI, 40, .inl (fun _ => 0))), (aW, .inl (cI, 1280, .inl (fun _ => 0)))] s.heap := hP
  have hl := lv_entry ([.ref h0]) (n := 2) (Nat.le_of_ble_eq_true rfl)
  rw [lg_entry_eq]
  generalize (lg_sl ([.ref h0]) ++ List.replicate (2 - (lg_sl ([.ref h0])).length) Slot.unset).toArray = ls at hl ⊢
  have hl : lv_has ls 2 [(0, .ref h0)] := hl
  refine ow_named (fun QQ hQQ => ?_)
  refine lv_aload_n hx hb dX13_diagram_0 rfl (lv_at hl 0 rfl) ?_
  refine lv_iconst (v := 0) hx hb dX13_diagram_1 (by decide) ?_
  refine va_put (D := (dC, dI)) (ci := 16) (v := .int 0) (ty := .int) (C := RX13) (T := TX13) (N := 120) hx hb hts (fun _ h => List.mem_cons_of_mem _ (List.mem_append_left _ (List.mem_append_right _ h))) tyX13 tyX13_ok nmX13 hown hK hP hD hS 0 rfl rfl 0 (by decide) (hts (.fieldLink RX13 1 "KnotHouseModel" "thrown" "I") (by decide +kernel)) (fun _ h9 => h9) rfl (by decide +kernel) rfl rfl (by rw [hfs]; decide) dX13_diagram_2 (fun H locs hP hD hS => ?_)
  obtain ⟨fs1, efs1⟩ : ∃ x, x = List.set fs 0 (.int 0) := ⟨_, rfl⟩
  have hnfs1 : fs1.length = 120 := by rw [efs1, List.length_set]; exact hfs
  have hfs1_10 : fs1[10]? = some (.int 0) := by rw [efs1, List.getElem?_set_ne (by decide)]; exact hk10
  have hfs1_11 : fs1[11]? = some (.ref aW) := by rw [efs1, List.getElem?_set_ne (by decide)]; exact hk11
  have hfs1_14 : fs1[14]? = some (.ref aX) := by rw [efs1, List.getElem?_set_ne (by decide)]; exact hk14
  have hfs1_0 : fs1[0]? = some (.int 0) := by rw [efs1]; exact List.getElem?_set_self (by rw [hfs]; decide)
  have hP : va_P (dC, dI) vwCl [(h0, .inr (16, fs1)), (aX, .inr (15, [.int 0, .int 0, .ref (nx 2), .ref (nx 3), .ref (nx 4), .ref (nx 5), .ref (nx 6), .ref (nx 7), .ref (nx 8), .ref (nx 9), .ref (nx 10), .ref (nx 11), .int 0, .ref (nx 13), .ref (nx 14), .int 0])), ((nx 2), .inl (cI, 40, .inl (fun _ => 0))), ((nx 10), .inl (cI, 40, .inl (fun _ => 0))), ((nx 11), .inl (cI, 40, .inl (fun _ => 0))), (aW, .inl (cI, 1280, .inl (fun _ => 0)))] H := by rw [efs1]; exact hP
  have hD : va_D A [(h0, .inr (16, fs1)), (aX, .inr (15, [.int 0, .int 0, .ref (nx 2), .ref (nx 3), .ref (nx 4), .ref (nx 5), .ref (nx 6), .ref (nx 7), .ref (nx 8), .ref (nx 9), .ref (nx 10), .ref (nx 11), .int 0, .ref (nx 13), .ref (nx 14), .int 0])), ((nx 2), .inl (cI, 40, .inl (fun _ => 0))), ((nx 10), .inl (cI, 40, .inl (fun _ => 0))), ((nx 11), .inl (cI, 40, .inl (fun _ => 0))), (aW, .inl (cI, 1280, .inl (fun _ => 0)))] := by rw [efs1]; exact hD
  refine lv_aload_n hx hb dX13_diagram_5 rfl (lv_at hl 0 rfl) ?_
  have hPc := hP.sub (ws' := [(h0, .inr (16, fs1)), (aW, .inl (cI, 1280, .inl (fun _ => 0)))]) [0, 5] rfl
  refine va_calli (va_runV (As := []) (rest := []) ⟨hx, hb, hml, hown, hts⟩ (kf_X13_free l dC dI cI cB cJ cZ h0 aW fs1 hnfs1 hfs1_11) (cwV 0 hts gf_X13_diagram_0 rfl rfl rfl (by decide +kernel) ⟨(Nat.le_of_ble_eq_true rfl), (Nat.le_of_ble_eq_true rfl)⟩) ⟨fun a U g mk q => by obtain ⟨q0, qP, qK⟩ := q; exact ⟨q0, qP, va_K.moved (u := U) (U := U.calling g mk a) (Vm.Alike.refl U.vm) qK⟩, va_recv hK hPc (ci := 16) (q0 := 0) rfl rfl, fun U hU hW => ⟨rfl, by rw [hU]; exact hPc, va_K.moved hW.alike hK⟩⟩ rfl rfl hl.1 rfl (lv_room (Nat.le_of_ble_eq_true rfl)) dX13_diagram_6 ⟨(Nat.le_of_ble_eq_true rfl), (Nat.le_of_ble_eq_true rfl)⟩) hS (fun q _ h => h.elim) (fun q h => h.elim) (fun r9 un t H1 locs ht hvm hw hB hz1 hk1 hS => ?_)
  obtain rfl : r9 = 0 := hw
  have hP := hP.kept (fun k9 x9 h9 => hk1 x9.1 ((hP k9 x9 h9).lt) id)
  generalize H1 = H at hP hS ⊢
  refine lv_iconst (v := (-1)) hx hb dX13_diagram_9 (by decide) ?_
  refine lv_icmp_ne (tgt := 19) hx hb dX13_diagram_10 (by decide) (fun _ => ?_) (fun c9 => absurd c9 (by decide))
  refine lv_aload_n hx hb dX13_diagram_19 rfl (lv_at hl 0 rfl) ?_
  have hPc := hP.sub (ws' := [(h0, .inr (16, fs1)), (aX, .inr (15, [.int 0, .int 0, .ref (nx 2), .ref (nx 3), .ref (nx 4), .ref (nx 5), .ref (nx 6), .ref (nx 7), .ref (nx 8), .ref (nx 9), .ref (nx 10), .ref (nx 11), .int 0, .ref (nx 13), .ref (nx 14), .int 0])), ((nx 2), .inl (cI, 40, .inl (fun _ => 0))), ((nx 10), .inl (cI, 40, .inl (fun _ => 0))), ((nx 11), .inl (cI, 40, .inl (fun _ => 0)))]) [0, 1, 2, 3, 4] rfl
  have hDc := hD.sub (ws' := [(h0, .inr (16, fs1)), (aX, .inr (15, [.int 0, .int 0, .ref (nx 2), .ref (nx 3), .ref (nx 4), .ref (nx 5), .ref (nx 6), .ref (nx 7), .ref (nx 8), .ref (nx 9), .ref (nx 10), .ref (nx 11), .int 0, .ref (nx 13), .ref (nx 14), .int 0])), ((nx 2), .inl (cI, 40, .inl (fun _ => 0))), ((nx 10), .inl (cI, 40, .inl (fun _ => 0))), ((nx 11), .inl (cI, 40, .inl (fun _ => 0)))]) [0, 1, 2, 3, 4] (by decide) rfl
  have hFc := va_free (wc := [(h0, .inr (16, fs1)), (aX, .inr (15, [.int 0, .int 0, .ref (nx 2), .ref (nx 3), .ref (nx 4), .ref (nx 5), .ref (nx 6), .ref (nx 7), .ref (nx 8), .ref (nx 9), .ref (nx 10), .ref (nx 11), .int 0, .ref (nx 13), .ref (nx 14), .int 0])), ((nx 2), .inl (cI, 40, .inl (fun _ => 0))), ((nx 10), .inl (cI, 40, .inl (fun _ => 0))), ((nx 11), .inl (cI, 40, .inl (fun _ => 0)))]) hD hS hA [0, 1, 2, 3, 4] rfl
  refine va_calli (va_runV (As := []) (rest := []) ⟨hx, hb, hml, hown, hts⟩ (kf_X13_read l dC dI cI cB cJ cZ h0 fs1 hnfs1 aX nx hfs1_10 hfs1_14 0 0 0 0 (fun _ => 0) (fun _ => 0) (fun _ => 0) H.size) (cwV 0 hts gf_X13_diagram_1 rfl rfl rfl (by decide +kernel) ⟨(Nat.le_of_ble_eq_true rfl), (Nat.le_of_ble_eq_true rfl)⟩) ⟨fun a U g mk q => by obtain ⟨q0, q1, qP, qK, qD⟩ := q; exact ⟨q0, q1, qP, va_K.moved (u := U) (U := U.calling g mk a) (Vm.Alike.refl U.vm) qK, qD⟩, va_recv hK hPc (ci := 16) (q0 := 0) rfl rfl, fun U hU hW => ⟨rfl, by rw [hU], by rw [hU]; exact hPc, va_K.moved hW.alike hK, hDc.weaken (fun _ _ _ _ => trivial)⟩⟩ rfl rfl hl.1 rfl (lv_room (Nat.le_of_ble_eq_true rfl)) dX13_diagram_20 ⟨(Nat.le_of_ble_eq_true rfl), (Nat.le_of_ble_eq_true rfl)⟩) hS (fun q _ h => hFc q h) hFc (fun r9 g3 t H1 locs ht hvm hw hB hz1 hk1 hS => ?_)
  obtain ⟨hP1, hD1⟩ := hB
  rw [ht] at hP1
  obtain ⟨hP, hD⟩ := va_join (wr := [(aW, .inl (cI, 1280, .inl (fun _ => 0)))]) (w1 := [(h0, .inr (16, fs1)), (aX, .inr (15, [.int 0, .int 1, .ref (nx 2), .ref (nx 3), .ref (nx 4), .ref (nx 5), .ref (nx 6), .ref (nx 7), .ref (nx 8), .ref (nx 9), .ref (nx 10), .ref (nx 11), .int 1, .ref (nx 13), .ref (nx 14), .int 0])), ((nx 2), .inl (cI, 40, .inl g3.1)), ((nx 10), .inl (cI, 40, .inl g3.2.1)), ((nx 11), .inl (cI, 40, .inl g3.2.2))]) hP hD [0, 1, 2, 3, 4] [5] rfl rfl (by decide) (by decide) hk1 hFc hP1 hD1
  generalize H1 = H at hP hS ⊢
  have hP : va_P (dC, dI) vwCl [(aW, .inl (cI, 1280, .inl (fun _ => 0))), (h0, .inr (16, fs1)), (aX, .inr (15, [.int 0, .int 1, .ref (nx 2), .ref (nx 3), .ref (nx 4), .ref (nx 5), .ref (nx 6), .ref (nx 7), .ref (nx 8), .ref (nx 9), .ref (nx 10), .ref (nx 11), .int 1, .ref (nx 13), .ref (nx 14), .int 0])), ((nx 2), .inl (cI, 40, .inl g3.1)), ((nx 10), .inl (cI, 40, .inl g3.2.1)), ((nx 11), .inl (cI, 40, .inl g3.2.2))] H := hP
  have hD : va_D A [(aW, .inl (cI, 1280, .inl (fun _ => 0))), (h0, .inr (16, fs1)), (aX, .inr (15, [.int 0, .int 1, .ref (nx 2), .ref (nx 3), .ref (nx 4), .ref (nx 5), .ref (nx 6), .ref (nx 7), .ref (nx 8), .ref (nx 9), .ref (nx 10), .ref (nx 11), .int 1, .ref (nx 13), .ref (nx 14), .int 0])), ((nx 2), .inl (cI, 40, .inl g3.1)), ((nx 10), .inl (cI, 40, .inl g3.2.1)), ((nx 11), .inl (cI, 40, .inl g3.2.2))] := hD
  have hP := hP.sub (ws' := [(h0, .inr (16, fs1)), (aX, .inr (15, [.int 0, .int 1, .ref (nx 2), .ref (nx 3), .ref (nx 4), .ref (nx 5), .ref (nx 6), .ref (nx 7), .ref (nx 8), .ref (nx 9), .ref (nx 10), .ref (nx 11), .int 1, .ref (nx 13), .ref (nx 14), .int 0])), ((nx 2), .inl (cI, 40, .inl g3.1)), ((nx 10), .inl (cI, 40, .inl g3.2.1)), ((nx 11), .inl (cI, 40, .inl g3.2.2)), (aW, .inl (cI, 1280, .inl (fun _ => 0)))]) [1, 2, 3, 4, 5, 0] rfl
  have hD := hD.sub (ws' := [(h0, .inr (16, fs1)), (aX, .inr (15, [.int 0, .int 1, .ref (nx 2), .ref (nx 3), .ref (nx 4), .ref (nx 5), .ref (nx 6), .ref (nx 7), .ref (nx 8), .ref (nx 9), .ref (nx 10), .ref (nx 11), .int 1, .ref (nx 13), .ref (nx 14), .int 0])), ((nx 2), .inl (cI, 40, .inl g3.1)), ((nx 10), .inl (cI, 40, .inl g3.2.1)), ((nx 11), .inl (cI, 40, .inl g3.2.2)), (aW, .inl (cI, 1280, .inl (fun _ => 0)))]) [1, 2, 3, 4, 5, 0] (by decide) rfl
  obtain ⟨hr9, hg3⟩ := hw
  subst hr9
  refine lv_istore_n (lv' := [(1, .int (-1)), (0, .ref h0)]) hx hb dX13_diagram_23 rfl hl (by decide) rfl (fun ls hl => ?_)
  refine lv_aload_n hx hb dX13_diagram_24 rfl (lv_at hl 1 rfl) ?_
  refine lv_iconst (v := 0) hx hb dX13_diagram_25 (by decide) ?_
  refine va_put (D := (dC, dI)) (ci := 16) (v := .int 0) (ty := .int) (C := RX13) (T := TX13) (N := 120) hx hb hts (fun _ h => List.mem_cons_of_mem _ (List.mem_append_left _ (List.mem_append_right _ h))) tyX13 tyX13_ok nmX13 hown hK hP hD hS 0 rfl rfl 10 (by decide) (hts (.fieldLink RX13 400 "KnotHouseModel" "taped" "I") (by decide +kernel)) (fun _ h9 => h9) rfl (by decide +kernel) rfl rfl (by rw [hnfs1]; decide) dX13_diagram_26 (fun H locs hP hD hS => ?_)
  obtain ⟨fs2, efs2⟩ : ∃ x, x = List.set fs1 10 (.int 0) := ⟨_, rfl⟩
  have hnfs2 : fs2.length = 120 := by rw [efs2, List.length_set]; exact hnfs1
  have hfs2_11 : fs2[11]? = some (.ref aW) := by rw [efs2, List.getElem?_set_ne (by decide)]; exact hfs1_11
  have hfs2_14 : fs2[14]? = some (.ref aX) := by rw [efs2, List.getElem?_set_ne (by decide)]; exact hfs1_14
  have hfs2_0 : fs2[0]? = some (.int 0) := by rw [efs2, List.getElem?_set_ne (by decide)]; exact hfs1_0
  have hfs2_10 : fs2[10]? = some (.int 0) := by rw [efs2]; exact List.getElem?_set_self (by rw [hnfs1]; decide)
  have hP : va_P (dC, dI) vwCl [(h0, .inr (16, fs2)), (aX, .inr (15, [.int 0, .int 1, .ref (nx 2), .ref (nx 3), .ref (nx 4), .ref (nx 5), .ref (nx 6), .ref (nx 7), .ref (nx 8), .ref (nx 9), .ref (nx 10), .ref (nx 11), .int 1, .ref (nx 13), .ref (nx 14), .int 0])), ((nx 2), .inl (cI, 40, .inl g3.1)), ((nx 10), .inl (cI, 40, .inl g3.2.1)), ((nx 11), .inl (cI, 40, .inl g3.2.2)), (aW, .inl (cI, 1280, .inl (fun _ => 0)))] H := by rw [efs2]; exact hP
  have hD : va_D A [(h0, .inr (16, fs2)), (aX, .inr (15, [.int 0, .int 1, .ref (nx 2), .ref (nx 3), .ref (nx 4), .ref (nx 5), .ref (nx 6), .ref (nx 7), .ref (nx 8), .ref (nx 9), .ref (nx 10), .ref (nx 11), .int 1, .ref (nx 13), .ref (nx 14), .int 0])), ((nx 2), .inl (cI, 40, .inl g3.1)), ((nx 10), .inl (cI, 40, .inl g3.2.1)), ((nx 11), .inl (cI, 40, .inl g3.2.2)), (aW, .inl (cI, 1280, .inl (fun _ => 0)))] := by rw [efs2]; exact hD
  refine lv_iload_n hx hb dX13_diagram_29 rfl (lv_at hl 0 rfl) ?_
  refine lv_iconst (v := (-1)) hx hb dX13_diagram_30 (by decide) ?_
  refine lv_icmp_eq (tgt := 40) hx hb dX13_diagram_31 (by decide) (fun _ => ?_) (fun c9 => absurd (rfl) c9)
  refine lv_aload_n hx hb dX13_diagram_40 rfl (lv_at hl 1 rfl) ?_
  have hPc := hP.sub (ws' := [(h0, .inr (16, fs2)), (aX, .inr (15, [.int 0, .int 1, .ref (nx 2), .ref (nx 3), .ref (nx 4), .ref (nx 5), .ref (nx 6), .ref (nx 7), .ref (nx 8), .ref (nx 9), .ref (nx 10), .ref (nx 11), .int 1, .ref (nx 13), .ref (nx 14), .int 0])), ((nx 2), .inl (cI, 40, .inl g3.1)), ((nx 10), .inl (cI, 40, .inl g3.2.1)), ((nx 11), .inl (cI, 40, .inl g3.2.2)), (aW, .inl (cI, 1280, .inl (fun _ => 0)))]) [0, 1, 2, 3, 4, 5] rfl
  have hDc := hD.sub (ws' := [(h0, .inr (16, fs2)), (aX, .inr (15, [.int 0, .int 1, .ref (nx 2), .ref (nx 3), .ref (nx 4), .ref (nx 5), .ref (nx 6), .ref (nx 7), .ref (nx 8), .ref (nx 9), .ref (nx 10), .ref (nx 11), .int 1, .ref (nx 13), .ref (nx 14), .int 0])), ((nx 2), .inl (cI, 40, .inl g3.1)), ((nx 10), .inl (cI, 40, .inl g3.2.1)), ((nx 11), .inl (cI, 40, .inl g3.2.2)), (aW, .inl (cI, 1280, .inl (fun _ => 0)))]) [0, 1, 2, 3, 4, 5] (by decide) rfl
  have hFc := va_free (wc := [(h0, .inr (16, fs2)), (aX, .inr (15, [.int 0, .int 1, .ref (nx 2), .ref (nx 3), .ref (nx 4), .ref (nx 5), .ref (nx 6), .ref (nx 7), .ref (nx 8), .ref (nx 9), .ref (nx 10), .ref (nx 11), .int 1, .ref (nx 13), .ref (nx 14), .int 0])), ((nx 2), .inl (cI, 40, .inl g3.1)), ((nx 10), .inl (cI, 40, .inl g3.2.1)), ((nx 11), .inl (cI, 40, .inl g3.2.2)), (aW, .inl (cI, 1280, .inl (fun _ => 0)))]) hD hS hA [0, 1, 2, 3, 4, 5] rfl
  refine va_calli (va_runV (As := []) (rest := []) ⟨hx, hb, hml, hown, hts⟩ (kf_X13_keep l dC dI cI cB cJ cZ h0 fs2 hnfs2 aX nx aW hfs2_11 hfs2_14 1 0 g3.1 g3.2.1 g3.2.2 hg3 H.size) (cwV 0 hts gf_X13_diagram_2 rfl rfl rfl (by decide +kernel) ⟨(Nat.le_of_ble_eq_true rfl), (Nat.le_of_ble_eq_true rfl)⟩) ⟨fun a U g mk q => by obtain ⟨q0, q1, qP, qK, qD, qN⟩ := q; exact ⟨q0, q1, qP, va_K.moved (u := U) (U := U.calling g mk a) (Vm.Alike.refl U.vm) qK, qD, ⟨va_Nw.same rfl rfl qN.1, va_Nw.same rfl rfl qN.2⟩⟩, va_recv hK hPc (ci := 16) (q0 := 0) rfl rfl, fun U hU hW => ⟨rfl, by rw [hU], by rw [hU]; exact hPc, va_K.moved hW.alike hK, hDc.weaken (fun _ _ _ _ => trivial), ⟨va_Nw.warmF hW hN.1, va_Nw.warmF hW hN.2⟩⟩⟩ rfl rfl hl.1 rfl (lv_room (Nat.le_of_ble_eq_true rfl)) dX13_diagram_41 ⟨(Nat.le_of_ble_eq_true rfl), (Nat.le_of_ble_eq_true rfl)⟩) hS (fun q _ h => hFc q h) hFc (fun r9 u9 t H1 locs ht hvm hw hB hz1 hk1 hS => ?_)
  obtain ⟨hP1, hD1⟩ := hB
  rw [ht] at hP1
  obtain ⟨hP, hD⟩ := va_join (wr := []) (w1 := [(h0, .inr (16, fs2))]) hP hD [0, 1, 2, 3, 4, 5] [] rfl rfl (by decide) (by decide) hk1 hFc hP1 hD1
  generalize H1 = H at hP hS ⊢
  have hP : va_P (dC, dI) vwCl [(h0, .inr (16, fs2))] H := hP
  have hD : va_D A [(h0, .inr (16, fs2))] := hD
  obtain rfl : r9 = 0 := hw
  have hP := hP.sub (ws' := [(h0, .inr (16, fs2))]) [0] rfl
  have hD := hD.sub (ws' := [(h0, .inr (16, fs2))]) [0] (by decide) rfl
  rw [hQQ]
  exact W.iret (v := 0) hx hb hr (fun t ht hW => ⟨⟨0, fs2, rfl, ⟨rfl, hfs2_0⟩, by rw [ht]; exact hP, hD⟩, hS.F ht⟩) hS.2.2 dX13_diagram_44
