theorem dX9_take_0 : decode cX9_take 0 = .ok (.bipush 24, 2) := by decide +kernel
theorem dX9_take_2 : decode cX9_take 2 = .ok (.istore_n 2, 1) := by decide +kernel
theorem dX9_take_3 : decode cX9_take 3 = .ok (.iload_n 2, 1) := by decide +kernel
theorem dX9_take_4 : decode cX9_take 4 = .ok (.ifCond .lt 42, 3) := by decide +kernel
theorem dX9_take_7 : decode cX9_take 7 = .ok (.aload_n 0, 1) := by decide +kernel
theorem dX9_take_8 : decode cX9_take 8 = .ok (.getfield 22, 3) := by decide +kernel
theorem dX9_take_11 : decode cX9_take 11 = .ok (.sipush 400, 3) := by decide +kernel
theorem dX9_take_14 : decode cX9_take 14 = .ok (.if_icmp .ge 32, 3) := by decide +kernel
theorem dX9_take_17 : decode cX9_take 17 = .ok (.aload_n 0, 1) := by decide +kernel
theorem dX9_take_18 : decode cX9_take 18 = .ok (.getfield 9, 3) := by decide +kernel
theorem dX9_take_21 : decode cX9_take 21 = .ok (.aload_n 0, 1) := by decide +kernel
theorem dX9_take_22 : decode cX9_take 22 = .ok (.getfield 22, 3) := by decide +kernel
theorem dX9_take_25 : decode cX9_take 25 = .ok (.iload_n 1, 1) := by decide +kernel
theorem dX9_take_26 : decode cX9_take 26 = .ok (.iload_n 2, 1) := by decide +kernel
theorem dX9_take_27 : decode cX9_take 27 = .ok (.ishr, 1) := by decide +kernel
theorem dX9_take_28 : decode cX9_take 28 = .ok (.i2b, 1) := by decide +kernel
theorem dX9_take_29 : decode cX9_take 29 = .ok (.bastore, 1) := by decide +kernel
theorem dX9_take_30 : decode cX9_take 30 = .ok (.aload_n 0, 1) := by decide +kernel
theorem dX9_take_31 : decode cX9_take 31 = .ok (.dup, 1) := by decide +kernel
theorem dX9_take_32 : decode cX9_take 32 = .ok (.getfield 22, 3) := by decide +kernel
theorem dX9_take_35 : decode cX9_take 35 = .ok (.iconst 1, 1) := by decide +kernel
theorem dX9_take_36 : decode cX9_take 36 = .ok (.iadd, 1) := by decide +kernel
theorem dX9_take_37 : decode cX9_take 37 = .ok (.putfield 22, 3) := by decide +kernel
theorem dX9_take_40 : decode cX9_take 40 = .ok (.iinc 2 (-8), 3) := by decide +kernel
theorem dX9_take_43 : decode cX9_take 43 = .ok (.goto (-40), 3) := by decide +kernel
theorem dX9_take_46 : decode cX9_take 46 = .ok (.return_, 1) := by decide +kernel
def wf_take : List Cond := .code yX9_take cX9_take 3 none :: ([.fieldLink RX9 22 "KnotHouse$Reader" "length" "I", .fieldLink RX9 9 "KnotHouse$Reader" "tape" "[B"] ++ wsX90)
set_option maxHeartbeats 4000000 in
set_option maxRecDepth 100000 in
theorem kf_X9_take (l : Launch) (dC : Nat → ClassId) (dI : Nat → Nat → Nat) (cI cB cJ cZ : ClassId) (u : Nat → Nat) (sz n0 : Nat) (f : Nat → Int32) (x : Int32) (hn0 : n0 + 4 ≤ 400) : Met l yX9_take wf_take (({ frames := 0, cells := 0, slots := 0, locals := 0 } : Room)) (va_Pc [.ref (u 7), .int x] (fun U => U.heap.size = sz ∧ va_P (dC, dI) vwCl [((u 7), .inr (12, [.int (nI n0), .ref (u 63), .ref (u 64), .ref (u 65), .int 0, .int 0])), ((u 63), .inl (cB, 400, .inl f))] U.heap ∧ va_K (dC, dI) vwCl [(cI, .int), (cB, .byte), (cJ, .long), (cZ, .boolean)] U ∧ va_D (fun _ => True) [((u 7), .inr (12, [.int (nI n0), .ref (u 63), .ref (u 64), .ref (u 65), .int 0, .int 0])), ((u 63), .inl (cB, 400, .inl f))])) (va_Qv (fun _ : Nat → Int32 => True) (fun g t => va_P (dC, dI) vwCl [((u 7), .inr (12, [.int (nI (n0 + 4)), .ref (u 63), .ref (u 64), .ref (u 65), .int 0, .int 0])), ((u 63), .inl (cB, 400, .inl g))] t.heap ∧ va_D (va_A [((u 7), .inr (12, [.int (nI n0), .ref (u 63), .ref (u 64), .ref (u 65), .int 0, .int 0])), ((u 63), .inl (cB, 400, .inl f))] sz) [((u 7), .inr (12, [.int (nI (n0 + 4)), .ref (u 63), .ref (u 64), .ref (u 65), .int 0, .int 0])), ((u 63), .inl (cB, 400, .inl g))]) (va_A [((u 7), .inr (12, [.int (nI n0), .ref (u 63), .ref (u 64), .ref (u 65), .int 0, .int 0])), ((u 63), .inl (cB, 400, .inl f))] sz)) 0 0 (va_A [((u 7), .inr (12, [.int (nI n0), .ref (u 63), .ref (u 64), .ref (u 65), .int 0, .int 0])), ((u 63), .inl (cB, 400, .inl f))] sz) := by
  refine Met.ofW (cc := cX9_take) (maxL := 3) (ret := none) (by decide) rfl ?_
  intro p e s m args below meth c s₁ B hml hv
  obtain ⟨rfl, hsz, hP, hK, hD0⟩ := hv
  have hx := B.exec
  have hb := B.bytes
  have hr := B.returns
  have hts := atoms_spec (ws := wf_take) B.pre
  have hown : s.vm.findClass RX9 = some m.cls := findClass_of_methodNamed B.named
  have hlocks := B.notSynchronized
  subst hsz
  have hD := hD0.self (sz := s.heap.size)
  generalize hAe : va_A [((u 7), .inr (12, [.int (nI n0), .ref (u 63), .ref (u 64), .ref (u 65), .int 0, .int 0])), ((u 63), .inl (cB, 400, .inl f))] s.heap.size = A at hD ⊢
  have hA : ∀ q : Nat, s.heap.size ≤ q → A q := fun q h => by rw [← hAe]; exact Or.inr h
  have hS : va_S A s.heap s.heap [] := va_S.rf
  have hP : va_P (dC, dI) vwCl [((u 7), .inr (12, [.int (nI n0), .ref (u 63), .ref (u 64), .ref (u 65), .int 0, .int 0])), ((u 63), .inl (cB, 400, .inl f))] s.heap := hP
  have hl := lv_entry ([.ref (u 7), .int x]) (n := 3) (Nat.le_of_ble_eq_true rfl)
  rw [lg_entry_eq]
  generalize (lg_sl ([.ref (u 7), .int x]) ++ List.replicate (3 - (lg_sl ([.ref (u 7), .int x])).length) Slot.unset).toArray = ls at hl ⊢
  have hl : lv_has ls 3 [(0, .ref (u 7)), (1, .int x)] := hl
  refine ow_named (fun QQ hQQ => ?_)
  refine lv_bipush (v := 24) hx hb dX9_take_0 (by decide) ?_
  refine lv_istore_n (lv' := [(2, .int 24), (0, .ref (u 7)), (1, .int x)]) hx hb dX9_take_2 rfl hl (by decide) rfl (fun ls hl => ?_)
  refine lv_iload_n hx hb dX9_take_3 rfl (lv_at hl 0 rfl) ?_
  refine lv_if_lt (tgt := 46) hx hb dX9_take_4 (by decide) (fun c9 => absurd c9 (by decide)) (fun _ => ?_)
  refine lv_aload_n hx hb dX9_take_7 rfl (lv_at hl 1 rfl) ?_
  refine va_get (D := (dC, dI)) (ci := 12) (v := .int (nI n0)) (C := RX9) (T := TX9) (N := 6) hx hb hts (by decide +kernel) hown hK hP 0 rfl rfl 0 (by decide) (hts (.fieldLink RX9 22 "KnotHouse$Reader" "length" "I") (by decide +kernel)) (fun _ h9 => h9) rfl dX9_take_8 ?_
  refine lv_sipush (v := 400) hx hb dX9_take_11 (by decide) ?_
  refine lv_icmp_ge (tgt := 46) hx hb dX9_take_14 (by decide) (fun c9 => absurd c9 (nI_ge (a := n0) (b := 400) (by omega) (by decide))) (fun _ => ?_)
  refine lv_aload_n hx hb dX9_take_17 rfl (lv_at hl 1 rfl) ?_
  refine va_get (D := (dC, dI)) (ci := 12) (v := .ref (u 63)) (C := RX9) (T := TX9) (N := 6) hx hb hts (by decide +kernel) hown hK hP 0 rfl rfl 1 (by decide) (hts (.fieldLink RX9 9 "KnotHouse$Reader" "tape" "[B") (by decide +kernel)) (fun _ h9 => h9) rfl dX9_take_18 ?_
  refine lv_aload_n hx hb dX9_take_21 rfl (lv_at hl 1 rfl) ?_
  refine va_get (D := (dC, dI)) (ci := 12) (v := .int (nI n0)) (C := RX9) (T := TX9) (N := 6) hx hb hts (by decide +kernel) hown hK hP 0 rfl rfl 0 (by decide) (hts (.fieldLink RX9 22 "KnotHouse$Reader" "length" "I") (by decide +kernel)) (fun _ h9 => h9) rfl dX9_take_22 ?_
  refine lv_iload_n hx hb dX9_take_25 rfl (lv_at hl 2 rfl) ?_
  refine lv_iload_n hx hb dX9_take_26 rfl (lv_at hl 0 rfl) ?_
  refine lv_ishr hx hb dX9_take_27 ?_
  refine lv_i2b hx hb dX9_take_28 rfl ?_
  refine lv_topi (fun x1 _ => ?_)
  refine ow_bast hx hb hK hP hD hS 1 1 rfl rfl (vp_in_nI (n := n0) (N := 400) (by omega) (by decide)) dX9_take_29 (fun f2 H locs hP hD hS => ?_)
  have hP : va_P (dC, dI) vwCl [((u 7), .inr (12, [.int (nI n0), .ref (u 63), .ref (u 64), .ref (u 65), .int 0, .int 0])), ((u 63), .inl (cB, 400, .inl f2))] H := hP
  have hD : va_D A [((u 7), .inr (12, [.int (nI n0), .ref (u 63), .ref (u 64), .ref (u 65), .int 0, .int 0])), ((u 63), .inl (cB, 400, .inl f2))] := hD
  refine lv_aload_n hx hb dX9_take_30 rfl (lv_at hl 1 rfl) ?_
  refine lv_dup hx hb dX9_take_31 rfl ?_
  refine va_get (D := (dC, dI)) (ci := 12) (v := .int (nI n0)) (C := RX9) (T := TX9) (N := 6) hx hb hts (by decide +kernel) hown hK hP 0 rfl rfl 0 (by decide) (hts (.fieldLink RX9 22 "KnotHouse$Reader" "length" "I") (by decide +kernel)) (fun _ h9 => h9) rfl dX9_take_32 ?_
  refine lv_iconst (v := 1) hx hb dX9_take_35 (by decide) ?_
  refine lv_iadd hx hb dX9_take_36 ?_
  refine ow_topi (y := nI (n0 + 1)) (nI_1 n0) ?_
  refine va_put (D := (dC, dI)) (ci := 12) (v := .int (nI (n0 + 1))) (ty := .int) (C := RX9) (T := TX9) (N := 6) hx hb hts (by decide +kernel) tyX9 tyX9_ok nmX9 hown hK hP hD hS 0 rfl rfl 0 (by decide) (hts (.fieldLink RX9 22 "KnotHouse$Reader" "length" "I") (by decide +kernel)) (fun _ h9 => h9) rfl (by decide +kernel) rfl rfl (Nat.le_of_ble_eq_true rfl) dX9_take_37 (fun H locs hP hD hS => ?_)
  have hP : va_P (dC, dI) vwCl [((u 7), .inr (12, [.int (nI (n0 + 1)), .ref (u 63), .ref (u 64), .ref (u 65), .int 0, .int 0])), ((u 63), .inl (cB, 400, .inl f2))] H := hP
  have hD : va_D A [((u 7), .inr (12, [.int (nI (n0 + 1)), .ref (u 63), .ref (u 64), .ref (u 65), .int 0, .int 0])), ((u 63), .inl (cB, 400, .inl f2))] := hD
  refine lv_iinc (v := 16) (lv' := [(2, .int 16), (0, .ref (u 7)), (1, .int x)]) hx hb dX9_take_40 hl (k := 0) rfl (by decide) (by decide) rfl (fun ls hl => ?_)
  refine lv_goto (tgt := 3) hx hb dX9_take_43 (by decide) ?_
  refine lv_iload_n hx hb dX9_take_3 rfl (lv_at hl 0 rfl) ?_
  refine lv_if_lt (tgt := 46) hx hb dX9_take_4 (by decide) (fun c9 => absurd c9 (by decide)) (fun _ => ?_)
  refine lv_aload_n hx hb dX9_take_7 rfl (lv_at hl 1 rfl) ?_
  refine va_get (D := (dC, dI)) (ci := 12) (v := .int (nI (n0 + 1))) (C := RX9) (T := TX9) (N := 6) hx hb hts (by decide +kernel) hown hK hP 0 rfl rfl 0 (by decide) (hts (.fieldLink RX9 22 "KnotHouse$Reader" "length" "I") (by decide +kernel)) (fun _ h9 => h9) rfl dX9_take_8 ?_
  refine lv_sipush (v := 400) hx hb dX9_take_11 (by decide) ?_
  refine lv_icmp_ge (tgt := 46) hx hb dX9_take_14 (by decide) (fun c9 => absurd c9 (nI_ge (a := (n0 + 1)) (b := 400) (by omega) (by decide))) (fun _ => ?_)
  refine lv_aload_n hx hb dX9_take_17 rfl (lv_at hl 1 rfl) ?_
  refine va_get (D := (dC, dI)) (ci := 12) (v := .ref (u 63)) (C := RX9) (T := TX9) (N := 6) hx hb hts (by decide +kernel) hown hK hP 0 rfl rfl 1 (by decide) (hts (.fieldLink RX9 9 "KnotHouse$Reader" "tape" "[B") (by decide +kernel)) (fun _ h9 => h9) rfl dX9_take_18 ?_
  refine lv_aload_n hx hb dX9_take_21 rfl (lv_at hl 1 rfl) ?_
  refine va_get (D := (dC, dI)) (ci := 12) (v := .int (nI (n0 + 1))) (C := RX9) (T := TX9) (N := 6) hx hb hts (by decide +kernel) hown hK hP 0 rfl rfl 0 (by decide) (hts (.fieldLink RX9 22 "KnotHouse$Reader" "length" "I") (by decide +kernel)) (fun _ h9 => h9) rfl dX9_take_22 ?_
  refine lv_iload_n hx hb dX9_take_25 rfl (lv_at hl 2 rfl) ?_
  refine lv_iload_n hx hb dX9_take_26 rfl (lv_at hl 0 rfl) ?_
  refine lv_ishr hx hb dX9_take_27 ?_
  refine lv_i2b hx hb dX9_take_28 rfl ?_
  refine lv_topi (fun x3 _ => ?_)
  refine ow_bast hx hb hK hP hD hS 1 1 rfl rfl (vp_in_nI (n := (n0 + 1)) (N := 400) (by omega) (by decide)) dX9_take_29 (fun f4 H locs hP hD hS => ?_)
  have hP : va_P (dC, dI) vwCl [((u 7), .inr (12, [.int (nI (n0 + 1)), .ref (u 63), .ref (u 64), .ref (u 65), .int 0, .int 0])), ((u 63), .inl (cB, 400, .inl f4))] H := hP
  have hD : va_D A [((u 7), .inr (12, [.int (nI (n0 + 1)), .ref (u 63), .ref (u 64), .ref (u 65), .int 0, .int 0])), ((u 63), .inl (cB, 400, .inl f4))] := hD
  refine lv_aload_n hx hb dX9_take_30 rfl (lv_at hl 1 rfl) ?_
  refine lv_dup hx hb dX9_take_31 rfl ?_
  refine va_get (D := (dC, dI)) (ci := 12) (v := .int (nI (n0 + 1))) (C := RX9) (T := TX9) (N := 6) hx hb hts (by decide +kernel) hown hK hP 0 rfl rfl 0 (by decide) (hts (.fieldLink RX9 22 "KnotHouse$Reader" "length" "I") (by decide +kernel)) (fun _ h9 => h9) rfl dX9_take_32 ?_
  refine lv_iconst (v := 1) hx hb dX9_take_35 (by decide) ?_
  refine lv_iadd hx hb dX9_take_36 ?_
  refine ow_topi (y := nI (n0 + 2)) (nI_1 (n0 + 1)) ?_
  refine va_put (D := (dC, dI)) (ci := 12) (v := .int (nI (n0 + 2))) (ty := .int) (C := RX9) (T := TX9) (N := 6) hx hb hts (by decide +kernel) tyX9 tyX9_ok nmX9 hown hK hP hD hS 0 rfl rfl 0 (by decide) (hts (.fieldLink RX9 22 "KnotHouse$Reader" "length" "I") (by decide +kernel)) (fun _ h9 => h9) rfl (by decide +kernel) rfl rfl (Nat.le_of_ble_eq_true rfl) dX9_take_37 (fun H locs hP hD hS => ?_)
  have hP : va_P (dC, dI) vwCl [((u 7), .inr (12, [.int (nI (n0 + 2)), .ref (u 63), .ref (u 64), .ref (u 65), .int 0, .int 0])), ((u 63), .inl (cB, 400, .inl f4))] H := hP
  have hD : va_D A [((u 7), .inr (12, [.int (nI (n0 + 2)), .ref (u 63), .ref (u 64), .ref (u 65), .int 0, .int 0])), ((u 63), .inl (cB, 400, .inl f4))] := hD
  refine lv_iinc (v := 8) (lv' := [(2, .int 8), (0, .ref (u 7)), (1, .int x)]) hx hb dX9_take_40 hl (k := 0) rfl (by decide) (by decide) rfl (fun ls hl => ?_)
  refine lv_goto (tgt := 3) hx hb dX9_take_43 (by decide) ?_
  refine lv_iload_n hx hb dX9_take_3 rfl (lv_at hl 0 rfl) ?_
  refine lv_if_lt (tgt := 46) hx hb dX9_take_4 (by decide) (fun c9 => absurd c9 (by decide)) (fun _ => ?_)
  refine lv_aload_n hx hb dX9_take_7 rfl (lv_at hl 1 rfl) ?_
  refine va_get (D := (dC, dI)) (ci := 12) (v := .int (nI (n0 + 2))) (C := RX9) (T := TX9) (N := 6) hx hb hts (by decide +kernel) hown hK hP 0 rfl rfl 0 (by decide) (hts (.fieldLink RX9 22 "KnotHouse$Reader" "length" "I") (by decide +kernel)) (fun _ h9 => h9) rfl dX9_take_8 ?_
  refine lv_sipush (v := 400) hx hb dX9_take_11 (by decide) ?_
  refine lv_icmp_ge (tgt := 46) hx hb dX9_take_14 (by decide) (fun c9 => absurd c9 (nI_ge (a := (n0 + 2)) (b := 400) (by omega) (by decide))) (fun _ => ?_)
  refine lv_aload_n hx hb dX9_take_17 rfl (lv_at hl 1 rfl) ?_
  refine va_get (D := (dC, dI)) (ci := 12) (v := .ref (u 63)) (C := RX9) (T := TX9) (N := 6) hx hb hts (by decide +kernel) hown hK hP 0 rfl rfl 1 (by decide) (hts (.fieldLink RX9 9 "KnotHouse$Reader" "tape" "[B") (by decide +kernel)) (fun _ h9 => h9) rfl dX9_take_18 ?_
  refine lv_aload_n hx hb dX9_take_21 rfl (lv_at hl 1 rfl) ?_
  refine va_get (D := (dC, dI)) (ci := 12) (v := .int (nI (n0 + 2))) (C := RX9) (T := TX9) (N := 6) hx hb hts (by decide +kernel) hown hK hP 0 rfl rfl 0 (by decide) (hts (.fieldLink RX9 22 "KnotHouse$Reader" "length" "I") (by decide +kernel)) (fun _ h9 => h9) rfl dX9_take_22 ?_
  refine lv_iload_n hx hb dX9_take_25 rfl (lv_at hl 2 rfl) ?_
  refine lv_iload_n hx hb dX9_take_26 rfl (lv_at hl 0 rfl) ?_
  refine lv_ishr hx hb dX9_take_27 ?_
  refine lv_i2b hx hb dX9_take_28 rfl ?_
  refine lv_topi (fun x5 _ => ?_)
  refine ow_bast hx hb hK hP hD hS 1 1 rfl rfl (vp_in_nI (n := (n0 + 2)) (N := 400) (by omega) (by decide)) dX9_take_29 (fun f6 H locs hP hD hS => ?_)
  have hP : va_P (dC, dI) vwCl [((u 7), .inr (12, [.int (nI (n0 + 2)), .ref (u 63), .ref (u 64), .ref (u 65), .int 0, .int 0])), ((u 63), .inl (cB, 400, .inl f6))] H := hP
  have hD : va_D A [((u 7), .inr (12, [.int (nI (n0 + 2)), .ref (u 63), .ref (u 64), .ref (u 65), .int 0, .int 0])), ((u 63), .inl (cB, 400, .inl f6))] := hD
  refine lv_aload_n hx hb dX9_take_30 rfl (lv_at hl 1 rfl) ?_
  refine lv_dup hx hb dX9_take_31 rfl ?_
  refine va_get (D := (dC, dI)) (ci := 12) (v := .int (nI (n0 + 2))) (C := RX9) (T := TX9) (N := 6) hx hb hts (by decide +kernel) hown hK hP 0 rfl rfl 0 (by decide) (hts (.fieldLink RX9 22 "KnotHouse$Reader" "length" "I") (by decide +kernel)) (fun _ h9 => h9) rfl dX9_take_32 ?_
  refine lv_iconst (v := 1) hx hb dX9_take_35 (by decide) ?_
  refine lv_iadd hx hb dX9_take_36 ?_
  refine ow_topi (y := nI (n0 + 3)) (nI_1 (n0 + 2)) ?_
  refine va_put (D := (dC, dI)) (ci := 12) (v := .int (nI (n0 + 3))) (ty := .int) (C := RX9) (T := TX9) (N := 6) hx hb hts (by decide +kernel) tyX9 tyX9_ok nmX9 hown hK hP hD hS 0 rfl rfl 0 (by decide) (hts (.fieldLink RX9 22 "KnotHouse$Reader" "length" "I") (by decide +kernel)) (fun _ h9 => h9) rfl (by decide +kernel) rfl rfl (Nat.le_of_ble_eq_true rfl) dX9_take_37 (fun H locs hP hD hS => ?_)
  have hP : va_P (dC, dI) vwCl [((u 7), .inr (12, [.int (nI (n0 + 3)), .ref (u 63), .ref (u 64), .ref (u 65), .int 0, .int 0])), ((u 63), .inl (cB, 400, .inl f6))] H := hP
  have hD : va_D A [((u 7), .inr (12, [.int (nI (n0 + 3)), .ref (u 63), .ref (u 64), .ref (u 65), .int 0, .int 0])), ((u 63), .inl (cB, 400, .inl f6))] := hD
  refine lv_iinc (v := 0) (lv' := [(2, .int 0), (0, .ref (u 7)), (1, .int x)]) hx hb dX9_take_40 hl (k := 0) rfl (by decide) (by decide) rfl (fun ls hl => ?_)
  refine lv_goto (tgt := 3) hx hb dX9_take_43 (by decide) ?_
  refine lv_iload_n hx hb dX9_take_3 rfl (lv_at hl 0 rfl) ?_
  refine lv_if_lt (tgt := 46) hx hb dX9_take_4 (by decide) (fun c9 => absurd c9 (by decide)) (fun _ => ?_)
  refine lv_aload_n hx hb dX9_take_7 rfl (lv_at hl 1 rfl) ?_
  refine va_get (D := (dC, dI)) (ci := 12) (v := .int (nI (n0 + 3))) (C := RX9) (T := TX9) (N := 6) hx hb hts (by decide +kernel) hown hK hP 0 rfl rfl 0 (by decide) (hts (.fieldLink RX9 22 "KnotHouse$Reader" "length" "I") (by decide +kernel)) (fun _ h9 => h9) rfl dX9_take_8 ?_
  refine lv_sipush (v := 400) hx hb dX9_take_11 (by decide) ?_
  refine lv_icmp_ge (tgt := 46) hx hb dX9_take_14 (by decide) (fun c9 => absurd c9 (nI_ge (a := (n0 + 3)) (b := 400) (by omega) (by decide))) (fun _ => ?_)
  refine lv_aload_n hx hb dX9_take_17 rfl (lv_at hl 1 rfl) ?_
  refine va_get (D := (dC, dI)) (ci := 12) (v := .ref (u 63)) (C := RX9) (T := TX9) (N := 6) hx hb hts (by decide +kernel) hown hK hP 0 rfl rfl 1 (by decide) (hts (.fieldLink RX9 9 "KnotHouse$Reader" "tape" "[B") (by decide +kernel)) (fun _ h9 => h9) rfl dX9_take_18 ?_
  refine lv_aload_n hx hb dX9_take_21 rfl (lv_at hl 1 rfl) ?_
  refine va_get (D := (dC, dI)) (ci := 12) (v := .int (nI (n0 + 3))) (C := RX9) (T := TX9) (N := 6) hx hb hts (by decide +kernel) hown hK hP 0 rfl rfl 0 (by decide) (hts (.fieldLink RX9 22 "KnotHouse$Reader" "length" "I") (by decide +kernel)) (fun _ h9 => h9) rfl dX9_take_22 ?_
  refine lv_iload_n hx hb dX9_take_25 rfl (lv_at hl 2 rfl) ?_
  refine lv_iload_n hx hb dX9_take_26 rfl (lv_at hl 0 rfl) ?_
  refine lv_ishr hx hb dX9_take_27 ?_
  refine lv_i2b hx hb dX9_take_28 rfl ?_
  refine lv_topi (fun x7 _ => ?_)
  refine ow_bast hx hb hK hP hD hS 1 1 rfl rfl (vp_in_nI (n := (n0 + 3)) (N := 400) (by omega) (by decide)) dX9_take_29 (fun f8 H locs hP hD hS => ?_)
  have hP : va_P (dC, dI) vwCl [((u 7), .inr (12, [.int (nI (n0 + 3)), .ref (u 63), .ref (u 64), .ref (u 65), .int 0, .int 0])), ((u 63), .inl (cB, 400, .inl f8))] H := hP
  have hD : va_D A [((u 7), .inr (12, [.int (nI (n0 + 3)), .ref (u 63), .ref (u 64), .ref (u 65), .int 0, .int 0])), ((u 63), .inl (cB, 400, .inl f8))] := hD
  refine lv_aload_n hx hb dX9_take_30 rfl (lv_at hl 1 rfl) ?_
  refine lv_dup hx hb dX9_take_31 rfl ?_
  refine va_get (D := (dC, dI)) (ci := 12) (v := .int (nI (n0 + 3))) (C := RX9) (T := TX9) (N := 6) hx hb hts (by decide +kernel) hown hK hP 0 rfl rfl 0 (by decide) (hts (.fieldLink RX9 22 "KnotHouse$Reader" "length" "I") (by decide +kernel)) (fun _ h9 => h9) rfl dX9_take_32 ?_
  refine lv_iconst (v := 1) hx hb dX9_take_35 (by decide) ?_
  refine lv_iadd hx hb dX9_take_36 ?_
  refine ow_topi (y := nI (n0 + 4)) (nI_1 (n0 + 3)) ?_
  refine va_put (D := (dC, dI)) (ci := 12) (v := .int (nI (n0 + 4))) (ty := .int) (C := RX9) (T := TX9) (N := 6) hx hb hts (by decide +kernel) tyX9 tyX9_ok nmX9 hown hK hP hD hS 0 rfl rfl 0 (by decide) (hts (.fieldLink RX9 22 "KnotHouse$Reader" "length" "I") (by decide +kernel)) (fun _ h9 => h9) rfl (by decide +kernel) rfl rfl (Nat.le_of_ble_eq_true rfl) dX9_take_37 (fun H locs hP hD hS => ?_)
  have hP : va_P (dC, dI) vwCl [((u 7), .inr (12, [.int (nI (n0 + 4)), .ref (u 63), .ref (u 64), .ref (u 65), .int 0, .int 0])), ((u 63), .inl (cB, 400, .inl f8))] H := hP
  have hD : va_D A [((u 7), .inr (12, [.int (nI (n0 + 4)), .ref (u 63), .ref (u 64), .ref (u 65), .int 0, .int 0])), ((u 63), .inl (cB, 400, .inl f8))] := hD
  refine lv_iinc (v := (-8)) (lv' := [(2, .int (-8)), (0, .ref (u 7)), (1, .int x)]) hx hb dX9_take_40 hl (k := 0) rfl (by decide) (by decide) rfl (fun ls hl => ?_)
  refine lv_goto (tgt := 3) hx hb dX9_take_43 (by decide) ?_
  refine lv_iload_n hx hb dX9_take_3 rfl (lv_at hl 0 rfl) ?_
  refine lv_if_lt (tgt := 46) hx hb dX9_take_4 (by decide) (fun _ => ?_) (fun c9 => absurd (by decide) c9)
  rw [hQQ]
  exact W.vret hx hb hr (fun t ht hW => ⟨⟨_, rfl, trivial, by rw [ht]; exact hP, hD⟩, hS.F ht⟩) hS.2.2 dX9_take_46
theorem dX11_feed_0 : decode cX11_feed 0 = .ok (.aload_n 0, 1) := by decide +kernel
theorem dX11_feed_1 : decode cX11_feed 1 = .ok (.getfield 51, 3) := by decide +kernel
theorem dX11_feed_4 : decode cX11_feed 4 = .ok (.getfield 114, 3) := by decide +kernel
theorem dX11_feed_7 : decode cX11_feed 7 = .ok (.bipush 20, 2) := by decide +kernel
theorem dX11_feed_9 : decode cX11_feed 9 = .ok (.iadd, 1) := by decide +kernel
theorem dX11_feed_10 : decode cX11_feed 10 = .ok (.sipush 400, 3) := by decide +kernel
theorem dX11_feed_13 : decode cX11_feed 13 = .ok (.if_icmp .le 13, 3) := by decide +kernel
theorem dX11_feed_26 : decode cX11_feed 26 = .ok (.aload_n 0, 1) := by decide +kernel
theorem dX11_feed_27 : decode cX11_feed 27 = .ok (.getfield 51, 3) := by decide +kernel
theorem dX11_feed_30 : decode cX11_feed 30 = .ok (.iload_n 1, 1) := by decide +kernel
theorem dX11_feed_31 : decode cX11_feed 31 = .ok (.invokevirtual 125, 3) := by decide +kernel
theorem dX11_feed_34 : decode cX11_feed 34 = .ok (.aload_n 0, 1) := by decide +kernel
theorem dX11_feed_35 : decode cX11_feed 35 = .ok (.getfield 51, 3) := by decide +kernel
theorem dX11_feed_38 : decode cX11_feed 38 = .ok (.iload_n 2, 1) := by decide +kernel
theorem dX11_feed_39 : decode cX11_feed 39 = .ok (.invokevirtual 125, 3) := by decide +kernel
theorem dX11_feed_42 : decode cX11_feed 42 = .ok (.aload_n 0, 1) := by decide +kernel
theorem dX11_feed_43 : decode cX11_feed 43 = .ok (.getfield 51, 3) := by decide +kernel
theorem dX11_feed_46 : decode cX11_feed 46 = .ok (.iload_n 3, 1) := by decide +kernel
theorem dX11_feed_47 : decode cX11_feed 47 = .ok (.invokevirtual 125, 3) := by decide +kernel
theorem dX11_feed_50 : decode cX11_feed 50 = .ok (.aload_n 0, 1) := by decide +kernel
theorem dX11_feed_51 : decode cX11_feed 51 = .ok (.getfield 51, 3) := by decide +kernel
theorem dX11_feed_54 : decode cX11_feed 54 = .ok (.iload 4, 2) := by decide +kernel
theorem dX11_feed_56 : decode cX11_feed 56 = .ok (.invokevirtual 125, 3) := by decide +kernel
theorem dX11_feed_59 : decode cX11_feed 59 = .ok (.aload_n 0, 1) := by decide +kernel
theorem dX11_feed_60 : decode cX11_feed 60 = .ok (.getfield 51, 3) := by decide +kernel
theorem dX11_feed_63 : decode cX11_feed 63 = .ok (.iload 5, 2) := by decide +kernel
theorem dX11_feed_65 : decode cX11_feed 65 = .ok (.invokevirtual 125, 3) := by decide +kernel
theorem dX11_feed_68 : decode cX11_feed 68 = .ok (.aload_n 0, 1) := by decide +kernel
theorem dX11_feed_69 : decode cX11_feed 69 = .ok (.getfield 51, 3) := by decide +kernel
theorem dX11_feed_72 : decode cX11_feed 72 = .ok (.getfield 114, 3) := by decide +kernel
theorem dX11_feed_75 : decode cX11_feed 75 = .ok (.ireturn, 1) := by decide +kernel
def wf_feed : List Cond := .code yX11_feed cX11_feed 6 (some .int) :: (([.fieldLink RX11 51 "KnotHouse" "reader" "LKnotHouse$Reader;", .fieldLink RX11 114 "KnotHouse$Reader" "length" "I"] ++ wsX110) ++ wsV RX11 125 RX9 yX9_take wf_take)
theorem gf_X11_feed : GoodIn wf_feed (wsV RX11 125 RX9 yX9_take wf_take) := goodIn_sub (fun _ h => List.mem_cons_of_mem _ (List.mem_append_right _ h)) (by decide +kernel)
set_option maxHeartbeats 4000000 in
set_option maxRecDepth 100000 in
theorem kf_X11_feed (l : Launch) (dC : Nat → ClassId) (dI : Nat → Nat → Nat) (cI cB cJ cZ : ClassId) (h0 sz : Nat) (u : Nat → Nat) (p0 p1 p2 p3 p4 : Int32) : Met l yX11_feed wf_feed (({ frames := 1, cells := 0, slots := 0, locals := 22 } : Room)) (va_Pc [.ref h0, .int p0, .int p1, .int p2, .int p3, .int p4] (fun U => U.heap.size = sz ∧ va_P (dC, dI) vwCl [(h0, .inr (14, [.ref (u 0), .ref (u 1), .ref (u 2), .ref (u 3), .ref (u 4), .ref (u 5), .ref (u 6), .ref (u 7), .ref (u 8), .ref (u 9), .ref (u 10), .ref (u 11), .ref (u 12), .ref (u 13), .ref (u 14), .ref (u 15), .ref (u 16), .ref (u 17), .ref (u 18)])), ((u 7), .inr (12, [.int (nI 0), .ref (u 63), .ref (u 64), .ref (u 65), .int 0, .int 0])), ((u 63), .inl (cB, 400, .inl (fun _ => 0)))] U.heap ∧ va_K (dC, dI) vwCl [(cI, .int), (cB, .byte), (cJ, .long), (cZ, .boolean)] U ∧ va_D (fun _ => True) [(h0, .inr (14, [.ref (u 0), .ref (u 1), .ref (u 2), .ref (u 3), .ref (u 4), .ref (u 5), .ref (u 6), .ref (u 7), .ref (u 8), .ref (u 9), .ref (u 10), .ref (u 11), .ref (u 12), .ref (u 13), .ref (u 14), .ref (u 15), .ref (u 16), .ref (u 17), .ref (u 18)])), ((u 7), .inr (12, [.int (nI 0), .ref (u 63), .ref (u 64), .ref (u 65), .int 0, .int 0])), ((u 63), .inl (cB, 400, .inl (fun _ => 0)))])) (va_Qi (fun r (_ : Unit) => r = 20) (fun _ _ => True) (va_A [(h0, .inr (14, [.ref (u 0), .ref (u 1), .ref (u 2), .ref (u 3), .ref (u 4), .ref (u 5), .ref (u 6), .ref (u 7), .ref (u 8), .ref (u 9), .ref (u 10), .ref (u 11), .ref (u 12), .ref (u 13), .ref (u 14), .ref (u 15), .ref (u 16), .ref (u 17), .ref (u 18)])), ((u 7), .inr (12, [.int (nI 0), .ref (u 63), .ref (u 64), .ref (u 65), .int 0, .int 0])), ((u 63), .inl (cB, 400, .inl (fun _ => 0)))] sz)) 0 0 (va_A [(h0, .inr (14, [.ref (u 0), .ref (u 1), .ref (u 2), .ref (u 3), .ref (u 4), .ref (u 5), .ref (u 6), .ref (u 7), .ref (u 8), .ref (u 9), .ref (u 10), .ref (u 11), .ref (u 12), .ref (u 13), .ref (u 14), .ref (u 15), .ref (u 16), .ref (u 17), .ref (u 18)])), ((u 7), .inr (12, [.int (nI 0), .ref (u 63), .ref (u 64), .ref (u 65), .int 0, .int 0])), ((u 63), .inl (cB, 400, .inl (fun _ => 0)))] sz) := by
  refine Met.ofW (cc := cX11_feed) (maxL := 6) (ret := (some .int)) (by decide) rfl ?_
  intro p e s m args below meth c s₁ B hml hv
  obtain ⟨rfl, hsz, hP, hK, hD0⟩ := hv
  have hx := B.exec
  have hb := B.bytes
  have hr := B.returns
  have hts := atoms_spec (ws := wf_feed) B.pre
  have hown : s.vm.findClass RX11 = some m.cls := findClass_of_methodNamed B.named
  have hlocks := B.notSynchronized
  subst hsz
  have hD := hD0.self (sz := s.heap.size)
  generalize hAe : va_A [(h0, .inr (14, [.ref (u 0), .ref (u 1), .ref (u 2), .ref (u 3), .ref (u 4), .ref (u 5), .ref (u 6), .ref (u 7), .ref (u 8), .ref (u 9), .ref (u 10), .ref (u 11), .ref (u 12), .ref (u 13), .ref (u 14), .ref (u 15), .ref (u 16), .ref (u 17), .ref (u 18)])), ((u 7), .inr (12, [.int (nI 0), .ref (u 63), .ref (u 64), .ref (u 65), .int 0, .int 0])), ((u 63), .inl (cB, 400, .inl (fun _ => 0)))] s.heap.size = A at hD ⊢
  have hA : ∀ q : Nat, s.heap.size ≤ q → A q := fun q h => by rw [← hAe]; exact Or.inr h
  have hS : va_S A s.heap s.heap [] := va_S.rf
  have hP : va_P (dC, dI) vwCl [(h0, .inr (14, [.ref (u 0), .ref (u 1), .ref (u 2), .ref (u 3), .ref (u 4), .ref (u 5), .ref (u 6), .ref (u 7), .ref (u 8), .ref (u 9), .ref (u 10), .ref (u 11), .ref (u 12), .ref (u 13), .ref (u 14), .ref (u 15), .ref (u 16), .ref (u 17), .ref (u 18)])), ((u 7), .inr (12, [.int (nI 0), .ref (u 63), .ref (u 64), .ref (u 65), .int 0, .int 0])), ((u 63), .inl (cB, 400, .inl (fun _ => 0)))] s.heap := hP
  have hl := lv_entry ([.ref h0, .int p0, .int p1, .int p2, .int p3, .int p4]) (n := 6) (Nat.le_of_ble_eq_true rfl)
  rw [lg_entry_eq]
  generalize (lg_sl ([.ref h0, .int p0, .int p1, .int p2, .int p3, .int p4]) ++ List.replicate (6 - (lg_sl ([.ref h0, .int p0, .int p1, .int p2, .int p3, .int p4])).length) Slot.unset).toArray = ls at hl ⊢
  have hl : lv_has ls 6 [(0, .ref h0), (1, .int p0), (2, .int p1), (3, .int p2), (4, .int p3), (5, .int p4)] := hl
  refine ow_named (fun QQ hQQ => ?_)
  refine lv_aload_n hx hb dX11_feed_0 rfl (lv_at hl 0 rfl) ?_
  refine va_get (D := (dC, dI)) (ci := 14) (v := .ref (u 7)) (C := RX11) (T := TX11) (N := 19) hx hb hts (by decide +kernel) hown hK hP 0 rfl rfl 7 (by decide) (hts (.fieldLink RX11 51 "KnotHouse" "reader" "LKnotHouse$Reader;") (by decide +kernel)) (fun _ h9 => h9) rfl dX11_feed_1 ?_
  refine va_get (D := (dC, dI)) (ci := 12) (v := .int (nI 0)) (C := RX9) (T := TX9) (N := 6) hx hb hts (by decide +kernel) hown hK hP 1 rfl rfl 0 (by decide) (hts (.fieldLink RX11 114 "KnotHouse$Reader" "length" "I") (by decide +kernel)) (fun _ h9 => h9) rfl dX11_feed_4 ?_
  refine lv_bipush (v := 20) hx hb dX11_feed_7 (by decide) ?_
  refine lv_iadd hx hb dX11_feed_9 ?_
  refine ow_topi (y := 20) (by decide) ?_
  refine lv_sipush (v := 400) hx hb dX11_feed_10 (by decide) ?_
  refine lv_icmp_le (tgt := 26) hx hb dX11_feed_13 (by decide) (fun _ => ?_) (fun c9 => absurd (by decide) c9)
  refine lv_aload_n hx hb dX11_feed_26 rfl (lv_at hl 0 rfl) ?_
  refine va_get (D := (dC, dI)) (ci := 14) (v := .ref (u 7)) (C := RX11) (T := TX11) (N := 19) hx hb hts (by decide +kernel) hown hK hP 0 rfl rfl 7 (by decide) (hts (.fieldLink RX11 51 "KnotHouse" "reader" "LKnotHouse$Reader;") (by decide +kernel)) (fun _ h9 => h9) rfl dX11_feed_27 ?_
  refine lv_iload_n hx hb dX11_feed_30 rfl (lv_at hl 1 rfl) ?_
  have hPc := hP.sub (ws' := [((u 7), .inr (12, [.int (nI 0), .ref (u 63), .ref (u 64), .ref (u 65), .int 0, .int 0])), ((u 63), .inl (cB, 400, .inl (fun _ => 0)))]) [1, 2] rfl
  have hDc := hD.sub (ws' := [((u 7), .inr (12, [.int (nI 0), .ref (u 63), .ref (u 64), .ref (u 65), .int 0, .int 0])), ((u 63), .inl (cB, 400, .inl (fun _ => 0)))]) [1, 2] (by decide) rfl
  have hFc := va_free (wc := [((u 7), .inr (12, [.int (nI 0), .ref (u 63), .ref (u 64), .ref (u 65), .int 0, .int 0])), ((u 63), .inl (cB, 400, .inl (fun _ => 0)))]) hD hS hA [1, 2] rfl
  refine va_callv (va_runV (As := [.int p0]) (rest := []) ⟨hx, hb, hml, hown, hts⟩ (kf_X9_take l dC dI cI cB cJ cZ u s.heap.size 0 (fun _ => 0) p0 (by decide)) (cwV 1 hts gf_X11_feed rfl rfl rfl (by decide +kernel) ⟨(Nat.le_of_ble_eq_true rfl), (Nat.le_of_ble_eq_true rfl)⟩) ⟨fun a U g mk q => by obtain ⟨q0, q1, qP, qK, qD⟩ := q; exact ⟨q0, q1, qP, va_K.moved (u := U) (U := U.calling g mk a) (Vm.Alike.refl U.vm) qK, qD⟩, va_recv hK hPc (ci := 12) (q0 := 0) rfl rfl, fun U hU hW => ⟨rfl, by rw [hU], by rw [hU]; exact hPc, va_K.moved hW.alike hK, hDc.weaken (fun _ _ _ _ => trivial)⟩⟩ rfl rfl hl.1 rfl (lv_room (Nat.le_of_ble_eq_true rfl)) dX11_feed_31 ⟨(Nat.le_of_ble_eq_true rfl), (Nat.le_of_ble_eq_true rfl)⟩) hS (fun q _ h => hFc q h) hFc (fun g1 t H1 locs ht hvm hw hB hz1 hk1 hS => ?_)
  obtain ⟨hP1, hD1⟩ := hB
  rw [ht] at hP1
  obtain ⟨hP, hD⟩ := va_join (wr := [(h0, .inr (14, [.ref (u 0), .ref (u 1), .ref (u 2), .ref (u 3), .ref (u 4), .ref (u 5), .ref (u 6), .ref (u 7), .ref (u 8), .ref (u 9), .ref (u 10), .ref (u 11), .ref (u 12), .ref (u 13), .ref (u 14), .ref (u 15), .ref (u 16), .ref (u 17), .ref (u 18)]))]) (w1 := [((u 7), .inr (12, [.int (nI 4), .ref (u 63), .ref (u 64), .ref (u 65), .int 0, .int 0])), ((u 63), .inl (cB, 400, .inl g1))]) hP hD [1, 2] [0] rfl rfl (by decide) (by decide) hk1 hFc hP1 hD1
  generalize H1 = H at hP hS ⊢
  have hP : va_P (dC, dI) vwCl [(h0, .inr (14, [.ref (u 0), .ref (u 1), .ref (u 2), .ref (u 3), .ref (u 4), .ref (u 5), .ref (u 6), .ref (u 7), .ref (u 8), .ref (u 9), .ref (u 10), .ref (u 11), .ref (u 12), .ref (u 13), .ref (u 14), .ref (u 15), .ref (u 16), .ref (u 17), .ref (u 18)])), ((u 7), .inr (12, [.int (nI 4), .ref (u 63), .ref (u 64), .ref (u 65), .int 0, .int 0])), ((u 63), .inl (cB, 400, .inl g1))] H := hP
  have hD : va_D A [(h0, .inr (14, [.ref (u 0), .ref (u 1), .ref (u 2), .ref (u 3), .ref (u 4), .ref (u 5), .ref (u 6), .ref (u 7), .ref (u 8), .ref (u 9), .ref (u 10), .ref (u 11), .ref (u 12), .ref (u 13), .ref (u 14), .ref (u 15), .ref (u 16), .ref (u 17), .ref (u 18)])), ((u 7), .inr (12, [.int (nI 4), .ref (u 63), .ref (u 64), .ref (u 65), .int 0, .int 0])), ((u 63), .inl (cB, 400, .inl g1))] := hD
  refine lv_aload_n hx hb dX11_feed_34 rfl (lv_at hl 0 rfl) ?_
  refine va_get (D := (dC, dI)) (ci := 14) (v := .ref (u 7)) (C := RX11) (T := TX11) (N := 19) hx hb hts (by decide +kernel) hown hK hP 0 rfl rfl 7 (by decide) (hts (.fieldLink RX11 51 "KnotHouse" "reader" "LKnotHouse$Reader;") (by decide +kernel)) (fun _ h9 => h9) rfl dX11_feed_35 ?_
  refine lv_iload_n hx hb dX11_feed_38 rfl (lv_at hl 2 rfl) ?_
  have hPc := hP.sub (ws' := [((u 7), .inr (12, [.int (nI 4), .ref (u 63), .ref (u 64), .ref (u 65), .int 0, .int 0])), ((u 63), .inl (cB, 400, .inl g1))]) [1, 2] rfl
  have hDc := hD.sub (ws' := [((u 7), .inr (12, [.int (nI 4), .ref (u 63), .ref (u 64), .ref (u 65), .int 0, .int 0])), ((u 63), .inl (cB, 400, .inl g1))]) [1, 2] (by decide) rfl
  have hFc := va_free (wc := [((u 7), .inr (12, [.int (nI 4), .ref (u 63), .ref (u 64), .ref (u 65), .int 0, .int 0])), ((u 63), .inl (cB, 400, .inl g1))]) hD hS hA [1, 2] rfl
  refine va_callv (va_runV (As := [.int p1]) (rest := []) ⟨hx, hb, hml, hown, hts⟩ (kf_X9_take l dC dI cI cB cJ cZ u H.size 4 g1 p1 (by decide)) (cwV 1 hts gf_X11_feed rfl rfl rfl (by decide +kernel) ⟨(Nat.le_of_ble_eq_true rfl), (Nat.le_of_ble_eq_true rfl)⟩) ⟨fun a U g mk q => by obtain ⟨q0, q1, qP, qK, qD⟩ := q; exact ⟨q0, q1, qP, va_K.moved (u := U) (U := U.calling g mk a) (Vm.Alike.refl U.vm) qK, qD⟩, va_recv hK hPc (ci := 12) (q0 := 0) rfl rfl, fun U hU hW => ⟨rfl, by rw [hU], by rw [hU]; exact hPc, va_K.moved hW.alike hK, hDc.weaken (fun _ _ _ _ => trivial)⟩⟩ rfl rfl hl.1 rfl (lv_room (Nat.le_of_ble_eq_true rfl)) dX11_feed_39 ⟨(Nat.le_of_ble_eq_true rfl), (Nat.le_of_ble_eq_true rfl)⟩) hS (fun q _ h => hFc q h) hFc (fun g2 t H1 locs ht hvm hw hB hz1 hk1 hS => ?_)
  obtain ⟨hP1, hD1⟩ := hB
  rw [ht] at hP1
  obtain ⟨hP, hD⟩ := va_join (wr := [(h0, .inr (14, [.ref (u 0), .ref (u 1), .ref (u 2), .ref (u 3), .ref (u 4), .ref (u 5), .ref (u 6), .ref (u 7), .ref (u 8), .ref (u 9), .ref (u 10), .ref (u 11), .ref (u 12), .ref (u 13), .ref (u 14), .ref (u 15), .ref (u 16), .ref (u 17), .ref (u 18)]))]) (w1 := [((u 7), .inr (12, [.int (nI 8), .ref (u 63), .ref (u 64), .ref (u 65), .int 0, .int 0])), ((u 63), .inl (cB, 400, .inl g2))]) hP hD [1, 2] [0] rfl rfl (by decide) (by decide) hk1 hFc hP1 hD1
  generalize H1 = H at hP hS ⊢
  have hP : va_P (dC, dI) vwCl [(h0, .inr (14, [.ref (u 0), .ref (u 1), .ref (u 2), .ref (u 3), .ref (u 4), .ref (u 5), .ref (u 6), .ref (u 7), .ref (u 8), .ref (u 9), .ref (u 10), .ref (u 11), .ref (u 12), .ref (u 13), .ref (u 14), .ref (u 15), .ref (u 16), .ref (u 17), .ref (u 18)])), ((u 7), .inr (12, [.int (nI 8), .ref (u 63), .ref (u 64), .ref (u 65), .int 0, .int 0])), ((u 63), .inl (cB, 400, .inl g2))] H := hP
  have hD : va_D A [(h0, .inr (14, [.ref (u 0), .ref (u 1), .ref (u 2), .ref (u 3), .ref (u 4), .ref (u 5), .ref (u 6), .ref (u 7), .ref (u 8), .ref (u 9), .ref (u 10), .ref (u 11), .ref (u 12), .ref (u 13), .ref (u 14), .ref (u 15), .ref (u 16), .ref (u 17), .ref (u 18)])), ((u 7), .inr (12, [.int (nI 8), .ref (u 63), .ref (u 64), .ref (u 65), .int 0, .int 0])), ((u 63), .inl (cB, 400, .inl g2))] := hD
  refine lv_aload_n hx hb dX11_feed_42 rfl (lv_at hl 0 rfl) ?_
  refine va_get (D := (dC, dI)) (ci := 14) (v := .ref (u 7)) (C := RX11) (T := TX11) (N := 19) hx hb hts (by decide +kernel) hown hK hP 0 rfl rfl 7 (by decide) (hts (.fieldLink RX11 51 "KnotHouse" "reader" "LKnotHouse$Reader;") (by decide +kernel)) (fun _ h9 => h9) rfl dX11_feed_43 ?_
  refine lv_iload_n hx hb dX11_feed_46 rfl (lv_at hl 3 rfl) ?_
  have hPc := hP.sub (ws' := [((u 7), .inr (12, [.int (nI 8), .ref (u 63), .ref (u 64), .ref (u 65), .int 0, .int 0])), ((u 63), .inl (cB, 400, .inl g2))]) [1, 2] rfl
  have hDc := hD.sub (ws' := [((u 7), .inr (12, [.int (nI 8), .ref (u 63), .ref (u 64), .ref (u 65), .int 0, .int 0])), ((u 63), .inl (cB, 400, .inl g2))]) [1, 2] (by decide) rfl
  have hFc := va_free (wc := [((u 7), .inr (12, [.int (nI 8), .ref (u 63), .ref (u 64), .ref (u 65), .int 0, .int 0])), ((u 63), .inl (cB, 400, .inl g2))]) hD hS hA [1, 2] rfl
  refine va_callv (va_runV (As := [.int p2]) (rest := []) ⟨hx, hb, hml, hown, hts⟩ (kf_X9_take l dC dI cI cB cJ cZ u H.size 8 g2 p2 (by decide)) (cwV 1 hts gf_X11_feed rfl rfl rfl (by decide +kernel) ⟨(Nat.le_of_ble_eq_true rfl), (Nat.le_of_ble_eq_true rfl)⟩) ⟨fun a U g mk q => by obtain ⟨q0, q1, qP, qK, qD⟩ := q; exact ⟨q0, q1, qP, va_K.moved (u := U) (U := U.calling g mk a) (Vm.Alike.refl U.vm) qK, qD⟩, va_recv hK hPc (ci := 12) (q0 := 0) rfl rfl, fun U hU hW => ⟨rfl, by rw [hU], by rw [hU]; exact hPc, va_K.moved hW.alike hK, hDc.weaken (fun _ _ _ _ => trivial)⟩⟩ rfl rfl hl.1 rfl (lv_room (Nat.le_of_ble_eq_true rfl)) dX11_feed_47 ⟨(Nat.le_of_ble_eq_true rfl), (Nat.le_of_ble_eq_true rfl)⟩) hS (fun q _ h => hFc q h) hFc (fun g3 t H1 locs ht hvm hw hB hz1 hk1 hS => ?_)
  obtain ⟨hP1, hD1⟩ := hB
  rw [ht] at hP1
  obtain ⟨hP, hD⟩ := va_join (wr := [(h0, .inr (14, [.ref (u 0), .ref (u 1), .ref (u 2), .ref (u 3), .ref (u 4), .ref (u 5), .ref (u 6), .ref (u 7), .ref (u 8), .ref (u 9), .ref (u 10), .ref (u 11), .ref (u 12), .ref (u 13), .ref (u 14), .ref (u 15), .ref (u 16), .ref (u 17), .ref (u 18)]))]) (w1 := [((u 7), .inr (12, [.int (nI 12), .ref (u 63), .ref (u 64), .ref (u 65), .int 0, .int 0])), ((u 63), .inl (cB, 400, .inl g3))]) hP hD [1, 2] [0] rfl rfl (by decide) (by decide) hk1 hFc hP1 hD1
  generalize H1 = H at hP hS ⊢
  have hP : va_P (dC, dI) vwCl [(h0, .inr (14, [.ref (u 0), .ref (u 1), .ref (u 2), .ref (u 3), .ref (u 4), .ref (u 5), .ref (u 6), .ref (u 7), .ref (u 8), .ref (u 9), .ref (u 10), .ref (u 11), .ref (u 12), .ref (u 13), .ref (u 14), .ref (u 15), .ref (u 16), .ref (u 17), .ref (u 18)])), ((u 7), .inr (12, [.int (nI 12), .ref (u 63), .ref (u 64), .ref (u 65), .int 0, .int 0])), ((u 63), .inl (cB, 400, .inl g3))] H := hP
  have hD : va_D A [(h0, .inr (14, [.ref (u 0), .ref (u 1), .ref (u 2), .ref (u 3), .ref (u 4), .ref (u 5), .ref (u 6), .ref (u 7), .ref (u 8), .ref (u 9), .ref (u 10), .ref (u 11), .ref (u 12), .ref (u 13), .ref (u 14), .ref (u 15), .ref (u 16), .ref (u 17), .ref (u 18)])), ((u 7), .inr (12, [.int (nI 12), .ref (u 63), .ref (u 64), .ref (u 65), .int 0, .int 0])), ((u 63), .inl (cB, 400, .inl g3))] := hD
  refine lv_aload_n hx hb dX11_feed_50 rfl (lv_at hl 0 rfl) ?_
  refine va_get (D := (dC, dI)) (ci := 14) (v := .ref (u 7)) (C := RX11) (T := TX11) (N := 19) hx hb hts (by decide +kernel) hown hK hP 0 rfl rfl 7 (by decide) (hts (.fieldLink RX11 51 "KnotHouse" "reader" "LKnotHouse$Reader;") (by decide +kernel)) (fun _ h9 => h9) rfl dX11_feed_51 ?_
  refine lv_iload hx hb dX11_feed_54 (lv_at hl 4 rfl) ?_
  have hPc := hP.sub (ws' := [((u 7), .inr (12, [.int (nI 12), .ref (u 63), .ref (u 64), .ref (u 65), .int 0, .int 0])), ((u 63), .inl (cB, 400, .inl g3))]) [1, 2] rfl
  have hDc := hD.sub (ws' := [((u 7), .inr (12, [.int (nI 12), .ref (u 63), .ref (u 64), .ref (u 65), .int 0, .int 0])), ((u 63), .inl (cB, 400, .inl g3))]) [1, 2] (by decide) rfl
  have hFc := va_free (wc := [((u 7), .inr (12, [.int (nI 12), .ref (u 63), .ref (u 64), .ref (u 65), .int 0, .int 0])), ((u 63), .inl (cB, 400, .inl g3))]) hD hS hA [1, 2] rfl
  refine va_callv (va_runV (As := [.int p3]) (rest := []) ⟨hx, hb, hml, hown, hts⟩ (kf_X9_take l dC dI cI cB cJ cZ u H.size 12 g3 p3 (by decide)) (cwV 1 hts gf_X11_feed rfl rfl rfl (by decide +kernel) ⟨(Nat.le_of_ble_eq_true rfl), (Nat.le_of_ble_eq_true rfl)⟩) ⟨fun a U g mk q => by obtain ⟨q0, q1, qP, qK, qD⟩ := q; exact ⟨q0, q1, qP, va_K.moved (u := U) (U := U.calling g mk a) (Vm.Alike.refl U.vm) qK, qD⟩, va_recv hK hPc (ci := 12) (q0 := 0) rfl rfl, fun U hU hW => ⟨rfl, by rw [hU], by rw [hU]; exact hPc, va_K.moved hW.alike hK, hDc.weaken (fun _ _ _ _ => trivial)⟩⟩ rfl rfl hl.1 rfl (lv_room (Nat.le_of_ble_eq_true rfl)) dX11_feed_56 ⟨(Nat.le_of_ble_eq_true rfl), (Nat.le_of_ble_eq_true rfl)⟩) hS (fun q _ h => hFc q h) hFc (fun g4 t H1 locs ht hvm hw hB hz1 hk1 hS => ?_)
  obtain ⟨hP1, hD1⟩ := hB
  rw [ht] at hP1
  obtain ⟨hP, hD⟩ := va_join (wr := [(h0, .inr (14, [.ref (u 0), .ref (u 1), .ref (u 2), .ref (u 3), .ref (u 4), .ref (u 5), .ref (u 6), .ref (u 7), .ref (u 8), .ref (u 9), .ref (u 10), .ref (u 11), .ref (u 12), .ref (u 13), .ref (u 14), .ref (u 15), .ref (u 16), .ref (u 17), .ref (u 18)]))]) (w1 := [((u 7), .inr (12, [.int (nI 16), .ref (u 63), .ref (u 64), .ref (u 65), .int 0, .int 0])), ((u 63), .inl (cB, 400, .inl g4))]) hP hD [1, 2] [0] rfl rfl (by decide) (by decide) hk1 hFc hP1 hD1
  generalize H1 = H at hP hS ⊢
  have hP : va_P (dC, dI) vwCl [(h0, .inr (14, [.ref (u 0), .ref (u 1), .ref (u 2), .ref (u 3), .ref (u 4), .ref (u 5), .ref (u 6), .ref (u 7), .ref (u 8), .ref (u 9), .ref (u 10), .ref (u 11), .ref (u 12), .ref (u 13), .ref (u 14), .ref (u 15), .ref (u 16), .ref (u 17), .ref (u 18)])), ((u 7), .inr (12, [.int (nI 16), .ref (u 63), .ref (u 64), .ref (u 65), .int 0, .int 0])), ((u 63), .inl (cB, 400, .inl g4))] H := hP
  have hD : va_D A [(h0, .inr (14, [.ref (u 0), .ref (u 1), .ref (u 2), .ref (u 3), .ref (u 4), .ref (u 5), .ref (u 6), .ref (u 7), .ref (u 8), .ref (u 9), .ref (u 10), .ref (u 11), .ref (u 12), .ref (u 13), .ref (u 14), .ref (u 15), .ref (u 16), .ref (u 17), .ref (u 18)])), ((u 7), .inr (12, [.int (nI 16), .ref (u 63), .ref (u 64), .ref (u 65), .int 0, .int 0])), ((u 63), .inl (cB, 400, .inl g4))] := hD
  refine lv_aload_n hx hb dX11_feed_59 rfl (lv_at hl 0 rfl) ?_
  refine va_get (D := (dC, dI)) (ci := 14) (v := .ref (u 7)) (C := RX11) (T := TX11) (N := 19) hx hb hts (by decide +kernel) hown hK hP 0 rfl rfl 7 (by decide) (hts (.fieldLink RX11 51 "KnotHouse" "reader" "LKnotHouse$Reader;") (by decide +kernel)) (fun _ h9 => h9) rfl dX11_feed_60 ?_
  refine lv_iload hx hb dX11_feed_63 (lv_at hl 5 rfl) ?_
  have hPc := hP.sub (ws' := [((u 7), .inr (12, [.int (nI 16), .ref (u 63), .ref (u 64), .ref (u 65), .int 0, .int 0])), ((u 63), .inl (cB, 400, .inl g4))]) [1, 2] rfl
  have hDc := hD.sub (ws' := [((u 7), .inr (12, [.int (nI 16), .ref (u 63), .ref (u 64), .ref (u 65), .int 0, .int 0])), ((u 63), .inl (cB, 400, .inl g4))]) [1, 2] (by decide) rfl
  have hFc := va_free (wc := [((u 7), .inr (12, [.int (nI 16), .ref (u 63), .ref (u 64), .ref (u 65), .int 0, .int 0])), ((u 63), .inl (cB, 400, .inl g4))]) hD hS hA [1, 2] rfl
  refine va_callv (va_runV (As := [.int p4]) (rest := []) ⟨hx, hb, hml, hown, hts⟩ (kf_X9_take l dC dI cI cB cJ cZ u H.size 16 g4 p4 (by decide)) (cwV 1 hts gf_X11_feed rfl rfl rfl (by decide +kernel) ⟨(Nat.le_of_ble_eq_true rfl), (Nat.le_of_ble_eq_true rfl)⟩) ⟨fun a U g mk q => by obtain ⟨q0, q1, qP, qK, qD⟩ := q; exact ⟨q0, q1, qP, va_K.moved (u := U) (U := U.calling g mk a) (Vm.Alike.refl U.vm) qK, qD⟩, va_recv hK hPc (ci := 12) (q0 := 0) rfl rfl, fun U hU hW => ⟨rfl, by rw [hU], by rw [hU]; exact hPc, va_K.moved hW.alike hK, hDc.weaken (fun _ _ _ _ => trivial)⟩⟩ rfl rfl hl.1 rfl (lv_room (Nat.le_of_ble_eq_true rfl)) dX11_feed_65 ⟨(Nat.le_of_ble_eq_true rfl), (Nat.le_of_ble_eq_true rfl)⟩) hS (fun q _ h => hFc q h) hFc (fun g5 t H1 locs ht hvm hw hB hz1 hk1 hS => ?_)
  obtain ⟨hP1, hD1⟩ := hB
  rw [ht] at hP1
  obtain ⟨hP, hD⟩ := va_join (wr := [(h0, .inr (14, [.ref (u 0), .ref (u 1), .ref (u 2), .ref (u 3), .ref (u 4), .ref (u 5), .ref (u 6), .ref (u 7), .ref (u 8), .ref (u 9), .ref (u 10), .ref (u 11), .ref (u 12), .ref (u 13), .ref (u 14), .ref (u 15), .ref (u 16), .ref (u 17), .ref (u 18)]))]) (w1 := [((u 7), .inr (12, [.int (nI 20), .ref (u 63), .ref (u 64), .ref (u 65), .int 0, .int 0])), ((u 63), .inl (cB, 400, .inl g5))]) hP hD [1, 2] [0] rfl rfl (by decide) (by decide) hk1 hFc hP1 hD1
  generalize H1 = H at hP hS ⊢
  have hP : va_P (dC, dI) vwCl [(h0, .inr (14, [.ref (u 0), .ref (u 1), .ref (u 2), .ref (u 3), .ref (u 4), .ref (u 5), .ref (u 6), .ref (u 7), .ref (u 8), .ref (u 9), .ref (u 10), .ref (u 11), .ref (u 12), .ref (u 13), .ref (u 14), .ref (u 15), .ref (u 16), .ref (u 17), .ref (u 18)])), ((u 7), .inr (12, [.int (nI 20), .ref (u 63), .ref (u 64), .ref (u 65), .int 0, .int 0])), ((u 63), .inl (cB, 400, .inl g5))] H := hP
  have hD : va_D A [(h0, .inr (14, [.ref (u 0), .ref (u 1), .ref (u 2), .ref (u 3), .ref (u 4), .ref (u 5), .ref (u 6), .ref (u 7), .ref (u 8), .ref (u 9), .ref (u 10), .ref (u 11), .ref (u 12), .ref (u 13), .ref (u 14), .ref (u 15), .ref (u 16), .ref (u 17), .ref (u 18)])), ((u 7), .inr (12, [.int (nI 20), .ref (u 63), .ref (u 64), .ref (u 65), .int 0, .int 0])), ((u 63), .inl (cB, 400, .inl g5))] := hD
  refine lv_aload_n hx hb dX11_feed_68 rfl (lv_at hl 0 rfl) ?_
  refine va_get (D := (dC, dI)) (ci := 14) (v := .ref (u 7)) (C := RX11) (T := TX11) (N := 19) hx hb hts (by decide +kernel) hown hK hP 0 rfl rfl 7 (by decide) (hts (.fieldLink RX11 51 "KnotHouse" "reader" "LKnotHouse$Reader;") (by decide +kernel)) (fun _ h9 => h9) rfl dX11_feed_69 ?_
  refine va_get (D := (dC, dI)) (ci := 12) (v := .int (nI 20)) (C := RX9) (T := TX9) (N := 6) hx hb hts (by decide +kernel) hown hK hP 1 rfl rfl 0 (by decide) (hts (.fieldLink RX11 114 "KnotHouse$Reader" "length" "I") (by decide +kernel)) (fun _ h9 => h9) rfl dX11_feed_72 ?_
  rw [hQQ]
  exact W.iret (v := (nI 20)) hx hb hr (fun t ht hW => ⟨⟨(nI 20), (), rfl, by decide, trivial⟩, hS.F ht⟩) hS.2.2 dX11_feed_75
theorem dX11_freeBraid_0 : decode cX11_freeBraid 0 = .ok (.iconst 0, 1) := by decide +kernel
theorem dX11_freeBraid_1 : decode cX11_freeBraid 1 = .ok (.istore_n 1, 1) := by decide +kernel
theorem dX11_freeBraid_2 : decode cX11_freeBraid 2 = .ok (.iload_n 1, 1) := by decide +kernel
theorem dX11_freeBraid_3 : decode cX11_freeBraid 3 = .ok (.bipush 20, 2) := by decide +kernel
theorem dX11_freeBraid_5 : decode cX11_freeBraid 5 = .ok (.if_icmp .ge 20, 3) := by decide +kernel
theorem dX11_freeBraid_8 : decode cX11_freeBraid 8 = .ok (.aload_n 0, 1) := by decide +kernel
theorem dX11_freeBraid_9 : decode cX11_freeBraid 9 = .ok (.getfield 91, 3) := by decide +kernel
theorem dX11_freeBraid_12 : decode cX11_freeBraid 12 = .ok (.iload_n 1, 1) := by decide +kernel
theorem dX11_freeBraid_13 : decode cX11_freeBraid 13 = .ok (.iaload, 1) := by decide +kernel
theorem dX11_freeBraid_14 : decode cX11_freeBraid 14 = .ok (.ifCond .ne 5, 3) := by decide +kernel
theorem dX11_freeBraid_17 : decode cX11_freeBraid 17 = .ok (.iload_n 1, 1) := by decide +kernel
theorem dX11_freeBraid_18 : decode cX11_freeBraid 18 = .ok (.ireturn, 1) := by decide +kernel
theorem dX11_freeBraid_19 : decode cX11_freeBraid 19 = .ok (.iinc 1 1, 3) := by decide +kernel
theorem dX11_freeBraid_22 : decode cX11_freeBraid 22 = .ok (.goto (-20), 3) := by decide +kernel
def wf_freeBraid : List Cond := .code yX11_freeBraid cX11_freeBraid 2 (some .int) :: ([.fieldLink RX11 91 "KnotHouse" "strands" "[I"] ++ wsX110)
set_option maxHeartbeats 4000000 in
set_option maxRecDepth 100000 in
theorem kf_X11_freeBraid (l : Launch) (dC : Nat → ClassId) (dI : Nat → Nat → Nat) (cI cB cJ cZ : ClassId) (h0 : Nat) (u : Nat → Nat) : Met l yX11_freeBraid wf_freeBraid (({ frames := 0, cells := 0, slots := 0, locals := 0 } : Room)) (va_Pc [.ref h0] (fun U => va_P (dC, dI) vwCl [(h0, .inr (14, [.ref (u 0), .ref (u 1), .ref (u 2), .ref (u 3), .ref (u 4), .ref (u 5), .ref (u 6), .ref (u 7), .ref (u 8), .ref (u 9), .ref (u 10), .ref (u 11), .ref (u 12), .ref (u 13), .ref (u 14), .ref (u 15), .ref (u 16), .ref (u 17), .ref (u 18)])), ((u 14), .inl (cI, 20, .inl (fun _ => 0)))] U.heap ∧ va_K (dC, dI) vwCl [(cI, .int), (cB, .byte), (cJ, .long), (cZ, .boolean)] U)) (va_Qi (fun r (_ : Unit) => r = 0) (fun _ _ => True) (fun _ => False)) 0 0 (fun _ => False) := by
  refine Met.ofW (cc := cX11_freeBraid) (maxL := 2) (ret := (some .int)) (by decide) rfl ?_
  intro p e s m args below meth c s₁ B hml hv
  obtain ⟨rfl, hP, hK⟩ := hv
  have hx := B.exec
  have hb := B.bytes
  have hr := B.returns
  have hts := atoms_spec (ws := wf_freeBraid) B.pre
  have hown : s.vm.findClass RX11 = some m.cls := findClass_of_methodNamed B.named
  have hlocks := B.notSynchronized
  have hS : va_S (fun _ => False) s.heap s.heap [] := va_S.rf
  have hP : va_P (dC, dI) vwCl [(h0, .inr (14, [.ref (u 0), .ref (u 1), .ref (u 2), .ref (u 3), .ref (u 4), .ref (u 5), .ref (u 6), .ref (u 7), .ref (u 8), .ref (u 9), .ref (u 10), .ref (u 11), .ref (u 12), .ref (u 13), .ref (u 14), .ref (u 15), .ref (u 16), .ref (u 17), .ref (u 18)])), ((u 14), .inl (cI, 20, .inl (fun _ => 0)))] s.heap := hP
  have hl := lv_entry ([.ref h0]) (n := 2) (Nat.le_of_ble_eq_true rfl)
  rw [lg_entry_eq]
  generalize (lg_sl ([.ref h0]) ++ List.replicate (2 - (lg_sl ([.ref h0])).length) Slot.unset).toArray = ls at hl ⊢
  have hl : lv_has ls 2 [(0, .ref h0)] := hl
  refine ow_named (fun QQ hQQ => ?_)
  refine lv_iconst (v := 0) hx hb dX11_freeBraid_0 (by decide) ?_
  refine lv_istore_n (lv' := [(1, .int 0), (0, .ref h0)]) hx hb dX11_freeBraid_1 rfl hl (by decide) rfl (fun ls hl => ?_)
  refine lv_iload_n hx hb dX11_freeBraid_2 rfl (lv_at hl 0 rfl) ?_
  refine lv_bipush (v := 20) hx hb dX11_freeBraid_3 (by decide) ?_
  refine lv_icmp_ge (tgt := 25) hx hb dX11_freeBraid_5 (by decide) (fun c9 => absurd c9 (by decide)) (fun _ => ?_)
  refine lv_aload_n hx hb dX11_freeBraid_8 rfl (lv_at hl 1 rfl) ?_
  refine va_get (D := (dC, dI)) (ci := 14) (v := .ref (u 14)) (C := RX11) (T := TX11) (N := 19) hx hb hts (by decide +kernel) hown hK hP 0 rfl rfl 14 (by decide) (hts (.fieldLink RX11 91 "KnotHouse" "strands" "[I") (by decide +kernel)) (fun _ h9 => h9) rfl dX11_freeBraid_9 ?_
  refine lv_iload_n hx hb dX11_freeBraid_12 rfl (lv_at hl 0 rfl) ?_
  refine va_iald hx hb hK hP 1 0 rfl rfl (vp_in_nI (n := 0) (N := 20) (by decide) (by decide)) dX11_freeBraid_13 ?_
  refine ow_topi (y := 0) (rfl) ?_
  refine lv_if_ne (tgt := 19) hx hb dX11_freeBraid_14 (by decide) (fun c9 => absurd c9 (by decide)) (fun _ => ?_)
  refine lv_iload_n hx hb dX11_freeBraid_17 rfl (lv_at hl 0 rfl) ?_
  rw [hQQ]
  exact W.iret (v := 0) hx hb hr (fun t ht hW => ⟨⟨0, (), rfl, rfl, trivial⟩, hS.F ht⟩) hS.2.2 dX11_freeBraid_18
theorem dX9_readBraid_0 : decode cX9_readBraid 0 = .ok (.iconst 0, 1) := by decide +kernel
theorem dX9_readBraid_1 : decode cX9_readBraid 1 = .ok (.istore 4, 2) := by decide +kernel
theorem dX9_readBraid_3 : decode cX9_readBraid 3 = .ok (.iload 4, 2) := by decide +kernel
theorem dX9_readBraid_5 : decode cX9_readBraid 5 = .ok (.aload_n 0, 1) := by decide +kernel
theorem dX9_readBraid_6 : decode cX9_readBraid 6 = .ok (.getfield 22, 3) := by decide +kernel
theorem dX9_readBraid_9 : decode cX9_readBraid 9 = .ok (.if_icmp .ge 101, 3) := by decide +kernel
theorem dX9_readBraid_110 : decode cX9_readBraid 110 = .ok (.iconst (-1), 1) := by decide +kernel
theorem dX9_readBraid_111 : decode cX9_readBraid 111 = .ok (.ireturn, 1) := by decide +kernel
def wf_readBraid : List Cond := .code yX9_readBraid cX9_readBraid 7 (some .int) :: ([.fieldLink RX9 22 "KnotHouse$Reader" "length" "I"] ++ wsX90)
set_option maxHeartbeats 4000000 in
set_option maxRecDepth 100000 in
theorem kf_X9_readBraid (l : Launch) (dC : Nat → ClassId) (dI : Nat → Nat → Nat) (cI cB cJ cZ : ClassId) (u : Nat → Nat) (a2 : Nat) (n x : Int32) : Met l yX9_readBraid wf_readBraid (({ frames := 0, cells := 0, slots := 0, locals := 0 } : Room)) (va_Pc [.ref (u 7), .int n, .ref a2, .int x] (fun U => va_P (dC, dI) vwCl [((u 7), .inr (12, [.int 0, .ref (u 63), .ref (u 64), .ref (u 65), .int 0, .int 0]))] U.heap ∧ va_K (dC, dI) vwCl [(cI, .int), (cB, .byte), (cJ, .long), (cZ, .boolean)] U)) (va_Qi (fun r (_ : Unit) => r = -1) (fun _ _ => True) (fun _ => False)) 0 0 (fun _ => False) := by
  refine Met.ofW (cc := cX9_readBraid) (maxL := 7) (ret := (some .int)) (by decide) rfl ?_
  intro p e s m args below meth c s₁ B hml hv
  obtain ⟨rfl, hP, hK⟩ := hv
  have hx := B.exec
  have hb := B.bytes
  have hr := B.returns
  have hts := atoms_spec (ws := wf_readBraid) B.pre
  have hown : s.vm.findClass RX9 = some m.cls := findClass_of_methodNamed B.named
  have hlocks := B.notSynchronized
  have hS : va_S (fun _ => False) s.heap s.heap [] := va_S.rf
  have hP : va_P (dC, dI) vwCl [((u 7), .inr (12, [.int 0, .ref (u 63), .ref (u 64), .ref (u 65), .int 0, .int 0]))] s.heap := hP
  have hl := lv_entry ([.ref (u 7), .int n, .ref a2, .int x]) (n := 7) (Nat.le_of_ble_eq_true rfl)
  rw [lg_entry_eq]
  generalize (lg_sl ([.ref (u 7), .int n, .ref a2, .int x]) ++ List.replicate (7 - (lg_sl ([.ref (u 7), .int n, .ref a2, .int x])).length) Slot.unset).toArray = ls at hl ⊢
  have hl : lv_has ls 7 [(0, .ref (u 7)), (1, .int n), (2, .ref a2), (3, .int x)] := hl
  refine ow_named (fun QQ hQQ => ?_)
  refine lv_iconst (v := 0) hx hb dX9_readBraid_0 (by decide) ?_
  refine lv_istore (lv' := [(4, .int 0), (0, .ref (u 7)), (1, .int n), (2, .ref a2), (3, .int x)]) hx hb dX9_readBraid_1 hl (by decide) rfl (fun ls hl => ?_)
  refine lv_iload hx hb dX9_readBraid_3 (lv_at hl 0 rfl) ?_
  refine lv_aload_n hx hb dX9_readBraid_5 rfl (lv_at hl 1 rfl) ?_
  refine va_get (D := (dC, dI)) (ci := 12) (v := .int 0) (C := RX9) (T := TX9) (N := 6) hx hb hts (by decide +kernel) hown hK hP 0 rfl rfl 0 (by decide) (hts (.fieldLink RX9 22 "KnotHouse$Reader" "length" "I") (by decide +kernel)) (fun _ h9 => h9) rfl dX9_readBraid_6 ?_
  refine lv_icmp_ge (tgt := 110) hx hb dX9_readBraid_9 (by decide) (fun _ => ?_) (fun c9 => absurd (by decide) c9)
  refine lv_iconst (v := (-1)) hx hb dX9_readBraid_110 (by decide) ?_
  rw [hQQ]
  exact W.iret (v := (-1)) hx hb hr (fun t ht hW => ⟨⟨(-1), (), rfl, rfl, trivial⟩, hS.F ht⟩) hS.2.2 dX9_readBraid_111
theorem dX11_braid_0 : decode cX11_braid 0 = .ok (.iload_n 1, 1) := by decide +kernel
theorem dX11_braid_1 : decode cX11_braid 1 = .ok (.iconst 2, 1) := by decide +kernel
theorem dX11_braid_2 : decode cX11_braid 2 = .ok (.if_icmp .lt 8, 3) := by decide +kernel
theorem dX11_braid_5 : decode cX11_braid 5 = .ok (.iload_n 1, 1) := by decide +kernel
theorem dX11_braid_6 : decode cX11_braid 6 = .ok (.iconst 5, 1) := by decide +kernel
theorem dX11_braid_7 : decode cX11_braid 7 = .ok (.if_icmp .le 13, 3) := by decide +kernel
theorem dX11_braid_10 : decode cX11_braid 10 = .ok (.new 128, 3) := by decide +kernel
theorem dX11_braid_13 : decode cX11_braid 13 = .ok (.dup, 1) := by decide +kernel
theorem dX11_braid_14 : decode cX11_braid 14 = .ok (.ldc 149, 2) := by decide +kernel
theorem dX11_braid_16 : decode cX11_braid 16 = .ok (.invokespecial 132, 3) := by decide +kernel
theorem dX11_braid_19 : decode cX11_braid 19 = .ok (.athrow, 1) := by decide +kernel
theorem dX11_braid_20 : decode cX11_braid 20 = .ok (.aload_n 0, 1) := by decide +kernel
theorem dX11_braid_21 : decode cX11_braid 21 = .ok (.invokevirtual 151, 3) := by decide +kernel
theorem dX11_braid_24 : decode cX11_braid 24 = .ok (.istore_n 2, 1) := by decide +kernel
theorem dX11_braid_25 : decode cX11_braid 25 = .ok (.aload_n 0, 1) := by decide +kernel
theorem dX11_braid_26 : decode cX11_braid 26 = .ok (.getfield 51, 3) := by decide +kernel
theorem dX11_braid_29 : decode cX11_braid 29 = .ok (.getfield 114, 3) := by decide +kernel
theorem dX11_braid_32 : decode cX11_braid 32 = .ok (.istore_n 3, 1) := by decide +kernel
theorem dX11_braid_33 : decode cX11_braid 33 = .ok (.aload_n 0, 1) := by decide +kernel
theorem dX11_braid_34 : decode cX11_braid 34 = .ok (.getfield 51, 3) := by decide +kernel
theorem dX11_braid_37 : decode cX11_braid 37 = .ok (.iload_n 1, 1) := by decide +kernel
theorem dX11_braid_38 : decode cX11_braid 38 = .ok (.aload_n 0, 1) := by decide +kernel
theorem dX11_braid_39 : decode cX11_braid 39 = .ok (.getfield 83, 3) := by decide +kernel
theorem dX11_braid_42 : decode cX11_braid 42 = .ok (.iload_n 2, 1) := by decide +kernel
theorem dX11_braid_43 : decode cX11_braid 43 = .ok (.bipush 16, 2) := by decide +kernel
theorem dX11_braid_45 : decode cX11_braid 45 = .ok (.imul, 1) := by decide +kernel
theorem dX11_braid_46 : decode cX11_braid 46 = .ok (.invokevirtual 154, 3) := by decide +kernel
theorem dX11_braid_49 : decode cX11_braid 49 = .ok (.istore 4, 2) := by decide +kernel
theorem dX11_braid_51 : decode cX11_braid 51 = .ok (.aload_n 0, 1) := by decide +kernel
theorem dX11_braid_52 : decode cX11_braid 52 = .ok (.getfield 51, 3) := by decide +kernel
theorem dX11_braid_55 : decode cX11_braid 55 = .ok (.iconst 0, 1) := by decide +kernel
theorem dX11_braid_56 : decode cX11_braid 56 = .ok (.putfield 114, 3) := by decide +kernel
theorem dX11_braid_59 : decode cX11_braid 59 = .ok (.iload 4, 2) := by decide +kernel
theorem dX11_braid_61 : decode cX11_braid 61 = .ok (.iconst (-1), 1) := by decide +kernel
theorem dX11_braid_62 : decode cX11_braid 62 = .ok (.if_icmp .eq 8, 3) := by decide +kernel
theorem dX11_braid_65 : decode cX11_braid 65 = .ok (.iconst (-1), 1) := by decide +kernel
theorem dX11_braid_66 : decode cX11_braid 66 = .ok (.iload 4, 2) := by decide +kernel
theorem dX11_braid_68 : decode cX11_braid 68 = .ok (.isub, 1) := by decide +kernel
theorem dX11_braid_69 : decode cX11_braid 69 = .ok (.ireturn, 1) := by decide +kernel
theorem dX11_braid_70 : decode cX11_braid 70 = .ok (.aload_n 0, 1) := by decide +kernel
theorem dX11_braid_71 : decode cX11_braid 71 = .ok (.getfield 87, 3) := by decide +kernel
theorem dX11_braid_74 : decode cX11_braid 74 = .ok (.iload_n 2, 1) := by decide +kernel
theorem dX11_braid_75 : decode cX11_braid 75 = .ok (.iload_n 3, 1) := by decide +kernel
theorem dX11_braid_76 : decode cX11_braid 76 = .ok (.iastore, 1) := by decide +kernel
theorem dX11_braid_77 : decode cX11_braid 77 = .ok (.aload_n 0, 1) := by decide +kernel
theorem dX11_braid_78 : decode cX11_braid 78 = .ok (.getfield 91, 3) := by decide +kernel
theorem dX11_braid_81 : decode cX11_braid 81 = .ok (.iload_n 2, 1) := by decide +kernel
theorem dX11_braid_82 : decode cX11_braid 82 = .ok (.iload_n 1, 1) := by decide +kernel
theorem dX11_braid_83 : decode cX11_braid 83 = .ok (.iastore, 1) := by decide +kernel
theorem dX11_braid_84 : decode cX11_braid 84 = .ok (.iload_n 2, 1) := by decide +kernel
theorem dX11_braid_85 : decode cX11_braid 85 = .ok (.ireturn, 1) := by decide +kernel
def wf_braid : List Cond := .code yX11_braid cX11_braid 5 (some .int) :: ((.classLink RX11 128 "java/lang/IllegalArgumentException" :: .initialized "java/lang/IllegalArgumentException" :: .fieldLink RX11 51 "KnotHouse" "reader" "LKnotHouse$Reader;" :: .fieldLink RX11 114 "KnotHouse$Reader" "length" "I" :: .fieldLink RX11 83 "KnotHouse" "letters" "[B" :: .fieldLink RX11 87 "KnotHouse" "lengths" "[I" :: .fieldLink RX11 91 "KnotHouse" "strands" "[I" :: (wsX110 ++ wsX90 ++ (wsV RX11 151 RX11 yX11_freeBraid wf_freeBraid ++ wsV RX11 154 RX9 yX9_readBraid wf_readBraid))) ++ (vx_atS RX11 132 "java/lang/IllegalArgumentException" ["java/lang/RuntimeException", "java/lang/Exception"]).filter goodWord)
theorem gf_X11_braid_a : GoodIn wf_braid (wsV RX11 151 RX11 yX11_freeBraid wf_freeBraid) := goodIn_sub (by decide +kernel) (by decide +kernel)
theorem gf_X11_braid_b : GoodIn wf_braid (wsV RX11 154 RX9 yX9_readBraid wf_readBraid) := goodIn_sub (by decide +kernel) (by decide +kernel)
set_option maxHeartbeats 4000000 in
set_option maxRecDepth 100000 in
theorem kf_X11_braid (l : Launch) (dC : Nat → ClassId) (dI : Nat → Nat → Nat) (cI cB cJ cZ : ClassId) (hlt : l.stackTraces = false) (h0 sa sz : Nat) (u : Nat → Nat) (n : Int32) : vx_Met l yX11_braid wf_braid (({ frames := 6, cells := 1, slots := 6, locals := 90 } : Room)) (va_Pc [.ref h0, .int n] (fun U => U.heap.size = sz ∧ va_P (dC, dI) vwCl [(h0, .inr (14, [.ref (u 0), .ref (u 1), .ref (u 2), .ref (u 3), .ref (u 4), .ref (u 5), .ref (u 6), .ref (u 7), .ref (u 8), .ref (u 9), .ref (u 10), .ref (u 11), .ref (u 12), .ref (u 13), .ref (u 14), .ref (u 15), .ref (u 16), .ref (u 17), .ref (u 18)])), ((u 7), .inr (12, [.int 0, .ref (u 63), .ref (u 64), .ref (u 65), .int 0, .int 0])), ((u 13), .inl (cI, 20, .inl (fun _ => 0))), ((u 14), .inl (cI, 20, .inl (fun _ => 0)))] U.heap ∧ va_K (dC, dI) vwCl [(cI, .int), (cB, .byte), (cJ, .long), (cZ, .boolean)] U ∧ va_D (fun _ => True) [(h0, .inr (14, [.ref (u 0), .ref (u 1), .ref (u 2), .ref (u 3), .ref (u 4), .ref (u 5), .ref (u 6), .ref (u 7), .ref (u 8), .ref (u 9), .ref (u 10), .ref (u 11), .ref (u 12), .ref (u 13), .ref (u 14), .ref (u 15), .ref (u 16), .ref (u 17), .ref (u 18)])), ((u 7), .inr (12, [.int 0, .ref (u 63), .ref (u 64), .ref (u 65), .int 0, .int 0])), ((u 13), .inl (cI, 20, .inl (fun _ => 0))), ((u 14), .inl (cI, 20, .inl (fun _ => 0)))] ∧ ow_Th (va_A [(h0, .inr (14, [.ref (u 0), .ref (u 1), .ref (u 2), .ref (u 3), .ref (u 4), .ref (u 5), .ref (u 6), .ref (u 7), .ref (u 8), .ref (u 9), .ref (u 10), .ref (u 11), .ref (u 12), .ref (u 13), .ref (u 14), .ref (u 15), .ref (u 16), .ref (u 17), .ref (u 18)])), ((u 7), .inr (12, [.int 0, .ref (u 63), .ref (u 64), .ref (u 65), .int 0, .int 0])), ((u 13), .inl (cI, 20, .inl (fun _ => 0))), ((u 14), .inl (cI, 20, .inl (fun _ => 0)))] sz) RX11 149 "a braid has 2 to 5 strands" sa "java/lang/IllegalArgumentException" U)) (va_Qi (fun r (_ : Unit) => r = 0 ∧ ¬ n < 2 ∧ n ≤ 5) (fun _ _ => True) (va_A [(h0, .inr (14, [.ref (u 0), .ref (u 1), .ref (u 2), .ref (u 3), .ref (u 4), .ref (u 5), .ref (u 6), .ref (u 7), .ref (u 8), .ref (u 9), .ref (u 10), .ref (u 11), .ref (u 12), .ref (u 13), .ref (u 14), .ref (u 15), .ref (u 16), .ref (u 17), .ref (u 18)])), ((u 7), .inr (12, [.int 0, .ref (u 63), .ref (u 64), .ref (u 65), .int 0, .int 0])), ((u 13), .inl (cI, 20, .inl (fun _ => 0))), ((u 14), .inl (cI, 20, .inl (fun _ => 0)))] sz)) (vx_X (fun _ : Unit => n < 2 ∨ ¬ n ≤ 5) (fun E _ _ => E = "java/lang/IllegalArgumentException") (va_A [(h0, .inr (14, [.ref (u 0), .ref (u 1), .ref (u 2), .ref (u 3), .ref (u 4), .ref (u 5), .ref (u 6), .ref (u 7), .ref (u 8), .ref (u 9), .ref (u 10), .ref (u 11), .ref (u 12), .ref (u 13), .ref (u 14), .ref (u 15), .ref (u 16), .ref (u 17), .ref (u 18)])), ((u 7), .inr (12, [.int 0, .ref (u 63), .ref (u 64), .ref (u 65), .int 0, .int 0])), ((u 13), .inl (cI, 20, .inl (fun _ => 0))), ((u 14), .inl (cI, 20, .inl (fun _ => 0)))] sz)) 1 6 (va_A [(h0, .inr (14, [.ref (u 0), .ref (u 1), .ref (u 2), .ref (u 3), .ref (u 4), .ref (u 5), .ref (u 6), .ref (u 7), .ref (u 8), .ref (u 9), .ref (u 10), .ref (u 11), .ref (u 12), .ref (u 13), .ref (u 14), .ref (u 15), .ref (u 16), .ref (u 17), .ref (u 18)])), ((u 7), .inr (12, [.int 0, .ref (u 63), .ref (u 64), .ref (u 65), .int 0, .int 0])), ((u 13), .inl (cI, 20, .inl (fun _ => 0))), ((u 14), .inl (cI, 20, .inl (fun _ => 0)))] sz) := by
  refine vx_ofW (cc := cX11_braid) (maxL := 5) (ret := (some .int)) (by decide) rfl ?_
  intro p e s m args below meth c s₁ B hml hex hv
  obtain ⟨rfl, hsz, hP, hK, hD0, hTh⟩ := hv
  have hx := B.exec
  have hb := B.bytes
  have hr := B.returns
  have hts := atoms_spec (ws := wf_braid) B.pre
  have hown : s.vm.findClass RX11 = some m.cls := findClass_of_methodNamed B.named
  have hlocks := B.notSynchronized
  subst hsz
  have hD := hD0.self (sz := s.heap.size)
  generalize hAe : va_A [(h0, .inr (14, [.ref (u 0), .ref (u 1), .ref (u 2), .ref (u 3), .ref (u 4), .ref (u 5), .ref (u 6), .ref (u 7), .ref (u 8), .ref (u 9), .ref (u 10), .ref (u 11), .ref (u 12), .ref (u 13), .ref (u 14), .ref (u 15), .ref (u 16), .ref (u 17), .ref (u 18)])), ((u 7), .inr (12, [.int 0, .ref (u 63), .ref (u 64), .ref (u 65), .int 0, .int 0])), ((u 13), .inl (cI, 20, .inl (fun _ => 0))), ((u 14), .inl (cI, 20, .inl (fun _ => 0)))] s.heap.size = A at hD hTh ⊢
  have hA : ∀ q : Nat, s.heap.size ≤ q → A q := fun q h => by rw [← hAe]; exact Or.inr h
  have hS : va_S A s.heap s.heap [] := va_S.rf
  have hP : va_P (dC, dI) vwCl [(h0, .inr (14, [.ref (u 0), .ref (u 1), .ref (u 2), .ref (u 3), .ref (u 4), .ref (u 5), .ref (u 6), .ref (u 7), .ref (u 8), .ref (u 9), .ref (u 10), .ref (u 11), .ref (u 12), .ref (u 13), .ref (u 14), .ref (u 15), .ref (u 16), .ref (u 17), .ref (u 18)])), ((u 7), .inr (12, [.int 0, .ref (u 63), .ref (u 64), .ref (u 65), .int 0, .int 0])), ((u 13), .inl (cI, 20, .inl (fun _ => 0))), ((u 14), .inl (cI, 20, .inl (fun _ => 0)))] s.heap := hP
  have hl := lv_entry ([.ref h0, .int n]) (n := 5) (Nat.le_of_ble_eq_true rfl)
  rw [lg_entry_eq]
  generalize (lg_sl ([.ref h0, .int n]) ++ List.replicate (5 - (lg_sl ([.ref h0, .int n])).length) Slot.unset).toArray = ls at hl ⊢
  have hl : lv_has ls 5 [(0, .ref h0), (1, .int n)] := hl
  refine ow_named (fun QQ hQQ => ?_)
  refine lv_iload_n hx hb dX11_braid_0 rfl (lv_at hl 1 rfl) ?_
  refine lv_iconst (v := 2) hx hb dX11_braid_1 (by decide) ?_
  refine lv_icmp_lt (tgt := 10) hx hb dX11_braid_2 (by decide) (fun c1 => ?_) (fun c1 => ?_)
  · rw [hQQ]
    exact vx_throwS (own := RX11) (cls := "java/lang/IllegalArgumentException") (text := "a braid has 2 to 5 strands") (names := ["java/lang/RuntimeException", "java/lang/Exception"]) (A := A) hx hb hlt hown (by decide +kernel) (by decide +kernel) (hts (.classLink RX11 128 "java/lang/IllegalArgumentException") (by decide +kernel)) (hts (.initialized "java/lang/IllegalArgumentException") (by decide +kernel)) hTh.1 (vx_hat (fun w h => hts w (List.mem_cons_of_mem _ (List.mem_append_right _ h))) (B := [.declares (Bundle.initS "java/lang/RuntimeException"), .declares (Bundle.initS "java/lang/Exception"), .declares (Bundle.initS Bundle.tN), .castable "java/lang/IllegalArgumentException" "java/lang/IllegalArgumentException"]) (by decide +kernel) (vx_c (va_Nw.use rfl hTh.2.2.2.1) (vx_c (va_Nw.use rfl hTh.2.2.2.2.1) (vx_c (va_Nw.use rfl hTh.2.2.2.2.2.1) (vx_c (va_Nw.use rfl hTh.2.2.2.2.2.2) vx_n))))) (by decide +kernel) hTh.2.1 hTh.2.2.1 hS (by rw [hml]; exact hl.1) dX11_braid_10 dX11_braid_13 dX11_braid_14 dX11_braid_16 dX11_braid_19 (fun x h => (hex x h).elim) (Nat.le_of_ble_eq_true rfl) (Nat.le_of_ble_eq_true rfl) (Nat.le_of_ble_eq_true rfl) (Nat.le_of_ble_eq_true rfl) hlocks (fun t h1 h2 h3 => ⟨(), Or.inl c1, rfl, Nat.le_trans hS.1 h2, fun q h4 h5 => (h3 q (Nat.lt_of_lt_of_le h4 hS.1)).trans (hS.2.1 q h4 h5)⟩) hS.2.2 (Nat.le_of_ble_eq_true rfl) (Nat.le_of_ble_eq_true rfl)
  · refine lv_iload_n hx hb dX11_braid_5 rfl (lv_at hl 1 rfl) ?_
    refine lv_iconst (v := 5) hx hb dX11_braid_6 (by decide) ?_
    refine lv_icmp_le (tgt := 20) hx hb dX11_braid_7 (by decide) (fun c2 => ?_) (fun c2 => ?_)
    · refine lv_aload_n hx hb dX11_braid_20 rfl (lv_at hl 0 rfl) ?_
      have hPc := hP.sub (ws' := [(h0, .inr (14, [.ref (u 0), .ref (u 1), .ref (u 2), .ref (u 3), .ref (u 4), .ref (u 5), .ref (u 6), .ref (u 7), .ref (u 8), .ref (u 9), .ref (u 10), .ref (u 11), .ref (u 12), .ref (u 13), .ref (u 14), .ref (u 15), .ref (u 16), .ref (u 17), .ref (u 18)])), ((u 14), .inl (cI, 20, .inl (fun _ => 0)))]) [0, 3] rfl
      refine va_calli (va_runV (As := []) (rest := []) ⟨hx, hb, hml, hown, hts⟩ (kf_X11_freeBraid l dC dI cI cB cJ cZ h0 u) (cwV 0 hts gf_X11_braid_a rfl rfl rfl (by decide +kernel) ⟨(Nat.le_of_ble_eq_true rfl), (Nat.le_of_ble_eq_true rfl)⟩) ⟨fun a U g mk q => by obtain ⟨q0, qP, qK⟩ := q; exact ⟨q0, qP, va_K.moved (u := U) (U := U.calling g mk a) (Vm.Alike.refl U.vm) qK⟩, va_recv hK hPc (ci := 14) (q0 := 0) rfl rfl, fun U hU hW => ⟨rfl, by rw [hU]; exact hPc, va_K.moved hW.alike hK⟩⟩ rfl rfl hl.1 rfl (lv_room (Nat.le_of_ble_eq_true rfl)) dX11_braid_21 ⟨(Nat.le_of_ble_eq_true rfl), (Nat.le_of_ble_eq_true rfl)⟩) hS (fun q _ h => h.elim) (fun q h => h.elim) (fun r9 un t H1 locs ht hvm hw hB hz1 hk1 hS => ?_)
      obtain rfl : r9 = 0 := hw
      have hP := hP.kept (fun k9 x9 h9 => hk1 x9.1 ((hP k9 x9 h9).lt) id)
      generalize H1 = H at hP hS ⊢
      refine lv_istore_n (lv' := [(2, .int 0), (0, .ref h0), (1, .int n)]) hx hb dX11_braid_24 rfl hl (by decide) rfl (fun ls hl => ?_)
      refine lv_aload_n hx hb dX11_braid_25 rfl (lv_at hl 1 rfl) ?_
      refine va_get (D := (dC, dI)) (ci := 14) (v := .ref (u 7)) (C := RX11) (T := TX11) (N := 19) hx hb hts (by decide +kernel) hown hK hP 0 rfl rfl 7 (by decide) (hts (.fieldLink RX11 51 "KnotHouse" "reader" "LKnotHouse$Reader;") (by decide +kernel)) (fun _ h9 => h9) rfl dX11_braid_26 ?_
      refine va_get (D := (dC, dI)) (ci := 12) (v := .int 0) (C := RX9) (T := TX9) (N := 6) hx hb hts (by decide +kernel) hown hK hP 1 rfl rfl 0 (by decide) (hts (.fieldLink RX11 114 "KnotHouse$Reader" "length" "I") (by decide +kernel)) (fun _ h9 => h9) rfl dX11_braid_29 ?_
      refine lv_istore_n (lv' := [(3, .int 0), (2, .int 0), (0, .ref h0), (1, .int n)]) hx hb dX11_braid_32 rfl hl (by decide) rfl (fun ls hl => ?_)
      refine lv_aload_n hx hb dX11_braid_33 rfl (lv_at hl 2 rfl) ?_
      refine va_get (D := (dC, dI)) (ci := 14) (v := .ref (u 7)) (C := RX11) (T := TX11) (N := 19) hx hb hts (by decide +kernel) hown hK hP 0 rfl rfl 7 (by decide) (hts (.fieldLink RX11 51 "KnotHouse" "reader" "LKnotHouse$Reader;") (by decide +kernel)) (fun _ h9 => h9) rfl dX11_braid_34 ?_
      refine lv_iload_n hx hb dX11_braid_37 rfl (lv_at hl 3 rfl) ?_
      refine lv_aload_n hx hb dX11_braid_38 rfl (lv_at hl 2 rfl) ?_
      refine va_get (D := (dC, dI)) (ci := 14) (v := .ref (u 12)) (C := RX11) (T := TX11) (N := 19) hx hb hts (by decide +kernel) hown hK hP 0 rfl rfl 12 (by decide) (hts (.fieldLink RX11 83 "KnotHouse" "letters" "[B") (by decide +kernel)) (fun _ h9 => h9) rfl dX11_braid_39 ?_
      refine lv_iload_n hx hb dX11_braid_42 rfl (lv_at hl 1 rfl) ?_
      refine lv_bipush (v := 16) hx hb dX11_braid_43 (by decide) ?_
      refine lv_imul hx hb dX11_braid_45 ?_
      refine lv_topi (fun x3 _ => ?_)
      have hPc := hP.sub (ws' := [((u 7), .inr (12, [.int 0, .ref (u 63), .ref (u 64), .ref (u 65), .int 0, .int 0]))]) [1] rfl
      refine va_calli (va_runV (As := [.int n, .ref (u 12), .int x3]) (rest := []) ⟨hx, hb, hml, hown, hts⟩ (kf_X9_readBraid l dC dI cI cB cJ cZ u (u 12) n x3) (cwV 3 hts gf_X11_braid_b rfl rfl rfl (by decide +kernel) ⟨(Nat.le_of_ble_eq_true rfl), (Nat.le_of_ble_eq_true rfl)⟩) ⟨fun a U g mk q => by obtain ⟨q0, qP, qK⟩ := q; exact ⟨q0, qP, va_K.moved (u := U) (U := U.calling g mk a) (Vm.Alike.refl U.vm) qK⟩, va_recv hK hPc (ci := 12) (q0 := 0) rfl rfl, fun U hU hW => ⟨rfl, by rw [hU]; exact hPc, va_K.moved hW.alike hK⟩⟩ rfl rfl hl.1 rfl (lv_room (Nat.le_of_ble_eq_true rfl)) dX11_braid_46 ⟨(Nat.le_of_ble_eq_true rfl), (Nat.le_of_ble_eq_true rfl)⟩) hS (fun q _ h => h.elim) (fun q h => h.elim) (fun r9 un t H1 locs ht hvm hw hB hz1 hk1 hS => ?_)
      obtain rfl : r9 = -1 := hw
      have hP := hP.kept (fun k9 x9 h9 => hk1 x9.1 ((hP k9 x9 h9).lt) id)
      generalize H1 = H at hP hS ⊢
      refine lv_istore (lv' := [(4, .int (-1)), (3, .int 0), (2, .int 0), (0, .ref h0), (1, .int n)]) hx hb dX11_braid_49 hl (by decide) rfl (fun ls hl => ?_)
      refine lv_aload_n hx hb dX11_braid_51 rfl (lv_at hl 3 rfl) ?_
      refine va_get (D := (dC, dI)) (ci := 14) (v := .ref (u 7)) (C := RX11) (T := TX11) (N := 19) hx hb hts (by decide +kernel) hown hK hP 0 rfl rfl 7 (by decide) (hts (.fieldLink RX11 51 "KnotHouse" "reader" "LKnotHouse$Reader;") (by decide +kernel)) (fun _ h9 => h9) rfl dX11_braid_52 ?_
      refine lv_iconst (v := 0) hx hb dX11_braid_55 (by decide) ?_
      refine va_put (D := (dC, dI)) (ci := 12) (v := .int 0) (ty := .int) (C := RX9) (T := TX9) (N := 6) hx hb hts (by decide +kernel) tyX9 tyX9_ok nmX9 hown hK hP hD hS 1 rfl rfl 0 (by decide) (hts (.fieldLink RX11 114 "KnotHouse$Reader" "length" "I") (by decide +kernel)) (fun _ h9 => h9) rfl (by decide +kernel) rfl rfl (Nat.le_of_ble_eq_true rfl) dX11_braid_56 (fun H locs hP hD hS => ?_)
      have hP : va_P (dC, dI) vwCl [(h0, .inr (14, [.ref (u 0), .ref (u 1), .ref (u 2), .ref (u 3), .ref (u 4), .ref (u 5), .ref (u 6), .ref (u 7), .ref (u 8), .ref (u 9), .ref (u 10), .ref (u 11), .ref (u 12), .ref (u 13), .ref (u 14), .ref (u 15), .ref (u 16), .ref (u 17), .ref (u 18)])), ((u 7), .inr (12, [.int 0, .ref (u 63), .ref (u 64), .ref (u 65), .int 0, .int 0])), ((u 13), .inl (cI, 20, .inl (fun _ => 0))), ((u 14), .inl (cI, 20, .inl (fun _ => 0)))] H := hP
      have hD : va_D A [(h0, .inr (14, [.ref (u 0), .ref (u 1), .ref (u 2), .ref (u 3), .ref (u 4), .ref (u 5), .ref (u 6), .ref (u 7), .ref (u 8), .ref (u 9), .ref (u 10), .ref (u 11), .ref (u 12), .ref (u 13), .ref (u 14), .ref (u 15), .ref (u 16), .ref (u 17), .ref (u 18)])), ((u 7), .inr (12, [.int 0, .ref (u 63), .ref (u 64), .ref (u 65), .int 0, .int 0])), ((u 13), .inl (cI, 20, .inl (fun _ => 0))), ((u 14), .inl (cI, 20, .inl (fun _ => 0)))] := hD
      refine lv_iload hx hb dX11_braid_59 (lv_at hl 0 rfl) ?_
      refine lv_iconst (v := (-1)) hx hb dX11_braid_61 (by decide) ?_
      refine lv_icmp_eq (tgt := 70) hx hb dX11_braid_62 (by decide) (fun _ => ?_) (fun c9 => absurd (by decide) c9)
      refine lv_aload_n hx hb dX11_braid_70 rfl (lv_at hl 3 rfl) ?_
      refine va_get (D := (dC, dI)) (ci := 14) (v := .ref (u 13)) (C := RX11) (T := TX11) (N := 19) hx hb hts (by decide +kernel) hown hK hP 0 rfl rfl 13 (by decide) (hts (.fieldLink RX11 87 "KnotHouse" "lengths" "[I") (by decide +kernel)) (fun _ h9 => h9) rfl dX11_braid_71 ?_
      refine lv_iload_n hx hb dX11_braid_74 rfl (lv_at hl 2 rfl) ?_
      refine lv_iload_n hx hb dX11_braid_75 rfl (lv_at hl 1 rfl) ?_
      refine ow_iast hx hb hK hP hD hS 2 0 rfl rfl (vp_in_nI (n := 0) (N := 20) (by decide) (by decide)) dX11_braid_76 (fun f4 H locs hP hD hS => ?_)
      have hP : va_P (dC, dI) vwCl [(h0, .inr (14, [.ref (u 0), .ref (u 1), .ref (u 2), .ref (u 3), .ref (u 4), .ref (u 5), .ref (u 6), .ref (u 7), .ref (u 8), .ref (u 9), .ref (u 10), .ref (u 11), .ref (u 12), .ref (u 13), .ref (u 14), .ref (u 15), .ref (u 16), .ref (u 17), .ref (u 18)])), ((u 7), .inr (12, [.int 0, .ref (u 63), .ref (u 64), .ref (u 65), .int 0, .int 0])), ((u 13), .inl (cI, 20, .inl f4)), ((u 14), .inl (cI, 20, .inl (fun _ => 0)))] H := hP
      have hD : va_D A [(h0, .inr (14, [.ref (u 0), .ref (u 1), .ref (u 2), .ref (u 3), .ref (u 4), .ref (u 5), .ref (u 6), .ref (u 7), .ref (u 8), .ref (u 9), .ref (u 10), .ref (u 11), .ref (u 12), .ref (u 13), .ref (u 14), .ref (u 15), .ref (u 16), .ref (u 17), .ref (u 18)])), ((u 7), .inr (12, [.int 0, .ref (u 63), .ref (u 64), .ref (u 65), .int 0, .int 0])), ((u 13), .inl (cI, 20, .inl f4)), ((u 14), .inl (cI, 20, .inl (fun _ => 0)))] := hD
      refine lv_aload_n hx hb dX11_braid_77 rfl (lv_at hl 3 rfl) ?_
      refine va_get (D := (dC, dI)) (ci := 14) (v := .ref (u 14)) (C := RX11) (T := TX11) (N := 19) hx hb hts (by decide +kernel) hown hK hP 0 rfl rfl 14 (by decide) (hts (.fieldLink RX11 91 "KnotHouse" "strands" "[I") (by decide +kernel)) (fun _ h9 => h9) rfl dX11_braid_78 ?_
      refine lv_iload_n hx hb dX11_braid_81 rfl (lv_at hl 2 rfl) ?_
      refine lv_iload_n hx hb dX11_braid_82 rfl (lv_at hl 4 rfl) ?_
      refine ow_iast hx hb hK hP hD hS 3 0 rfl rfl (vp_in_nI (n := 0) (N := 20) (by decide) (by decide)) dX11_braid_83 (fun f5 H locs hP hD hS => ?_)
      have hP : va_P (dC, dI) vwCl [(h0, .inr (14, [.ref (u 0), .ref (u 1), .ref (u 2), .ref (u 3), .ref (u 4), .ref (u 5), .ref (u 6), .ref (u 7), .ref (u 8), .ref (u 9), .ref (u 10), .ref (u 11), .ref (u 12), .ref (u 13), .ref (u 14), .ref (u 15), .ref (u 16), .ref (u 17), .ref (u 18)])), ((u 7), .inr (12, [.int 0, .ref (u 63), .ref (u 64), .ref (u 65), .int 0, .int 0])), ((u 13), .inl (cI, 20, .inl f4)), ((u 14), .inl (cI, 20, .inl f5))] H := hP
      have hD : va_D A [(h0, .inr (14, [.ref (u 0), .ref (u 1), .ref (u 2), .ref (u 3), .ref (u 4), .ref (u 5), .ref (u 6), .ref (u 7), .ref (u 8), .ref (u 9), .ref (u 10), .ref (u 11), .ref (u 12), .ref (u 13), .ref (u 14), .ref (u 15), .ref (u 16), .ref (u 17), .ref (u 18)])), ((u 7), .inr (12, [.int 0, .ref (u 63), .ref (u 64), .ref (u 65), .int 0, .int 0])), ((u 13), .inl (cI, 20, .inl f4)), ((u 14), .inl (cI, 20, .inl f5))] := hD
      refine lv_iload_n hx hb dX11_braid_84 rfl (lv_at hl 2 rfl) ?_
      refine W.widen (k := 1) (n := 6) (Nat.le_of_ble_eq_true rfl) (Nat.le_of_ble_eq_true rfl) ?_
      rw [hQQ]
      exact vx_ret (W.iret (v := 0) hx hb hr (fun t ht hW => ⟨⟨0, (), rfl, ⟨rfl, c1, c2⟩, trivial⟩, hS.F ht⟩) hS.2.2 dX11_braid_85)
    · rw [hQQ]
      exact vx_throwS (own := RX11) (cls := "java/lang/IllegalArgumentException") (text := "a braid has 2 to 5 strands") (names := ["java/lang/RuntimeException", "java/lang/Exception"]) (A := A) hx hb hlt hown (by decide +kernel) (by decide +kernel) (hts (.classLink RX11 128 "java/lang/IllegalArgumentException") (by decide +kernel)) (hts (.initialized "java/lang/IllegalArgumentException") (by decide +kernel)) hTh.1 (vx_hat (fun w h => hts w (List.mem_cons_of_mem _ (List.mem_append_right _ h))) (B := [.declares (Bundle.initS "java/lang/RuntimeException"), .declares (Bundle.initS "java/lang/Exception"), .declares (Bundle.initS Bundle.tN), .castable "java/lang/IllegalArgumentException" "java/lang/IllegalArgumentException"]) (by decide +kernel) (vx_c (va_Nw.use rfl hTh.2.2.2.1) (vx_c (va_Nw.use rfl hTh.2.2.2.2.1) (vx_c (va_Nw.use rfl hTh.2.2.2.2.2.1) (vx_c (va_Nw.use rfl hTh.2.2.2.2.2.2) vx_n))))) (by decide +kernel) hTh.2.1 hTh.2.2.1 hS (by rw [hml]; exact hl.1) dX11_braid_10 dX11_braid_13 dX11_braid_14 dX11_braid_16 dX11_braid_19 (fun x h => (hex x h).elim) (Nat.le_of_ble_eq_true rfl) (Nat.le_of_ble_eq_true rfl) (Nat.le_of_ble_eq_true rfl) (Nat.le_of_ble_eq_true rfl) hlocks (fun t h1 h2 h3 => ⟨(), Or.inr c2, rfl, Nat.le_trans hS.1 h2, fun q h4 h5 => (h3 q (Nat.lt_of_lt_of_le h4 hS.1)).trans (hS.2.1 q h4 h5)⟩) hS.2.2 (Nat.le_of_ble_eq_true rfl) (Nat.le_of_ble_eq_true rfl)
