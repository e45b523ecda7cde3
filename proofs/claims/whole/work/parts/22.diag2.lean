theorem dX9_readDiagram_0 : decode cX9_readDiagram 0 = .ok (.aload_n 0, 1) := by decide +kernel
theorem dX9_readDiagram_1 : decode cX9_readDiagram 1 = .ok (.getfield 15, 3) := by decide +kernel
theorem dX9_readDiagram_4 : decode cX9_readDiagram 4 = .ok (.iconst (-1), 1) := by decide +kernel
theorem dX9_readDiagram_5 : decode cX9_readDiagram 5 = .ok (.invokestatic 26, 3) := by decide +kernel
theorem dX9_readDiagram_8 : decode cX9_readDiagram 8 = .ok (.aload_n 0, 1) := by decide +kernel
theorem dX9_readDiagram_9 : decode cX9_readDiagram 9 = .ok (.getfield 19, 3) := by decide +kernel
theorem dX9_readDiagram_12 : decode cX9_readDiagram 12 = .ok (.iconst (-1), 1) := by decide +kernel
theorem dX9_readDiagram_13 : decode cX9_readDiagram 13 = .ok (.invokestatic 26, 3) := by decide +kernel
theorem dX9_readDiagram_16 : decode cX9_readDiagram 16 = .ok (.aload_n 1, 1) := by decide +kernel
theorem dX9_readDiagram_17 : decode cX9_readDiagram 17 = .ok (.invokevirtual 32, 3) := by decide +kernel
theorem dX9_readDiagram_20 : decode cX9_readDiagram 20 = .ok (.aload_n 0, 1) := by decide +kernel
theorem dX9_readDiagram_21 : decode cX9_readDiagram 21 = .ok (.iconst 0, 1) := by decide +kernel
theorem dX9_readDiagram_22 : decode cX9_readDiagram 22 = .ok (.putfield 37, 3) := by decide +kernel
theorem dX9_readDiagram_25 : decode cX9_readDiagram 25 = .ok (.iconst 1, 1) := by decide +kernel
theorem dX9_readDiagram_26 : decode cX9_readDiagram 26 = .ok (.istore_n 2, 1) := by decide +kernel
theorem dX9_readDiagram_27 : decode cX9_readDiagram 27 = .ok (.iconst (-1), 1) := by decide +kernel
theorem dX9_readDiagram_28 : decode cX9_readDiagram 28 = .ok (.istore_n 3, 1) := by decide +kernel
theorem dX9_readDiagram_29 : decode cX9_readDiagram 29 = .ok (.iconst (-1), 1) := by decide +kernel
theorem dX9_readDiagram_30 : decode cX9_readDiagram 30 = .ok (.istore 4, 2) := by decide +kernel
theorem dX9_readDiagram_32 : decode cX9_readDiagram 32 = .ok (.iconst 0, 1) := by decide +kernel
theorem dX9_readDiagram_33 : decode cX9_readDiagram 33 = .ok (.istore 5, 2) := by decide +kernel
theorem dX9_readDiagram_35 : decode cX9_readDiagram 35 = .ok (.iload 5, 2) := by decide +kernel
theorem dX9_readDiagram_37 : decode cX9_readDiagram 37 = .ok (.sipush 400, 3) := by decide +kernel
theorem dX9_readDiagram_40 : decode cX9_readDiagram 40 = .ok (.if_icmp .ge 132, 3) := by decide +kernel
theorem dX9_readDiagram_43 : decode cX9_readDiagram 43 = .ok (.aload_n 0, 1) := by decide +kernel
theorem dX9_readDiagram_44 : decode cX9_readDiagram 44 = .ok (.getfield 37, 3) := by decide +kernel
theorem dX9_readDiagram_47 : decode cX9_readDiagram 47 = .ok (.aload_n 0, 1) := by decide +kernel
theorem dX9_readDiagram_48 : decode cX9_readDiagram 48 = .ok (.getfield 22, 3) := by decide +kernel
theorem dX9_readDiagram_51 : decode cX9_readDiagram 51 = .ok (.if_icmp .ge 121, 3) := by decide +kernel
theorem dX9_readDiagram_172 : decode cX9_readDiagram 172 = .ok (.aload_n 1, 1) := by decide +kernel
theorem dX9_readDiagram_173 : decode cX9_readDiagram 173 = .ok (.iload_n 3, 1) := by decide +kernel
theorem dX9_readDiagram_174 : decode cX9_readDiagram 174 = .ok (.iload 4, 2) := by decide +kernel
theorem dX9_readDiagram_176 : decode cX9_readDiagram 176 = .ok (.invokestatic 40, 3) := by decide +kernel
theorem dX9_readDiagram_179 : decode cX9_readDiagram 179 = .ok (.aload_n 0, 1) := by decide +kernel
theorem dX9_readDiagram_180 : decode cX9_readDiagram 180 = .ok (.aload_n 1, 1) := by decide +kernel
theorem dX9_readDiagram_181 : decode cX9_readDiagram 181 = .ok (.invokevirtual 56, 3) := by decide +kernel
theorem dX9_readDiagram_184 : decode cX9_readDiagram 184 = .ok (.ireturn, 1) := by decide +kernel
def wf_readDiagram : List Cond := .code yX9_readDiagram cX9_readDiagram 9 (some .int) :: ([.fieldLink RX9 15 "KnotHouse$Reader" "crossingOf" "[I", .fieldLink RX9 19 "KnotHouse$Reader" "begins" "[I", .fieldLink RX9 37 "KnotHouse$Reader" "at" "I", .fieldLink RX9 22 "KnotHouse$Reader" "length" "I"] ++ wsX90 ++ wsX70 ++ (va_wsS RX9 26 yJ7_fill_53178 wf_fill1 ++ (wsV RX9 32 RX7 yX7_empty wf_empty ++ (va_wsS RX9 40 yX9_finish wf_finish ++ wsV RX9 56 RX9 yX9_firstLonely wf_firstLonely))))
theorem gf_X9_readDiagram_a : GoodIn wf_readDiagram (va_wsS RX9 26 yJ7_fill_53178 wf_fill1) := goodIn_sub (by decide +kernel) (by decide +kernel)
theorem gf_X9_readDiagram_b : GoodIn wf_readDiagram (wsV RX9 32 RX7 yX7_empty wf_empty) := goodIn_sub (by decide +kernel) (by decide +kernel)
theorem gf_X9_readDiagram_c : GoodIn wf_readDiagram (va_wsS RX9 40 yX9_finish wf_finish) := goodIn_sub (by decide +kernel) (by decide +kernel)
theorem gf_X9_readDiagram_d : GoodIn wf_readDiagram (wsV RX9 56 RX9 yX9_firstLonely wf_firstLonely) := goodIn_sub (by decide +kernel) (by decide +kernel)
set_option maxHeartbeats 4000000 in
set_option maxRecDepth 100000 in
theorem kf_X9_readDiagram (l : Launch) (dC : Nat → ClassId) (dI : Nat → Nat → Nat) (cI cB cJ cZ : ClassId) (u : Nat → Nat) (sz : Nat) : Met l yX9_readDiagram wf_readDiagram (({ frames := 1, cells := 0, slots := 0, locals := 23 } : Room)) (va_Pc [.ref (u 7), .ref (u 3)] (fun U => U.heap.size = sz ∧ va_P (dC, dI) vwCl [((u 7), .inr (12, [.int 0, .ref (u 63), .ref (u 64), .ref (u 65), .int 0, .int 0])), ((u 64), .inl (cI, 100, .inl (fun _ => 0))), ((u 65), .inl (cI, 24, .inl (fun _ => 0))), ((u 3), .inr (10, [.ref (u 31), .ref (u 32), .ref (u 33), .ref (u 34), .ref (u 35), .ref (u 36), .ref (u 37), .int 0, .int 0, .int 0, .int 0]))] U.heap ∧ va_K (dC, dI) vwCl [(cI, .int), (cB, .byte), (cJ, .long), (cZ, .boolean)] U ∧ va_D (fun _ => True) [((u 7), .inr (12, [.int 0, .ref (u 63), .ref (u 64), .ref (u 65), .int 0, .int 0])), ((u 64), .inl (cI, 100, .inl (fun _ => 0))), ((u 65), .inl (cI, 24, .inl (fun _ => 0))), ((u 3), .inr (10, [.ref (u 31), .ref (u 32), .ref (u 33), .ref (u 34), .ref (u 35), .ref (u 36), .ref (u 37), .int 0, .int 0, .int 0, .int 0]))])) (va_Qi (fun r (_ : Unit) => r = -1) (fun _ t => va_P (dC, dI) vwCl [((u 7), .inr (12, [.int 0, .ref (u 63), .ref (u 64), .ref (u 65), .int 0, .int 0])), ((u 3), .inr (10, [.ref (u 31), .ref (u 32), .ref (u 33), .ref (u 34), .ref (u 35), .ref (u 36), .ref (u 37), .int 0, .int 1, .int 0, .int 0]))] t.heap ∧ va_D (va_A [((u 7), .inr (12, [.int 0, .ref (u 63), .ref (u 64), .ref (u 65), .int 0, .int 0])), ((u 64), .inl (cI, 100, .inl (fun _ => 0))), ((u 65), .inl (cI, 24, .inl (fun _ => 0))), ((u 3), .inr (10, [.ref (u 31), .ref (u 32), .ref (u 33), .ref (u 34), .ref (u 35), .ref (u 36), .ref (u 37), .int 0, .int 0, .int 0, .int 0]))] sz) [((u 7), .inr (12, [.int 0, .ref (u 63), .ref (u 64), .ref (u 65), .int 0, .int 0])), ((u 3), .inr (10, [.ref (u 31), .ref (u 32), .ref (u 33), .ref (u 34), .ref (u 35), .ref (u 36), .ref (u 37), .int 0, .int 1, .int 0, .int 0]))]) (va_A [((u 7), .inr (12, [.int 0, .ref (u 63), .ref (u 64), .ref (u 65), .int 0, .int 0])), ((u 64), .inl (cI, 100, .inl (fun _ => 0))), ((u 65), .inl (cI, 24, .inl (fun _ => 0))), ((u 3), .inr (10, [.ref (u 31), .ref (u 32), .ref (u 33), .ref (u 34), .ref (u 35), .ref (u 36), .ref (u 37), .int 0, .int 0, .int 0, .int 0]))] sz)) 0 0 (va_A [((u 7), .inr (12, [.int 0, .ref (u 63), .ref (u 64), .ref (u 65), .int 0, .int 0])), ((u 64), .inl (cI, 100, .inl (fun _ => 0))), ((u 65), .inl (cI, 24, .inl (fun _ => 0))), ((u 3), .inr (10, [.ref (u 31), .ref (u 32), .ref (u 33), .ref (u 34), .ref (u 35), .ref (u 36), .ref (u 37), .int 0, .int 0, .int 0, .int 0]))] sz) := by
  refine Met.ofW (cc := cX9_readDiagram) (maxL := 9) (ret := (some .int)) (by decide) rfl ?_
  intro p e s m args below meth c s₁ B hml hv
  obtain ⟨rfl, hsz, hP, hK, hD0⟩ := hv
  have hx := B.exec
  have hb := B.bytes
  have hr := B.returns
  have hts := atoms_spec (ws := wf_readDiagram) B.pre
  have hown : s.vm.findClass RX9 = some m.cls := findClass_of_methodNamed B.named
  have hlocks := B.notSynchronized
  subst hsz
  have hD := hD0.self (sz := s.heap.size)
  generalize hAe : va_A [((u 7), .inr (12, [.int 0, .ref (u 63), .ref (u 64), .ref (u 65), .int 0, .int 0])), ((u 64), .inl (cI, 100, .inl (fun _ => 0))), ((u 65), .inl (cI, 24, .inl (fun _ => 0))), ((u 3), .inr (10, [.ref (u 31), .ref (u 32), .ref (u 33), .ref (u 34), .ref (u 35), .ref (u 36), .ref (u 37), .int 0, .int 0, .int 0, .int 0]))] s.heap.size = A at hD ⊢
  have hA : ∀ q : Nat, s.heap.size ≤ q → A q := fun q h => by rw [← hAe]; exact Or.inr h
  have hS : va_S A s.heap s.heap [] := va_S.rf
  have hP : va_P (dC, dI) vwCl [((u 7), .inr (12, [.int 0, .ref (u 63), .ref (u 64), .ref (u 65), .int 0, .int 0])), ((u 64), .inl (cI, 100, .inl (fun _ => 0))), ((u 65), .inl (cI, 24, .inl (fun _ => 0))), ((u 3), .inr (10, [.ref (u 31), .ref (u 32), .ref (u 33), .ref (u 34), .ref (u 35), .ref (u 36), .ref (u 37), .int 0, .int 0, .int 0, .int 0]))] s.heap := hP
  have hl := lv_entry ([.ref (u 7), .ref (u 3)]) (n := 9) (Nat.le_of_ble_eq_true rfl)
  rw [lg_entry_eq]
  generalize (lg_sl ([.ref (u 7), .ref (u 3)]) ++ List.replicate (9 - (lg_sl ([.ref (u 7), .ref (u 3)])).length) Slot.unset).toArray = ls at hl ⊢
  have hl : lv_has ls 9 [(0, .ref (u 7)), (1, .ref (u 3))] := hl
  refine ow_named (fun QQ hQQ => ?_)
  refine lv_aload_n hx hb dX9_readDiagram_0 rfl (lv_at hl 0 rfl) ?_
  refine va_get (D := (dC, dI)) (ci := 12) (v := .ref (u 64)) (C := RX9) (T := TX9) (N := 6) hx hb hts (by decide +kernel) hown hK hP 0 rfl rfl 2 (by decide) (hts (.fieldLink RX9 15 "KnotHouse$Reader" "crossingOf" "[I") (by decide +kernel)) (fun _ h9 => h9) rfl dX9_readDiagram_1 ?_
  refine lv_iconst (v := (-1)) hx hb dX9_readDiagram_4 (by decide) ?_
  have hPc := hP.sub (ws' := [((u 64), .inl (cI, 100, .inl (fun _ => 0)))]) [1] rfl
  have hDc := hD.sub (ws' := [((u 64), .inl (cI, 100, .inl (fun _ => 0)))]) [1] (by decide) rfl
  have hFc := va_free (wc := [((u 64), .inl (cI, 100, .inl (fun _ => 0)))]) hD hS hA [1] rfl
  refine va_callv (va_runS (As := [.ref (u 64), .int (-1)]) (rest := []) ⟨hx, hb, hml, hown, hts⟩ (kf_J7_fill_53178 l dC dI cI cB cJ cZ (u 64) s.heap.size 100 (by decide) (fun _ => 0) (-1)) (va_cwS 2 hts gf_X9_readDiagram_a rfl rfl rfl (by decide +kernel) ⟨(Nat.le_of_ble_eq_true rfl), (Nat.le_of_ble_eq_true rfl)⟩) ⟨fun a U g mk q => by obtain ⟨q0, q1, qP, qK, qD⟩ := q; exact ⟨q0, q1, qP, va_K.moved (u := U) (U := U.calling g mk a) (Vm.Alike.refl U.vm) qK, qD⟩, fun U hU hW => ⟨rfl, by rw [hU], by rw [hU]; exact hPc, va_K.moved hW.alike hK, hDc.weaken (fun _ _ _ _ => trivial)⟩⟩ rfl rfl hl.1 rfl (lv_room (Nat.le_of_ble_eq_true rfl)) dX9_readDiagram_5 ⟨(Nat.le_of_ble_eq_true rfl), (Nat.le_of_ble_eq_true rfl)⟩) hS (fun q _ h => hFc q h) hFc (fun g1 t H1 locs ht hvm hw hB hz1 hk1 hS => ?_)
  obtain ⟨hP1, hD1⟩ := hB
  rw [ht] at hP1
  obtain ⟨hP, hD⟩ := va_join (wr := [((u 7), .inr (12, [.int 0, .ref (u 63), .ref (u 64), .ref (u 65), .int 0, .int 0])), ((u 65), .inl (cI, 24, .inl (fun _ => 0))), ((u 3), .inr (10, [.ref (u 31), .ref (u 32), .ref (u 33), .ref (u 34), .ref (u 35), .ref (u 36), .ref (u 37), .int 0, .int 0, .int 0, .int 0]))]) (w1 := [((u 64), .inl (cI, 100, .inl g1))]) hP hD [1] [0, 2, 3] rfl rfl (by decide) (by decide) hk1 hFc hP1 hD1
  generalize H1 = H at hP hS ⊢
  have hP : va_P (dC, dI) vwCl [((u 7), .inr (12, [.int 0, .ref (u 63), .ref (u 64), .ref (u 65), .int 0, .int 0])), ((u 65), .inl (cI, 24, .inl (fun _ => 0))), ((u 3), .inr (10, [.ref (u 31), .ref (u 32), .ref (u 33), .ref (u 34), .ref (u 35), .ref (u 36), .ref (u 37), .int 0, .int 0, .int 0, .int 0])), ((u 64), .inl (cI, 100, .inl g1))] H := hP
  have hD : va_D A [((u 7), .inr (12, [.int 0, .ref (u 63), .ref (u 64), .ref (u 65), .int 0, .int 0])), ((u 65), .inl (cI, 24, .inl (fun _ => 0))), ((u 3), .inr (10, [.ref (u 31), .ref (u 32), .ref (u 33), .ref (u 34), .ref (u 35), .ref (u 36), .ref (u 37), .int 0, .int 0, .int 0, .int 0])), ((u 64), .inl (cI, 100, .inl g1))] := hD
  refine lv_aload_n hx hb dX9_readDiagram_8 rfl (lv_at hl 0 rfl) ?_
  refine va_get (D := (dC, dI)) (ci := 12) (v := .ref (u 65)) (C := RX9) (T := TX9) (N := 6) hx hb hts (by decide +kernel) hown hK hP 0 rfl rfl 3 (by decide) (hts (.fieldLink RX9 19 "KnotHouse$Reader" "begins" "[I") (by decide +kernel)) (fun _ h9 => h9) rfl dX9_readDiagram_9 ?_
  refine lv_iconst (v := (-1)) hx hb dX9_readDiagram_12 (by decide) ?_
  have hPc := hP.sub (ws' := [((u 65), .inl (cI, 24, .inl (fun _ => 0)))]) [1] rfl
  have hDc := hD.sub (ws' := [((u 65), .inl (cI, 24, .inl (fun _ => 0)))]) [1] (by decide) rfl
  have hFc := va_free (wc := [((u 65), .inl (cI, 24, .inl (fun _ => 0)))]) hD hS hA [1] rfl
  refine va_callv (va_runS (As := [.ref (u 65), .int (-1)]) (rest := []) ⟨hx, hb, hml, hown, hts⟩ (kf_J7_fill_53178 l dC dI cI cB cJ cZ (u 65) H.size 24 (by decide) (fun _ => 0) (-1)) (va_cwS 2 hts gf_X9_readDiagram_a rfl rfl rfl (by decide +kernel) ⟨(Nat.le_of_ble_eq_true rfl), (Nat.le_of_ble_eq_true rfl)⟩) ⟨fun a U g mk q => by obtain ⟨q0, q1, qP, qK, qD⟩ := q; exact ⟨q0, q1, qP, va_K.moved (u := U) (U := U.calling g mk a) (Vm.Alike.refl U.vm) qK, qD⟩, fun U hU hW => ⟨rfl, by rw [hU], by rw [hU]; exact hPc, va_K.moved hW.alike hK, hDc.weaken (fun _ _ _ _ => trivial)⟩⟩ rfl rfl hl.1 rfl (lv_room (Nat.le_of_ble_eq_true rfl)) dX9_readDiagram_13 ⟨(Nat.le_of_ble_eq_true rfl), (Nat.le_of_ble_eq_true rfl)⟩) hS (fun q _ h => hFc q h) hFc (fun g2 t H1 locs ht hvm hw hB hz1 hk1 hS => ?_)
  obtain ⟨hP1, hD1⟩ := hB
  rw [ht] at hP1
  obtain ⟨hP, hD⟩ := va_join (wr := [((u 7), .inr (12, [.int 0, .ref (u 63), .ref (u 64), .ref (u 65), .int 0, .int 0])), ((u 3), .inr (10, [.ref (u 31), .ref (u 32), .ref (u 33), .ref (u 34), .ref (u 35), .ref (u 36), .ref (u 37), .int 0, .int 0, .int 0, .int 0])), ((u 64), .inl (cI, 100, .inl g1))]) (w1 := [((u 65), .inl (cI, 24, .inl g2))]) hP hD [1] [0, 2, 3] rfl rfl (by decide) (by decide) hk1 hFc hP1 hD1
  generalize H1 = H at hP hS ⊢
  have hP : va_P (dC, dI) vwCl [((u 7), .inr (12, [.int 0, .ref (u 63), .ref (u 64), .ref (u 65), .int 0, .int 0])), ((u 3), .inr (10, [.ref (u 31), .ref (u 32), .ref (u 33), .ref (u 34), .ref (u 35), .ref (u 36), .ref (u 37), .int 0, .int 0, .int 0, .int 0])), ((u 64), .inl (cI, 100, .inl g1)), ((u 65), .inl (cI, 24, .inl g2))] H := hP
  have hD : va_D A [((u 7), .inr (12, [.int 0, .ref (u 63), .ref (u 64), .ref (u 65), .int 0, .int 0])), ((u 3), .inr (10, [.ref (u 31), .ref (u 32), .ref (u 33), .ref (u 34), .ref (u 35), .ref (u 36), .ref (u 37), .int 0, .int 0, .int 0, .int 0])), ((u 64), .inl (cI, 100, .inl g1)), ((u 65), .inl (cI, 24, .inl g2))] := hD
  refine lv_aload_n hx hb dX9_readDiagram_16 rfl (lv_at hl 1 rfl) ?_
  have hPc := hP.sub (ws' := [((u 3), .inr (10, [.ref (u 31), .ref (u 32), .ref (u 33), .ref (u 34), .ref (u 35), .ref (u 36), .ref (u 37), .int 0, .int 0, .int 0, .int 0]))]) [1] rfl
  have hDc := hD.sub (ws' := [((u 3), .inr (10, [.ref (u 31), .ref (u 32), .ref (u 33), .ref (u 34), .ref (u 35), .ref (u 36), .ref (u 37), .int 0, .int 0, .int 0, .int 0]))]) [1] (by decide) rfl
  have hFc := va_free (wc := [((u 3), .inr (10, [.ref (u 31), .ref (u 32), .ref (u 33), .ref (u 34), .ref (u 35), .ref (u 36), .ref (u 37), .int 0, .int 0, .int 0, .int 0]))]) hD hS hA [1] rfl
  refine va_callv (va_runV (As := []) (rest := []) ⟨hx, hb, hml, hown, hts⟩ (kf_X7_empty l dC dI cI cB cJ cZ u H.size) (cwV 0 hts gf_X9_readDiagram_b rfl rfl rfl (by decide +kernel) ⟨(Nat.le_of_ble_eq_true rfl), (Nat.le_of_ble_eq_true rfl)⟩) ⟨fun a U g mk q => by obtain ⟨q0, q1, qP, qK, qD⟩ := q; exact ⟨q0, q1, qP, va_K.moved (u := U) (U := U.calling g mk a) (Vm.Alike.refl U.vm) qK, qD⟩, va_recv hK hPc (ci := 10) (q0 := 0) rfl rfl, fun U hU hW => ⟨rfl, by rw [hU], by rw [hU]; exact hPc, va_K.moved hW.alike hK, hDc.weaken (fun _ _ _ _ => trivial)⟩⟩ rfl rfl hl.1 rfl (lv_room (Nat.le_of_ble_eq_true rfl)) dX9_readDiagram_17 ⟨(Nat.le_of_ble_eq_true rfl), (Nat.le_of_ble_eq_true rfl)⟩) hS (fun q _ h => hFc q h) hFc (fun u9 t H1 locs ht hvm hw hB hz1 hk1 hS => ?_)
  obtain ⟨hP1, hD1⟩ := hB
  rw [ht] at hP1
  obtain ⟨hP, hD⟩ := va_join (wr := [((u 7), .inr (12, [.int 0, .ref (u 63), .ref (u 64), .ref (u 65), .int 0, .int 0])), ((u 64), .inl (cI, 100, .inl g1)), ((u 65), .inl (cI, 24, .inl g2))]) (w1 := [((u 3), .inr (10, [.ref (u 31), .ref (u 32), .ref (u 33), .ref (u 34), .ref (u 35), .ref (u 36), .ref (u 37), .int 0, .int 0, .int 0, .int 0]))]) hP hD [1] [0, 2, 3] rfl rfl (by decide) (by decide) hk1 hFc hP1 hD1
  generalize H1 = H at hP hS ⊢
  have hP : va_P (dC, dI) vwCl [((u 7), .inr (12, [.int 0, .ref (u 63), .ref (u 64), .ref (u 65), .int 0, .int 0])), ((u 64), .inl (cI, 100, .inl g1)), ((u 65), .inl (cI, 24, .inl g2)), ((u 3), .inr (10, [.ref (u 31), .ref (u 32), .ref (u 33), .ref (u 34), .ref (u 35), .ref (u 36), .ref (u 37), .int 0, .int 0, .int 0, .int 0]))] H := hP
  have hD : va_D A [((u 7), .inr (12, [.int 0, .ref (u 63), .ref (u 64), .ref (u 65), .int 0, .int 0])), ((u 64), .inl (cI, 100, .inl g1)), ((u 65), .inl (cI, 24, .inl g2)), ((u 3), .inr (10, [.ref (u 31), .ref (u 32), .ref (u 33), .ref (u 34), .ref (u 35), .ref (u 36), .ref (u 37), .int 0, .int 0, .int 0, .int 0]))] := hD
  refine lv_aload_n hx hb dX9_readDiagram_20 rfl (lv_at hl 0 rfl) ?_
  refine lv_iconst (v := 0) hx hb dX9_readDiagram_21 (by decide) ?_
  refine va_put (D := (dC, dI)) (ci := 12) (v := .int 0) (ty := .int) (C := RX9) (T := TX9) (N := 6) hx hb hts (by decide +kernel) tyX9 tyX9_ok nmX9 hown hK hP hD hS 0 rfl rfl 4 (by decide) (hts (.fieldLink RX9 37 "KnotHouse$Reader" "at" "I") (by decide +kernel)) (fun _ h9 => h9) rfl (by decide +kernel) rfl rfl (Nat.le_of_ble_eq_true rfl) dX9_readDiagram_22 (fun H locs hP hD hS => ?_)
  have hP : va_P (dC, dI) vwCl [((u 7), .inr (12, [.int 0, .ref (u 63), .ref (u 64), .ref (u 65), .int 0, .int 0])), ((u 64), .inl (cI, 100, .inl g1)), ((u 65), .inl (cI, 24, .inl g2)), ((u 3), .inr (10, [.ref (u 31), .ref (u 32), .ref (u 33), .ref (u 34), .ref (u 35), .ref (u 36), .ref (u 37), .int 0, .int 0, .int 0, .int 0]))] H := hP
  have hD : va_D A [((u 7), .inr (12, [.int 0, .ref (u 63), .ref (u 64), .ref (u 65), .int 0, .int 0])), ((u 64), .inl (cI, 100, .inl g1)), ((u 65), .inl (cI, 24, .inl g2)), ((u 3), .inr (10, [.ref (u 31), .ref (u 32), .ref (u 33), .ref (u 34), .ref (u 35), .ref (u 36), .ref (u 37), .int 0, .int 0, .int 0, .int 0]))] := hD
  refine lv_iconst (v := 1) hx hb dX9_readDiagram_25 (by decide) ?_
  refine lv_istore_n (lv' := [(2, .int 1), (0, .ref (u 7)), (1, .ref (u 3))]) hx hb dX9_readDiagram_26 rfl hl (by decide) rfl (fun ls hl => ?_)
  refine lv_iconst (v := (-1)) hx hb dX9_readDiagram_27 (by decide) ?_
  refine lv_istore_n (lv' := [(3, .int (-1)), (2, .int 1), (0, .ref (u 7)), (1, .ref (u 3))]) hx hb dX9_readDiagram_28 rfl hl (by decide) rfl (fun ls hl => ?_)
  refine lv_iconst (v := (-1)) hx hb dX9_readDiagram_29 (by decide) ?_
  refine lv_istore (lv' := [(4, .int (-1)), (3, .int (-1)), (2, .int 1), (0, .ref (u 7)), (1, .ref (u 3))]) hx hb dX9_readDiagram_30 hl (by decide) rfl (fun ls hl => ?_)
  refine lv_iconst (v := 0) hx hb dX9_readDiagram_32 (by decide) ?_
  refine lv_istore (lv' := [(5, .int 0), (4, .int (-1)), (3, .int (-1)), (2, .int 1), (0, .ref (u 7)), (1, .ref (u 3))]) hx hb dX9_readDiagram_33 hl (by decide) rfl (fun ls hl => ?_)
  refine lv_iload hx hb dX9_readDiagram_35 (lv_at hl 0 rfl) ?_
  refine lv_sipush (v := 400) hx hb dX9_readDiagram_37 (by decide) ?_
  refine lv_icmp_ge (tgt := 172) hx hb dX9_readDiagram_40 (by decide) (fun c9 => absurd c9 (by decide)) (fun _ => ?_)
  refine lv_aload_n hx hb dX9_readDiagram_43 rfl (lv_at hl 4 rfl) ?_
  refine va_get (D := (dC, dI)) (ci := 12) (v := .int 0) (C := RX9) (T := TX9) (N := 6) hx hb hts (by decide +kernel) hown hK hP 0 rfl rfl 4 (by decide) (hts (.fieldLink RX9 37 "KnotHouse$Reader" "at" "I") (by decide +kernel)) (fun _ h9 => h9) rfl dX9_readDiagram_44 ?_
  refine lv_aload_n hx hb dX9_readDiagram_47 rfl (lv_at hl 4 rfl) ?_
  refine va_get (D := (dC, dI)) (ci := 12) (v := .int 0) (C := RX9) (T := TX9) (N := 6) hx hb hts (by decide +kernel) hown hK hP 0 rfl rfl 0 (by decide) (hts (.fieldLink RX9 22 "KnotHouse$Reader" "length" "I") (by decide +kernel)) (fun _ h9 => h9) rfl dX9_readDiagram_48 ?_
  refine lv_icmp_ge (tgt := 172) hx hb dX9_readDiagram_51 (by decide) (fun _ => ?_) (fun c9 => absurd (by decide) c9)
  refine lv_aload_n hx hb dX9_readDiagram_172 rfl (lv_at hl 5 rfl) ?_
  refine lv_iload_n hx hb dX9_readDiagram_173 rfl (lv_at hl 2 rfl) ?_
  refine lv_iload hx hb dX9_readDiagram_174 (lv_at hl 1 rfl) ?_
  have hPc := hP.sub (ws' := [((u 3), .inr (10, [.ref (u 31), .ref (u 32), .ref (u 33), .ref (u 34), .ref (u 35), .ref (u 36), .ref (u 37), .int 0, .int 0, .int 0, .int 0]))]) [3] rfl
  have hDc := hD.sub (ws' := [((u 3), .inr (10, [.ref (u 31), .ref (u 32), .ref (u 33), .ref (u 34), .ref (u 35), .ref (u 36), .ref (u 37), .int 0, .int 0, .int 0, .int 0]))]) [3] (by decide) rfl
  have hFc := va_free (wc := [((u 3), .inr (10, [.ref (u 31), .ref (u 32), .ref (u 33), .ref (u 34), .ref (u 35), .ref (u 36), .ref (u 37), .int 0, .int 0, .int 0, .int 0]))]) hD hS hA [3] rfl
  refine va_callv (va_runS (As := [.ref (u 3), .int (-1), .int (-1)]) (rest := []) ⟨hx, hb, hml, hown, hts⟩ (kf_X9_finish l dC dI cI cB cJ cZ u H.size (-1)) (va_cwS 3 hts gf_X9_readDiagram_c rfl rfl rfl (by decide +kernel) ⟨(Nat.le_of_ble_eq_true rfl), (Nat.le_of_ble_eq_true rfl)⟩) ⟨fun a U g mk q => by obtain ⟨q0, q1, qP, qK, qD⟩ := q; exact ⟨q0, q1, qP, va_K.moved (u := U) (U := U.calling g mk a) (Vm.Alike.refl U.vm) qK, qD⟩, fun U hU hW => ⟨rfl, by rw [hU], by rw [hU]; exact hPc, va_K.moved hW.alike hK, hDc.weaken (fun _ _ _ _ => trivial)⟩⟩ rfl rfl hl.1 rfl (lv_room (Nat.le_of_ble_eq_true rfl)) dX9_readDiagram_176 ⟨(Nat.le_of_ble_eq_true rfl), (Nat.le_of_ble_eq_true rfl)⟩) hS (fun q _ h => hFc q h) hFc (fun u9 t H1 locs ht hvm hw hB hz1 hk1 hS => ?_)
  obtain ⟨hP1, hD1⟩ := hB
  rw [ht] at hP1
  obtain ⟨hP, hD⟩ := va_join (wr := [((u 7), .inr (12, [.int 0, .ref (u 63), .ref (u 64), .ref (u 65), .int 0, .int 0])), ((u 64), .inl (cI, 100, .inl g1)), ((u 65), .inl (cI, 24, .inl g2))]) (w1 := [((u 3), .inr (10, [.ref (u 31), .ref (u 32), .ref (u 33), .ref (u 34), .ref (u 35), .ref (u 36), .ref (u 37), .int 0, .int 1, .int 0, .int 0]))]) hP hD [3] [0, 1, 2] rfl rfl (by decide) (by decide) hk1 hFc hP1 hD1
  generalize H1 = H at hP hS ⊢
  have hP : va_P (dC, dI) vwCl [((u 7), .inr (12, [.int 0, .ref (u 63), .ref (u 64), .ref (u 65), .int 0, .int 0])), ((u 64), .inl (cI, 100, .inl g1)), ((u 65), .inl (cI, 24, .inl g2)), ((u 3), .inr (10, [.ref (u 31), .ref (u 32), .ref (u 33), .ref (u 34), .ref (u 35), .ref (u 36), .ref (u 37), .int 0, .int 1, .int 0, .int 0]))] H := hP
  have hD : va_D A [((u 7), .inr (12, [.int 0, .ref (u 63), .ref (u 64), .ref (u 65), .int 0, .int 0])), ((u 64), .inl (cI, 100, .inl g1)), ((u 65), .inl (cI, 24, .inl g2)), ((u 3), .inr (10, [.ref (u 31), .ref (u 32), .ref (u 33), .ref (u 34), .ref (u 35), .ref (u 36), .ref (u 37), .int 0, .int 1, .int 0, .int 0]))] := hD
  refine lv_aload_n hx hb dX9_readDiagram_179 rfl (lv_at hl 4 rfl) ?_
  refine lv_aload_n hx hb dX9_readDiagram_180 rfl (lv_at hl 5 rfl) ?_
  have hPr := hP.sub (ws' := [((u 7), .inr (12, [.int 0, .ref (u 63), .ref (u 64), .ref (u 65), .int 0, .int 0]))]) [0] rfl
  have hPc := hP.sub (ws' := [((u 3), .inr (10, [.ref (u 31), .ref (u 32), .ref (u 33), .ref (u 34), .ref (u 35), .ref (u 36), .ref (u 37), .int 0, .int 1, .int 0, .int 0]))]) [3] rfl
  refine va_calli (va_runV (As := [.ref (u 3)]) (rest := []) ⟨hx, hb, hml, hown, hts⟩ (kf_X9_firstLonely l dC dI cI cB cJ cZ u) (cwV 1 hts gf_X9_readDiagram_d rfl rfl rfl (by decide +kernel) ⟨(Nat.le_of_ble_eq_true rfl), (Nat.le_of_ble_eq_true rfl)⟩) ⟨fun a U g mk q => by obtain ⟨q0, qP, qK⟩ := q; exact ⟨q0, qP, va_K.moved (u := U) (U := U.calling g mk a) (Vm.Alike.refl U.vm) qK⟩, va_recv hK hPr (ci := 12) (q0 := 0) rfl rfl, fun U hU hW => ⟨rfl, by rw [hU]; exact hPc, va_K.moved hW.alike hK⟩⟩ rfl rfl hl.1 rfl (lv_room (Nat.le_of_ble_eq_true rfl)) dX9_readDiagram_181 ⟨(Nat.le_of_ble_eq_true rfl), (Nat.le_of_ble_eq_true rfl)⟩) hS (fun q _ h => h.elim) (fun q h => h.elim) (fun r9 un t H1 locs ht hvm hw hB hz1 hk1 hS => ?_)
  obtain rfl : r9 = -1 := hw
  have hP := hP.kept (fun k9 x9 h9 => hk1 x9.1 ((hP k9 x9 h9).lt) id)
  generalize H1 = H at hP hS ⊢
  have hP := hP.sub (ws' := [((u 7), .inr (12, [.int 0, .ref (u 63), .ref (u 64), .ref (u 65), .int 0, .int 0])), ((u 3), .inr (10, [.ref (u 31), .ref (u 32), .ref (u 33), .ref (u 34), .ref (u 35), .ref (u 36), .ref (u 37), .int 0, .int 1, .int 0, .int 0]))]) [0, 3] rfl
  have hD := hD.sub (ws' := [((u 7), .inr (12, [.int 0, .ref (u 63), .ref (u 64), .ref (u 65), .int 0, .int 0])), ((u 3), .inr (10, [.ref (u 31), .ref (u 32), .ref (u 33), .ref (u 34), .ref (u 35), .ref (u 36), .ref (u 37), .int 0, .int 1, .int 0, .int 0]))]) [0, 3] (by decide) rfl
  rw [hQQ]
  exact W.iret (v := (-1)) hx hb hr (fun t ht hW => ⟨⟨(-1), (), rfl, rfl, by rw [ht]; exact hP, hD⟩, hS.F ht⟩) hS.2.2 dX9_readDiagram_184
theorem dX7_markParts_0 : decode cX7_markParts 0 = .ok (.iconst 2, 1) := by decide +kernel
theorem dX7_markParts_1 : decode cX7_markParts 1 = .ok (.aload_n 0, 1) := by decide +kernel
theorem dX7_markParts_2 : decode cX7_markParts 2 = .ok (.getfield 39, 3) := by decide +kernel
theorem dX7_markParts_5 : decode cX7_markParts 5 = .ok (.imul, 1) := by decide +kernel
theorem dX7_markParts_6 : decode cX7_markParts 6 = .ok (.istore_n 1, 1) := by decide +kernel
theorem dX7_markParts_7 : decode cX7_markParts 7 = .ok (.aload_n 0, 1) := by decide +kernel
theorem dX7_markParts_8 : decode cX7_markParts 8 = .ok (.getfield 27, 3) := by decide +kernel
theorem dX7_markParts_11 : decode cX7_markParts 11 = .ok (.iconst 0, 1) := by decide +kernel
theorem dX7_markParts_12 : decode cX7_markParts 12 = .ok (.iload_n 1, 1) := by decide +kernel
theorem dX7_markParts_13 : decode cX7_markParts 13 = .ok (.iconst (-1), 1) := by decide +kernel
theorem dX7_markParts_14 : decode cX7_markParts 14 = .ok (.invokestatic 84, 3) := by decide +kernel
theorem dX7_markParts_17 : decode cX7_markParts 17 = .ok (.aload_n 0, 1) := by decide +kernel
theorem dX7_markParts_18 : decode cX7_markParts 18 = .ok (.iconst 0, 1) := by decide +kernel
theorem dX7_markParts_19 : decode cX7_markParts 19 = .ok (.putfield 90, 3) := by decide +kernel
theorem dX7_markParts_22 : decode cX7_markParts 22 = .ok (.iconst 0, 1) := by decide +kernel
theorem dX7_markParts_23 : decode cX7_markParts 23 = .ok (.istore_n 2, 1) := by decide +kernel
theorem dX7_markParts_24 : decode cX7_markParts 24 = .ok (.iload_n 2, 1) := by decide +kernel
theorem dX7_markParts_25 : decode cX7_markParts 25 = .ok (.iload_n 1, 1) := by decide +kernel
theorem dX7_markParts_26 : decode cX7_markParts 26 = .ok (.if_icmp .ge 157, 3) := by decide +kernel
theorem dX7_markParts_183 : decode cX7_markParts 183 = .ok (.return_, 1) := by decide +kernel
def wf_markParts : List Cond := .code yX7_markParts cX7_markParts 7 none :: ([.fieldLink RX7 39 "KnotHouse$Net" "crossings" "I", .fieldLink RX7 27 "KnotHouse$Net" "part" "[I", .fieldLink RX7 90 "KnotHouse$Net" "parts" "I"] ++ wsX70 ++ va_wsS RX7 84 yJ7_fill_fda19 wf_fill0)
theorem gf_X7_markParts_a : GoodIn wf_markParts (va_wsS RX7 84 yJ7_fill_fda19 wf_fill0) := goodIn_sub (by decide +kernel) (by decide +kernel)
set_option maxHeartbeats 4000000 in
set_option maxRecDepth 100000 in
theorem kf_X7_markParts (l : Launch) (dC : Nat → ClassId) (dI : Nat → Nat → Nat) (cI cB cJ cZ : ClassId) (u : Nat → Nat) (sz : Nat) : Met l yX7_markParts wf_markParts (({ frames := 2, cells := 0, slots := 0, locals := 46 } : Room)) (va_Pc [.ref (u 3)] (fun U => U.heap.size = sz ∧ va_P (dC, dI) vwCl [((u 3), .inr (10, [.ref (u 31), .ref (u 32), .ref (u 33), .ref (u 34), .ref (u 35), .ref (u 36), .ref (u 37), .int 0, .int 1, .int 0, .int 0])), ((u 36), .inl (cI, 24, .inl (fun _ => 0)))] U.heap ∧ va_K (dC, dI) vwCl [(cI, .int), (cB, .byte), (cJ, .long), (cZ, .boolean)] U ∧ va_D (fun _ => True) [((u 3), .inr (10, [.ref (u 31), .ref (u 32), .ref (u 33), .ref (u 34), .ref (u 35), .ref (u 36), .ref (u 37), .int 0, .int 1, .int 0, .int 0])), ((u 36), .inl (cI, 24, .inl (fun _ => 0)))])) (va_Qv (fun _ : Unit => True) (fun _ t => va_P (dC, dI) vwCl [((u 3), .inr (10, [.ref (u 31), .ref (u 32), .ref (u 33), .ref (u 34), .ref (u 35), .ref (u 36), .ref (u 37), .int 0, .int 1, .int 0, .int 0])), ((u 36), .inl (cI, 24, .inl (fun _ => 0)))] t.heap ∧ va_D (va_A [((u 3), .inr (10, [.ref (u 31), .ref (u 32), .ref (u 33), .ref (u 34), .ref (u 35), .ref (u 36), .ref (u 37), .int 0, .int 1, .int 0, .int 0])), ((u 36), .inl (cI, 24, .inl (fun _ => 0)))] sz) [((u 3), .inr (10, [.ref (u 31), .ref (u 32), .ref (u 33), .ref (u 34), .ref (u 35), .ref (u 36), .ref (u 37), .int 0, .int 1, .int 0, .int 0])), ((u 36), .inl (cI, 24, .inl (fun _ => 0)))]) (va_A [((u 3), .inr (10, [.ref (u 31), .ref (u 32), .ref (u 33), .ref (u 34), .ref (u 35), .ref (u 36), .ref (u 37), .int 0, .int 1, .int 0, .int 0])), ((u 36), .inl (cI, 24, .inl (fun _ => 0)))] sz)) 0 0 (va_A [((u 3), .inr (10, [.ref (u 31), .ref (u 32), .ref (u 33), .ref (u 34), .ref (u 35), .ref (u 36), .ref (u 37), .int 0, .int 1, .int 0, .int 0])), ((u 36), .inl (cI, 24, .inl (fun _ => 0)))] sz) := by
  refine Met.ofW (cc := cX7_markParts) (maxL := 7) (ret := none) (by decide) rfl ?_
  intro p e s m args below meth c s₁ B hml hv
  obtain ⟨rfl, hsz, hP, hK, hD0⟩ := hv
  have hx := B.exec
  have hb := B.bytes
  have hr := B.returns
  have hts := atoms_spec (ws := wf_markParts) B.pre
  have hown : s.vm.findClass RX7 = some m.cls := findClass_of_methodNamed B.named
  have hlocks := B.notSynchronized
  subst hsz
  have hD := hD0.self (sz := s.heap.size)
  generalize hAe : va_A [((u 3), .inr (10, [.ref (u 31), .ref (u 32), .ref (u 33), .ref (u 34), .ref (u 35), .ref (u 36), .ref (u 37), .int 0, .int 1, .int 0, .int 0])), ((u 36), .inl (cI, 24, .inl (fun _ => 0)))] s.heap.size = A at hD ⊢
  have hA : ∀ q : Nat, s.heap.size ≤ q → A q := fun q h => by rw [← hAe]; exact Or.inr h
  have hS : va_S A s.heap s.heap [] := va_S.rf
  have hP : va_P (dC, dI) vwCl [((u 3), .inr (10, [.ref (u 31), .ref (u 32), .ref (u 33), .ref (u 34), .ref (u 35), .ref (u 36), .ref (u 37), .int 0, .int 1, .int 0, .int 0])), ((u 36), .inl (cI, 24, .inl (fun _ => 0)))] s.heap := hP
  have hl := lv_entry ([.ref (u 3)]) (n := 7) (Nat.le_of_ble_eq_true rfl)
  rw [lg_entry_eq]
  generalize (lg_sl ([.ref (u 3)]) ++ List.replicate (7 - (lg_sl ([.ref (u 3)])).length) Slot.unset).toArray = ls at hl ⊢
  have hl : lv_has ls 7 [(0, .ref (u 3))] := hl
  refine ow_named (fun QQ hQQ => ?_)
  refine lv_iconst (v := 2) hx hb dX7_markParts_0 (by decide) ?_
  refine lv_aload_n hx hb dX7_markParts_1 rfl (lv_at hl 0 rfl) ?_
  refine va_get (D := (dC, dI)) (ci := 10) (v := .int 0) (C := RX7) (T := TX7) (N := 11) hx hb hts (by decide +kernel) hown hK hP 0 rfl rfl 7 (by decide) (hts (.fieldLink RX7 39 "KnotHouse$Net" "crossings" "I") (by decide +kernel)) (fun _ h9 => h9) rfl dX7_markParts_2 ?_
  refine lv_imul hx hb dX7_markParts_5 ?_
  refine ow_topi (y := 0) (by decide) ?_
  refine lv_istore_n (lv' := [(1, .int (0)), (0, .ref (u 3))]) hx hb dX7_markParts_6 rfl hl (by decide) rfl (fun ls hl => ?_)
  refine lv_aload_n hx hb dX7_markParts_7 rfl (lv_at hl 1 rfl) ?_
  refine va_get (D := (dC, dI)) (ci := 10) (v := .ref (u 36)) (C := RX7) (T := TX7) (N := 11) hx hb hts (by decide +kernel) hown hK hP 0 rfl rfl 5 (by decide) (hts (.fieldLink RX7 27 "KnotHouse$Net" "part" "[I") (by decide +kernel)) (fun _ h9 => h9) rfl dX7_markParts_8 ?_
  refine lv_iconst (v := 0) hx hb dX7_markParts_11 (by decide) ?_
  refine lv_iload_n hx hb dX7_markParts_12 rfl (lv_at hl 0 rfl) ?_
  refine lv_iconst (v := (-1)) hx hb dX7_markParts_13 (by decide) ?_
  have hPc := hP.sub (ws' := [((u 36), .inl (cI, 24, .inl (fun _ => 0)))]) [1] rfl
  refine va_callv (va_runS (As := [.ref (u 36), .int 0, .int (0), .int (-1)]) (rest := []) ⟨hx, hb, hml, hown, hts⟩ (kf_J7_fill_fda19 l dC dI cI cB cJ cZ (u 36) 24 (by decide) (fun _ => 0) (-1)) (va_cwS 4 hts gf_X7_markParts_a rfl rfl rfl (by decide +kernel) ⟨(Nat.le_of_ble_eq_true rfl), (Nat.le_of_ble_eq_true rfl)⟩) ⟨fun a U g mk q => by obtain ⟨q0, qP, qK⟩ := q; exact ⟨q0, qP, va_K.moved (u := U) (U := U.calling g mk a) (Vm.Alike.refl U.vm) qK⟩, fun U hU hW => ⟨rfl, by rw [hU]; exact hPc, va_K.moved hW.alike hK⟩⟩ rfl rfl hl.1 rfl (lv_room (Nat.le_of_ble_eq_true rfl)) dX7_markParts_14 ⟨(Nat.le_of_ble_eq_true rfl), (Nat.le_of_ble_eq_true rfl)⟩) hS (fun q _ h => h.elim) (fun q h => h.elim) (fun u9 t H1 locs ht hvm hw hB hz1 hk1 hS => ?_)
  have hP := hP.kept (fun k9 x9 h9 => hk1 x9.1 ((hP k9 x9 h9).lt) id)
  generalize H1 = H at hP hS ⊢
  refine lv_aload_n hx hb dX7_markParts_17 rfl (lv_at hl 1 rfl) ?_
  refine lv_iconst (v := 0) hx hb dX7_markParts_18 (by decide) ?_
  refine va_put (D := (dC, dI)) (ci := 10) (v := .int 0) (ty := .int) (C := RX7) (T := TX7) (N := 11) hx hb hts (by decide +kernel) tyX7 tyX7_ok nmX7 hown hK hP hD hS 0 rfl rfl 10 (by decide) (hts (.fieldLink RX7 90 "KnotHouse$Net" "parts" "I") (by decide +kernel)) (fun _ h9 => h9) rfl (by decide +kernel) rfl rfl (Nat.le_of_ble_eq_true rfl) dX7_markParts_19 (fun H locs hP hD hS => ?_)
  have hP : va_P (dC, dI) vwCl [((u 3), .inr (10, [.ref (u 31), .ref (u 32), .ref (u 33), .ref (u 34), .ref (u 35), .ref (u 36), .ref (u 37), .int 0, .int 1, .int 0, .int 0])), ((u 36), .inl (cI, 24, .inl (fun _ => 0)))] H := hP
  have hD : va_D A [((u 3), .inr (10, [.ref (u 31), .ref (u 32), .ref (u 33), .ref (u 34), .ref (u 35), .ref (u 36), .ref (u 37), .int 0, .int 1, .int 0, .int 0])), ((u 36), .inl (cI, 24, .inl (fun _ => 0)))] := hD
  refine lv_iconst (v := 0) hx hb dX7_markParts_22 (by decide) ?_
  refine lv_istore_n (lv' := [(2, .int 0), (1, .int (0)), (0, .ref (u 3))]) hx hb dX7_markParts_23 rfl hl (by decide) rfl (fun ls hl => ?_)
  refine lv_iload_n hx hb dX7_markParts_24 rfl (lv_at hl 0 rfl) ?_
  refine lv_iload_n hx hb dX7_markParts_25 rfl (lv_at hl 1 rfl) ?_
  refine lv_icmp_ge (tgt := 183) hx hb dX7_markParts_26 (by decide) (fun _ => ?_) (fun c9 => absurd (by decide) c9)
  have hP := hP.sub (ws' := [((u 3), .inr (10, [.ref (u 31), .ref (u 32), .ref (u 33), .ref (u 34), .ref (u 35), .ref (u 36), .ref (u 37), .int 0, .int 1, .int 0, .int 0])), ((u 36), .inl (cI, 24, .inl (fun _ => 0)))]) [0, 1] rfl
  have hD := hD.sub (ws' := [((u 3), .inr (10, [.ref (u 31), .ref (u 32), .ref (u 33), .ref (u 34), .ref (u 35), .ref (u 36), .ref (u 37), .int 0, .int 1, .int 0, .int 0])), ((u 36), .inl (cI, 24, .inl (fun _ => 0)))]) [0, 1] (by decide) rfl
  rw [hQQ]
  exact W.vret hx hb hr (fun t ht hW => ⟨⟨(), rfl, trivial, by rw [ht]; exact hP, hD⟩, hS.F ht⟩) hS.2.2 dX7_markParts_183
theorem dX4_mark_0 : decode cX4_mark 0 = .ok (.iconst 4, 1) := by decide +kernel
theorem dX4_mark_1 : decode cX4_mark 1 = .ok (.aload_n 1, 1) := by decide +kernel
theorem dX4_mark_2 : decode cX4_mark 2 = .ok (.getfield 45, 3) := by decide +kernel
theorem dX4_mark_5 : decode cX4_mark 5 = .ok (.imul, 1) := by decide +kernel
theorem dX4_mark_6 : decode cX4_mark 6 = .ok (.istore_n 2, 1) := by decide +kernel
theorem dX4_mark_7 : decode cX4_mark 7 = .ok (.aload_n 0, 1) := by decide +kernel
theorem dX4_mark_8 : decode cX4_mark 8 = .ok (.getfield 9, 3) := by decide +kernel
theorem dX4_mark_11 : decode cX4_mark 11 = .ok (.iconst 0, 1) := by decide +kernel
theorem dX4_mark_12 : decode cX4_mark 12 = .ok (.iload_n 2, 1) := by decide +kernel
theorem dX4_mark_13 : decode cX4_mark 13 = .ok (.iconst (-1), 1) := by decide +kernel
theorem dX4_mark_14 : decode cX4_mark 14 = .ok (.invokestatic 49, 3) := by decide +kernel
theorem dX4_mark_17 : decode cX4_mark 17 = .ok (.aload_n 0, 1) := by decide +kernel
theorem dX4_mark_18 : decode cX4_mark 18 = .ok (.iconst 0, 1) := by decide +kernel
theorem dX4_mark_19 : decode cX4_mark 19 = .ok (.putfield 55, 3) := by decide +kernel
theorem dX4_mark_22 : decode cX4_mark 22 = .ok (.iconst 0, 1) := by decide +kernel
theorem dX4_mark_23 : decode cX4_mark 23 = .ok (.istore_n 3, 1) := by decide +kernel
theorem dX4_mark_24 : decode cX4_mark 24 = .ok (.iload_n 3, 1) := by decide +kernel
theorem dX4_mark_25 : decode cX4_mark 25 = .ok (.iload_n 2, 1) := by decide +kernel
theorem dX4_mark_26 : decode cX4_mark 26 = .ok (.if_icmp .ge 80, 3) := by decide +kernel
theorem dX4_mark_106 : decode cX4_mark 106 = .ok (.return_, 1) := by decide +kernel
def wf_mark : List Cond := .code yX4_mark cX4_mark 6 none :: ([.fieldLink RX4 45 "KnotHouse$Net" "crossings" "I", .fieldLink RX4 9 "KnotHouse$Faces" "face" "[I", .fieldLink RX4 55 "KnotHouse$Faces" "count" "I"] ++ wsX70 ++ wsX40 ++ va_wsS RX4 49 yJ7_fill_fda19 wf_fill0)
theorem gf_X4_mark_a : GoodIn wf_mark (va_wsS RX4 49 yJ7_fill_fda19 wf_fill0) := goodIn_sub (by decide +kernel) (by decide +kernel)
set_option maxHeartbeats 4000000 in
set_option maxRecDepth 100000 in
theorem kf_X4_mark (l : Launch) (dC : Nat → ClassId) (dI : Nat → Nat → Nat) (cI cB cJ cZ : ClassId) (u : Nat → Nat) (sz : Nat) : Met l yX4_mark wf_mark (({ frames := 2, cells := 0, slots := 0, locals := 46 } : Room)) (va_Pc [.ref (u 5), .ref (u 3)] (fun U => U.heap.size = sz ∧ va_P (dC, dI) vwCl [((u 5), .inr (7, [.ref (u 38), .int 0, .ref (u 39), .ref (u 40), .ref (u 41), .ref (u 42), .ref (u 43), .ref (u 44)])), ((u 38), .inl (cI, 48, .inl (fun _ => 0))), ((u 3), .inr (10, [.ref (u 31), .ref (u 32), .ref (u 33), .ref (u 34), .ref (u 35), .ref (u 36), .ref (u 37), .int 0, .int 1, .int 0, .int 0]))] U.heap ∧ va_K (dC, dI) vwCl [(cI, .int), (cB, .byte), (cJ, .long), (cZ, .boolean)] U ∧ va_D (fun _ => True) [((u 5), .inr (7, [.ref (u 38), .int 0, .ref (u 39), .ref (u 40), .ref (u 41), .ref (u 42), .ref (u 43), .ref (u 44)])), ((u 38), .inl (cI, 48, .inl (fun _ => 0))), ((u 3), .inr (10, [.ref (u 31), .ref (u 32), .ref (u 33), .ref (u 34), .ref (u 35), .ref (u 36), .ref (u 37), .int 0, .int 1, .int 0, .int 0]))])) (va_Qv (fun _ : Unit => True) (fun _ t => va_P (dC, dI) vwCl [((u 5), .inr (7, [.ref (u 38), .int 0, .ref (u 39), .ref (u 40), .ref (u 41), .ref (u 42), .ref (u 43), .ref (u 44)])), ((u 38), .inl (cI, 48, .inl (fun _ => 0))), ((u 3), .inr (10, [.ref (u 31), .ref (u 32), .ref (u 33), .ref (u 34), .ref (u 35), .ref (u 36), .ref (u 37), .int 0, .int 1, .int 0, .int 0]))] t.heap ∧ va_D (va_A [((u 5), .inr (7, [.ref (u 38), .int 0, .ref (u 39), .ref (u 40), .ref (u 41), .ref (u 42), .ref (u 43), .ref (u 44)])), ((u 38), .inl (cI, 48, .inl (fun _ => 0))), ((u 3), .inr (10, [.ref (u 31), .ref (u 32), .ref (u 33), .ref (u 34), .ref (u 35), .ref (u 36), .ref (u 37), .int 0, .int 1, .int 0, .int 0]))] sz) [((u 5), .inr (7, [.ref (u 38), .int 0, .ref (u 39), .ref (u 40), .ref (u 41), .ref (u 42), .ref (u 43), .ref (u 44)])), ((u 38), .inl (cI, 48, .inl (fun _ => 0))), ((u 3), .inr (10, [.ref (u 31), .ref (u 32), .ref (u 33), .ref (u 34), .ref (u 35), .ref (u 36), .ref (u 37), .int 0, .int 1, .int 0, .int 0]))]) (va_A [((u 5), .inr (7, [.ref (u 38), .int 0, .ref (u 39), .ref (u 40), .ref (u 41), .ref (u 42), .ref (u 43), .ref (u 44)])), ((u 38), .inl (cI, 48, .inl (fun _ => 0))), ((u 3), .inr (10, [.ref (u 31), .ref (u 32), .ref (u 33), .ref (u 34), .ref (u 35), .ref (u 36), .ref (u 37), .int 0, .int 1, .int 0, .int 0]))] sz)) 0 0 (va_A [((u 5), .inr (7, [.ref (u 38), .int 0, .ref (u 39), .ref (u 40), .ref (u 41), .ref (u 42), .ref (u 43), .ref (u 44)])), ((u 38), .inl (cI, 48, .inl (fun _ => 0))), ((u 3), .inr (10, [.ref (u 31), .ref (u 32), .ref (u 33), .ref (u 34), .ref (u 35), .ref (u 36), .ref (u 37), .int 0, .int 1, .int 0, .int 0]))] sz) := by
  refine Met.ofW (cc := cX4_mark) (maxL := 6) (ret := none) (by decide) rfl ?_
  intro p e s m args below meth c s₁ B hml hv
  obtain ⟨rfl, hsz, hP, hK, hD0⟩ := hv
  have hx := B.exec
  have hb := B.bytes
  have hr := B.returns
  have hts := atoms_spec (ws := wf_mark) B.pre
  have hown : s.vm.findClass RX4 = some m.cls := findClass_of_methodNamed B.named
  have hlocks := B.notSynchronized
  subst hsz
  have hD := hD0.self (sz := s.heap.size)
  generalize hAe : va_A [((u 5), .inr (7, [.ref (u 38), .int 0, .ref (u 39), .ref (u 40), .ref (u 41), .ref (u 42), .ref (u 43), .ref (u 44)])), ((u 38), .inl (cI, 48, .inl (fun _ => 0))), ((u 3), .inr (10, [.ref (u 31), .ref (u 32), .ref (u 33), .ref (u 34), .ref (u 35), .ref (u 36), .ref (u 37), .int 0, .int 1, .int 0, .int 0]))] s.heap.size = A at hD ⊢
  have hA : ∀ q : Nat, s.heap.size ≤ q → A q := fun q h => by rw [← hAe]; exact Or.inr h
  have hS : va_S A s.heap s.heap [] := va_S.rf
  have hP : va_P (dC, dI) vwCl [((u 5), .inr (7, [.ref (u 38), .int 0, .ref (u 39), .ref (u 40), .ref (u 41), .ref (u 42), .ref (u 43), .ref (u 44)])), ((u 38), .inl (cI, 48, .inl (fun _ => 0))), ((u 3), .inr (10, [.ref (u 31), .ref (u 32), .ref (u 33), .ref (u 34), .ref (u 35), .ref (u 36), .ref (u 37), .int 0, .int 1, .int 0, .int 0]))] s.heap := hP
  have hl := lv_entry ([.ref (u 5), .ref (u 3)]) (n := 6) (Nat.le_of_ble_eq_true rfl)
  rw [lg_entry_eq]
  generalize (lg_sl ([.ref (u 5), .ref (u 3)]) ++ List.replicate (6 - (lg_sl ([.ref (u 5), .ref (u 3)])).length) Slot.unset).toArray = ls at hl ⊢
  have hl : lv_has ls 6 [(0, .ref (u 5)), (1, .ref (u 3))] := hl
  refine ow_named (fun QQ hQQ => ?_)
  refine lv_iconst (v := 4) hx hb dX4_mark_0 (by decide) ?_
  refine lv_aload_n hx hb dX4_mark_1 rfl (lv_at hl 1 rfl) ?_
  refine va_get (D := (dC, dI)) (ci := 10) (v := .int 0) (C := RX7) (T := TX7) (N := 11) hx hb hts (by decide +kernel) hown hK hP 2 rfl rfl 7 (by decide) (hts (.fieldLink RX4 45 "KnotHouse$Net" "crossings" "I") (by decide +kernel)) (fun _ h9 => h9) rfl dX4_mark_2 ?_
  refine lv_imul hx hb dX4_mark_5 ?_
  refine ow_topi (y := 0) (by decide) ?_
  refine lv_istore_n (lv' := [(2, .int (0)), (0, .ref (u 5)), (1, .ref (u 3))]) hx hb dX4_mark_6 rfl hl (by decide) rfl (fun ls hl => ?_)
  refine lv_aload_n hx hb dX4_mark_7 rfl (lv_at hl 1 rfl) ?_
  refine va_get (D := (dC, dI)) (ci := 7) (v := .ref (u 38)) (C := RX4) (T := TX4) (N := 8) hx hb hts (by decide +kernel) hown hK hP 0 rfl rfl 0 (by decide) (hts (.fieldLink RX4 9 "KnotHouse$Faces" "face" "[I") (by decide +kernel)) (fun _ h9 => h9) rfl dX4_mark_8 ?_
  refine lv_iconst (v := 0) hx hb dX4_mark_11 (by decide) ?_
  refine lv_iload_n hx hb dX4_mark_12 rfl (lv_at hl 0 rfl) ?_
  refine lv_iconst (v := (-1)) hx hb dX4_mark_13 (by decide) ?_
  have hPc := hP.sub (ws' := [((u 38), .inl (cI, 48, .inl (fun _ => 0)))]) [1] rfl
  refine va_callv (va_runS (As := [.ref (u 38), .int 0, .int (0), .int (-1)]) (rest := []) ⟨hx, hb, hml, hown, hts⟩ (kf_J7_fill_fda19 l dC dI cI cB cJ cZ (u 38) 48 (by decide) (fun _ => 0) (-1)) (va_cwS 4 hts gf_X4_mark_a rfl rfl rfl (by decide +kernel) ⟨(Nat.le_of_ble_eq_true rfl), (Nat.le_of_ble_eq_true rfl)⟩) ⟨fun a U g mk q => by obtain ⟨q0, qP, qK⟩ := q; exact ⟨q0, qP, va_K.moved (u := U) (U := U.calling g mk a) (Vm.Alike.refl U.vm) qK⟩, fun U hU hW => ⟨rfl, by rw [hU]; exact hPc, va_K.moved hW.alike hK⟩⟩ rfl rfl hl.1 rfl (lv_room (Nat.le_of_ble_eq_true rfl)) dX4_mark_14 ⟨(Nat.le_of_ble_eq_true rfl), (Nat.le_of_ble_eq_true rfl)⟩) hS (fun q _ h => h.elim) (fun q h => h.elim) (fun u9 t H1 locs ht hvm hw hB hz1 hk1 hS => ?_)
  have hP := hP.kept (fun k9 x9 h9 => hk1 x9.1 ((hP k9 x9 h9).lt) id)
  generalize H1 = H at hP hS ⊢
  refine lv_aload_n hx hb dX4_mark_17 rfl (lv_at hl 1 rfl) ?_
  refine lv_iconst (v := 0) hx hb dX4_mark_18 (by decide) ?_
  refine va_put (D := (dC, dI)) (ci := 7) (v := .int 0) (ty := .int) (C := RX4) (T := TX4) (N := 8) hx hb hts (by decide +kernel) tyX4 tyX4_ok nmX4 hown hK hP hD hS 0 rfl rfl 1 (by decide) (hts (.fieldLink RX4 55 "KnotHouse$Faces" "count" "I") (by decide +kernel)) (fun _ h9 => h9) rfl (by decide +kernel) rfl rfl (Nat.le_of_ble_eq_true rfl) dX4_mark_19 (fun H locs hP hD hS => ?_)
  have hP : va_P (dC, dI) vwCl [((u 5), .inr (7, [.ref (u 38), .int 0, .ref (u 39), .ref (u 40), .ref (u 41), .ref (u 42), .ref (u 43), .ref (u 44)])), ((u 38), .inl (cI, 48, .inl (fun _ => 0))), ((u 3), .inr (10, [.ref (u 31), .ref (u 32), .ref (u 33), .ref (u 34), .ref (u 35), .ref (u 36), .ref (u 37), .int 0, .int 1, .int 0, .int 0]))] H := hP
  have hD : va_D A [((u 5), .inr (7, [.ref (u 38), .int 0, .ref (u 39), .ref (u 40), .ref (u 41), .ref (u 42), .ref (u 43), .ref (u 44)])), ((u 38), .inl (cI, 48, .inl (fun _ => 0))), ((u 3), .inr (10, [.ref (u 31), .ref (u 32), .ref (u 33), .ref (u 34), .ref (u 35), .ref (u 36), .ref (u 37), .int 0, .int 1, .int 0, .int 0]))] := hD
  refine lv_iconst (v := 0) hx hb dX4_mark_22 (by decide) ?_
  refine lv_istore_n (lv' := [(3, .int 0), (2, .int (0)), (0, .ref (u 5)), (1, .ref (u 3))]) hx hb dX4_mark_23 rfl hl (by decide) rfl (fun ls hl => ?_)
  refine lv_iload_n hx hb dX4_mark_24 rfl (lv_at hl 0 rfl) ?_
  refine lv_iload_n hx hb dX4_mark_25 rfl (lv_at hl 1 rfl) ?_
  refine lv_icmp_ge (tgt := 106) hx hb dX4_mark_26 (by decide) (fun _ => ?_) (fun c9 => absurd (by decide) c9)
  have hP := hP.sub (ws' := [((u 5), .inr (7, [.ref (u 38), .int 0, .ref (u 39), .ref (u 40), .ref (u 41), .ref (u 42), .ref (u 43), .ref (u 44)])), ((u 38), .inl (cI, 48, .inl (fun _ => 0))), ((u 3), .inr (10, [.ref (u 31), .ref (u 32), .ref (u 33), .ref (u 34), .ref (u 35), .ref (u 36), .ref (u 37), .int 0, .int 1, .int 0, .int 0]))]) [0, 1, 2] rfl
  have hD := hD.sub (ws' := [((u 5), .inr (7, [.ref (u 38), .int 0, .ref (u 39), .ref (u 40), .ref (u 41), .ref (u 42), .ref (u 43), .ref (u 44)])), ((u 38), .inl (cI, 48, .inl (fun _ => 0))), ((u 3), .inr (10, [.ref (u 31), .ref (u 32), .ref (u 33), .ref (u 34), .ref (u 35), .ref (u 36), .ref (u 37), .int 0, .int 1, .int 0, .int 0]))]) [0, 1, 2] (by decide) rfl
  rw [hQQ]
  exact W.vret hx hb hr (fun t ht hW => ⟨⟨(), rfl, trivial, by rw [ht]; exact hP, hD⟩, hS.F ht⟩) hS.2.2 dX4_mark_106
theorem dX4_isPlane_0 : decode cX4_isPlane 0 = .ok (.aload_n 1, 1) := by decide +kernel
theorem dX4_isPlane_1 : decode cX4_isPlane 1 = .ok (.invokevirtual 62, 3) := by decide +kernel
theorem dX4_isPlane_4 : decode cX4_isPlane 4 = .ok (.aload_n 0, 1) := by decide +kernel
theorem dX4_isPlane_5 : decode cX4_isPlane 5 = .ok (.aload_n 1, 1) := by decide +kernel
theorem dX4_isPlane_6 : decode cX4_isPlane 6 = .ok (.invokevirtual 65, 3) := by decide +kernel
theorem dX4_isPlane_9 : decode cX4_isPlane 9 = .ok (.aload_n 0, 1) := by decide +kernel
theorem dX4_isPlane_10 : decode cX4_isPlane 10 = .ok (.getfield 55, 3) := by decide +kernel
theorem dX4_isPlane_13 : decode cX4_isPlane 13 = .ok (.aload_n 1, 1) := by decide +kernel
theorem dX4_isPlane_14 : decode cX4_isPlane 14 = .ok (.getfield 45, 3) := by decide +kernel
theorem dX4_isPlane_17 : decode cX4_isPlane 17 = .ok (.iconst 2, 1) := by decide +kernel
theorem dX4_isPlane_18 : decode cX4_isPlane 18 = .ok (.aload_n 1, 1) := by decide +kernel
theorem dX4_isPlane_19 : decode cX4_isPlane 19 = .ok (.getfield 69, 3) := by decide +kernel
theorem dX4_isPlane_22 : decode cX4_isPlane 22 = .ok (.imul, 1) := by decide +kernel
theorem dX4_isPlane_23 : decode cX4_isPlane 23 = .ok (.iadd, 1) := by decide +kernel
theorem dX4_isPlane_24 : decode cX4_isPlane 24 = .ok (.if_icmp .ne 7, 3) := by decide +kernel
theorem dX4_isPlane_27 : decode cX4_isPlane 27 = .ok (.iconst 1, 1) := by decide +kernel
theorem dX4_isPlane_28 : decode cX4_isPlane 28 = .ok (.goto 4, 3) := by decide +kernel
theorem dX4_isPlane_31 : decode cX4_isPlane 31 = .ok (.iconst 0, 1) := by decide +kernel
theorem dX4_isPlane_32 : decode cX4_isPlane 32 = .ok (.ireturn, 1) := by decide +kernel
def wf_isPlane : List Cond := .code yX4_isPlane cX4_isPlane 2 (some .boolean) :: ([.fieldLink RX4 55 "KnotHouse$Faces" "count" "I", .fieldLink RX4 45 "KnotHouse$Net" "crossings" "I", .fieldLink RX4 69 "KnotHouse$Net" "parts" "I"] ++ wsX70 ++ wsX40 ++ (wsV RX4 62 RX7 yX7_markParts wf_markParts ++ wsV RX4 65 RX4 yX4_mark wf_mark))
theorem gf_X4_isPlane_a : GoodIn wf_isPlane (wsV RX4 62 RX7 yX7_markParts wf_markParts) := goodIn_sub (by decide +kernel) (by decide +kernel)
theorem gf_X4_isPlane_b : GoodIn wf_isPlane (wsV RX4 65 RX4 yX4_mark wf_mark) := goodIn_sub (by decide +kernel) (by decide +kernel)
set_option maxHeartbeats 4000000 in
set_option maxRecDepth 100000 in
theorem kf_X4_isPlane (l : Launch) (dC : Nat → ClassId) (dI : Nat → Nat → Nat) (cI cB cJ cZ : ClassId) (u : Nat → Nat) (sz : Nat) : Met l yX4_isPlane wf_isPlane (({ frames := 3, cells := 0, slots := 0, locals := 72 } : Room)) (va_Pc [.ref (u 5), .ref (u 3)] (fun U => U.heap.size = sz ∧ va_P (dC, dI) vwCl [((u 5), .inr (7, [.ref (u 38), .int 0, .ref (u 39), .ref (u 40), .ref (u 41), .ref (u 42), .ref (u 43), .ref (u 44)])), ((u 38), .inl (cI, 48, .inl (fun _ => 0))), ((u 3), .inr (10, [.ref (u 31), .ref (u 32), .ref (u 33), .ref (u 34), .ref (u 35), .ref (u 36), .ref (u 37), .int 0, .int 1, .int 0, .int 0])), ((u 36), .inl (cI, 24, .inl (fun _ => 0)))] U.heap ∧ va_K (dC, dI) vwCl [(cI, .int), (cB, .byte), (cJ, .long), (cZ, .boolean)] U ∧ va_D (fun _ => True) [((u 5), .inr (7, [.ref (u 38), .int 0, .ref (u 39), .ref (u 40), .ref (u 41), .ref (u 42), .ref (u 43), .ref (u 44)])), ((u 38), .inl (cI, 48, .inl (fun _ => 0))), ((u 3), .inr (10, [.ref (u 31), .ref (u 32), .ref (u 33), .ref (u 34), .ref (u 35), .ref (u 36), .ref (u 37), .int 0, .int 1, .int 0, .int 0])), ((u 36), .inl (cI, 24, .inl (fun _ => 0)))])) (va_Qi (fun r (_ : Unit) => r = 1) (fun _ t => va_P (dC, dI) vwCl [((u 5), .inr (7, [.ref (u 38), .int 0, .ref (u 39), .ref (u 40), .ref (u 41), .ref (u 42), .ref (u 43), .ref (u 44)])), ((u 38), .inl (cI, 48, .inl (fun _ => 0))), ((u 3), .inr (10, [.ref (u 31), .ref (u 32), .ref (u 33), .ref (u 34), .ref (u 35), .ref (u 36), .ref (u 37), .int 0, .int 1, .int 0, .int 0])), ((u 36), .inl (cI, 24, .inl (fun _ => 0)))] t.heap ∧ va_D (va_A [((u 5), .inr (7, [.ref (u 38), .int 0, .ref (u 39), .ref (u 40), .ref (u 41), .ref (u 42), .ref (u 43), .ref (u 44)])), ((u 38), .inl (cI, 48, .inl (fun _ => 0))), ((u 3), .inr (10, [.ref (u 31), .ref (u 32), .ref (u 33), .ref (u 34), .ref (u 35), .ref (u 36), .ref (u 37), .int 0, .int 1, .int 0, .int 0])), ((u 36), .inl (cI, 24, .inl (fun _ => 0)))] sz) [((u 5), .inr (7, [.ref (u 38), .int 0, .ref (u 39), .ref (u 40), .ref (u 41), .ref (u 42), .ref (u 43), .ref (u 44)])), ((u 38), .inl (cI, 48, .inl (fun _ => 0))), ((u 3), .inr (10, [.ref (u 31), .ref (u 32), .ref (u 33), .ref (u 34), .ref (u 35), .ref (u 36), .ref (u 37), .int 0, .int 1, .int 0, .int 0])), ((u 36), .inl (cI, 24, .inl (fun _ => 0)))]) (va_A [((u 5), .inr (7, [.ref (u 38), .int 0, .ref (u 39), .ref (u 40), .ref (u 41), .ref (u 42), .ref (u 43), .ref (u 44)])), ((u 38), .inl (cI, 48, .inl (fun _ => 0))), ((u 3), .inr (10, [.ref (u 31), .ref (u 32), .ref (u 33), .ref (u 34), .ref (u 35), .ref (u 36), .ref (u 37), .int 0, .int 1, .int 0, .int 0])), ((u 36), .inl (cI, 24, .inl (fun _ => 0)))] sz)) 0 0 (va_A [((u 5), .inr (7, [.ref (u 38), .int 0, .ref (u 39), .ref (u 40), .ref (u 41), .ref (u 42), .ref (u 43), .ref (u 44)])), ((u 38), .inl (cI, 48, .inl (fun _ => 0))), ((u 3), .inr (10, [.ref (u 31), .ref (u 32), .ref (u 33), .ref (u 34), .ref (u 35), .ref (u 36), .ref (u 37), .int 0, .int 1, .int 0, .int 0])), ((u 36), .inl (cI, 24, .inl (fun _ => 0)))] sz) := by
  refine Met.ofW (cc := cX4_isPlane) (maxL := 2) (ret := (some .boolean)) (by decide) rfl ?_
  intro p e s m args below meth c s₁ B hml hv
  obtain ⟨rfl, hsz, hP, hK, hD0⟩ := hv
  have hx := B.exec
  have hb := B.bytes
  have hr := B.returns
  have hts := atoms_spec (ws := wf_isPlane) B.pre
  have hown : s.vm.findClass RX4 = some m.cls := findClass_of_methodNamed B.named
  have hlocks := B.notSynchronized
  subst hsz
  have hD := hD0.self (sz := s.heap.size)
  generalize hAe : va_A [((u 5), .inr (7, [.ref (u 38), .int 0, .ref (u 39), .ref (u 40), .ref (u 41), .ref (u 42), .ref (u 43), .ref (u 44)])), ((u 38), .inl (cI, 48, .inl (fun _ => 0))), ((u 3), .inr (10, [.ref (u 31), .ref (u 32), .ref (u 33), .ref (u 34), .ref (u 35), .ref (u 36), .ref (u 37), .int 0, .int 1, .int 0, .int 0])), ((u 36), .inl (cI, 24, .inl (fun _ => 0)))] s.heap.size = A at hD ⊢
  have hA : ∀ q : Nat, s.heap.size ≤ q → A q := fun q h => by rw [← hAe]; exact Or.inr h
  have hS : va_S A s.heap s.heap [] := va_S.rf
  have hP : va_P (dC, dI) vwCl [((u 5), .inr (7, [.ref (u 38), .int 0, .ref (u 39), .ref (u 40), .ref (u 41), .ref (u 42), .ref (u 43), .ref (u 44)])), ((u 38), .inl (cI, 48, .inl (fun _ => 0))), ((u 3), .inr (10, [.ref (u 31), .ref (u 32), .ref (u 33), .ref (u 34), .ref (u 35), .ref (u 36), .ref (u 37), .int 0, .int 1, .int 0, .int 0])), ((u 36), .inl (cI, 24, .inl (fun _ => 0)))] s.heap := hP
  have hl := lv_entry ([.ref (u 5), .ref (u 3)]) (n := 2) (Nat.le_of_ble_eq_true rfl)
  rw [lg_entry_eq]
  generalize (lg_sl ([.ref (u 5), .ref (u 3)]) ++ List.replicate (2 - (lg_sl ([.ref (u 5), .ref (u 3)])).length) Slot.unset).toArray = ls at hl ⊢
  have hl : lv_has ls 2 [(0, .ref (u 5)), (1, .ref (u 3))] := hl
  refine ow_named (fun QQ hQQ => ?_)
  refine lv_aload_n hx hb dX4_isPlane_0 rfl (lv_at hl 1 rfl) ?_
  have hPc := hP.sub (ws' := [((u 3), .inr (10, [.ref (u 31), .ref (u 32), .ref (u 33), .ref (u 34), .ref (u 35), .ref (u 36), .ref (u 37), .int 0, .int 1, .int 0, .int 0])), ((u 36), .inl (cI, 24, .inl (fun _ => 0)))]) [2, 3] rfl
  have hDc := hD.sub (ws' := [((u 3), .inr (10, [.ref (u 31), .ref (u 32), .ref (u 33), .ref (u 34), .ref (u 35), .ref (u 36), .ref (u 37), .int 0, .int 1, .int 0, .int 0])), ((u 36), .inl (cI, 24, .inl (fun _ => 0)))]) [2, 3] (by decide) rfl
  have hFc := va_free (wc := [((u 3), .inr (10, [.ref (u 31), .ref (u 32), .ref (u 33), .ref (u 34), .ref (u 35), .ref (u 36), .ref (u 37), .int 0, .int 1, .int 0, .int 0])), ((u 36), .inl (cI, 24, .inl (fun _ => 0)))]) hD hS hA [2, 3] rfl
  refine va_callv (va_runV (As := []) (rest := []) ⟨hx, hb, hml, hown, hts⟩ (kf_X7_markParts l dC dI cI cB cJ cZ u s.heap.size) (cwV 0 hts gf_X4_isPlane_a rfl rfl rfl (by decide +kernel) ⟨(Nat.le_of_ble_eq_true rfl), (Nat.le_of_ble_eq_true rfl)⟩) ⟨fun a U g mk q => by obtain ⟨q0, q1, qP, qK, qD⟩ := q; exact ⟨q0, q1, qP, va_K.moved (u := U) (U := U.calling g mk a) (Vm.Alike.refl U.vm) qK, qD⟩, va_recv hK hPc (ci := 10) (q0 := 0) rfl rfl, fun U hU hW => ⟨rfl, by rw [hU], by rw [hU]; exact hPc, va_K.moved hW.alike hK, hDc.weaken (fun _ _ _ _ => trivial)⟩⟩ rfl rfl hl.1 rfl (lv_room (Nat.le_of_ble_eq_true rfl)) dX4_isPlane_1 ⟨(Nat.le_of_ble_eq_true rfl), (Nat.le_of_ble_eq_true rfl)⟩) hS (fun q _ h => hFc q h) hFc (fun u9 t H1 locs ht hvm hw hB hz1 hk1 hS => ?_)
  obtain ⟨hP1, hD1⟩ := hB
  rw [ht] at hP1
  obtain ⟨hP, hD⟩ := va_join (wr := [((u 5), .inr (7, [.ref (u 38), .int 0, .ref (u 39), .ref (u 40), .ref (u 41), .ref (u 42), .ref (u 43), .ref (u 44)])), ((u 38), .inl (cI, 48, .inl (fun _ => 0)))]) (w1 := [((u 3), .inr (10, [.ref (u 31), .ref (u 32), .ref (u 33), .ref (u 34), .ref (u 35), .ref (u 36), .ref (u 37), .int 0, .int 1, .int 0, .int 0])), ((u 36), .inl (cI, 24, .inl (fun _ => 0)))]) hP hD [2, 3] [0, 1] rfl rfl (by decide) (by decide) hk1 hFc hP1 hD1
  generalize H1 = H at hP hS ⊢
  have hP : va_P (dC, dI) vwCl [((u 5), .inr (7, [.ref (u 38), .int 0, .ref (u 39), .ref (u 40), .ref (u 41), .ref (u 42), .ref (u 43), .ref (u 44)])), ((u 38), .inl (cI, 48, .inl (fun _ => 0))), ((u 3), .inr (10, [.ref (u 31), .ref (u 32), .ref (u 33), .ref (u 34), .ref (u 35), .ref (u 36), .ref (u 37), .int 0, .int 1, .int 0, .int 0])), ((u 36), .inl (cI, 24, .inl (fun _ => 0)))] H := hP
  have hD : va_D A [((u 5), .inr (7, [.ref (u 38), .int 0, .ref (u 39), .ref (u 40), .ref (u 41), .ref (u 42), .ref (u 43), .ref (u 44)])), ((u 38), .inl (cI, 48, .inl (fun _ => 0))), ((u 3), .inr (10, [.ref (u 31), .ref (u 32), .ref (u 33), .ref (u 34), .ref (u 35), .ref (u 36), .ref (u 37), .int 0, .int 1, .int 0, .int 0])), ((u 36), .inl (cI, 24, .inl (fun _ => 0)))] := hD
  refine lv_aload_n hx hb dX4_isPlane_4 rfl (lv_at hl 0 rfl) ?_
  refine lv_aload_n hx hb dX4_isPlane_5 rfl (lv_at hl 1 rfl) ?_
  have hPc := hP.sub (ws' := [((u 5), .inr (7, [.ref (u 38), .int 0, .ref (u 39), .ref (u 40), .ref (u 41), .ref (u 42), .ref (u 43), .ref (u 44)])), ((u 38), .inl (cI, 48, .inl (fun _ => 0))), ((u 3), .inr (10, [.ref (u 31), .ref (u 32), .ref (u 33), .ref (u 34), .ref (u 35), .ref (u 36), .ref (u 37), .int 0, .int 1, .int 0, .int 0]))]) [0, 1, 2] rfl
  have hDc := hD.sub (ws' := [((u 5), .inr (7, [.ref (u 38), .int 0, .ref (u 39), .ref (u 40), .ref (u 41), .ref (u 42), .ref (u 43), .ref (u 44)])), ((u 38), .inl (cI, 48, .inl (fun _ => 0))), ((u 3), .inr (10, [.ref (u 31), .ref (u 32), .ref (u 33), .ref (u 34), .ref (u 35), .ref (u 36), .ref (u 37), .int 0, .int 1, .int 0, .int 0]))]) [0, 1, 2] (by decide) rfl
  have hFc := va_free (wc := [((u 5), .inr (7, [.ref (u 38), .int 0, .ref (u 39), .ref (u 40), .ref (u 41), .ref (u 42), .ref (u 43), .ref (u 44)])), ((u 38), .inl (cI, 48, .inl (fun _ => 0))), ((u 3), .inr (10, [.ref (u 31), .ref (u 32), .ref (u 33), .ref (u 34), .ref (u 35), .ref (u 36), .ref (u 37), .int 0, .int 1, .int 0, .int 0]))]) hD hS hA [0, 1, 2] rfl
  refine va_callv (va_runV (As := [.ref (u 3)]) (rest := []) ⟨hx, hb, hml, hown, hts⟩ (kf_X4_mark l dC dI cI cB cJ cZ u H.size) (cwV 1 hts gf_X4_isPlane_b rfl rfl rfl (by decide +kernel) ⟨(Nat.le_of_ble_eq_true rfl), (Nat.le_of_ble_eq_true rfl)⟩) ⟨fun a U g mk q => by obtain ⟨q0, q1, qP, qK, qD⟩ := q; exact ⟨q0, q1, qP, va_K.moved (u := U) (U := U.calling g mk a) (Vm.Alike.refl U.vm) qK, qD⟩, va_recv hK hPc (ci := 7) (q0 := 0) rfl rfl, fun U hU hW => ⟨rfl, by rw [hU], by rw [hU]; exact hPc, va_K.moved hW.alike hK, hDc.weaken (fun _ _ _ _ => trivial)⟩⟩ rfl rfl hl.1 rfl (lv_room (Nat.le_of_ble_eq_true rfl)) dX4_isPlane_6 ⟨(Nat.le_of_ble_eq_true rfl), (Nat.le_of_ble_eq_true rfl)⟩) hS (fun q _ h => hFc q h) hFc (fun u9 t H1 locs ht hvm hw hB hz1 hk1 hS => ?_)
  obtain ⟨hP1, hD1⟩ := hB
  rw [ht] at hP1
  obtain ⟨hP, hD⟩ := va_join (wr := [((u 36), .inl (cI, 24, .inl (fun _ => 0)))]) (w1 := [((u 5), .inr (7, [.ref (u 38), .int 0, .ref (u 39), .ref (u 40), .ref (u 41), .ref (u 42), .ref (u 43), .ref (u 44)])), ((u 38), .inl (cI, 48, .inl (fun _ => 0))), ((u 3), .inr (10, [.ref (u 31), .ref (u 32), .ref (u 33), .ref (u 34), .ref (u 35), .ref (u 36), .ref (u 37), .int 0, .int 1, .int 0, .int 0]))]) hP hD [0, 1, 2] [3] rfl rfl (by decide) (by decide) hk1 hFc hP1 hD1
  generalize H1 = H at hP hS ⊢
  have hP : va_P (dC, dI) vwCl [((u 36), .inl (cI, 24, .inl (fun _ => 0))), ((u 5), .inr (7, [.ref (u 38), .int 0, .ref (u 39), .ref (u 40), .ref (u 41), .ref (u 42), .ref (u 43), .ref (u 44)])), ((u 38), .inl (cI, 48, .inl (fun _ => 0))), ((u 3), .inr (10, [.ref (u 31), .ref (u 32), .ref (u 33), .ref (u 34), .ref (u 35), .ref (u 36), .ref (u 37), .int 0, .int 1, .int 0, .int 0]))] H := hP
  have hD : va_D A [((u 36), .inl (cI, 24, .inl (fun _ => 0))), ((u 5), .inr (7, [.ref (u 38), .int 0, .ref (u 39), .ref (u 40), .ref (u 41), .ref (u 42), .ref (u 43), .ref (u 44)])), ((u 38), .inl (cI, 48, .inl (fun _ => 0))), ((u 3), .inr (10, [.ref (u 31), .ref (u 32), .ref (u 33), .ref (u 34), .ref (u 35), .ref (u 36), .ref (u 37), .int 0, .int 1, .int 0, .int 0]))] := hD
  refine lv_aload_n hx hb dX4_isPlane_9 rfl (lv_at hl 0 rfl) ?_
  refine va_get (D := (dC, dI)) (ci := 7) (v := .int 0) (C := RX4) (T := TX4) (N := 8) hx hb hts (by decide +kernel) hown hK hP 1 rfl rfl 1 (by decide) (hts (.fieldLink RX4 55 "KnotHouse$Faces" "count" "I") (by decide +kernel)) (fun _ h9 => h9) rfl dX4_isPlane_10 ?_
  refine lv_aload_n hx hb dX4_isPlane_13 rfl (lv_at hl 1 rfl) ?_
  refine va_get (D := (dC, dI)) (ci := 10) (v := .int 0) (C := RX7) (T := TX7) (N := 11) hx hb hts (by decide +kernel) hown hK hP 3 rfl rfl 7 (by decide) (hts (.fieldLink RX4 45 "KnotHouse$Net" "crossings" "I") (by decide +kernel)) (fun _ h9 => h9) rfl dX4_isPlane_14 ?_
  refine lv_iconst (v := 2) hx hb dX4_isPlane_17 (by decide) ?_
  refine lv_aload_n hx hb dX4_isPlane_18 rfl (lv_at hl 1 rfl) ?_
  refine va_get (D := (dC, dI)) (ci := 10) (v := .int 0) (C := RX7) (T := TX7) (N := 11) hx hb hts (by decide +kernel) hown hK hP 3 rfl rfl 10 (by decide) (hts (.fieldLink RX4 69 "KnotHouse$Net" "parts" "I") (by decide +kernel)) (fun _ h9 => h9) rfl dX4_isPlane_19 ?_
  refine lv_imul hx hb dX4_isPlane_22 ?_
  refine lv_iadd hx hb dX4_isPlane_23 ?_
  refine ow_topi (y := 0) (by decide) ?_
  refine lv_icmp_ne (tgt := 31) hx hb dX4_isPlane_24 (by decide) (fun c9 => absurd c9 (by decide)) (fun _ => ?_)
  refine lv_iconst (v := 1) hx hb dX4_isPlane_27 (by decide) ?_
  refine lv_goto (tgt := 32) hx hb dX4_isPlane_28 (by decide) ?_
  have hP := hP.sub (ws' := [((u 5), .inr (7, [.ref (u 38), .int 0, .ref (u 39), .ref (u 40), .ref (u 41), .ref (u 42), .ref (u 43), .ref (u 44)])), ((u 38), .inl (cI, 48, .inl (fun _ => 0))), ((u 3), .inr (10, [.ref (u 31), .ref (u 32), .ref (u 33), .ref (u 34), .ref (u 35), .ref (u 36), .ref (u 37), .int 0, .int 1, .int 0, .int 0])), ((u 36), .inl (cI, 24, .inl (fun _ => 0)))]) [1, 2, 3, 0] rfl
  have hD := hD.sub (ws' := [((u 5), .inr (7, [.ref (u 38), .int 0, .ref (u 39), .ref (u 40), .ref (u 41), .ref (u 42), .ref (u 43), .ref (u 44)])), ((u 38), .inl (cI, 48, .inl (fun _ => 0))), ((u 3), .inr (10, [.ref (u 31), .ref (u 32), .ref (u 33), .ref (u 34), .ref (u 35), .ref (u 36), .ref (u 37), .int 0, .int 1, .int 0, .int 0])), ((u 36), .inl (cI, 24, .inl (fun _ => 0)))]) [1, 2, 3, 0] (by decide) rfl
  rw [hQQ]
  exact W.zret (v := 1) (ty := .boolean) hx hb hr rfl (fun t ht hW => ⟨⟨1, (), rfl, rfl, by rw [ht]; exact hP, hD⟩, hS.F ht⟩) hS.2.2 dX4_isPlane_32
