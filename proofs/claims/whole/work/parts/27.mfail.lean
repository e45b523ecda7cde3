theorem dX13_figure_0 : decode cX13_figure 0 = .ok (.aload_n 0, 1) := by decide +kernel
theorem dX13_figure_1 : decode cX13_figure 1 = .ok (.iconst 0, 1) := by decide +kernel
theorem dX13_figure_2 : decode cX13_figure 2 = .ok (.putfield 1, 3) := by decide +kernel
theorem dX13_figure_5 : decode cX13_figure 5 = .ok (.aload_n 0, 1) := by decide +kernel
theorem dX13_figure_6 : decode cX13_figure 6 = .ok (.iload_n 1, 1) := by decide +kernel
theorem dX13_figure_7 : decode cX13_figure 7 = .ok (.invokevirtual 423, 3) := by decide +kernel
theorem dX13_figure_10 : decode cX13_figure 10 = .ok (.ifCond .ne 9, 3) := by decide +kernel
theorem dX13_figure_13 : decode cX13_figure 13 = .ok (.aload_n 0, 1) := by decide +kernel
theorem dX13_figure_14 : decode cX13_figure 14 = .ok (.iconst 1, 1) := by decide +kernel
theorem dX13_figure_15 : decode cX13_figure 15 = .ok (.invokevirtual 403, 3) := by decide +kernel
theorem dX13_figure_18 : decode cX13_figure 18 = .ok (.ireturn, 1) := by decide +kernel
theorem dX13_figure_19 : decode cX13_figure 19 = .ok (.iload_n 2, 1) := by decide +kernel
def wf_M_figure : List Cond := .code yX13_figure cX13_figure 4 (some .int) :: ([.fieldLink RX13 1 "KnotHouseModel" "thrown" "I"] ++ wsX130 ++ (wsV RX13 423 RX13 yX13_has wf_Mhas ++ wsV RX13 403 RX13 yX13_fails wf_Mfails))
theorem gf_X13_figure_a : GoodIn wf_M_figure (wsV RX13 423 RX13 yX13_has wf_Mhas) := goodIn_sub (fun _ h => List.mem_cons_of_mem _ (List.mem_append_right _ (List.mem_append_left _ h))) (by decide +kernel)
theorem gf_X13_figure_b : GoodIn wf_M_figure (wsV RX13 403 RX13 yX13_fails wf_Mfails) := goodIn_sub (fun _ h => List.mem_cons_of_mem _ (List.mem_append_right _ (List.mem_append_right _ h))) (by decide +kernel)
set_option maxHeartbeats 4000000 in
set_option maxRecDepth 100000 in
theorem kf_X13_figure (l : Launch) (dC : Nat → ClassId) (dI : Nat → Nat → Nat) (cI cB cJ cZ : ClassId) (h0 ar sz : Nat) (fs : List Value) (hfs : fs.length = 120) (hk : fs[11]? = some (.ref ar)) (p0 p1 : Int32) : Met l yX13_figure wf_M_figure (({ frames := 1, cells := 0, slots := 0, locals := 21 } : Room)) (va_Pc [.ref h0, .int p0, .int p1] (fun U => U.heap.size = sz ∧ va_P (dC, dI) vwCl [(h0, .inr (16, fs)), (ar, .inl (cI, 1280, .inl (fun _ => 0)))] U.heap ∧ va_K (dC, dI) vwCl [(cI, .int), (cB, .byte), (cJ, .long), (cZ, .boolean)] U ∧ va_D (fun _ => True) [(h0, .inr (16, fs)), (ar, .inl (cI, 1280, .inl (fun _ => 0)))])) (va_Qi (fun r (g : List Value) => r = 0 ∧ g[0]? = some (.int 1)) (fun g t => va_P (dC, dI) vwCl [(h0, .inr (16, g))] t.heap ∧ va_D (va_A [(h0, .inr (16, fs)), (ar, .inl (cI, 1280, .inl (fun _ => 0)))] sz) [(h0, .inr (16, g))]) (va_A [(h0, .inr (16, fs)), (ar, .inl (cI, 1280, .inl (fun _ => 0)))] sz)) 0 0 (va_A [(h0, .inr (16, fs)), (ar, .inl (cI, 1280, .inl (fun _ => 0)))] sz) := by
  refine Met.ofW (cc := cX13_figure) (maxL := 4) (ret := (some .int)) (by decide) rfl ?_
  intro p e s m args below meth c s₁ B hml hv
  obtain ⟨rfl, hsz, hP, hK, hD0⟩ := hv
  have hx := B.exec
  have hb := B.bytes
  have hr := B.returns
  have hts := atoms_spec (ws := wf_M_figure) B.pre
  have hown : s.vm.findClass RX13 = some m.cls := findClass_of_methodNamed B.named
  have hlocks := B.notSynchronized
  subst hsz
  have hD := hD0.self (sz := s.heap.size)
  generalize hAe : va_A [(h0, .inr (16, fs)), (ar, .inl (cI, 1280, .inl (fun _ => 0)))] s.heap.size = A at hD ⊢
  have hA : ∀ q : Nat, s.heap.size ≤ q → A q := fun q h => by rw [← hAe]; exact Or.inr h
  have hS : va_S A s.heap s.heap [] := va_S.rf
  have hP : va_P (dC, dI) vwCl [(h0, .inr (16, fs)), (ar, .inl (cI, 1280, .inl (fun _ => 0)))] s.heap := hP
  have hl := lv_entry ([.ref h0, .int p0, .int p1]) (n := 4) (Nat.le_of_ble_eq_true rfl)
  rw [lg_entry_eq]
  generalize (lg_sl ([.ref h0, .int p0, .int p1]) ++ List.replicate (4 - (lg_sl ([.ref h0, .int p0, .int p1])).length) Slot.unset).toArray = ls at hl ⊢
  have hl : lv_has ls 4 [(0, .ref h0), (1, .int p0), (2, .int p1)] := hl
  refine ow_named (fun QQ hQQ => ?_)
  refine lv_aload_n hx hb dX13_figure_0 rfl (lv_at hl 0 rfl) ?_
  refine lv_iconst (v := 0) hx hb dX13_figure_1 (by decide) ?_
  refine va_put (D := (dC, dI)) (ci := 16) (v := .int 0) (ty := .int) (C := RX13) (T := TX13) (N := 120) hx hb hts (fun _ h => List.mem_cons_of_mem _ (List.mem_append_left _ (List.mem_append_right _ h))) tyX13 tyX13_ok nmX13 hown hK hP hD hS 0 rfl rfl 0 (by decide) (hts (.fieldLink RX13 1 "KnotHouseModel" "thrown" "I") (by decide +kernel)) (fun _ h9 => h9) rfl (by decide +kernel) rfl rfl (by rw [hfs]; decide) dX13_figure_2 (fun H locs hP hD hS => ?_)
  obtain ⟨fs1, efs1⟩ : ∃ x, x = List.set fs 0 (.int 0) := ⟨_, rfl⟩
  have hnfs1 : fs1.length = 120 := by rw [efs1, List.length_set]; exact hfs
  have hfs1_11 : fs1[11]? = some (.ref ar) := by rw [efs1, List.getElem?_set_ne (by decide)]; exact hk
  have hfs1_0 : fs1[0]? = some (.int 0) := by rw [efs1]; exact List.getElem?_set_self (by rw [hfs]; decide)
  have hP : va_P (dC, dI) vwCl [(h0, .inr (16, fs1)), (ar, .inl (cI, 1280, .inl (fun _ => 0)))] H := by rw [efs1]; exact hP
  have hD : va_D A [(h0, .inr (16, fs1)), (ar, .inl (cI, 1280, .inl (fun _ => 0)))] := by rw [efs1]; exact hD
  refine lv_aload_n hx hb dX13_figure_5 rfl (lv_at hl 0 rfl) ?_
  refine lv_iload_n hx hb dX13_figure_6 rfl (lv_at hl 1 rfl) ?_
  have hPc := hP.sub (ws' := [(h0, .inr (16, fs1)), (ar, .inl (cI, 1280, .inl (fun _ => 0)))]) [0, 1] rfl
  refine va_calli (va_runV (As := [.int p0]) (rest := []) ⟨hx, hb, hml, hown, hts⟩ (kf_X13_has l dC dI cI cB cJ cZ h0 ar fs1 hnfs1 hfs1_11 p0) (cwV 1 hts gf_X13_figure_a rfl rfl rfl (by decide +kernel) ⟨(Nat.le_of_ble_eq_true rfl), (Nat.le_of_ble_eq_true rfl)⟩) ⟨fun a U g mk q => by obtain ⟨q0, qP, qK⟩ := q; exact ⟨q0, qP, va_K.moved (u := U) (U := U.calling g mk a) (Vm.Alike.refl U.vm) qK⟩, va_recv hK hPc (ci := 16) (q0 := 0) rfl rfl, fun U hU hW => ⟨rfl, by rw [hU]; exact hPc, va_K.moved hW.alike hK⟩⟩ rfl rfl hl.1 rfl (lv_room (Nat.le_of_ble_eq_true rfl)) dX13_figure_7 ⟨(Nat.le_of_ble_eq_true rfl), (Nat.le_of_ble_eq_true rfl)⟩) hS (fun q _ h => h.elim) (fun q h => h.elim) (fun r9 un t H1 locs ht hvm hw hB hz1 hk1 hS => ?_)
  obtain rfl : r9 = 0 := hw
  have hP := hP.kept (fun k9 x9 h9 => hk1 x9.1 ((hP k9 x9 h9).lt) id)
  generalize H1 = H at hP hS ⊢
  refine lv_if_ne (tgt := 19) hx hb dX13_figure_10 (by decide) (fun c9 => absurd c9 (by decide)) (fun _ => ?_)
  refine lv_aload_n hx hb dX13_figure_13 rfl (lv_at hl 0 rfl) ?_
  refine lv_iconst (v := 1) hx hb dX13_figure_14 (by decide) ?_
  have hPc := hP.sub (ws' := [(h0, .inr (16, fs1))]) [0] rfl
  have hDc := hD.sub (ws' := [(h0, .inr (16, fs1))]) [0] (by decide) rfl
  have hFc := va_free (wc := [(h0, .inr (16, fs1))]) hD hS hA [0] rfl
  refine va_calli (va_runV (As := [.int 1]) (rest := []) ⟨hx, hb, hml, hown, hts⟩ (kf_X13_fails l dC dI cI cB cJ cZ h0 H.size fs1 hnfs1 1) (cwV 1 hts gf_X13_figure_b rfl rfl rfl (by decide +kernel) ⟨(Nat.le_of_ble_eq_true rfl), (Nat.le_of_ble_eq_true rfl)⟩) ⟨fun a U g mk q => by obtain ⟨q0, q1, qP, qK, qD⟩ := q; exact ⟨q0, q1, qP, va_K.moved (u := U) (U := U.calling g mk a) (Vm.Alike.refl U.vm) qK, qD⟩, va_recv hK hPc (ci := 16) (q0 := 0) rfl rfl, fun U hU hW => ⟨rfl, by rw [hU], by rw [hU]; exact hPc, va_K.moved hW.alike hK, hDc.weaken (fun _ _ _ _ => trivial)⟩⟩ rfl rfl hl.1 rfl (lv_room (Nat.le_of_ble_eq_true rfl)) dX13_figure_15 ⟨(Nat.le_of_ble_eq_true rfl), (Nat.le_of_ble_eq_true rfl)⟩) hS (fun q _ h => hFc q h) hFc (fun r9 gs t H1 locs ht hvm hw hB hz1 hk1 hS => ?_)
  obtain ⟨hP1, hD1⟩ := hB
  rw [ht] at hP1
  obtain ⟨hr0, hg0⟩ := hw
  subst hr0
  obtain ⟨hP, hD⟩ := va_join (wr := [(ar, .inl (cI, 1280, .inl (fun _ => 0)))]) (w1 := [(h0, .inr (16, gs))]) hP hD [0] [1] rfl rfl (by decide) (by decide) hk1 hFc hP1 hD1
  generalize H1 = H at hP hS ⊢
  have hP : va_P (dC, dI) vwCl [(ar, .inl (cI, 1280, .inl (fun _ => 0))), (h0, .inr (16, gs))] H := hP
  have hD : va_D A [(ar, .inl (cI, 1280, .inl (fun _ => 0))), (h0, .inr (16, gs))] := hD
  have hP := hP.sub (ws' := [(h0, .inr (16, gs))]) [1] rfl
  have hD := hD.sub (ws' := [(h0, .inr (16, gs))]) [1] (by decide) rfl
  rw [hQQ]
  exact W.iret (v := 0) hx hb hr (fun t ht hW => ⟨⟨0, gs, rfl, ⟨rfl, hg0⟩, by rw [ht]; exact hP, hD⟩, hS.F ht⟩) hS.2.2 dX13_figure_18
theorem dX13_visit_0 : decode cX13_visit 0 = .ok (.aload_n 0, 1) := by decide +kernel
theorem dX13_visit_1 : decode cX13_visit 1 = .ok (.iconst 0, 1) := by decide +kernel
theorem dX13_visit_2 : decode cX13_visit 2 = .ok (.putfield 1, 3) := by decide +kernel
theorem dX13_visit_5 : decode cX13_visit 5 = .ok (.aload_n 0, 1) := by decide +kernel
theorem dX13_visit_6 : decode cX13_visit 6 = .ok (.iload_n 1, 1) := by decide +kernel
theorem dX13_visit_7 : decode cX13_visit 7 = .ok (.invokevirtual 423, 3) := by decide +kernel
theorem dX13_visit_10 : decode cX13_visit 10 = .ok (.ifCond .ne 9, 3) := by decide +kernel
theorem dX13_visit_13 : decode cX13_visit 13 = .ok (.aload_n 0, 1) := by decide +kernel
theorem dX13_visit_14 : decode cX13_visit 14 = .ok (.iconst 1, 1) := by decide +kernel
theorem dX13_visit_15 : decode cX13_visit 15 = .ok (.invokevirtual 403, 3) := by decide +kernel
theorem dX13_visit_18 : decode cX13_visit 18 = .ok (.ireturn, 1) := by decide +kernel
theorem dX13_visit_19 : decode cX13_visit 19 = .ok (.aload_n 0, 1) := by decide +kernel
def wf_M_visit : List Cond := .code yX13_visit cX13_visit 4 (some .int) :: ([.fieldLink RX13 1 "KnotHouseModel" "thrown" "I"] ++ wsX130 ++ (wsV RX13 423 RX13 yX13_has wf_Mhas ++ wsV RX13 403 RX13 yX13_fails wf_Mfails))
theorem gf_X13_visit_a : GoodIn wf_M_visit (wsV RX13 423 RX13 yX13_has wf_Mhas) := goodIn_sub (fun _ h => List.mem_cons_of_mem _ (List.mem_append_right _ (List.mem_append_left _ h))) (by decide +kernel)
theorem gf_X13_visit_b : GoodIn wf_M_visit (wsV RX13 403 RX13 yX13_fails wf_Mfails) := goodIn_sub (fun _ h => List.mem_cons_of_mem _ (List.mem_append_right _ (List.mem_append_right _ h))) (by decide +kernel)
set_option maxHeartbeats 4000000 in
set_option maxRecDepth 100000 in
theorem kf_X13_visit (l : Launch) (dC : Nat → ClassId) (dI : Nat → Nat → Nat) (cI cB cJ cZ : ClassId) (h0 ar sz : Nat) (fs : List Value) (hfs : fs.length = 120) (hk : fs[11]? = some (.ref ar)) (p0 p1 p2 : Int32) : Met l yX13_visit wf_M_visit (({ frames := 1, cells := 0, slots := 0, locals := 21 } : Room)) (va_Pc [.ref h0, .int p0, .int p1, .int p2] (fun U => U.heap.size = sz ∧ va_P (dC, dI) vwCl [(h0, .inr (16, fs)), (ar, .inl (cI, 1280, .inl (fun _ => 0)))] U.heap ∧ va_K (dC, dI) vwCl [(cI, .int), (cB, .byte), (cJ, .long), (cZ, .boolean)] U ∧ va_D (fun _ => True) [(h0, .inr (16, fs)), (ar, .inl (cI, 1280, .inl (fun _ => 0)))])) (va_Qi (fun r (g : List Value) => r = 0 ∧ g[0]? = some (.int 1)) (fun g t => va_P (dC, dI) vwCl [(h0, .inr (16, g))] t.heap ∧ va_D (va_A [(h0, .inr (16, fs)), (ar, .inl (cI, 1280, .inl (fun _ => 0)))] sz) [(h0, .inr (16, g))]) (va_A [(h0, .inr (16, fs)), (ar, .inl (cI, 1280, .inl (fun _ => 0)))] sz)) 0 0 (va_A [(h0, .inr (16, fs)), (ar, .inl (cI, 1280, .inl (fun _ => 0)))] sz) := by
  refine Met.ofW (cc := cX13_visit) (maxL := 4) (ret := (some .int)) (by decide) rfl ?_
  intro p e s m args below meth c s₁ B hml hv
  obtain ⟨rfl, hsz, hP, hK, hD0⟩ := hv
  have hx := B.exec
  have hb := B.bytes
  have hr := B.returns
  have hts := atoms_spec (ws := wf_M_visit) B.pre
  have hown : s.vm.findClass RX13 = some m.cls := findClass_of_methodNamed B.named
  have hlocks := B.notSynchronized
  subst hsz
  have hD := hD0.self (sz := s.heap.size)
  generalize hAe : va_A [(h0, .inr (16, fs)), (ar, .inl (cI, 1280, .inl (fun _ => 0)))] s.heap.size = A at hD ⊢
  have hA : ∀ q : Nat, s.heap.size ≤ q → A q := fun q h => by rw [← hAe]; exact Or.inr h
  have hS : va_S A s.heap s.heap [] := va_S.rf
  have hP : va_P (dC, dI) vwCl [(h0, .inr (16, fs)), (ar, .inl (cI, 1280, .inl (fun _ => 0)))] s.heap := hP
  have hl := lv_entry ([.ref h0, .int p0, .int p1, .int p2]) (n := 4) (Nat.le_of_ble_eq_true rfl)
  rw [lg_entry_eq]
  generalize (lg_sl ([.ref h0, .int p0, .int p1, .int p2]) ++ List.replicate (4 - (lg_sl ([.ref h0, .int p0, .int p1, .int p2])).length) Slot.unset).toArray = ls at hl ⊢
  have hl : lv_has ls 4 [(0, .ref h0), (1, .int p0), (2, .int p1), (3, .int p2)] := hl
  refine ow_named (fun QQ hQQ => ?_)
  refine lv_aload_n hx hb dX13_visit_0 rfl (lv_at hl 0 rfl) ?_
  refine lv_iconst (v := 0) hx hb dX13_visit_1 (by decide) ?_
  refine va_put (D := (dC, dI)) (ci := 16) (v := .int 0) (ty := .int) (C := RX13) (T := TX13) (N := 120) hx hb hts (fun _ h => List.mem_cons_of_mem _ (List.mem_append_left _ (List.mem_append_right _ h))) tyX13 tyX13_ok nmX13 hown hK hP hD hS 0 rfl rfl 0 (by decide) (hts (.fieldLink RX13 1 "KnotHouseModel" "thrown" "I") (by decide +kernel)) (fun _ h9 => h9) rfl (by decide +kernel) rfl rfl (by rw [hfs]; decide) dX13_visit_2 (fun H locs hP hD hS => ?_)
  obtain ⟨fs1, efs1⟩ : ∃ x, x = List.set fs 0 (.int 0) := ⟨_, rfl⟩
  have hnfs1 : fs1.length = 120 := by rw [efs1, List.length_set]; exact hfs
  have hfs1_11 : fs1[11]? = some (.ref ar) := by rw [efs1, List.getElem?_set_ne (by decide)]; exact hk
  have hfs1_0 : fs1[0]? = some (.int 0) := by rw [efs1]; exact List.getElem?_set_self (by rw [hfs]; decide)
  have hP : va_P (dC, dI) vwCl [(h0, .inr (16, fs1)), (ar, .inl (cI, 1280, .inl (fun _ => 0)))] H := by rw [efs1]; exact hP
  have hD : va_D A [(h0, .inr (16, fs1)), (ar, .inl (cI, 1280, .inl (fun _ => 0)))] := by rw [efs1]; exact hD
  refine lv_aload_n hx hb dX13_visit_5 rfl (lv_at hl 0 rfl) ?_
  refine lv_iload_n hx hb dX13_visit_6 rfl (lv_at hl 1 rfl) ?_
  have hPc := hP.sub (ws' := [(h0, .inr (16, fs1)), (ar, .inl (cI, 1280, .inl (fun _ => 0)))]) [0, 1] rfl
  refine va_calli (va_runV (As := [.int p0]) (rest := []) ⟨hx, hb, hml, hown, hts⟩ (kf_X13_has l dC dI cI cB cJ cZ h0 ar fs1 hnfs1 hfs1_11 p0) (cwV 1 hts gf_X13_visit_a rfl rfl rfl (by decide +kernel) ⟨(Nat.le_of_ble_eq_true rfl), (Nat.le_of_ble_eq_true rfl)⟩) ⟨fun a U g mk q => by obtain ⟨q0, qP, qK⟩ := q; exact ⟨q0, qP, va_K.moved (u := U) (U := U.calling g mk a) (Vm.Alike.refl U.vm) qK⟩, va_recv hK hPc (ci := 16) (q0 := 0) rfl rfl, fun U hU hW => ⟨rfl, by rw [hU]; exact hPc, va_K.moved hW.alike hK⟩⟩ rfl rfl hl.1 rfl (lv_room (Nat.le_of_ble_eq_true rfl)) dX13_visit_7 ⟨(Nat.le_of_ble_eq_true rfl), (Nat.le_of_ble_eq_true rfl)⟩) hS (fun q _ h => h.elim) (fun q h => h.elim) (fun r9 un t H1 locs ht hvm hw hB hz1 hk1 hS => ?_)
  obtain rfl : r9 = 0 := hw
  have hP := hP.kept (fun k9 x9 h9 => hk1 x9.1 ((hP k9 x9 h9).lt) id)
  generalize H1 = H at hP hS ⊢
  refine lv_if_ne (tgt := 19) hx hb dX13_visit_10 (by decide) (fun c9 => absurd c9 (by decide)) (fun _ => ?_)
  refine lv_aload_n hx hb dX13_visit_13 rfl (lv_at hl 0 rfl) ?_
  refine lv_iconst (v := 1) hx hb dX13_visit_14 (by decide) ?_
  have hPc := hP.sub (ws' := [(h0, .inr (16, fs1))]) [0] rfl
  have hDc := hD.sub (ws' := [(h0, .inr (16, fs1))]) [0] (by decide) rfl
  have hFc := va_free (wc := [(h0, .inr (16, fs1))]) hD hS hA [0] rfl
  refine va_calli (va_runV (As := [.int 1]) (rest := []) ⟨hx, hb, hml, hown, hts⟩ (kf_X13_fails l dC dI cI cB cJ cZ h0 H.size fs1 hnfs1 1) (cwV 1 hts gf_X13_visit_b rfl rfl rfl (by decide +kernel) ⟨(Nat.le_of_ble_eq_true rfl), (Nat.le_of_ble_eq_true rfl)⟩) ⟨fun a U g mk q => by obtain ⟨q0, q1, qP, qK, qD⟩ := q; exact ⟨q0, q1, qP, va_K.moved (u := U) (U := U.calling g mk a) (Vm.Alike.refl U.vm) qK, qD⟩, va_recv hK hPc (ci := 16) (q0 := 0) rfl rfl, fun U hU hW => ⟨rfl, by rw [hU], by rw [hU]; exact hPc, va_K.moved hW.alike hK, hDc.weaken (fun _ _ _ _ => trivial)⟩⟩ rfl rfl hl.1 rfl (lv_room (Nat.le_of_ble_eq_true rfl)) dX13_visit_15 ⟨(Nat.le_of_ble_eq_true rfl), (Nat.le_of_ble_eq_true rfl)⟩) hS (fun q _ h => hFc q h) hFc (fun r9 gs t H1 locs ht hvm hw hB hz1 hk1 hS => ?_)
  obtain ⟨hP1, hD1⟩ := hB
  rw [ht] at hP1
  obtain ⟨hr0, hg0⟩ := hw
  subst hr0
  obtain ⟨hP, hD⟩ := va_join (wr := [(ar, .inl (cI, 1280, .inl (fun _ => 0)))]) (w1 := [(h0, .inr (16, gs))]) hP hD [0] [1] rfl rfl (by decide) (by decide) hk1 hFc hP1 hD1
  generalize H1 = H at hP hS ⊢
  have hP : va_P (dC, dI) vwCl [(ar, .inl (cI, 1280, .inl (fun _ => 0))), (h0, .inr (16, gs))] H := hP
  have hD : va_D A [(ar, .inl (cI, 1280, .inl (fun _ => 0))), (h0, .inr (16, gs))] := hD
  have hP := hP.sub (ws' := [(h0, .inr (16, gs))]) [1] rfl
  have hD := hD.sub (ws' := [(h0, .inr (16, gs))]) [1] (by decide) rfl
  rw [hQQ]
  exact W.iret (v := 0) hx hb hr (fun t ht hW => ⟨⟨0, gs, rfl, ⟨rfl, hg0⟩, by rw [ht]; exact hP, hD⟩, hS.F ht⟩) hS.2.2 dX13_visit_18
theorem dX13_linking_0 : decode cX13_linking 0 = .ok (.aload_n 0, 1) := by decide +kernel
theorem dX13_linking_1 : decode cX13_linking 1 = .ok (.iconst 0, 1) := by decide +kernel
theorem dX13_linking_2 : decode cX13_linking 2 = .ok (.putfield 1, 3) := by decide +kernel
theorem dX13_linking_5 : decode cX13_linking 5 = .ok (.aload_n 0, 1) := by decide +kernel
theorem dX13_linking_6 : decode cX13_linking 6 = .ok (.iload_n 1, 1) := by decide +kernel
theorem dX13_linking_7 : decode cX13_linking 7 = .ok (.invokevirtual 423, 3) := by decide +kernel
theorem dX13_linking_10 : decode cX13_linking 10 = .ok (.ifCond .ne 9, 3) := by decide +kernel
theorem dX13_linking_13 : decode cX13_linking 13 = .ok (.aload_n 0, 1) := by decide +kernel
theorem dX13_linking_14 : decode cX13_linking 14 = .ok (.iconst 1, 1) := by decide +kernel
theorem dX13_linking_15 : decode cX13_linking 15 = .ok (.invokevirtual 403, 3) := by decide +kernel
theorem dX13_linking_18 : decode cX13_linking 18 = .ok (.ireturn, 1) := by decide +kernel
theorem dX13_linking_19 : decode cX13_linking 19 = .ok (.aload_n 0, 1) := by decide +kernel
def wf_M_linking : List Cond := .code yX13_linking cX13_linking 6 (some .int) :: ([.fieldLink RX13 1 "KnotHouseModel" "thrown" "I"] ++ wsX130 ++ (wsV RX13 423 RX13 yX13_has wf_Mhas ++ wsV RX13 403 RX13 yX13_fails wf_Mfails))
theorem gf_X13_linking_a : GoodIn wf_M_linking (wsV RX13 423 RX13 yX13_has wf_Mhas) := goodIn_sub (fun _ h => List.mem_cons_of_mem _ (List.mem_append_right _ (List.mem_append_left _ h))) (by decide +kernel)
theorem gf_X13_linking_b : GoodIn wf_M_linking (wsV RX13 403 RX13 yX13_fails wf_Mfails) := goodIn_sub (fun _ h => List.mem_cons_of_mem _ (List.mem_append_right _ (List.mem_append_right _ h))) (by decide +kernel)
set_option maxHeartbeats 4000000 in
set_option maxRecDepth 100000 in
theorem kf_X13_linking (l : Launch) (dC : Nat → ClassId) (dI : Nat → Nat → Nat) (cI cB cJ cZ : ClassId) (h0 ar sz : Nat) (fs : List Value) (hfs : fs.length = 120) (hk : fs[11]? = some (.ref ar)) (p0 p1 p2 : Int32) : Met l yX13_linking wf_M_linking (({ frames := 1, cells := 0, slots := 0, locals := 21 } : Room)) (va_Pc [.ref h0, .int p0, .int p1, .int p2] (fun U => U.heap.size = sz ∧ va_P (dC, dI) vwCl [(h0, .inr (16, fs)), (ar, .inl (cI, 1280, .inl (fun _ => 0)))] U.heap ∧ va_K (dC, dI) vwCl [(cI, .int), (cB, .byte), (cJ, .long), (cZ, .boolean)] U ∧ va_D (fun _ => True) [(h0, .inr (16, fs)), (ar, .inl (cI, 1280, .inl (fun _ => 0)))])) (va_Qi (fun r (g : List Value) => r = 0 ∧ g[0]? = some (.int 1)) (fun g t => va_P (dC, dI) vwCl [(h0, .inr (16, g))] t.heap ∧ va_D (va_A [(h0, .inr (16, fs)), (ar, .inl (cI, 1280, .inl (fun _ => 0)))] sz) [(h0, .inr (16, g))]) (va_A [(h0, .inr (16, fs)), (ar, .inl (cI, 1280, .inl (fun _ => 0)))] sz)) 0 0 (va_A [(h0, .inr (16, fs)), (ar, .inl (cI, 1280, .inl (fun _ => 0)))] sz) := by
  refine Met.ofW (cc := cX13_linking) (maxL := 6) (ret := (some .int)) (by decide) rfl ?_
  intro p e s m args below meth c s₁ B hml hv
  obtain ⟨rfl, hsz, hP, hK, hD0⟩ := hv
  have hx := B.exec
  have hb := B.bytes
  have hr := B.returns
  have hts := atoms_spec (ws := wf_M_linking) B.pre
  have hown : s.vm.findClass RX13 = some m.cls := findClass_of_methodNamed B.named
  have hlocks := B.notSynchronized
  subst hsz
  have hD := hD0.self (sz := s.heap.size)
  generalize hAe : va_A [(h0, .inr (16, fs)), (ar, .inl (cI, 1280, .inl (fun _ => 0)))] s.heap.size = A at hD ⊢
  have hA : ∀ q : Nat, s.heap.size ≤ q → A q := fun q h => by rw [← hAe]; exact Or.inr h
  have hS : va_S A s.heap s.heap [] := va_S.rf
  have hP : va_P (dC, dI) vwCl [(h0, .inr (16, fs)), (ar, .inl (cI, 1280, .inl (fun _ => 0)))] s.heap := hP
  have hl := lv_entry ([.ref h0, .int p0, .int p1, .int p2]) (n := 6) (Nat.le_of_ble_eq_true rfl)
  rw [lg_entry_eq]
  generalize (lg_sl ([.ref h0, .int p0, .int p1, .int p2]) ++ List.replicate (6 - (lg_sl ([.ref h0, .int p0, .int p1, .int p2])).length) Slot.unset).toArray = ls at hl ⊢
  have hl : lv_has ls 6 [(0, .ref h0), (1, .int p0), (2, .int p1), (3, .int p2)] := hl
  refine ow_named (fun QQ hQQ => ?_)
  refine lv_aload_n hx hb dX13_linking_0 rfl (lv_at hl 0 rfl) ?_
  refine lv_iconst (v := 0) hx hb dX13_linking_1 (by decide) ?_
  refine va_put (D := (dC, dI)) (ci := 16) (v := .int 0) (ty := .int) (C := RX13) (T := TX13) (N := 120) hx hb hts (fun _ h => List.mem_cons_of_mem _ (List.mem_append_left _ (List.mem_append_right _ h))) tyX13 tyX13_ok nmX13 hown hK hP hD hS 0 rfl rfl 0 (by decide) (hts (.fieldLink RX13 1 "KnotHouseModel" "thrown" "I") (by decide +kernel)) (fun _ h9 => h9) rfl (by decide +kernel) rfl rfl (by rw [hfs]; decide) dX13_linking_2 (fun H locs hP hD hS => ?_)
  obtain ⟨fs1, efs1⟩ : ∃ x, x = List.set fs 0 (.int 0) := ⟨_, rfl⟩
  have hnfs1 : fs1.length = 120 := by rw [efs1, List.length_set]; exact hfs
  have hfs1_11 : fs1[11]? = some (.ref ar) := by rw [efs1, List.getElem?_set_ne (by decide)]; exact hk
  have hfs1_0 : fs1[0]? = some (.int 0) := by rw [efs1]; exact List.getElem?_set_self (by rw [hfs]; decide)
  have hP : va_P (dC, dI) vwCl [(h0, .inr (16, fs1)), (ar, .inl (cI, 1280, .inl (fun _ => 0)))] H := by rw [efs1]; exact hP
  have hD : va_D A [(h0, .inr (16, fs1)), (ar, .inl (cI, 1280, .inl (fun _ => 0)))] := by rw [efs1]; exact hD
  refine lv_aload_n hx hb dX13_linking_5 rfl (lv_at hl 0 rfl) ?_
  refine lv_iload_n hx hb dX13_linking_6 rfl (lv_at hl 1 rfl) ?_
  have hPc := hP.sub (ws' := [(h0, .inr (16, fs1)), (ar, .inl (cI, 1280, .inl (fun _ => 0)))]) [0, 1] rfl
  refine va_calli (va_runV (As := [.int p0]) (rest := []) ⟨hx, hb, hml, hown, hts⟩ (kf_X13_has l dC dI cI cB cJ cZ h0 ar fs1 hnfs1 hfs1_11 p0) (cwV 1 hts gf_X13_linking_a rfl rfl rfl (by decide +kernel) ⟨(Nat.le_of_ble_eq_true rfl), (Nat.le_of_ble_eq_true rfl)⟩) ⟨fun a U g mk q => by obtain ⟨q0, qP, qK⟩ := q; exact ⟨q0, qP, va_K.moved (u := U) (U := U.calling g mk a) (Vm.Alike.refl U.vm) qK⟩, va_recv hK hPc (ci := 16) (q0 := 0) rfl rfl, fun U hU hW => ⟨rfl, by rw [hU]; exact hPc, va_K.moved hW.alike hK⟩⟩ rfl rfl hl.1 rfl (lv_room (Nat.le_of_ble_eq_true rfl)) dX13_linking_7 ⟨(Nat.le_of_ble_eq_true rfl), (Nat.le_of_ble_eq_true rfl)⟩) hS (fun q _ h => h.elim) (fun q h => h.elim) (fun r9 un t H1 locs ht hvm hw hB hz1 hk1 hS => ?_)
  obtain rfl : r9 = 0 := hw
  have hP := hP.kept (fun k9 x9 h9 => hk1 x9.1 ((hP k9 x9 h9).lt) id)
  generalize H1 = H at hP hS ⊢
  refine lv_if_ne (tgt := 19) hx hb dX13_linking_10 (by decide) (fun c9 => absurd c9 (by decide)) (fun _ => ?_)
  refine lv_aload_n hx hb dX13_linking_13 rfl (lv_at hl 0 rfl) ?_
  refine lv_iconst (v := 1) hx hb dX13_linking_14 (by decide) ?_
  have hPc := hP.sub (ws' := [(h0, .inr (16, fs1))]) [0] rfl
  have hDc := hD.sub (ws' := [(h0, .inr (16, fs1))]) [0] (by decide) rfl
  have hFc := va_free (wc := [(h0, .inr (16, fs1))]) hD hS hA [0] rfl
  refine va_calli (va_runV (As := [.int 1]) (rest := []) ⟨hx, hb, hml, hown, hts⟩ (kf_X13_fails l dC dI cI cB cJ cZ h0 H.size fs1 hnfs1 1) (cwV 1 hts gf_X13_linking_b rfl rfl rfl (by decide +kernel) ⟨(Nat.le_of_ble_eq_true rfl), (Nat.le_of_ble_eq_true rfl)⟩) ⟨fun a U g mk q => by obtain ⟨q0, q1, qP, qK, qD⟩ := q; exact ⟨q0, q1, qP, va_K.moved (u := U) (U := U.calling g mk a) (Vm.Alike.refl U.vm) qK, qD⟩, va_recv hK hPc (ci := 16) (q0 := 0) rfl rfl, fun U hU hW => ⟨rfl, by rw [hU], by rw [hU]; exact hPc, va_K.moved hW.alike hK, hDc.weaken (fun _ _ _ _ => trivial)⟩⟩ rfl rfl hl.1 rfl (lv_room (Nat.le_of_ble_eq_true rfl)) dX13_linking_15 ⟨(Nat.le_of_ble_eq_true rfl), (Nat.le_of_ble_eq_true rfl)⟩) hS (fun q _ h => hFc q h) hFc (fun r9 gs t H1 locs ht hvm hw hB hz1 hk1 hS => ?_)
  obtain ⟨hP1, hD1⟩ := hB
  rw [ht] at hP1
  obtain ⟨hr0, hg0⟩ := hw
  subst hr0
  obtain ⟨hP, hD⟩ := va_join (wr := [(ar, .inl (cI, 1280, .inl (fun _ => 0)))]) (w1 := [(h0, .inr (16, gs))]) hP hD [0] [1] rfl rfl (by decide) (by decide) hk1 hFc hP1 hD1
  generalize H1 = H at hP hS ⊢
  have hP : va_P (dC, dI) vwCl [(ar, .inl (cI, 1280, .inl (fun _ => 0))), (h0, .inr (16, gs))] H := hP
  have hD : va_D A [(ar, .inl (cI, 1280, .inl (fun _ => 0))), (h0, .inr (16, gs))] := hD
  have hP := hP.sub (ws' := [(h0, .inr (16, gs))]) [1] rfl
  have hD := hD.sub (ws' := [(h0, .inr (16, gs))]) [1] (by decide) rfl
  rw [hQQ]
  exact W.iret (v := 0) hx hb hr (fun t ht hW => ⟨⟨0, gs, rfl, ⟨rfl, hg0⟩, by rw [ht]; exact hP, hD⟩, hS.F ht⟩) hS.2.2 dX13_linking_18
theorem dX13_mirror_0 : decode cX13_mirror 0 = .ok (.aload_n 0, 1) := by decide +kernel
theorem dX13_mirror_1 : decode cX13_mirror 1 = .ok (.iconst 0, 1) := by decide +kernel
theorem dX13_mirror_2 : decode cX13_mirror 2 = .ok (.putfield 1, 3) := by decide +kernel
theorem dX13_mirror_5 : decode cX13_mirror 5 = .ok (.aload_n 0, 1) := by decide +kernel
theorem dX13_mirror_6 : decode cX13_mirror 6 = .ok (.iload_n 1, 1) := by decide +kernel
theorem dX13_mirror_7 : decode cX13_mirror 7 = .ok (.invokevirtual 423, 3) := by decide +kernel
theorem dX13_mirror_10 : decode cX13_mirror 10 = .ok (.ifCond .ne 9, 3) := by decide +kernel
theorem dX13_mirror_13 : decode cX13_mirror 13 = .ok (.aload_n 0, 1) := by decide +kernel
theorem dX13_mirror_14 : decode cX13_mirror 14 = .ok (.iconst 1, 1) := by decide +kernel
theorem dX13_mirror_15 : decode cX13_mirror 15 = .ok (.invokevirtual 403, 3) := by decide +kernel
theorem dX13_mirror_18 : decode cX13_mirror 18 = .ok (.ireturn, 1) := by decide +kernel
theorem dX13_mirror_19 : decode cX13_mirror 19 = .ok (.aload_n 0, 1) := by decide +kernel
def wf_M_mirror : List Cond := .code yX13_mirror cX13_mirror 3 (some .int) :: ([.fieldLink RX13 1 "KnotHouseModel" "thrown" "I"] ++ wsX130 ++ (wsV RX13 423 RX13 yX13_has wf_Mhas ++ wsV RX13 403 RX13 yX13_fails wf_Mfails))
theorem gf_X13_mirror_a : GoodIn wf_M_mirror (wsV RX13 423 RX13 yX13_has wf_Mhas) := goodIn_sub (fun _ h => List.mem_cons_of_mem _ (List.mem_append_right _ (List.mem_append_left _ h))) (by decide +kernel)
theorem gf_X13_mirror_b : GoodIn wf_M_mirror (wsV RX13 403 RX13 yX13_fails wf_Mfails) := goodIn_sub (fun _ h => List.mem_cons_of_mem _ (List.mem_append_right _ (List.mem_append_right _ h))) (by decide +kernel)
set_option maxHeartbeats 4000000 in
set_option maxRecDepth 100000 in
theorem kf_X13_mirror (l : Launch) (dC : Nat → ClassId) (dI : Nat → Nat → Nat) (cI cB cJ cZ : ClassId) (h0 ar sz : Nat) (fs : List Value) (hfs : fs.length = 120) (hk : fs[11]? = some (.ref ar)) (p0 : Int32) : Met l yX13_mirror wf_M_mirror (({ frames := 1, cells := 0, slots := 0, locals := 21 } : Room)) (va_Pc [.ref h0, .int p0] (fun U => U.heap.size = sz ∧ va_P (dC, dI) vwCl [(h0, .inr (16, fs)), (ar, .inl (cI, 1280, .inl (fun _ => 0)))] U.heap ∧ va_K (dC, dI) vwCl [(cI, .int), (cB, .byte), (cJ, .long), (cZ, .boolean)] U ∧ va_D (fun _ => True) [(h0, .inr (16, fs)), (ar, .inl (cI, 1280, .inl (fun _ => 0)))])) (va_Qi (fun r (g : List Value) => r = 0 ∧ g[0]? = some (.int 1)) (fun g t => va_P (dC, dI) vwCl [(h0, .inr (16, g))] t.heap ∧ va_D (va_A [(h0, .inr (16, fs)), (ar, .inl (cI, 1280, .inl (fun _ => 0)))] sz) [(h0, .inr (16, g))]) (va_A [(h0, .inr (16, fs)), (ar, .inl (cI, 1280, .inl (fun _ => 0)))] sz)) 0 0 (va_A [(h0, .inr (16, fs)), (ar, .inl (cI, 1280, .inl (fun _ => 0)))] sz) := by
  refine Met.ofW (cc := cX13_mirror) (maxL := 3) (ret := (some .int)) (by decide) rfl ?_
  intro p e s m args below meth c s₁ B hml hv
  obtain ⟨rfl, hsz, hP, hK, hD0⟩ := hv
  have hx := B.exec
  have hb := B.bytes
  have hr := B.returns
  have hts := atoms_spec (ws := wf_M_mirror) B.pre
  have hown : s.vm.findClass RX13 = some m.cls := findClass_of_methodNamed B.named
  have hlocks := B.notSynchronized
  subst hsz
  have hD := hD0.self (sz := s.heap.size)
  generalize hAe : va_A [(h0, .inr (16, fs)), (ar, .inl (cI, 1280, .inl (fun _ => 0)))] s.heap.size = A at hD ⊢
  have hA : ∀ q : Nat, s.heap.size ≤ q → A q := fun q h => by rw [← hAe]; exact Or.inr h
  have hS : va_S A s.heap s.heap [] := va_S.rf
  have hP : va_P (dC, dI) vwCl [(h0, .inr (16, fs)), (ar, .inl (cI, 1280, .inl (fun _ => 0)))] s.heap := hP
  have hl := lv_entry ([.ref h0, .int p0]) (n := 3) (Nat.le_of_ble_eq_true rfl)
  rw [lg_entry_eq]
  generalize (lg_sl ([.ref h0, .int p0]) ++ List.replicate (3 - (lg_sl ([.ref h0, .int p0])).length) Slot.unset).toArray = ls at hl ⊢
  have hl : lv_has ls 3 [(0, .ref h0), (1, .int p0)] := hl
  refine ow_named (fun QQ hQQ => ?_)
  refine lv_aload_n hx hb dX13_mirror_0 rfl (lv_at hl 0 rfl) ?_
  refine lv_iconst (v := 0) hx hb dX13_mirror_1 (by decide) ?_
  refine va_put (D := (dC, dI)) (ci := 16) (v := .int 0) (ty := .int) (C := RX13) (T := TX13) (N := 120) hx hb hts (fun _ h => List.mem_cons_of_mem _ (List.mem_append_left _ (List.mem_append_right _ h))) tyX13 tyX13_ok nmX13 hown hK hP hD hS 0 rfl rfl 0 (by decide) (hts (.fieldLink RX13 1 "KnotHouseModel" "thrown" "I") (by decide +kernel)) (fun _ h9 => h9) rfl (by decide +kernel) rfl rfl (by rw [hfs]; decide) dX13_mirror_2 (fun H locs hP hD hS => ?_)
  obtain ⟨fs1, efs1⟩ : ∃ x, x = List.set fs 0 (.int 0) := ⟨_, rfl⟩
  have hnfs1 : fs1.length = 120 := by rw [efs1, List.length_set]; exact hfs
  have hfs1_11 : fs1[11]? = some (.ref ar) := by rw [efs1, List.getElem?_set_ne (by decide)]; exact hk
  have hfs1_0 : fs1[0]? = some (.int 0) := by rw [efs1]; exact List.getElem?_set_self (by rw [hfs]; decide)
  have hP : va_P (dC, dI) vwCl [(h0, .inr (16, fs1)), (ar, .inl (cI, 1280, .inl (fun _ => 0)))] H := by rw [efs1]; exact hP
  have hD : va_D A [(h0, .inr (16, fs1)), (ar, .inl (cI, 1280, .inl (fun _ => 0)))] := by rw [efs1]; exact hD
  refine lv_aload_n hx hb dX13_mirror_5 rfl (lv_at hl 0 rfl) ?_
  refine lv_iload_n hx hb dX13_mirror_6 rfl (lv_at hl 1 rfl) ?_
  have hPc := hP.sub (ws' := [(h0, .inr (16, fs1)), (ar, .inl (cI, 1280, .inl (fun _ => 0)))]) [0, 1] rfl
  refine va_calli (va_runV (As := [.int p0]) (rest := []) ⟨hx, hb, hml, hown, hts⟩ (kf_X13_has l dC dI cI cB cJ cZ h0 ar fs1 hnfs1 hfs1_11 p0) (cwV 1 hts gf_X13_mirror_a rfl rfl rfl (by decide +kernel) ⟨(Nat.le_of_ble_eq_true rfl), (Nat.le_of_ble_eq_true rfl)⟩) ⟨fun a U g mk q => by obtain ⟨q0, qP, qK⟩ := q; exact ⟨q0, qP, va_K.moved (u := U) (U := U.calling g mk a) (Vm.Alike.refl U.vm) qK⟩, va_recv hK hPc (ci := 16) (q0 := 0) rfl rfl, fun U hU hW => ⟨rfl, by rw [hU]; exact hPc, va_K.moved hW.alike hK⟩⟩ rfl rfl hl.1 rfl (lv_room (Nat.le_of_ble_eq_true rfl)) dX13_mirror_7 ⟨(Nat.le_of_ble_eq_true rfl), (Nat.le_of_ble_eq_true rfl)⟩) hS (fun q _ h => h.elim) (fun q h => h.elim) (fun r9 un t H1 locs ht hvm hw hB hz1 hk1 hS => ?_)
  obtain rfl : r9 = 0 := hw
  have hP := hP.kept (fun k9 x9 h9 => hk1 x9.1 ((hP k9 x9 h9).lt) id)
  generalize H1 = H at hP hS ⊢
  refine lv_if_ne (tgt := 19) hx hb dX13_mirror_10 (by decide) (fun c9 => absurd c9 (by decide)) (fun _ => ?_)
  refine lv_aload_n hx hb dX13_mirror_13 rfl (lv_at hl 0 rfl) ?_
  refine lv_iconst (v := 1) hx hb dX13_mirror_14 (by decide) ?_
  have hPc := hP.sub (ws' := [(h0, .inr (16, fs1))]) [0] rfl
  have hDc := hD.sub (ws' := [(h0, .inr (16, fs1))]) [0] (by decide) rfl
  have hFc := va_free (wc := [(h0, .inr (16, fs1))]) hD hS hA [0] rfl
  refine va_calli (va_runV (As := [.int 1]) (rest := []) ⟨hx, hb, hml, hown, hts⟩ (kf_X13_fails l dC dI cI cB cJ cZ h0 H.size fs1 hnfs1 1) (cwV 1 hts gf_X13_mirror_b rfl rfl rfl (by decide +kernel) ⟨(Nat.le_of_ble_eq_true rfl), (Nat.le_of_ble_eq_true rfl)⟩) ⟨fun a U g mk q => by obtain ⟨q0, q1, qP, qK, qD⟩ := q; exact ⟨q0, q1, qP, va_K.moved (u := U) (U := U.calling g mk a) (Vm.Alike.refl U.vm) qK, qD⟩, va_recv hK hPc (ci := 16) (q0 := 0) rfl rfl, fun U hU hW => ⟨rfl, by rw [hU], by rw [hU]; exact hPc, va_K.moved hW.alike hK, hDc.weaken (fun _ _ _ _ => trivial)⟩⟩ rfl rfl hl.1 rfl (lv_room (Nat.le_of_ble_eq_true rfl)) dX13_mirror_15 ⟨(Nat.le_of_ble_eq_true rfl), (Nat.le_of_ble_eq_true rfl)⟩) hS (fun q _ h => hFc q h) hFc (fun r9 gs t H1 locs ht hvm hw hB hz1 hk1 hS => ?_)
  obtain ⟨hP1, hD1⟩ := hB
  rw [ht] at hP1
  obtain ⟨hr0, hg0⟩ := hw
  subst hr0
  obtain ⟨hP, hD⟩ := va_join (wr := [(ar, .inl (cI, 1280, .inl (fun _ => 0)))]) (w1 := [(h0, .inr (16, gs))]) hP hD [0] [1] rfl rfl (by decide) (by decide) hk1 hFc hP1 hD1
  generalize H1 = H at hP hS ⊢
  have hP : va_P (dC, dI) vwCl [(ar, .inl (cI, 1280, .inl (fun _ => 0))), (h0, .inr (16, gs))] H := hP
  have hD : va_D A [(ar, .inl (cI, 1280, .inl (fun _ => 0))), (h0, .inr (16, gs))] := hD
  have hP := hP.sub (ws' := [(h0, .inr (16, gs))]) [1] rfl
  have hD := hD.sub (ws' := [(h0, .inr (16, gs))]) [1] (by decide) rfl
  rw [hQQ]
  exact W.iret (v := 0) hx hb hr (fun t ht hW => ⟨⟨0, gs, rfl, ⟨rfl, hg0⟩, by rw [ht]; exact hP, hD⟩, hS.F ht⟩) hS.2.2 dX13_mirror_18
theorem dX13_reverse_0 : decode cX13_reverse 0 = .ok (.aload_n 0, 1) := by decide +kernel
theorem dX13_reverse_1 : decode cX13_reverse 1 = .ok (.iconst 0, 1) := by decide +kernel
theorem dX13_reverse_2 : decode cX13_reverse 2 = .ok (.putfield 1, 3) := by decide +kernel
theorem dX13_reverse_5 : decode cX13_reverse 5 = .ok (.aload_n 0, 1) := by decide +kernel
theorem dX13_reverse_6 : decode cX13_reverse 6 = .ok (.iload_n 1, 1) := by decide +kernel
theorem dX13_reverse_7 : decode cX13_reverse 7 = .ok (.invokevirtual 423, 3) := by decide +kernel
theorem dX13_reverse_10 : decode cX13_reverse 10 = .ok (.ifCond .ne 9, 3) := by decide +kernel
theorem dX13_reverse_13 : decode cX13_reverse 13 = .ok (.aload_n 0, 1) := by decide +kernel
theorem dX13_reverse_14 : decode cX13_reverse 14 = .ok (.iconst 1, 1) := by decide +kernel
theorem dX13_reverse_15 : decode cX13_reverse 15 = .ok (.invokevirtual 403, 3) := by decide +kernel
theorem dX13_reverse_18 : decode cX13_reverse 18 = .ok (.ireturn, 1) := by decide +kernel
theorem dX13_reverse_19 : decode cX13_reverse 19 = .ok (.aload_n 0, 1) := by decide +kernel
def wf_M_reverse : List Cond := .code yX13_reverse cX13_reverse 7 (some .int) :: ([.fieldLink RX13 1 "KnotHouseModel" "thrown" "I"] ++ wsX130 ++ (wsV RX13 423 RX13 yX13_has wf_Mhas ++ wsV RX13 403 RX13 yX13_fails wf_Mfails))
theorem gf_X13_reverse_a : GoodIn wf_M_reverse (wsV RX13 423 RX13 yX13_has wf_Mhas) := goodIn_sub (fun _ h => List.mem_cons_of_mem _ (List.mem_append_right _ (List.mem_append_left _ h))) (by decide +kernel)
theorem gf_X13_reverse_b : GoodIn wf_M_reverse (wsV RX13 403 RX13 yX13_fails wf_Mfails) := goodIn_sub (fun _ h => List.mem_cons_of_mem _ (List.mem_append_right _ (List.mem_append_right _ h))) (by decide +kernel)
set_option maxHeartbeats 4000000 in
set_option maxRecDepth 100000 in
theorem kf_X13_reverse (l : Launch) (dC : Nat → ClassId) (dI : Nat → Nat → Nat) (cI cB cJ cZ : ClassId) (h0 ar sz : Nat) (fs : List Value) (hfs : fs.length = 120) (hk : fs[11]? = some (.ref ar)) (p0 p1 : Int32) : Met l yX13_reverse wf_M_reverse (({ frames := 1, cells := 0, slots := 0, locals := 21 } : Room)) (va_Pc [.ref h0, .int p0, .int p1] (fun U => U.heap.size = sz ∧ va_P (dC, dI) vwCl [(h0, .inr (16, fs)), (ar, .inl (cI, 1280, .inl (fun _ => 0)))] U.heap ∧ va_K (dC, dI) vwCl [(cI, .int), (cB, .byte), (cJ, .long), (cZ, .boolean)] U ∧ va_D (fun _ => True) [(h0, .inr (16, fs)), (ar, .inl (cI, 1280, .inl (fun _ => 0)))])) (va_Qi (fun r (g : List Value) => r = 0 ∧ g[0]? = some (.int 1)) (fun g t => va_P (dC, dI) vwCl [(h0, .inr (16, g))] t.heap ∧ va_D (va_A [(h0, .inr (16, fs)), (ar, .inl (cI, 1280, .inl (fun _ => 0)))] sz) [(h0, .inr (16, g))]) (va_A [(h0, .inr (16, fs)), (ar, .inl (cI, 1280, .inl (fun _ => 0)))] sz)) 0 0 (va_A [(h0, .inr (16, fs)), (ar, .inl (cI, 1280, .inl (fun _ => 0)))] sz) := by
  refine Met.ofW (cc := cX13_reverse) (maxL := 7) (ret := (some .int)) (by decide) rfl ?_
  intro p e s m args below meth c s₁ B hml hv
  obtain ⟨rfl, hsz, hP, hK, hD0⟩ := hv
  have hx := B.exec
  have hb := B.bytes
  have hr := B.returns
  have hts := atoms_spec (ws := wf_M_reverse) B.pre
  have hown : s.vm.findClass RX13 = some m.cls := findClass_of_methodNamed B.named
  have hlocks := B.notSynchronized
  subst hsz
  have hD := hD0.self (sz := s.heap.size)
  generalize hAe : va_A [(h0, .inr (16, fs)), (ar, .inl (cI, 1280, .inl (fun _ => 0)))] s.heap.size = A at hD ⊢
  have hA : ∀ q : Nat, s.heap.size ≤ q → A q := fun q h => by rw [← hAe]; exact Or.inr h
  have hS : va_S A s.heap s.heap [] := va_S.rf
  have hP : va_P (dC, dI) vwCl [(h0, .inr (16, fs)), (ar, .inl (cI, 1280, .inl (fun _ => 0)))] s.heap := hP
  have hl := lv_entry ([.ref h0, .int p0, .int p1]) (n := 7) (Nat.le_of_ble_eq_true rfl)
  rw [lg_entry_eq]
  generalize (lg_sl ([.ref h0, .int p0, .int p1]) ++ List.replicate (7 - (lg_sl ([.ref h0, .int p0, .int p1])).length) Slot.unset).toArray = ls at hl ⊢
  have hl : lv_has ls 7 [(0, .ref h0), (1, .int p0), (2, .int p1)] := hl
  refine ow_named (fun QQ hQQ => ?_)
  refine lv_aload_n hx hb dX13_reverse_0 rfl (lv_at hl 0 rfl) ?_
  refine lv_iconst (v := 0) hx hb dX13_reverse_1 (by decide) ?_
  refine va_put (D := (dC, dI)) (ci := 16) (v := .int 0) (ty := .int) (C := RX13) (T := TX13) (N := 120) hx hb hts (fun _ h => List.mem_cons_of_mem _ (List.mem_append_left _ (List.mem_append_right _ h))) tyX13 tyX13_ok nmX13 hown hK hP hD hS 0 rfl rfl 0 (by decide) (hts (.fieldLink RX13 1 "KnotHouseModel" "thrown" "I") (by decide +kernel)) (fun _ h9 => h9) rfl (by decide +kernel) rfl rfl (by rw [hfs]; decide) dX13_reverse_2 (fun H locs hP hD hS => ?_)
  obtain ⟨fs1, efs1⟩ : ∃ x, x = List.set fs 0 (.int 0) := ⟨_, rfl⟩
  have hnfs1 : fs1.length = 120 := by rw [efs1, List.length_set]; exact hfs
  have hfs1_11 : fs1[11]? = some (.ref ar) := by rw [efs1, List.getElem?_set_ne (by decide)]; exact hk
  have hfs1_0 : fs1[0]? = some (.int 0) := by rw [efs1]; exact List.getElem?_set_self (by rw [hfs]; decide)
  have hP : va_P (dC, dI) vwCl [(h0, .inr (16, fs1)), (ar, .inl (cI, 1280, .inl (fun _ => 0)))] H := by rw [efs1]; exact hP
  have hD : va_D A [(h0, .inr (16, fs1)), (ar, .inl (cI, 1280, .inl (fun _ => 0)))] := by rw [efs1]; exact hD
  refine lv_aload_n hx hb dX13_reverse_5 rfl (lv_at hl 0 rfl) ?_
  refine lv_iload_n hx hb dX13_reverse_6 rfl (lv_at hl 1 rfl) ?_
  have hPc := hP.sub (ws' := [(h0, .inr (16, fs1)), (ar, .inl (cI, 1280, .inl (fun _ => 0)))]) [0, 1] rfl
  refine va_calli (va_runV (As := [.int p0]) (rest := []) ⟨hx, hb, hml, hown, hts⟩ (kf_X13_has l dC dI cI cB cJ cZ h0 ar fs1 hnfs1 hfs1_11 p0) (cwV 1 hts gf_X13_reverse_a rfl rfl rfl (by decide +kernel) ⟨(Nat.le_of_ble_eq_true rfl), (Nat.le_of_ble_eq_true rfl)⟩) ⟨fun a U g mk q => by obtain ⟨q0, qP, qK⟩ := q; exact ⟨q0, qP, va_K.moved (u := U) (U := U.calling g mk a) (Vm.Alike.refl U.vm) qK⟩, va_recv hK hPc (ci := 16) (q0 := 0) rfl rfl, fun U hU hW => ⟨rfl, by rw [hU]; exact hPc, va_K.moved hW.alike hK⟩⟩ rfl rfl hl.1 rfl (lv_room (Nat.le_of_ble_eq_true rfl)) dX13_reverse_7 ⟨(Nat.le_of_ble_eq_true rfl), (Nat.le_of_ble_eq_true rfl)⟩) hS (fun q _ h => h.elim) (fun q h => h.elim) (fun r9 un t H1 locs ht hvm hw hB hz1 hk1 hS => ?_)
  obtain rfl : r9 = 0 := hw
  have hP := hP.kept (fun k9 x9 h9 => hk1 x9.1 ((hP k9 x9 h9).lt) id)
  generalize H1 = H at hP hS ⊢
  refine lv_if_ne (tgt := 19) hx hb dX13_reverse_10 (by decide) (fun c9 => absurd c9 (by decide)) (fun _ => ?_)
  refine lv_aload_n hx hb dX13_reverse_13 rfl (lv_at hl 0 rfl) ?_
  refine lv_iconst (v := 1) hx hb dX13_reverse_14 (by decide) ?_
  have hPc := hP.sub (ws' := [(h0, .inr (16, fs1))]) [0] rfl
  have hDc := hD.sub (ws' := [(h0, .inr (16, fs1))]) [0] (by decide) rfl
  have hFc := va_free (wc := [(h0, .inr (16, fs1))]) hD hS hA [0] rfl
  refine va_calli (va_runV (As := [.int 1]) (rest := []) ⟨hx, hb, hml, hown, hts⟩ (kf_X13_fails l dC dI cI cB cJ cZ h0 H.size fs1 hnfs1 1) (cwV 1 hts gf_X13_reverse_b rfl rfl rfl (by decide +kernel) ⟨(Nat.le_of_ble_eq_true rfl), (Nat.le_of_ble_eq_true rfl)⟩) ⟨fun a U g mk q => by obtain ⟨q0, q1, qP, qK, qD⟩ := q; exact ⟨q0, q1, qP, va_K.moved (u := U) (U := U.calling g mk a) (Vm.Alike.refl U.vm) qK, qD⟩, va_recv hK hPc (ci := 16) (q0 := 0) rfl rfl, fun U hU hW => ⟨rfl, by rw [hU], by rw [hU]; exact hPc, va_K.moved hW.alike hK, hDc.weaken (fun _ _ _ _ => trivial)⟩⟩ rfl rfl hl.1 rfl (lv_room (Nat.le_of_ble_eq_true rfl)) dX13_reverse_15 ⟨(Nat.le_of_ble_eq_true rfl), (Nat.le_of_ble_eq_true rfl)⟩) hS (fun q _ h => hFc q h) hFc (fun r9 gs t H1 locs ht hvm hw hB hz1 hk1 hS => ?_)
  obtain ⟨hP1, hD1⟩ := hB
  rw [ht] at hP1
  obtain ⟨hr0, hg0⟩ := hw
  subst hr0
  obtain ⟨hP, hD⟩ := va_join (wr := [(ar, .inl (cI, 1280, .inl (fun _ => 0)))]) (w1 := [(h0, .inr (16, gs))]) hP hD [0] [1] rfl rfl (by decide) (by decide) hk1 hFc hP1 hD1
  generalize H1 = H at hP hS ⊢
  have hP : va_P (dC, dI) vwCl [(ar, .inl (cI, 1280, .inl (fun _ => 0))), (h0, .inr (16, gs))] H := hP
  have hD : va_D A [(ar, .inl (cI, 1280, .inl (fun _ => 0))), (h0, .inr (16, gs))] := hD
  have hP := hP.sub (ws' := [(h0, .inr (16, gs))]) [1] rfl
  have hD := hD.sub (ws' := [(h0, .inr (16, gs))]) [1] (by decide) rfl
  rw [hQQ]
  exact W.iret (v := 0) hx hb hr (fun t ht hW => ⟨⟨0, gs, rfl, ⟨rfl, hg0⟩, by rw [ht]; exact hP, hD⟩, hS.F ht⟩) hS.2.2 dX13_reverse_18
theorem dX13_change_0 : decode cX13_change 0 = .ok (.aload_n 0, 1) := by decide +kernel
theorem dX13_change_1 : decode cX13_change 1 = .ok (.iconst 0, 1) := by decide +kernel
theorem dX13_change_2 : decode cX13_change 2 = .ok (.putfield 1, 3) := by decide +kernel
theorem dX13_change_5 : decode cX13_change 5 = .ok (.aload_n 0, 1) := by decide +kernel
theorem dX13_change_6 : decode cX13_change 6 = .ok (.iload_n 1, 1) := by decide +kernel
theorem dX13_change_7 : decode cX13_change 7 = .ok (.invokevirtual 423, 3) := by decide +kernel
theorem dX13_change_10 : decode cX13_change 10 = .ok (.ifCond .ne 9, 3) := by decide +kernel
theorem dX13_change_13 : decode cX13_change 13 = .ok (.aload_n 0, 1) := by decide +kernel
theorem dX13_change_14 : decode cX13_change 14 = .ok (.iconst 1, 1) := by decide +kernel
theorem dX13_change_15 : decode cX13_change 15 = .ok (.invokevirtual 403, 3) := by decide +kernel
theorem dX13_change_18 : decode cX13_change 18 = .ok (.ireturn, 1) := by decide +kernel
theorem dX13_change_19 : decode cX13_change 19 = .ok (.aload_n 0, 1) := by decide +kernel
def wf_M_change : List Cond := .code yX13_change cX13_change 3 (some .int) :: ([.fieldLink RX13 1 "KnotHouseModel" "thrown" "I"] ++ wsX130 ++ (wsV RX13 423 RX13 yX13_has wf_Mhas ++ wsV RX13 403 RX13 yX13_fails wf_Mfails))
theorem gf_X13_change_a : GoodIn wf_M_change (wsV RX13 423 RX13 yX13_has wf_Mhas) := goodIn_sub (fun _ h => List.mem_cons_of_mem _ (List.mem_append_right _ (List.mem_append_left _ h))) (by decide +kernel)
theorem gf_X13_change_b : GoodIn wf_M_change (wsV RX13 403 RX13 yX13_fails wf_Mfails) := goodIn_sub (fun _ h => List.mem_cons_of_mem _ (List.mem_append_right _ (List.mem_append_right _ h))) (by decide +kernel)
set_option maxHeartbeats 4000000 in
set_option maxRecDepth 100000 in
theorem kf_X13_change (l : Launch) (dC : Nat → ClassId) (dI : Nat → Nat → Nat) (cI cB cJ cZ : ClassId) (h0 ar sz : Nat) (fs : List Value) (hfs : fs.length = 120) (hk : fs[11]? = some (.ref ar)) (p0 p1 : Int32) : Met l yX13_change wf_M_change (({ frames := 1, cells := 0, slots := 0, locals := 21 } : Room)) (va_Pc [.ref h0, .int p0, .int p1] (fun U => U.heap.size = sz ∧ va_P (dC, dI) vwCl [(h0, .inr (16, fs)), (ar, .inl (cI, 1280, .inl (fun _ => 0)))] U.heap ∧ va_K (dC, dI) vwCl [(cI, .int), (cB, .byte), (cJ, .long), (cZ, .boolean)] U ∧ va_D (fun _ => True) [(h0, .inr (16, fs)), (ar, .inl (cI, 1280, .inl (fun _ => 0)))])) (va_Qi (fun r (g : List Value) => r = 0 ∧ g[0]? = some (.int 1)) (fun g t => va_P (dC, dI) vwCl [(h0, .inr (16, g))] t.heap ∧ va_D (va_A [(h0, .inr (16, fs)), (ar, .inl (cI, 1280, .inl (fun _ => 0)))] sz) [(h0, .inr (16, g))]) (va_A [(h0, .inr (16, fs)), (ar, .inl (cI, 1280, .inl (fun _ => 0)))] sz)) 0 0 (va_A [(h0, .inr (16, fs)), (ar, .inl (cI, 1280, .inl (fun _ => 0)))] sz) := by
  refine Met.ofW (cc := cX13_change) (maxL := 3) (ret := (some .int)) (by decide) rfl ?_
  intro p e s m args below meth c s₁ B hml hv
  obtain ⟨rfl, hsz, hP, hK, hD0⟩ := hv
  have hx := B.exec
  have hb := B.bytes
  have hr := B.returns
  have hts := atoms_spec (ws := wf_M_change) B.pre
  have hown : s.vm.findClass RX13 = some m.cls := findClass_of_methodNamed B.named
  have hlocks := B.notSynchronized
  subst hsz
  have hD := hD0.self (sz := s.heap.size)
  generalize hAe : va_A [(h0, .inr (16, fs)), (ar, .inl (cI, 1280, .inl (fun _ => 0)))] s.heap.size = A at hD ⊢
  have hA : ∀ q : Nat, s.heap.size ≤ q → A q := fun q h => by rw [← hAe]; exact Or.inr h
  have hS : va_S A s.heap s.heap [] := va_S.rf
  have hP : va_P (dC, dI) vwCl [(h0, .inr (16, fs)), (ar, .inl (cI, 1280, .inl (fun _ => 0)))] s.heap := hP
  have hl := lv_entry ([.ref h0, .int p0, .int p1]) (n := 3) (Nat.le_of_ble_eq_true rfl)
  rw [lg_entry_eq]
  generalize (lg_sl ([.ref h0, .int p0, .int p1]) ++ List.replicate (3 - (lg_sl ([.ref h0, .int p0, .int p1])).length) Slot.unset).toArray = ls at hl ⊢
  have hl : lv_has ls 3 [(0, .ref h0), (1, .int p0), (2, .int p1)] := hl
  refine ow_named (fun QQ hQQ => ?_)
  refine lv_aload_n hx hb dX13_change_0 rfl (lv_at hl 0 rfl) ?_
  refine lv_iconst (v := 0) hx hb dX13_change_1 (by decide) ?_
  refine va_put (D := (dC, dI)) (ci := 16) (v := .int 0) (ty := .int) (C := RX13) (T := TX13) (N := 120) hx hb hts (fun _ h => List.mem_cons_of_mem _ (List.mem_append_left _ (List.mem_append_right _ h))) tyX13 tyX13_ok nmX13 hown hK hP hD hS 0 rfl rfl 0 (by decide) (hts (.fieldLink RX13 1 "KnotHouseModel" "thrown" "I") (by decide +kernel)) (fun _ h9 => h9) rfl (by decide +kernel) rfl rfl (by rw [hfs]; decide) dX13_change_2 (fun H locs hP hD hS => ?_)
  obtain ⟨fs1, efs1⟩ : ∃ x, x = List.set fs 0 (.int 0) := ⟨_, rfl⟩
  have hnfs1 : fs1.length = 120 := by rw [efs1, List.length_set]; exact hfs
  have hfs1_11 : fs1[11]? = some (.ref ar) := by rw [efs1, List.getElem?_set_ne (by decide)]; exact hk
  have hfs1_0 : fs1[0]? = some (.int 0) := by rw [efs1]; exact List.getElem?_set_self (by rw [hfs]; decide)
  have hP : va_P (dC, dI) vwCl [(h0, .inr (16, fs1)), (ar, .inl (cI, 1280, .inl (fun _ => 0)))] H := by rw [efs1]; exact hP
  have hD : va_D A [(h0, .inr (16, fs1)), (ar, .inl (cI, 1280, .inl (fun _ => 0)))] := by rw [efs1]; exact hD
  refine lv_aload_n hx hb dX13_change_5 rfl (lv_at hl 0 rfl) ?_
  refine lv_iload_n hx hb dX13_change_6 rfl (lv_at hl 1 rfl) ?_
  have hPc := hP.sub (ws' := [(h0, .inr (16, fs1)), (ar, .inl (cI, 1280, .inl (fun _ => 0)))]) [0, 1] rfl
  refine va_calli (va_runV (As := [.int p0]) (rest := []) ⟨hx, hb, hml, hown, hts⟩ (kf_X13_has l dC dI cI cB cJ cZ h0 ar fs1 hnfs1 hfs1_11 p0) (cwV 1 hts gf_X13_change_a rfl rfl rfl (by decide +kernel) ⟨(Nat.le_of_ble_eq_true rfl), (Nat.le_of_ble_eq_true rfl)⟩) ⟨fun a U g mk q => by obtain ⟨q0, qP, qK⟩ := q; exact ⟨q0, qP, va_K.moved (u := U) (U := U.calling g mk a) (Vm.Alike.refl U.vm) qK⟩, va_recv hK hPc (ci := 16) (q0 := 0) rfl rfl, fun U hU hW => ⟨rfl, by rw [hU]; exact hPc, va_K.moved hW.alike hK⟩⟩ rfl rfl hl.1 rfl (lv_room (Nat.le_of_ble_eq_true rfl)) dX13_change_7 ⟨(Nat.le_of_ble_eq_true rfl), (Nat.le_of_ble_eq_true rfl)⟩) hS (fun q _ h => h.elim) (fun q h => h.elim) (fun r9 un t H1 locs ht hvm hw hB hz1 hk1 hS => ?_)
  obtain rfl : r9 = 0 := hw
  have hP := hP.kept (fun k9 x9 h9 => hk1 x9.1 ((hP k9 x9 h9).lt) id)
  generalize H1 = H at hP hS ⊢
  refine lv_if_ne (tgt := 19) hx hb dX13_change_10 (by decide) (fun c9 => absurd c9 (by decide)) (fun _ => ?_)
  refine lv_aload_n hx hb dX13_change_13 rfl (lv_at hl 0 rfl) ?_
  refine lv_iconst (v := 1) hx hb dX13_change_14 (by decide) ?_
  have hPc := hP.sub (ws' := [(h0, .inr (16, fs1))]) [0] rfl
  have hDc := hD.sub (ws' := [(h0, .inr (16, fs1))]) [0] (by decide) rfl
  have hFc := va_free (wc := [(h0, .inr (16, fs1))]) hD hS hA [0] rfl
  refine va_calli (va_runV (As := [.int 1]) (rest := []) ⟨hx, hb, hml, hown, hts⟩ (kf_X13_fails l dC dI cI cB cJ cZ h0 H.size fs1 hnfs1 1) (cwV 1 hts gf_X13_change_b rfl rfl rfl (by decide +kernel) ⟨(Nat.le_of_ble_eq_true rfl), (Nat.le_of_ble_eq_true rfl)⟩) ⟨fun a U g mk q => by obtain ⟨q0, q1, qP, qK, qD⟩ := q; exact ⟨q0, q1, qP, va_K.moved (u := U) (U := U.calling g mk a) (Vm.Alike.refl U.vm) qK, qD⟩, va_recv hK hPc (ci := 16) (q0 := 0) rfl rfl, fun U hU hW => ⟨rfl, by rw [hU], by rw [hU]; exact hPc, va_K.moved hW.alike hK, hDc.weaken (fun _ _ _ _ => trivial)⟩⟩ rfl rfl hl.1 rfl (lv_room (Nat.le_of_ble_eq_true rfl)) dX13_change_15 ⟨(Nat.le_of_ble_eq_true rfl), (Nat.le_of_ble_eq_true rfl)⟩) hS (fun q _ h => hFc q h) hFc (fun r9 gs t H1 locs ht hvm hw hB hz1 hk1 hS => ?_)
  obtain ⟨hP1, hD1⟩ := hB
  rw [ht] at hP1
  obtain ⟨hr0, hg0⟩ := hw
  subst hr0
  obtain ⟨hP, hD⟩ := va_join (wr := [(ar, .inl (cI, 1280, .inl (fun _ => 0)))]) (w1 := [(h0, .inr (16, gs))]) hP hD [0] [1] rfl rfl (by decide) (by decide) hk1 hFc hP1 hD1
  generalize H1 = H at hP hS ⊢
  have hP : va_P (dC, dI) vwCl [(ar, .inl (cI, 1280, .inl (fun _ => 0))), (h0, .inr (16, gs))] H := hP
  have hD : va_D A [(ar, .inl (cI, 1280, .inl (fun _ => 0))), (h0, .inr (16, gs))] := hD
  have hP := hP.sub (ws' := [(h0, .inr (16, gs))]) [1] rfl
  have hD := hD.sub (ws' := [(h0, .inr (16, gs))]) [1] (by decide) rfl
  rw [hQQ]
  exact W.iret (v := 0) hx hb hr (fun t ht hW => ⟨⟨0, gs, rfl, ⟨rfl, hg0⟩, by rw [ht]; exact hP, hD⟩, hS.F ht⟩) hS.2.2 dX13_change_18
theorem dX13_smooth_0 : decode cX13_smooth 0 = .ok (.aload_n 0, 1) := by decide +kernel
theorem dX13_smooth_1 : decode cX13_smooth 1 = .ok (.iconst 0, 1) := by decide +kernel
theorem dX13_smooth_2 : decode cX13_smooth 2 = .ok (.putfield 1, 3) := by decide +kernel
theorem dX13_smooth_5 : decode cX13_smooth 5 = .ok (.aload_n 0, 1) := by decide +kernel
theorem dX13_smooth_6 : decode cX13_smooth 6 = .ok (.iload_n 1, 1) := by decide +kernel
theorem dX13_smooth_7 : decode cX13_smooth 7 = .ok (.invokevirtual 423, 3) := by decide +kernel
theorem dX13_smooth_10 : decode cX13_smooth 10 = .ok (.ifCond .ne 9, 3) := by decide +kernel
theorem dX13_smooth_13 : decode cX13_smooth 13 = .ok (.aload_n 0, 1) := by decide +kernel
theorem dX13_smooth_14 : decode cX13_smooth 14 = .ok (.iconst 1, 1) := by decide +kernel
theorem dX13_smooth_15 : decode cX13_smooth 15 = .ok (.invokevirtual 403, 3) := by decide +kernel
theorem dX13_smooth_18 : decode cX13_smooth 18 = .ok (.ireturn, 1) := by decide +kernel
theorem dX13_smooth_19 : decode cX13_smooth 19 = .ok (.aload_n 0, 1) := by decide +kernel
def wf_M_smooth : List Cond := .code yX13_smooth cX13_smooth 4 (some .int) :: ([.fieldLink RX13 1 "KnotHouseModel" "thrown" "I"] ++ wsX130 ++ (wsV RX13 423 RX13 yX13_has wf_Mhas ++ wsV RX13 403 RX13 yX13_fails wf_Mfails))
theorem gf_X13_smooth_a : GoodIn wf_M_smooth (wsV RX13 423 RX13 yX13_has wf_Mhas) := goodIn_sub (fun _ h => List.mem_cons_of_mem _ (List.mem_append_right _ (List.mem_append_left _ h))) (by decide +kernel)
theorem gf_X13_smooth_b : GoodIn wf_M_smooth (wsV RX13 403 RX13 yX13_fails wf_Mfails) := goodIn_sub (fun _ h => List.mem_cons_of_mem _ (List.mem_append_right _ (List.mem_append_right _ h))) (by decide +kernel)
set_option maxHeartbeats 4000000 in
set_option maxRecDepth 100000 in
theorem kf_X13_smooth (l : Launch) (dC : Nat → ClassId) (dI : Nat → Nat → Nat) (cI cB cJ cZ : ClassId) (h0 ar sz : Nat) (fs : List Value) (hfs : fs.length = 120) (hk : fs[11]? = some (.ref ar)) (p0 p1 : Int32) : Met l yX13_smooth wf_M_smooth (({ frames := 1, cells := 0, slots := 0, locals := 21 } : Room)) (va_Pc [.ref h0, .int p0, .int p1] (fun U => U.heap.size = sz ∧ va_P (dC, dI) vwCl [(h0, .inr (16, fs)), (ar, .inl (cI, 1280, .inl (fun _ => 0)))] U.heap ∧ va_K (dC, dI) vwCl [(cI, .int), (cB, .byte), (cJ, .long), (cZ, .boolean)] U ∧ va_D (fun _ => True) [(h0, .inr (16, fs)), (ar, .inl (cI, 1280, .inl (fun _ => 0)))])) (va_Qi (fun r (g : List Value) => r = 0 ∧ g[0]? = some (.int 1)) (fun g t => va_P (dC, dI) vwCl [(h0, .inr (16, g))] t.heap ∧ va_D (va_A [(h0, .inr (16, fs)), (ar, .inl (cI, 1280, .inl (fun _ => 0)))] sz) [(h0, .inr (16, g))]) (va_A [(h0, .inr (16, fs)), (ar, .inl (cI, 1280, .inl (fun _ => 0)))] sz)) 0 0 (va_A [(h0, .inr (16, fs)), (ar, .inl (cI, 1280, .inl (fun _ => 0)))] sz) := by
  refine Met.ofW (cc := cX13_smooth) (maxL := 4) (ret := (some .int)) (by decide) rfl ?_
  intro p e s m args below meth c s₁ B hml hv
  obtain ⟨rfl, hsz, hP, hK, hD0⟩ := hv
  have hx := B.exec
  have hb := B.bytes
  have hr := B.returns
  have hts := atoms_spec (ws := wf_M_smooth) B.pre
  have hown : s.vm.findClass RX13 = some m.cls := findClass_of_methodNamed B.named
  have hlocks := B.notSynchronized
  subst hsz
  have hD := hD0.self (sz := s.heap.size)
  generalize hAe : va_A [(h0, .inr (16, fs)), (ar, .inl (cI, 1280, .inl (fun _ => 0)))] s.heap.size = A at hD ⊢
  have hA : ∀ q : Nat, s.heap.size ≤ q → A q := fun q h => by rw [← hAe]; exact Or.inr h
  have hS : va_S A s.heap s.heap [] := va_S.rf
  have hP : va_P (dC, dI) vwCl [(h0, .inr (16, fs)), (ar, .inl (cI, 1280, .inl (fun _ => 0)))] s.heap := hP
  have hl := lv_entry ([.ref h0, .int p0, .int p1]) (n := 4) (Nat.le_of_ble_eq_true rfl)
  rw [lg_entry_eq]
  generalize (lg_sl ([.ref h0, .int p0, .int p1]) ++ List.replicate (4 - (lg_sl ([.ref h0, .int p0, .int p1])).length) Slot.unset).toArray = ls at hl ⊢
  have hl : lv_has ls 4 [(0, .ref h0), (1, .int p0), (2, .int p1)] := hl
  refine ow_named (fun QQ hQQ => ?_)
  refine lv_aload_n hx hb dX13_smooth_0 rfl (lv_at hl 0 rfl) ?_
  refine lv_iconst (v := 0) hx hb dX13_smooth_1 (by decide) ?_
  refine va_put (D := (dC, dI)) (ci := 16) (v := .int 0) (ty := .int) (C := RX13) (T := TX13) (N := 120) hx hb hts (fun _ h => List.mem_cons_of_mem _ (List.mem_append_left _ (List.mem_append_right _ h))) tyX13 tyX13_ok nmX13 hown hK hP hD hS 0 rfl rfl 0 (by decide) (hts (.fieldLink RX13 1 "KnotHouseModel" "thrown" "I") (by decide +kernel)) (fun _ h9 => h9) rfl (by decide +kernel) rfl rfl (by rw [hfs]; decide) dX13_smooth_2 (fun H locs hP hD hS => ?_)
  obtain ⟨fs1, efs1⟩ : ∃ x, x = List.set fs 0 (.int 0) := ⟨_, rfl⟩
  have hnfs1 : fs1.length = 120 := by rw [efs1, List.length_set]; exact hfs
  have hfs1_11 : fs1[11]? = some (.ref ar) := by rw [efs1, List.getElem?_set_ne (by decide)]; exact hk
  have hfs1_0 : fs1[0]? = some (.int 0) := by rw [efs1]; exact List.getElem?_set_self (by rw [hfs]; decide)
  have hP : va_P (dC, dI) vwCl [(h0, .inr (16, fs1)), (ar, .inl (cI, 1280, .inl (fun _ => 0)))] H := by rw [efs1]; exact hP
  have hD : va_D A [(h0, .inr (16, fs1)), (ar, .inl (cI, 1280, .inl (fun _ => 0)))] := by rw [efs1]; exact hD
  refine lv_aload_n hx hb dX13_smooth_5 rfl (lv_at hl 0 rfl) ?_
  refine lv_iload_n hx hb dX13_smooth_6 rfl (lv_at hl 1 rfl) ?_
  have hPc := hP.sub (ws' := [(h0, .inr (16, fs1)), (ar, .inl (cI, 1280, .inl (fun _ => 0)))]) [0, 1] rfl
  refine va_calli (va_runV (As := [.int p0]) (rest := []) ⟨hx, hb, hml, hown, hts⟩ (kf_X13_has l dC dI cI cB cJ cZ h0 ar fs1 hnfs1 hfs1_11 p0) (cwV 1 hts gf_X13_smooth_a rfl rfl rfl (by decide +kernel) ⟨(Nat.le_of_ble_eq_true rfl), (Nat.le_of_ble_eq_true rfl)⟩) ⟨fun a U g mk q => by obtain ⟨q0, qP, qK⟩ := q; exact ⟨q0, qP, va_K.moved (u := U) (U := U.calling g mk a) (Vm.Alike.refl U.vm) qK⟩, va_recv hK hPc (ci := 16) (q0 := 0) rfl rfl, fun U hU hW => ⟨rfl, by rw [hU]; exact hPc, va_K.moved hW.alike hK⟩⟩ rfl rfl hl.1 rfl (lv_room (Nat.le_of_ble_eq_true rfl)) dX13_smooth_7 ⟨(Nat.le_of_ble_eq_true rfl), (Nat.le_of_ble_eq_true rfl)⟩) hS (fun q _ h => h.elim) (fun q h => h.elim) (fun r9 un t H1 locs ht hvm hw hB hz1 hk1 hS => ?_)
  obtain rfl : r9 = 0 := hw
  have hP := hP.kept (fun k9 x9 h9 => hk1 x9.1 ((hP k9 x9 h9).lt) id)
  generalize H1 = H at hP hS ⊢
  refine lv_if_ne (tgt := 19) hx hb dX13_smooth_10 (by decide) (fun c9 => absurd c9 (by decide)) (fun _ => ?_)
  refine lv_aload_n hx hb dX13_smooth_13 rfl (lv_at hl 0 rfl) ?_
  refine lv_iconst (v := 1) hx hb dX13_smooth_14 (by decide) ?_
  have hPc := hP.sub (ws' := [(h0, .inr (16, fs1))]) [0] rfl
  have hDc := hD.sub (ws' := [(h0, .inr (16, fs1))]) [0] (by decide) rfl
  have hFc := va_free (wc := [(h0, .inr (16, fs1))]) hD hS hA [0] rfl
  refine va_calli (va_runV (As := [.int 1]) (rest := []) ⟨hx, hb, hml, hown, hts⟩ (kf_X13_fails l dC dI cI cB cJ cZ h0 H.size fs1 hnfs1 1) (cwV 1 hts gf_X13_smooth_b rfl rfl rfl (by decide +kernel) ⟨(Nat.le_of_ble_eq_true rfl), (Nat.le_of_ble_eq_true rfl)⟩) ⟨fun a U g mk q => by obtain ⟨q0, q1, qP, qK, qD⟩ := q; exact ⟨q0, q1, qP, va_K.moved (u := U) (U := U.calling g mk a) (Vm.Alike.refl U.vm) qK, qD⟩, va_recv hK hPc (ci := 16) (q0 := 0) rfl rfl, fun U hU hW => ⟨rfl, by rw [hU], by rw [hU]; exact hPc, va_K.moved hW.alike hK, hDc.weaken (fun _ _ _ _ => trivial)⟩⟩ rfl rfl hl.1 rfl (lv_room (Nat.le_of_ble_eq_true rfl)) dX13_smooth_15 ⟨(Nat.le_of_ble_eq_true rfl), (Nat.le_of_ble_eq_true rfl)⟩) hS (fun q _ h => hFc q h) hFc (fun r9 gs t H1 locs ht hvm hw hB hz1 hk1 hS => ?_)
  obtain ⟨hP1, hD1⟩ := hB
  rw [ht] at hP1
  obtain ⟨hr0, hg0⟩ := hw
  subst hr0
  obtain ⟨hP, hD⟩ := va_join (wr := [(ar, .inl (cI, 1280, .inl (fun _ => 0)))]) (w1 := [(h0, .inr (16, gs))]) hP hD [0] [1] rfl rfl (by decide) (by decide) hk1 hFc hP1 hD1
  generalize H1 = H at hP hS ⊢
  have hP : va_P (dC, dI) vwCl [(ar, .inl (cI, 1280, .inl (fun _ => 0))), (h0, .inr (16, gs))] H := hP
  have hD : va_D A [(ar, .inl (cI, 1280, .inl (fun _ => 0))), (h0, .inr (16, gs))] := hD
  have hP := hP.sub (ws' := [(h0, .inr (16, gs))]) [1] rfl
  have hD := hD.sub (ws' := [(h0, .inr (16, gs))]) [1] (by decide) rfl
  rw [hQQ]
  exact W.iret (v := 0) hx hb hr (fun t ht hW => ⟨⟨0, gs, rfl, ⟨rfl, hg0⟩, by rw [ht]; exact hP, hD⟩, hS.F ht⟩) hS.2.2 dX13_smooth_18
theorem dX13_apart_0 : decode cX13_apart 0 = .ok (.aload_n 0, 1) := by decide +kernel
theorem dX13_apart_1 : decode cX13_apart 1 = .ok (.iconst 0, 1) := by decide +kernel
theorem dX13_apart_2 : decode cX13_apart 2 = .ok (.putfield 1, 3) := by decide +kernel
theorem dX13_apart_5 : decode cX13_apart 5 = .ok (.aload_n 0, 1) := by decide +kernel
theorem dX13_apart_6 : decode cX13_apart 6 = .ok (.iload_n 1, 1) := by decide +kernel
theorem dX13_apart_7 : decode cX13_apart 7 = .ok (.invokevirtual 423, 3) := by decide +kernel
theorem dX13_apart_10 : decode cX13_apart 10 = .ok (.ifCond .eq 11, 3) := by decide +kernel
theorem dX13_apart_13 : decode cX13_apart 13 = .ok (.aload_n 0, 1) := by decide +kernel
theorem dX13_apart_14 : decode cX13_apart 14 = .ok (.iload_n 2, 1) := by decide +kernel
theorem dX13_apart_15 : decode cX13_apart 15 = .ok (.invokevirtual 423, 3) := by decide +kernel
theorem dX13_apart_18 : decode cX13_apart 18 = .ok (.ifCond .ne 9, 3) := by decide +kernel
theorem dX13_apart_21 : decode cX13_apart 21 = .ok (.aload_n 0, 1) := by decide +kernel
theorem dX13_apart_22 : decode cX13_apart 22 = .ok (.iconst 1, 1) := by decide +kernel
theorem dX13_apart_23 : decode cX13_apart 23 = .ok (.invokevirtual 403, 3) := by decide +kernel
theorem dX13_apart_26 : decode cX13_apart 26 = .ok (.ireturn, 1) := by decide +kernel
theorem dX13_apart_27 : decode cX13_apart 27 = .ok (.aload_n 0, 1) := by decide +kernel
def wf_M_apart : List Cond := .code yX13_apart cX13_apart 3 (some .int) :: ([.fieldLink RX13 1 "KnotHouseModel" "thrown" "I"] ++ wsX130 ++ (wsV RX13 423 RX13 yX13_has wf_Mhas ++ wsV RX13 403 RX13 yX13_fails wf_Mfails))
theorem gf_X13_apart_a : GoodIn wf_M_apart (wsV RX13 423 RX13 yX13_has wf_Mhas) := goodIn_sub (fun _ h => List.mem_cons_of_mem _ (List.mem_append_right _ (List.mem_append_left _ h))) (by decide +kernel)
theorem gf_X13_apart_b : GoodIn wf_M_apart (wsV RX13 403 RX13 yX13_fails wf_Mfails) := goodIn_sub (fun _ h => List.mem_cons_of_mem _ (List.mem_append_right _ (List.mem_append_right _ h))) (by decide +kernel)
set_option maxHeartbeats 4000000 in
set_option maxRecDepth 100000 in
theorem kf_X13_apart (l : Launch) (dC : Nat → ClassId) (dI : Nat → Nat → Nat) (cI cB cJ cZ : ClassId) (h0 ar sz : Nat) (fs : List Value) (hfs : fs.length = 120) (hk : fs[11]? = some (.ref ar)) (p0 p1 : Int32) : Met l yX13_apart wf_M_apart (({ frames := 1, cells := 0, slots := 0, locals := 21 } : Room)) (va_Pc [.ref h0, .int p0, .int p1] (fun U => U.heap.size = sz ∧ va_P (dC, dI) vwCl [(h0, .inr (16, fs)), (ar, .inl (cI, 1280, .inl (fun _ => 0)))] U.heap ∧ va_K (dC, dI) vwCl [(cI, .int), (cB, .byte), (cJ, .long), (cZ, .boolean)] U ∧ va_D (fun _ => True) [(h0, .inr (16, fs)), (ar, .inl (cI, 1280, .inl (fun _ => 0)))])) (va_Qi (fun r (g : List Value) => r = 0 ∧ g[0]? = some (.int 1)) (fun g t => va_P (dC, dI) vwCl [(h0, .inr (16, g))] t.heap ∧ va_D (va_A [(h0, .inr (16, fs)), (ar, .inl (cI, 1280, .inl (fun _ => 0)))] sz) [(h0, .inr (16, g))]) (va_A [(h0, .inr (16, fs)), (ar, .inl (cI, 1280, .inl (fun _ => 0)))] sz)) 0 0 (va_A [(h0, .inr (16, fs)), (ar, .inl (cI, 1280, .inl (fun _ => 0)))] sz) := by
  refine Met.ofW (cc := cX13_apart) (maxL := 3) (ret := (some .int)) (by decide) rfl ?_
  intro p e s m args below meth c s₁ B hml hv
  obtain ⟨rfl, hsz, hP, hK, hD0⟩ := hv
  have hx := B.exec
  have hb := B.bytes
  have hr := B.returns
  have hts := atoms_spec (ws := wf_M_apart) B.pre
  have hown : s.vm.findClass RX13 = some m.cls := findClass_of_methodNamed B.named
  have hlocks := B.notSynchronized
  subst hsz
  have hD := hD0.self (sz := s.heap.size)
  generalize hAe : va_A [(h0, .inr (16, fs)), (ar, .inl (cI, 1280, .inl (fun _ => 0)))] s.heap.size = A at hD ⊢
  have hA : ∀ q : Nat, s.heap.size ≤ q → A q := fun q h => by rw [← hAe]; exact Or.inr h
  have hS : va_S A s.heap s.heap [] := va_S.rf
  have hP : va_P (dC, dI) vwCl [(h0, .inr (16, fs)), (ar, .inl (cI, 1280, .inl (fun _ => 0)))] s.heap := hP
  have hl := lv_entry ([.ref h0, .int p0, .int p1]) (n := 3) (Nat.le_of_ble_eq_true rfl)
  rw [lg_entry_eq]
  generalize (lg_sl ([.ref h0, .int p0, .int p1]) ++ List.replicate (3 - (lg_sl ([.ref h0, .int p0, .int p1])).length) Slot.unset).toArray = ls at hl ⊢
  have hl : lv_has ls 3 [(0, .ref h0), (1, .int p0), (2, .int p1)] := hl
  refine ow_named (fun QQ hQQ => ?_)
  refine lv_aload_n hx hb dX13_apart_0 rfl (lv_at hl 0 rfl) ?_
  refine lv_iconst (v := 0) hx hb dX13_apart_1 (by decide) ?_
  refine va_put (D := (dC, dI)) (ci := 16) (v := .int 0) (ty := .int) (C := RX13) (T := TX13) (N := 120) hx hb hts (fun _ h => List.mem_cons_of_mem _ (List.mem_append_left _ (List.mem_append_right _ h))) tyX13 tyX13_ok nmX13 hown hK hP hD hS 0 rfl rfl 0 (by decide) (hts (.fieldLink RX13 1 "KnotHouseModel" "thrown" "I") (by decide +kernel)) (fun _ h9 => h9) rfl (by decide +kernel) rfl rfl (by rw [hfs]; decide) dX13_apart_2 (fun H locs hP hD hS => ?_)
  obtain ⟨fs1, efs1⟩ : ∃ x, x = List.set fs 0 (.int 0) := ⟨_, rfl⟩
  have hnfs1 : fs1.length = 120 := by rw [efs1, List.length_set]; exact hfs
  have hfs1_11 : fs1[11]? = some (.ref ar) := by rw [efs1, List.getElem?_set_ne (by decide)]; exact hk
  have hfs1_0 : fs1[0]? = some (.int 0) := by rw [efs1]; exact List.getElem?_set_self (by rw [hfs]; decide)
  have hP : va_P (dC, dI) vwCl [(h0, .inr (16, fs1)), (ar, .inl (cI, 1280, .inl (fun _ => 0)))] H := by rw [efs1]; exact hP
  have hD : va_D A [(h0, .inr (16, fs1)), (ar, .inl (cI, 1280, .inl (fun _ => 0)))] := by rw [efs1]; exact hD
  refine lv_aload_n hx hb dX13_apart_5 rfl (lv_at hl 0 rfl) ?_
  refine lv_iload_n hx hb dX13_apart_6 rfl (lv_at hl 1 rfl) ?_
  have hPc := hP.sub (ws' := [(h0, .inr (16, fs1)), (ar, .inl (cI, 1280, .inl (fun _ => 0)))]) [0, 1] rfl
  refine va_calli (va_runV (As := [.int p0]) (rest := []) ⟨hx, hb, hml, hown, hts⟩ (kf_X13_has l dC dI cI cB cJ cZ h0 ar fs1 hnfs1 hfs1_11 p0) (cwV 1 hts gf_X13_apart_a rfl rfl rfl (by decide +kernel) ⟨(Nat.le_of_ble_eq_true rfl), (Nat.le_of_ble_eq_true rfl)⟩) ⟨fun a U g mk q => by obtain ⟨q0, qP, qK⟩ := q; exact ⟨q0, qP, va_K.moved (u := U) (U := U.calling g mk a) (Vm.Alike.refl U.vm) qK⟩, va_recv hK hPc (ci := 16) (q0 := 0) rfl rfl, fun U hU hW => ⟨rfl, by rw [hU]; exact hPc, va_K.moved hW.alike hK⟩⟩ rfl rfl hl.1 rfl (lv_room (Nat.le_of_ble_eq_true rfl)) dX13_apart_7 ⟨(Nat.le_of_ble_eq_true rfl), (Nat.le_of_ble_eq_true rfl)⟩) hS (fun q _ h => h.elim) (fun q h => h.elim) (fun r9 un t H1 locs ht hvm hw hB hz1 hk1 hS => ?_)
  obtain rfl : r9 = 0 := hw
  have hP := hP.kept (fun k9 x9 h9 => hk1 x9.1 ((hP k9 x9 h9).lt) id)
  generalize H1 = H at hP hS ⊢
  refine lv_if_eq (tgt := 21) hx hb dX13_apart_10 (by decide) (fun _ => ?_) (fun c9 => absurd (by decide) c9)
  refine lv_aload_n hx hb dX13_apart_21 rfl (lv_at hl 0 rfl) ?_
  refine lv_iconst (v := 1) hx hb dX13_apart_22 (by decide) ?_
  have hPc := hP.sub (ws' := [(h0, .inr (16, fs1))]) [0] rfl
  have hDc := hD.sub (ws' := [(h0, .inr (16, fs1))]) [0] (by decide) rfl
  have hFc := va_free (wc := [(h0, .inr (16, fs1))]) hD hS hA [0] rfl
  refine va_calli (va_runV (As := [.int 1]) (rest := []) ⟨hx, hb, hml, hown, hts⟩ (kf_X13_fails l dC dI cI cB cJ cZ h0 H.size fs1 hnfs1 1) (cwV 1 hts gf_X13_apart_b rfl rfl rfl (by decide +kernel) ⟨(Nat.le_of_ble_eq_true rfl), (Nat.le_of_ble_eq_true rfl)⟩) ⟨fun a U g mk q => by obtain ⟨q0, q1, qP, qK, qD⟩ := q; exact ⟨q0, q1, qP, va_K.moved (u := U) (U := U.calling g mk a) (Vm.Alike.refl U.vm) qK, qD⟩, va_recv hK hPc (ci := 16) (q0 := 0) rfl rfl, fun U hU hW => ⟨rfl, by rw [hU], by rw [hU]; exact hPc, va_K.moved hW.alike hK, hDc.weaken (fun _ _ _ _ => trivial)⟩⟩ rfl rfl hl.1 rfl (lv_room (Nat.le_of_ble_eq_true rfl)) dX13_apart_23 ⟨(Nat.le_of_ble_eq_true rfl), (Nat.le_of_ble_eq_true rfl)⟩) hS (fun q _ h => hFc q h) hFc (fun r9 gs t H1 locs ht hvm hw hB hz1 hk1 hS => ?_)
  obtain ⟨hP1, hD1⟩ := hB
  rw [ht] at hP1
  obtain ⟨hr0, hg0⟩ := hw
  subst hr0
  obtain ⟨hP, hD⟩ := va_join (wr := [(ar, .inl (cI, 1280, .inl (fun _ => 0)))]) (w1 := [(h0, .inr (16, gs))]) hP hD [0] [1] rfl rfl (by decide) (by decide) hk1 hFc hP1 hD1
  generalize H1 = H at hP hS ⊢
  have hP : va_P (dC, dI) vwCl [(ar, .inl (cI, 1280, .inl (fun _ => 0))), (h0, .inr (16, gs))] H := hP
  have hD : va_D A [(ar, .inl (cI, 1280, .inl (fun _ => 0))), (h0, .inr (16, gs))] := hD
  have hP := hP.sub (ws' := [(h0, .inr (16, gs))]) [1] rfl
  have hD := hD.sub (ws' := [(h0, .inr (16, gs))]) [1] (by decide) rfl
  rw [hQQ]
  exact W.iret (v := 0) hx hb hr (fun t ht hW => ⟨⟨0, gs, rfl, ⟨rfl, hg0⟩, by rw [ht]; exact hP, hD⟩, hS.F ht⟩) hS.2.2 dX13_apart_26
theorem dX13_join_0 : decode cX13_join 0 = .ok (.aload_n 0, 1) := by decide +kernel
theorem dX13_join_1 : decode cX13_join 1 = .ok (.iconst 0, 1) := by decide +kernel
theorem dX13_join_2 : decode cX13_join 2 = .ok (.putfield 1, 3) := by decide +kernel
theorem dX13_join_5 : decode cX13_join 5 = .ok (.aload_n 0, 1) := by decide +kernel
theorem dX13_join_6 : decode cX13_join 6 = .ok (.iload_n 1, 1) := by decide +kernel
theorem dX13_join_7 : decode cX13_join 7 = .ok (.invokevirtual 423, 3) := by decide +kernel
theorem dX13_join_10 : decode cX13_join 10 = .ok (.ifCond .eq 11, 3) := by decide +kernel
theorem dX13_join_13 : decode cX13_join 13 = .ok (.aload_n 0, 1) := by decide +kernel
theorem dX13_join_14 : decode cX13_join 14 = .ok (.iload_n 3, 1) := by decide +kernel
theorem dX13_join_15 : decode cX13_join 15 = .ok (.invokevirtual 423, 3) := by decide +kernel
theorem dX13_join_18 : decode cX13_join 18 = .ok (.ifCond .ne 9, 3) := by decide +kernel
theorem dX13_join_21 : decode cX13_join 21 = .ok (.aload_n 0, 1) := by decide +kernel
theorem dX13_join_22 : decode cX13_join 22 = .ok (.iconst 1, 1) := by decide +kernel
theorem dX13_join_23 : decode cX13_join 23 = .ok (.invokevirtual 403, 3) := by decide +kernel
theorem dX13_join_26 : decode cX13_join 26 = .ok (.ireturn, 1) := by decide +kernel
theorem dX13_join_27 : decode cX13_join 27 = .ok (.aload_n 0, 1) := by decide +kernel
def wf_M_join : List Cond := .code yX13_join cX13_join 9 (some .int) :: ([.fieldLink RX13 1 "KnotHouseModel" "thrown" "I"] ++ wsX130 ++ (wsV RX13 423 RX13 yX13_has wf_Mhas ++ wsV RX13 403 RX13 yX13_fails wf_Mfails))
theorem gf_X13_join_a : GoodIn wf_M_join (wsV RX13 423 RX13 yX13_has wf_Mhas) := goodIn_sub (fun _ h => List.mem_cons_of_mem _ (List.mem_append_right _ (List.mem_append_left _ h))) (by decide +kernel)
theorem gf_X13_join_b : GoodIn wf_M_join (wsV RX13 403 RX13 yX13_fails wf_Mfails) := goodIn_sub (fun _ h => List.mem_cons_of_mem _ (List.mem_append_right _ (List.mem_append_right _ h))) (by decide +kernel)
set_option maxHeartbeats 4000000 in
set_option maxRecDepth 100000 in
theorem kf_X13_join (l : Launch) (dC : Nat → ClassId) (dI : Nat → Nat → Nat) (cI cB cJ cZ : ClassId) (h0 ar sz : Nat) (fs : List Value) (hfs : fs.length = 120) (hk : fs[11]? = some (.ref ar)) (p0 p1 p2 p3 : Int32) : Met l yX13_join wf_M_join (({ frames := 1, cells := 0, slots := 0, locals := 21 } : Room)) (va_Pc [.ref h0, .int p0, .int p1, .int p2, .int p3] (fun U => U.heap.size = sz ∧ va_P (dC, dI) vwCl [(h0, .inr (16, fs)), (ar, .inl (cI, 1280, .inl (fun _ => 0)))] U.heap ∧ va_K (dC, dI) vwCl [(cI, .int), (cB, .byte), (cJ, .long), (cZ, .boolean)] U ∧ va_D (fun _ => True) [(h0, .inr (16, fs)), (ar, .inl (cI, 1280, .inl (fun _ => 0)))])) (va_Qi (fun r (g : List Value) => r = 0 ∧ g[0]? = some (.int 1)) (fun g t => va_P (dC, dI) vwCl [(h0, .inr (16, g))] t.heap ∧ va_D (va_A [(h0, .inr (16, fs)), (ar, .inl (cI, 1280, .inl (fun _ => 0)))] sz) [(h0, .inr (16, g))]) (va_A [(h0, .inr (16, fs)), (ar, .inl (cI, 1280, .inl (fun _ => 0)))] sz)) 0 0 (va_A [(h0, .inr (16, fs)), (ar, .inl (cI, 1280, .inl (fun _ => 0)))] sz) := by
  refine Met.ofW (cc := cX13_join) (maxL := 9) (ret := (some .int)) (by decide) rfl ?_
  intro p e s m args below meth c s₁ B hml hv
  obtain ⟨rfl, hsz, hP, hK, hD0⟩ := hv
  have hx := B.exec
  have hb := B.bytes
  have hr := B.returns
  have hts := atoms_spec (ws := wf_M_join) B.pre
  have hown : s.vm.findClass RX13 = some m.cls := findClass_of_methodNamed B.named
  have hlocks := B.notSynchronized
  subst hsz
  have hD := hD0.self (sz := s.heap.size)
  generalize hAe : va_A [(h0, .inr (16, fs)), (ar, .inl (cI, 1280, .inl (fun _ => 0)))] s.heap.size = A at hD ⊢
  have hA : ∀ q : Nat, s.heap.size ≤ q → A q := fun q h => by rw [← hAe]; exact Or.inr h
  have hS : va_S A s.heap s.heap [] := va_S.rf
  have hP : va_P (dC, dI) vwCl [(h0, .inr (16, fs)), (ar, .inl (cI, 1280, .inl (fun _ => 0)))] s.heap := hP
  have hl := lv_entry ([.ref h0, .int p0, .int p1, .int p2, .int p3]) (n := 9) (Nat.le_of_ble_eq_true rfl)
  rw [lg_entry_eq]
  generalize (lg_sl ([.ref h0, .int p0, .int p1, .int p2, .int p3]) ++ List.replicate (9 - (lg_sl ([.ref h0, .int p0, .int p1, .int p2, .int p3])).length) Slot.unset).toArray = ls at hl ⊢
  have hl : lv_has ls 9 [(0, .ref h0), (1, .int p0), (2, .int p1), (3, .int p2), (4, .int p3)] := hl
  refine ow_named (fun QQ hQQ => ?_)
  refine lv_aload_n hx hb dX13_join_0 rfl (lv_at hl 0 rfl) ?_
  refine lv_iconst (v := 0) hx hb dX13_join_1 (by decide) ?_
  refine va_put (D := (dC, dI)) (ci := 16) (v := .int 0) (ty := .int) (C := RX13) (T := TX13) (N := 120) hx hb hts (fun _ h => List.mem_cons_of_mem _ (List.mem_append_left _ (List.mem_append_right _ h))) tyX13 tyX13_ok nmX13 hown hK hP hD hS 0 rfl rfl 0 (by decide) (hts (.fieldLink RX13 1 "KnotHouseModel" "thrown" "I") (by decide +kernel)) (fun _ h9 => h9) rfl (by decide +kernel) rfl rfl (by rw [hfs]; decide) dX13_join_2 (fun H locs hP hD hS => ?_)
  obtain ⟨fs1, efs1⟩ : ∃ x, x = List.set fs 0 (.int 0) := ⟨_, rfl⟩
  have hnfs1 : fs1.length = 120 := by rw [efs1, List.length_set]; exact hfs
  have hfs1_11 : fs1[11]? = some (.ref ar) := by rw [efs1, List.getElem?_set_ne (by decide)]; exact hk
  have hfs1_0 : fs1[0]? = some (.int 0) := by rw [efs1]; exact List.getElem?_set_self (by rw [hfs]; decide)
  have hP : va_P (dC, dI) vwCl [(h0, .inr (16, fs1)), (ar, .inl (cI, 1280, .inl (fun _ => 0)))] H := by rw [efs1]; exact hP
  have hD : va_D A [(h0, .inr (16, fs1)), (ar, .inl (cI, 1280, .inl (fun _ => 0)))] := by rw [efs1]; exact hD
  refine lv_aload_n hx hb dX13_join_5 rfl (lv_at hl 0 rfl) ?_
  refine lv_iload_n hx hb dX13_join_6 rfl (lv_at hl 1 rfl) ?_
  have hPc := hP.sub (ws' := [(h0, .inr (16, fs1)), (ar, .inl (cI, 1280, .inl (fun _ => 0)))]) [0, 1] rfl
  refine va_calli (va_runV (As := [.int p0]) (rest := []) ⟨hx, hb, hml, hown, hts⟩ (kf_X13_has l dC dI cI cB cJ cZ h0 ar fs1 hnfs1 hfs1_11 p0) (cwV 1 hts gf_X13_join_a rfl rfl rfl (by decide +kernel) ⟨(Nat.le_of_ble_eq_true rfl), (Nat.le_of_ble_eq_true rfl)⟩) ⟨fun a U g mk q => by obtain ⟨q0, qP, qK⟩ := q; exact ⟨q0, qP, va_K.moved (u := U) (U := U.calling g mk a) (Vm.Alike.refl U.vm) qK⟩, va_recv hK hPc (ci := 16) (q0 := 0) rfl rfl, fun U hU hW => ⟨rfl, by rw [hU]; exact hPc, va_K.moved hW.alike hK⟩⟩ rfl rfl hl.1 rfl (lv_room (Nat.le_of_ble_eq_true rfl)) dX13_join_7 ⟨(Nat.le_of_ble_eq_true rfl), (Nat.le_of_ble_eq_true rfl)⟩) hS (fun q _ h => h.elim) (fun q h => h.elim) (fun r9 un t H1 locs ht hvm hw hB hz1 hk1 hS => ?_)
  obtain rfl : r9 = 0 := hw
  have hP := hP.kept (fun k9 x9 h9 => hk1 x9.1 ((hP k9 x9 h9).lt) id)
  generalize H1 = H at hP hS ⊢
  refine lv_if_eq (tgt := 21) hx hb dX13_join_10 (by decide) (fun _ => ?_) (fun c9 => absurd (by decide) c9)
  refine lv_aload_n hx hb dX13_join_21 rfl (lv_at hl 0 rfl) ?_
  refine lv_iconst (v := 1) hx hb dX13_join_22 (by decide) ?_
  have hPc := hP.sub (ws' := [(h0, .inr (16, fs1))]) [0] rfl
  have hDc := hD.sub (ws' := [(h0, .inr (16, fs1))]) [0] (by decide) rfl
  have hFc := va_free (wc := [(h0, .inr (16, fs1))]) hD hS hA [0] rfl
  refine va_calli (va_runV (As := [.int 1]) (rest := []) ⟨hx, hb, hml, hown, hts⟩ (kf_X13_fails l dC dI cI cB cJ cZ h0 H.size fs1 hnfs1 1) (cwV 1 hts gf_X13_join_b rfl rfl rfl (by decide +kernel) ⟨(Nat.le_of_ble_eq_true rfl), (Nat.le_of_ble_eq_true rfl)⟩) ⟨fun a U g mk q => by obtain ⟨q0, q1, qP, qK, qD⟩ := q; exact ⟨q0, q1, qP, va_K.moved (u := U) (U := U.calling g mk a) (Vm.Alike.refl U.vm) qK, qD⟩, va_recv hK hPc (ci := 16) (q0 := 0) rfl rfl, fun U hU hW => ⟨rfl, by rw [hU], by rw [hU]; exact hPc, va_K.moved hW.alike hK, hDc.weaken (fun _ _ _ _ => trivial)⟩⟩ rfl rfl hl.1 rfl (lv_room (Nat.le_of_ble_eq_true rfl)) dX13_join_23 ⟨(Nat.le_of_ble_eq_true rfl), (Nat.le_of_ble_eq_true rfl)⟩) hS (fun q _ h => hFc q h) hFc (fun r9 gs t H1 locs ht hvm hw hB hz1 hk1 hS => ?_)
  obtain ⟨hP1, hD1⟩ := hB
  rw [ht] at hP1
  obtain ⟨hr0, hg0⟩ := hw
  subst hr0
  obtain ⟨hP, hD⟩ := va_join (wr := [(ar, .inl (cI, 1280, .inl (fun _ => 0)))]) (w1 := [(h0, .inr (16, gs))]) hP hD [0] [1] rfl rfl (by decide) (by decide) hk1 hFc hP1 hD1
  generalize H1 = H at hP hS ⊢
  have hP : va_P (dC, dI) vwCl [(ar, .inl (cI, 1280, .inl (fun _ => 0))), (h0, .inr (16, gs))] H := hP
  have hD : va_D A [(ar, .inl (cI, 1280, .inl (fun _ => 0))), (h0, .inr (16, gs))] := hD
  have hP := hP.sub (ws' := [(h0, .inr (16, gs))]) [1] rfl
  have hD := hD.sub (ws' := [(h0, .inr (16, gs))]) [1] (by decide) rfl
  rw [hQQ]
  exact W.iret (v := 0) hx hb hr (fun t ht hW => ⟨⟨0, gs, rfl, ⟨rfl, hg0⟩, by rw [ht]; exact hP, hD⟩, hS.F ht⟩) hS.2.2 dX13_join_26
theorem dX13_moves_0 : decode cX13_moves 0 = .ok (.aload_n 0, 1) := by decide +kernel
theorem dX13_moves_1 : decode cX13_moves 1 = .ok (.iconst 0, 1) := by decide +kernel
theorem dX13_moves_2 : decode cX13_moves 2 = .ok (.putfield 1, 3) := by decide +kernel
theorem dX13_moves_5 : decode cX13_moves 5 = .ok (.aload_n 0, 1) := by decide +kernel
theorem dX13_moves_6 : decode cX13_moves 6 = .ok (.iload_n 1, 1) := by decide +kernel
theorem dX13_moves_7 : decode cX13_moves 7 = .ok (.invokevirtual 423, 3) := by decide +kernel
theorem dX13_moves_10 : decode cX13_moves 10 = .ok (.ifCond .ne 9, 3) := by decide +kernel
theorem dX13_moves_13 : decode cX13_moves 13 = .ok (.aload_n 0, 1) := by decide +kernel
theorem dX13_moves_14 : decode cX13_moves 14 = .ok (.iconst 1, 1) := by decide +kernel
theorem dX13_moves_15 : decode cX13_moves 15 = .ok (.invokevirtual 403, 3) := by decide +kernel
theorem dX13_moves_18 : decode cX13_moves 18 = .ok (.ireturn, 1) := by decide +kernel
theorem dX13_moves_19 : decode cX13_moves 19 = .ok (.iload_n 2, 1) := by decide +kernel
def wf_M_moves : List Cond := .code yX13_moves cX13_moves 3 (some .int) :: ([.fieldLink RX13 1 "KnotHouseModel" "thrown" "I"] ++ wsX130 ++ (wsV RX13 423 RX13 yX13_has wf_Mhas ++ wsV RX13 403 RX13 yX13_fails wf_Mfails))
theorem gf_X13_moves_a : GoodIn wf_M_moves (wsV RX13 423 RX13 yX13_has wf_Mhas) := goodIn_sub (fun _ h => List.mem_cons_of_mem _ (List.mem_append_right _ (List.mem_append_left _ h))) (by decide +kernel)
theorem gf_X13_moves_b : GoodIn wf_M_moves (wsV RX13 403 RX13 yX13_fails wf_Mfails) := goodIn_sub (fun _ h => List.mem_cons_of_mem _ (List.mem_append_right _ (List.mem_append_right _ h))) (by decide +kernel)
set_option maxHeartbeats 4000000 in
set_option maxRecDepth 100000 in
theorem kf_X13_moves (l : Launch) (dC : Nat → ClassId) (dI : Nat → Nat → Nat) (cI cB cJ cZ : ClassId) (h0 ar sz : Nat) (fs : List Value) (hfs : fs.length = 120) (hk : fs[11]? = some (.ref ar)) (p0 p1 : Int32) : Met l yX13_moves wf_M_moves (({ frames := 1, cells := 0, slots := 0, locals := 21 } : Room)) (va_Pc [.ref h0, .int p0, .int p1] (fun U => U.heap.size = sz ∧ va_P (dC, dI) vwCl [(h0, .inr (16, fs)), (ar, .inl (cI, 1280, .inl (fun _ => 0)))] U.heap ∧ va_K (dC, dI) vwCl [(cI, .int), (cB, .byte), (cJ, .long), (cZ, .boolean)] U ∧ va_D (fun _ => True) [(h0, .inr (16, fs)), (ar, .inl (cI, 1280, .inl (fun _ => 0)))])) (va_Qi (fun r (g : List Value) => r = 0 ∧ g[0]? = some (.int 1)) (fun g t => va_P (dC, dI) vwCl [(h0, .inr (16, g))] t.heap ∧ va_D (va_A [(h0, .inr (16, fs)), (ar, .inl (cI, 1280, .inl (fun _ => 0)))] sz) [(h0, .inr (16, g))]) (va_A [(h0, .inr (16, fs)), (ar, .inl (cI, 1280, .inl (fun _ => 0)))] sz)) 0 0 (va_A [(h0, .inr (16, fs)), (ar, .inl (cI, 1280, .inl (fun _ => 0)))] sz) := by
  refine Met.ofW (cc := cX13_moves) (maxL := 3) (ret := (some .int)) (by decide) rfl ?_
  intro p e s m args below meth c s₁ B hml hv
  obtain ⟨rfl, hsz, hP, hK, hD0⟩ := hv
  have hx := B.exec
  have hb := B.bytes
  have hr := B.returns
  have hts := atoms_spec (ws := wf_M_moves) B.pre
  have hown : s.vm.findClass RX13 = some m.cls := findClass_of_methodNamed B.named
  have hlocks := B.notSynchronized
  subst hsz
  have hD := hD0.self (sz := s.heap.size)
  generalize hAe : va_A [(h0, .inr (16, fs)), (ar, .inl (cI, 1280, .inl (fun _ => 0)))] s.heap.size = A at hD ⊢
  have hA : ∀ q : Nat, s.heap.size ≤ q → A q := fun q h => by rw [← hAe]; exact Or.inr h
  have hS : va_S A s.heap s.heap [] := va_S.rf
  have hP : va_P (dC, dI) vwCl [(h0, .inr (16, fs)), (ar, .inl (cI, 1280, .inl (fun _ => 0)))] s.heap := hP
  have hl := lv_entry ([.ref h0, .int p0, .int p1]) (n := 3) (Nat.le_of_ble_eq_true rfl)
  rw [lg_entry_eq]
  generalize (lg_sl ([.ref h0, .int p0, .int p1]) ++ List.replicate (3 - (lg_sl ([.ref h0, .int p0, .int p1])).length) Slot.unset).toArray = ls at hl ⊢
  have hl : lv_has ls 3 [(0, .ref h0), (1, .int p0), (2, .int p1)] := hl
  refine ow_named (fun QQ hQQ => ?_)
  refine lv_aload_n hx hb dX13_moves_0 rfl (lv_at hl 0 rfl) ?_
  refine lv_iconst (v := 0) hx hb dX13_moves_1 (by decide) ?_
  refine va_put (D := (dC, dI)) (ci := 16) (v := .int 0) (ty := .int) (C := RX13) (T := TX13) (N := 120) hx hb hts (fun _ h => List.mem_cons_of_mem _ (List.mem_append_left _ (List.mem_append_right _ h))) tyX13 tyX13_ok nmX13 hown hK hP hD hS 0 rfl rfl 0 (by decide) (hts (.fieldLink RX13 1 "KnotHouseModel" "thrown" "I") (by decide +kernel)) (fun _ h9 => h9) rfl (by decide +kernel) rfl rfl (by rw [hfs]; decide) dX13_moves_2 (fun H locs hP hD hS => ?_)
  obtain ⟨fs1, efs1⟩ : ∃ x, x = List.set fs 0 (.int 0) := ⟨_, rfl⟩
  have hnfs1 : fs1.length = 120 := by rw [efs1, List.length_set]; exact hfs
  have hfs1_11 : fs1[11]? = some (.ref ar) := by rw [efs1, List.getElem?_set_ne (by decide)]; exact hk
  have hfs1_0 : fs1[0]? = some (.int 0) := by rw [efs1]; exact List.getElem?_set_self (by rw [hfs]; decide)
  have hP : va_P (dC, dI) vwCl [(h0, .inr (16, fs1)), (ar, .inl (cI, 1280, .inl (fun _ => 0)))] H := by rw [efs1]; exact hP
  have hD : va_D A [(h0, .inr (16, fs1)), (ar, .inl (cI, 1280, .inl (fun _ => 0)))] := by rw [efs1]; exact hD
  refine lv_aload_n hx hb dX13_moves_5 rfl (lv_at hl 0 rfl) ?_
  refine lv_iload_n hx hb dX13_moves_6 rfl (lv_at hl 1 rfl) ?_
  have hPc := hP.sub (ws' := [(h0, .inr (16, fs1)), (ar, .inl (cI, 1280, .inl (fun _ => 0)))]) [0, 1] rfl
  refine va_calli (va_runV (As := [.int p0]) (rest := []) ⟨hx, hb, hml, hown, hts⟩ (kf_X13_has l dC dI cI cB cJ cZ h0 ar fs1 hnfs1 hfs1_11 p0) (cwV 1 hts gf_X13_moves_a rfl rfl rfl (by decide +kernel) ⟨(Nat.le_of_ble_eq_true rfl), (Nat.le_of_ble_eq_true rfl)⟩) ⟨fun a U g mk q => by obtain ⟨q0, qP, qK⟩ := q; exact ⟨q0, qP, va_K.moved (u := U) (U := U.calling g mk a) (Vm.Alike.refl U.vm) qK⟩, va_recv hK hPc (ci := 16) (q0 := 0) rfl rfl, fun U hU hW => ⟨rfl, by rw [hU]; exact hPc, va_K.moved hW.alike hK⟩⟩ rfl rfl hl.1 rfl (lv_room (Nat.le_of_ble_eq_true rfl)) dX13_moves_7 ⟨(Nat.le_of_ble_eq_true rfl), (Nat.le_of_ble_eq_true rfl)⟩) hS (fun q _ h => h.elim) (fun q h => h.elim) (fun r9 un t H1 locs ht hvm hw hB hz1 hk1 hS => ?_)
  obtain rfl : r9 = 0 := hw
  have hP := hP.kept (fun k9 x9 h9 => hk1 x9.1 ((hP k9 x9 h9).lt) id)
  generalize H1 = H at hP hS ⊢
  refine lv_if_ne (tgt := 19) hx hb dX13_moves_10 (by decide) (fun c9 => absurd c9 (by decide)) (fun _ => ?_)
  refine lv_aload_n hx hb dX13_moves_13 rfl (lv_at hl 0 rfl) ?_
  refine lv_iconst (v := 1) hx hb dX13_moves_14 (by decide) ?_
  have hPc := hP.sub (ws' := [(h0, .inr (16, fs1))]) [0] rfl
  have hDc := hD.sub (ws' := [(h0, .inr (16, fs1))]) [0] (by decide) rfl
  have hFc := va_free (wc := [(h0, .inr (16, fs1))]) hD hS hA [0] rfl
  refine va_calli (va_runV (As := [.int 1]) (rest := []) ⟨hx, hb, hml, hown, hts⟩ (kf_X13_fails l dC dI cI cB cJ cZ h0 H.size fs1 hnfs1 1) (cwV 1 hts gf_X13_moves_b rfl rfl rfl (by decide +kernel) ⟨(Nat.le_of_ble_eq_true rfl), (Nat.le_of_ble_eq_true rfl)⟩) ⟨fun a U g mk q => by obtain ⟨q0, q1, qP, qK, qD⟩ := q; exact ⟨q0, q1, qP, va_K.moved (u := U) (U := U.calling g mk a) (Vm.Alike.refl U.vm) qK, qD⟩, va_recv hK hPc (ci := 16) (q0 := 0) rfl rfl, fun U hU hW => ⟨rfl, by rw [hU], by rw [hU]; exact hPc, va_K.moved hW.alike hK, hDc.weaken (fun _ _ _ _ => trivial)⟩⟩ rfl rfl hl.1 rfl (lv_room (Nat.le_of_ble_eq_true rfl)) dX13_moves_15 ⟨(Nat.le_of_ble_eq_true rfl), (Nat.le_of_ble_eq_true rfl)⟩) hS (fun q _ h => hFc q h) hFc (fun r9 gs t H1 locs ht hvm hw hB hz1 hk1 hS => ?_)
  obtain ⟨hP1, hD1⟩ := hB
  rw [ht] at hP1
  obtain ⟨hr0, hg0⟩ := hw
  subst hr0
  obtain ⟨hP, hD⟩ := va_join (wr := [(ar, .inl (cI, 1280, .inl (fun _ => 0)))]) (w1 := [(h0, .inr (16, gs))]) hP hD [0] [1] rfl rfl (by decide) (by decide) hk1 hFc hP1 hD1
  generalize H1 = H at hP hS ⊢
  have hP : va_P (dC, dI) vwCl [(ar, .inl (cI, 1280, .inl (fun _ => 0))), (h0, .inr (16, gs))] H := hP
  have hD : va_D A [(ar, .inl (cI, 1280, .inl (fun _ => 0))), (h0, .inr (16, gs))] := hD
  have hP := hP.sub (ws' := [(h0, .inr (16, gs))]) [1] rfl
  have hD := hD.sub (ws' := [(h0, .inr (16, gs))]) [1] (by decide) rfl
  rw [hQQ]
  exact W.iret (v := 0) hx hb hr (fun t ht hW => ⟨⟨0, gs, rfl, ⟨rfl, hg0⟩, by rw [ht]; exact hP, hD⟩, hS.F ht⟩) hS.2.2 dX13_moves_18
theorem dX13_simplify_0 : decode cX13_simplify 0 = .ok (.aload_n 0, 1) := by decide +kernel
theorem dX13_simplify_1 : decode cX13_simplify 1 = .ok (.iconst 0, 1) := by decide +kernel
theorem dX13_simplify_2 : decode cX13_simplify 2 = .ok (.putfield 1, 3) := by decide +kernel
theorem dX13_simplify_5 : decode cX13_simplify 5 = .ok (.aload_n 0, 1) := by decide +kernel
theorem dX13_simplify_6 : decode cX13_simplify 6 = .ok (.iload_n 1, 1) := by decide +kernel
theorem dX13_simplify_7 : decode cX13_simplify 7 = .ok (.invokevirtual 423, 3) := by decide +kernel
theorem dX13_simplify_10 : decode cX13_simplify 10 = .ok (.ifCond .ne 9, 3) := by decide +kernel
theorem dX13_simplify_13 : decode cX13_simplify 13 = .ok (.aload_n 0, 1) := by decide +kernel
theorem dX13_simplify_14 : decode cX13_simplify 14 = .ok (.iconst 1, 1) := by decide +kernel
theorem dX13_simplify_15 : decode cX13_simplify 15 = .ok (.invokevirtual 403, 3) := by decide +kernel
theorem dX13_simplify_18 : decode cX13_simplify 18 = .ok (.ireturn, 1) := by decide +kernel
theorem dX13_simplify_19 : decode cX13_simplify 19 = .ok (.aload_n 0, 1) := by decide +kernel
def wf_M_simplify : List Cond := .code yX13_simplify cX13_simplify 5 (some .int) :: ([.fieldLink RX13 1 "KnotHouseModel" "thrown" "I"] ++ wsX130 ++ (wsV RX13 423 RX13 yX13_has wf_Mhas ++ wsV RX13 403 RX13 yX13_fails wf_Mfails))
theorem gf_X13_simplify_a : GoodIn wf_M_simplify (wsV RX13 423 RX13 yX13_has wf_Mhas) := goodIn_sub (fun _ h => List.mem_cons_of_mem _ (List.mem_append_right _ (List.mem_append_left _ h))) (by decide +kernel)
theorem gf_X13_simplify_b : GoodIn wf_M_simplify (wsV RX13 403 RX13 yX13_fails wf_Mfails) := goodIn_sub (fun _ h => List.mem_cons_of_mem _ (List.mem_append_right _ (List.mem_append_right _ h))) (by decide +kernel)
set_option maxHeartbeats 4000000 in
set_option maxRecDepth 100000 in
theorem kf_X13_simplify (l : Launch) (dC : Nat → ClassId) (dI : Nat → Nat → Nat) (cI cB cJ cZ : ClassId) (h0 ar sz : Nat) (fs : List Value) (hfs : fs.length = 120) (hk : fs[11]? = some (.ref ar)) (p0 : Int32) : Met l yX13_simplify wf_M_simplify (({ frames := 1, cells := 0, slots := 0, locals := 21 } : Room)) (va_Pc [.ref h0, .int p0] (fun U => U.heap.size = sz ∧ va_P (dC, dI) vwCl [(h0, .inr (16, fs)), (ar, .inl (cI, 1280, .inl (fun _ => 0)))] U.heap ∧ va_K (dC, dI) vwCl [(cI, .int), (cB, .byte), (cJ, .long), (cZ, .boolean)] U ∧ va_D (fun _ => True) [(h0, .inr (16, fs)), (ar, .inl (cI, 1280, .inl (fun _ => 0)))])) (va_Qi (fun r (g : List Value) => r = 0 ∧ g[0]? = some (.int 1)) (fun g t => va_P (dC, dI) vwCl [(h0, .inr (16, g))] t.heap ∧ va_D (va_A [(h0, .inr (16, fs)), (ar, .inl (cI, 1280, .inl (fun _ => 0)))] sz) [(h0, .inr (16, g))]) (va_A [(h0, .inr (16, fs)), (ar, .inl (cI, 1280, .inl (fun _ => 0)))] sz)) 0 0 (va_A [(h0, .inr (16, fs)), (ar, .inl (cI, 1280, .inl (fun _ => 0)))] sz) := by
  refine Met.ofW (cc := cX13_simplify) (maxL := 5) (ret := (some .int)) (by decide) rfl ?_
  intro p e s m args below meth c s₁ B hml hv
  obtain ⟨rfl, hsz, hP, hK, hD0⟩ := hv
  have hx := B.exec
  have hb := B.bytes
  have hr := B.returns
  have hts := atoms_spec (ws := wf_M_simplify) B.pre
  have hown : s.vm.findClass RX13 = some m.cls := findClass_of_methodNamed B.named
  have hlocks := B.notSynchronized
  subst hsz
  have hD := hD0.self (sz := s.heap.size)
  generalize hAe : va_A [(h0, .inr (16, fs)), (ar, .inl (cI, 1280, .inl (fun _ => 0)))] s.heap.size = A at hD ⊢
  have hA : ∀ q : Nat, s.heap.size ≤ q → A q := fun q h => by rw [← hAe]; exact Or.inr h
  have hS : va_S A s.heap s.heap [] := va_S.rf
  have hP : va_P (dC, dI) vwCl [(h0, .inr (16, fs)), (ar, .inl (cI, 1280, .inl (fun _ => 0)))] s.heap := hP
  have hl := lv_entry ([.ref h0, .int p0]) (n := 5) (Nat.le_of_ble_eq_true rfl)
  rw [lg_entry_eq]
  generalize (lg_sl ([.ref h0, .int p0]) ++ List.replicate (5 - (lg_sl ([.ref h0, .int p0])).length) Slot.unset).toArray = ls at hl ⊢
  have hl : lv_has ls 5 [(0, .ref h0), (1, .int p0)] := hl
  refine ow_named (fun QQ hQQ => ?_)
  refine lv_aload_n hx hb dX13_simplify_0 rfl (lv_at hl 0 rfl) ?_
  refine lv_iconst (v := 0) hx hb dX13_simplify_1 (by decide) ?_
  refine va_put (D := (dC, dI)) (ci := 16) (v := .int 0) (ty := .int) (C := RX13) (T := TX13) (N := 120) hx hb hts (fun _ h => List.mem_cons_of_mem _ (List.mem_append_left _ (List.mem_append_right _ h))) tyX13 tyX13_ok nmX13 hown hK hP hD hS 0 rfl rfl 0 (by decide) (hts (.fieldLink RX13 1 "KnotHouseModel" "thrown" "I") (by decide +kernel)) (fun _ h9 => h9) rfl (by decide +kernel) rfl rfl (by rw [hfs]; decide) dX13_simplify_2 (fun H locs hP hD hS => ?_)
  obtain ⟨fs1, efs1⟩ : ∃ x, x = List.set fs 0 (.int 0) := ⟨_, rfl⟩
  have hnfs1 : fs1.length = 120 := by rw [efs1, List.length_set]; exact hfs
  have hfs1_11 : fs1[11]? = some (.ref ar) := by rw [efs1, List.getElem?_set_ne (by decide)]; exact hk
  have hfs1_0 : fs1[0]? = some (.int 0) := by rw [efs1]; exact List.getElem?_set_self (by rw [hfs]; decide)
  have hP : va_P (dC, dI) vwCl [(h0, .inr (16, fs1)), (ar, .inl (cI, 1280, .inl (fun _ => 0)))] H := by rw [efs1]; exact hP
  have hD : va_D A [(h0, .inr (16, fs1)), (ar, .inl (cI, 1280, .inl (fun _ => 0)))] := by rw [efs1]; exact hD
  refine lv_aload_n hx hb dX13_simplify_5 rfl (lv_at hl 0 rfl) ?_
  refine lv_iload_n hx hb dX13_simplify_6 rfl (lv_at hl 1 rfl) ?_
  have hPc := hP.sub (ws' := [(h0, .inr (16, fs1)), (ar, .inl (cI, 1280, .inl (fun _ => 0)))]) [0, 1] rfl
  refine va_calli (va_runV (As := [.int p0]) (rest := []) ⟨hx, hb, hml, hown, hts⟩ (kf_X13_has l dC dI cI cB cJ cZ h0 ar fs1 hnfs1 hfs1_11 p0) (cwV 1 hts gf_X13_simplify_a rfl rfl rfl (by decide +kernel) ⟨(Nat.le_of_ble_eq_true rfl), (Nat.le_of_ble_eq_true rfl)⟩) ⟨fun a U g mk q => by obtain ⟨q0, qP, qK⟩ := q; exact ⟨q0, qP, va_K.moved (u := U) (U := U.calling g mk a) (Vm.Alike.refl U.vm) qK⟩, va_recv hK hPc (ci := 16) (q0 := 0) rfl rfl, fun U hU hW => ⟨rfl, by rw [hU]; exact hPc, va_K.moved hW.alike hK⟩⟩ rfl rfl hl.1 rfl (lv_room (Nat.le_of_ble_eq_true rfl)) dX13_simplify_7 ⟨(Nat.le_of_ble_eq_true rfl), (Nat.le_of_ble_eq_true rfl)⟩) hS (fun q _ h => h.elim) (fun q h => h.elim) (fun r9 un t H1 locs ht hvm hw hB hz1 hk1 hS => ?_)
  obtain rfl : r9 = 0 := hw
  have hP := hP.kept (fun k9 x9 h9 => hk1 x9.1 ((hP k9 x9 h9).lt) id)
  generalize H1 = H at hP hS ⊢
  refine lv_if_ne (tgt := 19) hx hb dX13_simplify_10 (by decide) (fun c9 => absurd c9 (by decide)) (fun _ => ?_)
  refine lv_aload_n hx hb dX13_simplify_13 rfl (lv_at hl 0 rfl) ?_
  refine lv_iconst (v := 1) hx hb dX13_simplify_14 (by decide) ?_
  have hPc := hP.sub (ws' := [(h0, .inr (16, fs1))]) [0] rfl
  have hDc := hD.sub (ws' := [(h0, .inr (16, fs1))]) [0] (by decide) rfl
  have hFc := va_free (wc := [(h0, .inr (16, fs1))]) hD hS hA [0] rfl
  refine va_calli (va_runV (As := [.int 1]) (rest := []) ⟨hx, hb, hml, hown, hts⟩ (kf_X13_fails l dC dI cI cB cJ cZ h0 H.size fs1 hnfs1 1) (cwV 1 hts gf_X13_simplify_b rfl rfl rfl (by decide +kernel) ⟨(Nat.le_of_ble_eq_true rfl), (Nat.le_of_ble_eq_true rfl)⟩) ⟨fun a U g mk q => by obtain ⟨q0, q1, qP, qK, qD⟩ := q; exact ⟨q0, q1, qP, va_K.moved (u := U) (U := U.calling g mk a) (Vm.Alike.refl U.vm) qK, qD⟩, va_recv hK hPc (ci := 16) (q0 := 0) rfl rfl, fun U hU hW => ⟨rfl, by rw [hU], by rw [hU]; exact hPc, va_K.moved hW.alike hK, hDc.weaken (fun _ _ _ _ => trivial)⟩⟩ rfl rfl hl.1 rfl (lv_room (Nat.le_of_ble_eq_true rfl)) dX13_simplify_15 ⟨(Nat.le_of_ble_eq_true rfl), (Nat.le_of_ble_eq_true rfl)⟩) hS (fun q _ h => hFc q h) hFc (fun r9 gs t H1 locs ht hvm hw hB hz1 hk1 hS => ?_)
  obtain ⟨hP1, hD1⟩ := hB
  rw [ht] at hP1
  obtain ⟨hr0, hg0⟩ := hw
  subst hr0
  obtain ⟨hP, hD⟩ := va_join (wr := [(ar, .inl (cI, 1280, .inl (fun _ => 0)))]) (w1 := [(h0, .inr (16, gs))]) hP hD [0] [1] rfl rfl (by decide) (by decide) hk1 hFc hP1 hD1
  generalize H1 = H at hP hS ⊢
  have hP : va_P (dC, dI) vwCl [(ar, .inl (cI, 1280, .inl (fun _ => 0))), (h0, .inr (16, gs))] H := hP
  have hD : va_D A [(ar, .inl (cI, 1280, .inl (fun _ => 0))), (h0, .inr (16, gs))] := hD
  have hP := hP.sub (ws' := [(h0, .inr (16, gs))]) [1] rfl
  have hD := hD.sub (ws' := [(h0, .inr (16, gs))]) [1] (by decide) rfl
  rw [hQQ]
  exact W.iret (v := 0) hx hb hr (fun t ht hW => ⟨⟨0, gs, rfl, ⟨rfl, hg0⟩, by rw [ht]; exact hP, hD⟩, hS.F ht⟩) hS.2.2 dX13_simplify_18
theorem dX13_way_0 : decode cX13_way 0 = .ok (.aload_n 0, 1) := by decide +kernel
theorem dX13_way_1 : decode cX13_way 1 = .ok (.iconst 0, 1) := by decide +kernel
theorem dX13_way_2 : decode cX13_way 2 = .ok (.putfield 1, 3) := by decide +kernel
theorem dX13_way_5 : decode cX13_way 5 = .ok (.aload_n 0, 1) := by decide +kernel
theorem dX13_way_6 : decode cX13_way 6 = .ok (.iload_n 1, 1) := by decide +kernel
theorem dX13_way_7 : decode cX13_way 7 = .ok (.invokevirtual 423, 3) := by decide +kernel
theorem dX13_way_10 : decode cX13_way 10 = .ok (.ifCond .eq 11, 3) := by decide +kernel
theorem dX13_way_13 : decode cX13_way 13 = .ok (.aload_n 0, 1) := by decide +kernel
theorem dX13_way_14 : decode cX13_way 14 = .ok (.iload_n 2, 1) := by decide +kernel
theorem dX13_way_15 : decode cX13_way 15 = .ok (.invokevirtual 423, 3) := by decide +kernel
theorem dX13_way_18 : decode cX13_way 18 = .ok (.ifCond .ne 9, 3) := by decide +kernel
theorem dX13_way_21 : decode cX13_way 21 = .ok (.aload_n 0, 1) := by decide +kernel
theorem dX13_way_22 : decode cX13_way 22 = .ok (.iconst 1, 1) := by decide +kernel
theorem dX13_way_23 : decode cX13_way 23 = .ok (.invokevirtual 403, 3) := by decide +kernel
theorem dX13_way_26 : decode cX13_way 26 = .ok (.ireturn, 1) := by decide +kernel
theorem dX13_way_27 : decode cX13_way 27 = .ok (.aload_n 0, 1) := by decide +kernel
def wf_M_way : List Cond := .code yX13_way cX13_way 7 (some .int) :: ([.fieldLink RX13 1 "KnotHouseModel" "thrown" "I"] ++ wsX130 ++ (wsV RX13 423 RX13 yX13_has wf_Mhas ++ wsV RX13 403 RX13 yX13_fails wf_Mfails))
theorem gf_X13_way_a : GoodIn wf_M_way (wsV RX13 423 RX13 yX13_has wf_Mhas) := goodIn_sub (fun _ h => List.mem_cons_of_mem _ (List.mem_append_right _ (List.mem_append_left _ h))) (by decide +kernel)
theorem gf_X13_way_b : GoodIn wf_M_way (wsV RX13 403 RX13 yX13_fails wf_Mfails) := goodIn_sub (fun _ h => List.mem_cons_of_mem _ (List.mem_append_right _ (List.mem_append_right _ h))) (by decide +kernel)
set_option maxHeartbeats 4000000 in
set_option maxRecDepth 100000 in
theorem kf_X13_way (l : Launch) (dC : Nat → ClassId) (dI : Nat → Nat → Nat) (cI cB cJ cZ : ClassId) (h0 ar sz : Nat) (fs : List Value) (hfs : fs.length = 120) (hk : fs[11]? = some (.ref ar)) (p0 p1 : Int32) : Met l yX13_way wf_M_way (({ frames := 1, cells := 0, slots := 0, locals := 21 } : Room)) (va_Pc [.ref h0, .int p0, .int p1] (fun U => U.heap.size = sz ∧ va_P (dC, dI) vwCl [(h0, .inr (16, fs)), (ar, .inl (cI, 1280, .inl (fun _ => 0)))] U.heap ∧ va_K (dC, dI) vwCl [(cI, .int), (cB, .byte), (cJ, .long), (cZ, .boolean)] U ∧ va_D (fun _ => True) [(h0, .inr (16, fs)), (ar, .inl (cI, 1280, .inl (fun _ => 0)))])) (va_Qi (fun r (g : List Value) => r = 0 ∧ g[0]? = some (.int 1)) (fun g t => va_P (dC, dI) vwCl [(h0, .inr (16, g))] t.heap ∧ va_D (va_A [(h0, .inr (16, fs)), (ar, .inl (cI, 1280, .inl (fun _ => 0)))] sz) [(h0, .inr (16, g))]) (va_A [(h0, .inr (16, fs)), (ar, .inl (cI, 1280, .inl (fun _ => 0)))] sz)) 0 0 (va_A [(h0, .inr (16, fs)), (ar, .inl (cI, 1280, .inl (fun _ => 0)))] sz) := by
  refine Met.ofW (cc := cX13_way) (maxL := 7) (ret := (some .int)) (by decide) rfl ?_
  intro p e s m args below meth c s₁ B hml hv
  obtain ⟨rfl, hsz, hP, hK, hD0⟩ := hv
  have hx := B.exec
  have hb := B.bytes
  have hr := B.returns
  have hts := atoms_spec (ws := wf_M_way) B.pre
  have hown : s.vm.findClass RX13 = some m.cls := findClass_of_methodNamed B.named
  have hlocks := B.notSynchronized
  subst hsz
  have hD := hD0.self (sz := s.heap.size)
  generalize hAe : va_A [(h0, .inr (16, fs)), (ar, .inl (cI, 1280, .inl (fun _ => 0)))] s.heap.size = A at hD ⊢
  have hA : ∀ q : Nat, s.heap.size ≤ q → A q := fun q h => by rw [← hAe]; exact Or.inr h
  have hS : va_S A s.heap s.heap [] := va_S.rf
  have hP : va_P (dC, dI) vwCl [(h0, .inr (16, fs)), (ar, .inl (cI, 1280, .inl (fun _ => 0)))] s.heap := hP
  have hl := lv_entry ([.ref h0, .int p0, .int p1]) (n := 7) (Nat.le_of_ble_eq_true rfl)
  rw [lg_entry_eq]
  generalize (lg_sl ([.ref h0, .int p0, .int p1]) ++ List.replicate (7 - (lg_sl ([.ref h0, .int p0, .int p1])).length) Slot.unset).toArray = ls at hl ⊢
  have hl : lv_has ls 7 [(0, .ref h0), (1, .int p0), (2, .int p1)] := hl
  refine ow_named (fun QQ hQQ => ?_)
  refine lv_aload_n hx hb dX13_way_0 rfl (lv_at hl 0 rfl) ?_
  refine lv_iconst (v := 0) hx hb dX13_way_1 (by decide) ?_
  refine va_put (D := (dC, dI)) (ci := 16) (v := .int 0) (ty := .int) (C := RX13) (T := TX13) (N := 120) hx hb hts (fun _ h => List.mem_cons_of_mem _ (List.mem_append_left _ (List.mem_append_right _ h))) tyX13 tyX13_ok nmX13 hown hK hP hD hS 0 rfl rfl 0 (by decide) (hts (.fieldLink RX13 1 "KnotHouseModel" "thrown" "I") (by decide +kernel)) (fun _ h9 => h9) rfl (by decide +kernel) rfl rfl (by rw [hfs]; decide) dX13_way_2 (fun H locs hP hD hS => ?_)
  obtain ⟨fs1, efs1⟩ : ∃ x, x = List.set fs 0 (.int 0) := ⟨_, rfl⟩
  have hnfs1 : fs1.length = 120 := by rw [efs1, List.length_set]; exact hfs
  have hfs1_11 : fs1[11]? = some (.ref ar) := by rw [efs1, List.getElem?_set_ne (by decide)]; exact hk
  have hfs1_0 : fs1[0]? = some (.int 0) := by rw [efs1]; exact List.getElem?_set_self (by rw [hfs]; decide)
  have hP : va_P (dC, dI) vwCl [(h0, .inr (16, fs1)), (ar, .inl (cI, 1280, .inl (fun _ => 0)))] H := by rw [efs1]; exact hP
  have hD : va_D A [(h0, .inr (16, fs1)), (ar, .inl (cI, 1280, .inl (fun _ => 0)))] := by rw [efs1]; exact hD
  refine lv_aload_n hx hb dX13_way_5 rfl (lv_at hl 0 rfl) ?_
  refine lv_iload_n hx hb dX13_way_6 rfl (lv_at hl 1 rfl) ?_
  have hPc := hP.sub (ws' := [(h0, .inr (16, fs1)), (ar, .inl (cI, 1280, .inl (fun _ => 0)))]) [0, 1] rfl
  refine va_calli (va_runV (As := [.int p0]) (rest := []) ⟨hx, hb, hml, hown, hts⟩ (kf_X13_has l dC dI cI cB cJ cZ h0 ar fs1 hnfs1 hfs1_11 p0) (cwV 1 hts gf_X13_way_a rfl rfl rfl (by decide +kernel) ⟨(Nat.le_of_ble_eq_true rfl), (Nat.le_of_ble_eq_true rfl)⟩) ⟨fun a U g mk q => by obtain ⟨q0, qP, qK⟩ := q; exact ⟨q0, qP, va_K.moved (u := U) (U := U.calling g mk a) (Vm.Alike.refl U.vm) qK⟩, va_recv hK hPc (ci := 16) (q0 := 0) rfl rfl, fun U hU hW => ⟨rfl, by rw [hU]; exact hPc, va_K.moved hW.alike hK⟩⟩ rfl rfl hl.1 rfl (lv_room (Nat.le_of_ble_eq_true rfl)) dX13_way_7 ⟨(Nat.le_of_ble_eq_true rfl), (Nat.le_of_ble_eq_true rfl)⟩) hS (fun q _ h => h.elim) (fun q h => h.elim) (fun r9 un t H1 locs ht hvm hw hB hz1 hk1 hS => ?_)
  obtain rfl : r9 = 0 := hw
  have hP := hP.kept (fun k9 x9 h9 => hk1 x9.1 ((hP k9 x9 h9).lt) id)
  generalize H1 = H at hP hS ⊢
  refine lv_if_eq (tgt := 21) hx hb dX13_way_10 (by decide) (fun _ => ?_) (fun c9 => absurd (by decide) c9)
  refine lv_aload_n hx hb dX13_way_21 rfl (lv_at hl 0 rfl) ?_
  refine lv_iconst (v := 1) hx hb dX13_way_22 (by decide) ?_
  have hPc := hP.sub (ws' := [(h0, .inr (16, fs1))]) [0] rfl
  have hDc := hD.sub (ws' := [(h0, .inr (16, fs1))]) [0] (by decide) rfl
  have hFc := va_free (wc := [(h0, .inr (16, fs1))]) hD hS hA [0] rfl
  refine va_calli (va_runV (As := [.int 1]) (rest := []) ⟨hx, hb, hml, hown, hts⟩ (kf_X13_fails l dC dI cI cB cJ cZ h0 H.size fs1 hnfs1 1) (cwV 1 hts gf_X13_way_b rfl rfl rfl (by decide +kernel) ⟨(Nat.le_of_ble_eq_true rfl), (Nat.le_of_ble_eq_true rfl)⟩) ⟨fun a U g mk q => by obtain ⟨q0, q1, qP, qK, qD⟩ := q; exact ⟨q0, q1, qP, va_K.moved (u := U) (U := U.calling g mk a) (Vm.Alike.refl U.vm) qK, qD⟩, va_recv hK hPc (ci := 16) (q0 := 0) rfl rfl, fun U hU hW => ⟨rfl, by rw [hU], by rw [hU]; exact hPc, va_K.moved hW.alike hK, hDc.weaken (fun _ _ _ _ => trivial)⟩⟩ rfl rfl hl.1 rfl (lv_room (Nat.le_of_ble_eq_true rfl)) dX13_way_23 ⟨(Nat.le_of_ble_eq_true rfl), (Nat.le_of_ble_eq_true rfl)⟩) hS (fun q _ h => hFc q h) hFc (fun r9 gs t H1 locs ht hvm hw hB hz1 hk1 hS => ?_)
  obtain ⟨hP1, hD1⟩ := hB
  rw [ht] at hP1
  obtain ⟨hr0, hg0⟩ := hw
  subst hr0
  obtain ⟨hP, hD⟩ := va_join (wr := [(ar, .inl (cI, 1280, .inl (fun _ => 0)))]) (w1 := [(h0, .inr (16, gs))]) hP hD [0] [1] rfl rfl (by decide) (by decide) hk1 hFc hP1 hD1
  generalize H1 = H at hP hS ⊢
  have hP : va_P (dC, dI) vwCl [(ar, .inl (cI, 1280, .inl (fun _ => 0))), (h0, .inr (16, gs))] H := hP
  have hD : va_D A [(ar, .inl (cI, 1280, .inl (fun _ => 0))), (h0, .inr (16, gs))] := hD
  have hP := hP.sub (ws' := [(h0, .inr (16, gs))]) [1] rfl
  have hD := hD.sub (ws' := [(h0, .inr (16, gs))]) [1] (by decide) rfl
  rw [hQQ]
  exact W.iret (v := 0) hx hb hr (fun t ht hW => ⟨⟨0, gs, rfl, ⟨rfl, hg0⟩, by rw [ht]; exact hP, hD⟩, hS.F ht⟩) hS.2.2 dX13_way_26
theorem dX13_summands_0 : decode cX13_summands 0 = .ok (.aload_n 0, 1) := by decide +kernel
theorem dX13_summands_1 : decode cX13_summands 1 = .ok (.iconst 0, 1) := by decide +kernel
theorem dX13_summands_2 : decode cX13_summands 2 = .ok (.putfield 1, 3) := by decide +kernel
theorem dX13_summands_5 : decode cX13_summands 5 = .ok (.aload_n 0, 1) := by decide +kernel
theorem dX13_summands_6 : decode cX13_summands 6 = .ok (.iload_n 1, 1) := by decide +kernel
theorem dX13_summands_7 : decode cX13_summands 7 = .ok (.invokevirtual 423, 3) := by decide +kernel
theorem dX13_summands_10 : decode cX13_summands 10 = .ok (.ifCond .ne 9, 3) := by decide +kernel
theorem dX13_summands_13 : decode cX13_summands 13 = .ok (.aload_n 0, 1) := by decide +kernel
theorem dX13_summands_14 : decode cX13_summands 14 = .ok (.iconst 1, 1) := by decide +kernel
theorem dX13_summands_15 : decode cX13_summands 15 = .ok (.invokevirtual 403, 3) := by decide +kernel
theorem dX13_summands_18 : decode cX13_summands 18 = .ok (.ireturn, 1) := by decide +kernel
theorem dX13_summands_19 : decode cX13_summands 19 = .ok (.aload_n 0, 1) := by decide +kernel
def wf_M_summands : List Cond := .code yX13_summands cX13_summands 7 (some .int) :: ([.fieldLink RX13 1 "KnotHouseModel" "thrown" "I"] ++ wsX130 ++ (wsV RX13 423 RX13 yX13_has wf_Mhas ++ wsV RX13 403 RX13 yX13_fails wf_Mfails))
theorem gf_X13_summands_a : GoodIn wf_M_summands (wsV RX13 423 RX13 yX13_has wf_Mhas) := goodIn_sub (fun _ h => List.mem_cons_of_mem _ (List.mem_append_right _ (List.mem_append_left _ h))) (by decide +kernel)
theorem gf_X13_summands_b : GoodIn wf_M_summands (wsV RX13 403 RX13 yX13_fails wf_Mfails) := goodIn_sub (fun _ h => List.mem_cons_of_mem _ (List.mem_append_right _ (List.mem_append_right _ h))) (by decide +kernel)
set_option maxHeartbeats 4000000 in
set_option maxRecDepth 100000 in
theorem kf_X13_summands (l : Launch) (dC : Nat → ClassId) (dI : Nat → Nat → Nat) (cI cB cJ cZ : ClassId) (h0 ar sz : Nat) (fs : List Value) (hfs : fs.length = 120) (hk : fs[11]? = some (.ref ar)) (p0 : Int32) : Met l yX13_summands wf_M_summands (({ frames := 1, cells := 0, slots := 0, locals := 21 } : Room)) (va_Pc [.ref h0, .int p0] (fun U => U.heap.size = sz ∧ va_P (dC, dI) vwCl [(h0, .inr (16, fs)), (ar, .inl (cI, 1280, .inl (fun _ => 0)))] U.heap ∧ va_K (dC, dI) vwCl [(cI, .int), (cB, .byte), (cJ, .long), (cZ, .boolean)] U ∧ va_D (fun _ => True) [(h0, .inr (16, fs)), (ar, .inl (cI, 1280, .inl (fun _ => 0)))])) (va_Qi (fun r (g : List Value) => r = 0 ∧ g[0]? = some (.int 1)) (fun g t => va_P (dC, dI) vwCl [(h0, .inr (16, g))] t.heap ∧ va_D (va_A [(h0, .inr (16, fs)), (ar, .inl (cI, 1280, .inl (fun _ => 0)))] sz) [(h0, .inr (16, g))]) (va_A [(h0, .inr (16, fs)), (ar, .inl (cI, 1280, .inl (fun _ => 0)))] sz)) 0 0 (va_A [(h0, .inr (16, fs)), (ar, .inl (cI, 1280, .inl (fun _ => 0)))] sz) := by
  refine Met.ofW (cc := cX13_summands) (maxL := 7) (ret := (some .int)) (by decide) rfl ?_
  intro p e s m args below meth c s₁ B hml hv
  obtain ⟨rfl, hsz, hP, hK, hD0⟩ := hv
  have hx := B.exec
  have hb := B.bytes
  have hr := B.returns
  have hts := atoms_spec (ws := wf_M_summands) B.pre
  have hown : s.vm.findClass RX13 = some m.cls := findClass_of_methodNamed B.named
  have hlocks := B.notSynchronized
  subst hsz
  have hD := hD0.self (sz := s.heap.size)
  generalize hAe : va_A [(h0, .inr (16, fs)), (ar, .inl (cI, 1280, .inl (fun _ => 0)))] s.heap.size = A at hD ⊢
  have hA : ∀ q : Nat, s.heap.size ≤ q → A q := fun q h => by rw [← hAe]; exact Or.inr h
  have hS : va_S A s.heap s.heap [] := va_S.rf
  have hP : va_P (dC, dI) vwCl [(h0, .inr (16, fs)), (ar, .inl (cI, 1280, .inl (fun _ => 0)))] s.heap := hP
  have hl := lv_entry ([.ref h0, .int p0]) (n := 7) (Nat.le_of_ble_eq_true rfl)
  rw [lg_entry_eq]
  generalize (lg_sl ([.ref h0, .int p0]) ++ List.replicate (7 - (lg_sl ([.ref h0, .int p0])).length) Slot.unset).toArray = ls at hl ⊢
  have hl : lv_has ls 7 [(0, .ref h0), (1, .int p0)] := hl
  refine ow_named (fun QQ hQQ => ?_)
  refine lv_aload_n hx hb dX13_summands_0 rfl (lv_at hl 0 rfl) ?_
  refine lv_iconst (v := 0) hx hb dX13_summands_1 (by decide) ?_
  refine va_put (D := (dC, dI)) (ci := 16) (v := .int 0) (ty := .int) (C := RX13) (T := TX13) (N := 120) hx hb hts (fun _ h => List.mem_cons_of_mem _ (List.mem_append_left _ (List.mem_append_right _ h))) tyX13 tyX13_ok nmX13 hown hK hP hD hS 0 rfl rfl 0 (by decide) (hts (.fieldLink RX13 1 "KnotHouseModel" "thrown" "I") (by decide +kernel)) (fun _ h9 => h9) rfl (by decide +kernel) rfl rfl (by rw [hfs]; decide) dX13_summands_2 (fun H locs hP hD hS => ?_)
  obtain ⟨fs1, efs1⟩ : ∃ x, x = List.set fs 0 (.int 0) := ⟨_, rfl⟩
  have hnfs1 : fs1.length = 120 := by rw [efs1, List.length_set]; exact hfs
  have hfs1_11 : fs1[11]? = some (.ref ar) := by rw [efs1, List.getElem?_set_ne (by decide)]; exact hk
  have hfs1_0 : fs1[0]? = some (.int 0) := by rw [efs1]; exact List.getElem?_set_self (by rw [hfs]; decide)
  have hP : va_P (dC, dI) vwCl [(h0, .inr (16, fs1)), (ar, .inl (cI, 1280, .inl (fun _ => 0)))] H := by rw [efs1]; exact hP
  have hD : va_D A [(h0, .inr (16, fs1)), (ar, .inl (cI, 1280, .inl (fun _ => 0)))] := by rw [efs1]; exact hD
  refine lv_aload_n hx hb dX13_summands_5 rfl (lv_at hl 0 rfl) ?_
  refine lv_iload_n hx hb dX13_summands_6 rfl (lv_at hl 1 rfl) ?_
  have hPc := hP.sub (ws' := [(h0, .inr (16, fs1)), (ar, .inl (cI, 1280, .inl (fun _ => 0)))]) [0, 1] rfl
  refine va_calli (va_runV (As := [.int p0]) (rest := []) ⟨hx, hb, hml, hown, hts⟩ (kf_X13_has l dC dI cI cB cJ cZ h0 ar fs1 hnfs1 hfs1_11 p0) (cwV 1 hts gf_X13_summands_a rfl rfl rfl (by decide +kernel) ⟨(Nat.le_of_ble_eq_true rfl), (Nat.le_of_ble_eq_true rfl)⟩) ⟨fun a U g mk q => by obtain ⟨q0, qP, qK⟩ := q; exact ⟨q0, qP, va_K.moved (u := U) (U := U.calling g mk a) (Vm.Alike.refl U.vm) qK⟩, va_recv hK hPc (ci := 16) (q0 := 0) rfl rfl, fun U hU hW => ⟨rfl, by rw [hU]; exact hPc, va_K.moved hW.alike hK⟩⟩ rfl rfl hl.1 rfl (lv_room (Nat.le_of_ble_eq_true rfl)) dX13_summands_7 ⟨(Nat.le_of_ble_eq_true rfl), (Nat.le_of_ble_eq_true rfl)⟩) hS (fun q _ h => h.elim) (fun q h => h.elim) (fun r9 un t H1 locs ht hvm hw hB hz1 hk1 hS => ?_)
  obtain rfl : r9 = 0 := hw
  have hP := hP.kept (fun k9 x9 h9 => hk1 x9.1 ((hP k9 x9 h9).lt) id)
  generalize H1 = H at hP hS ⊢
  refine lv_if_ne (tgt := 19) hx hb dX13_summands_10 (by decide) (fun c9 => absurd c9 (by decide)) (fun _ => ?_)
  refine lv_aload_n hx hb dX13_summands_13 rfl (lv_at hl 0 rfl) ?_
  refine lv_iconst (v := 1) hx hb dX13_summands_14 (by decide) ?_
  have hPc := hP.sub (ws' := [(h0, .inr (16, fs1))]) [0] rfl
  have hDc := hD.sub (ws' := [(h0, .inr (16, fs1))]) [0] (by decide) rfl
  have hFc := va_free (wc := [(h0, .inr (16, fs1))]) hD hS hA [0] rfl
  refine va_calli (va_runV (As := [.int 1]) (rest := []) ⟨hx, hb, hml, hown, hts⟩ (kf_X13_fails l dC dI cI cB cJ cZ h0 H.size fs1 hnfs1 1) (cwV 1 hts gf_X13_summands_b rfl rfl rfl (by decide +kernel) ⟨(Nat.le_of_ble_eq_true rfl), (Nat.le_of_ble_eq_true rfl)⟩) ⟨fun a U g mk q => by obtain ⟨q0, q1, qP, qK, qD⟩ := q; exact ⟨q0, q1, qP, va_K.moved (u := U) (U := U.calling g mk a) (Vm.Alike.refl U.vm) qK, qD⟩, va_recv hK hPc (ci := 16) (q0 := 0) rfl rfl, fun U hU hW => ⟨rfl, by rw [hU], by rw [hU]; exact hPc, va_K.moved hW.alike hK, hDc.weaken (fun _ _ _ _ => trivial)⟩⟩ rfl rfl hl.1 rfl (lv_room (Nat.le_of_ble_eq_true rfl)) dX13_summands_15 ⟨(Nat.le_of_ble_eq_true rfl), (Nat.le_of_ble_eq_true rfl)⟩) hS (fun q _ h => hFc q h) hFc (fun r9 gs t H1 locs ht hvm hw hB hz1 hk1 hS => ?_)
  obtain ⟨hP1, hD1⟩ := hB
  rw [ht] at hP1
  obtain ⟨hr0, hg0⟩ := hw
  subst hr0
  obtain ⟨hP, hD⟩ := va_join (wr := [(ar, .inl (cI, 1280, .inl (fun _ => 0)))]) (w1 := [(h0, .inr (16, gs))]) hP hD [0] [1] rfl rfl (by decide) (by decide) hk1 hFc hP1 hD1
  generalize H1 = H at hP hS ⊢
  have hP : va_P (dC, dI) vwCl [(ar, .inl (cI, 1280, .inl (fun _ => 0))), (h0, .inr (16, gs))] H := hP
  have hD : va_D A [(ar, .inl (cI, 1280, .inl (fun _ => 0))), (h0, .inr (16, gs))] := hD
  have hP := hP.sub (ws' := [(h0, .inr (16, gs))]) [1] rfl
  have hD := hD.sub (ws' := [(h0, .inr (16, gs))]) [1] (by decide) rfl
  rw [hQQ]
  exact W.iret (v := 0) hx hb hr (fun t ht hW => ⟨⟨0, gs, rfl, ⟨rfl, hg0⟩, by rw [ht]; exact hP, hD⟩, hS.F ht⟩) hS.2.2 dX13_summands_18
theorem dX13_conway_0 : decode cX13_conway 0 = .ok (.aload_n 0, 1) := by decide +kernel
theorem dX13_conway_1 : decode cX13_conway 1 = .ok (.iconst 0, 1) := by decide +kernel
theorem dX13_conway_2 : decode cX13_conway 2 = .ok (.putfield 1, 3) := by decide +kernel
theorem dX13_conway_5 : decode cX13_conway 5 = .ok (.aload_n 0, 1) := by decide +kernel
theorem dX13_conway_6 : decode cX13_conway 6 = .ok (.iload_n 1, 1) := by decide +kernel
theorem dX13_conway_7 : decode cX13_conway 7 = .ok (.invokevirtual 423, 3) := by decide +kernel
theorem dX13_conway_10 : decode cX13_conway 10 = .ok (.ifCond .ne 9, 3) := by decide +kernel
theorem dX13_conway_13 : decode cX13_conway 13 = .ok (.aload_n 0, 1) := by decide +kernel
theorem dX13_conway_14 : decode cX13_conway 14 = .ok (.iconst 1, 1) := by decide +kernel
theorem dX13_conway_15 : decode cX13_conway 15 = .ok (.invokevirtual 403, 3) := by decide +kernel
theorem dX13_conway_18 : decode cX13_conway 18 = .ok (.ireturn, 1) := by decide +kernel
theorem dX13_conway_19 : decode cX13_conway 19 = .ok (.aload_n 0, 1) := by decide +kernel
def wf_M_conway : List Cond := .code yX13_conway cX13_conway 4 (some .int) :: ([.fieldLink RX13 1 "KnotHouseModel" "thrown" "I"] ++ wsX130 ++ (wsV RX13 423 RX13 yX13_has wf_Mhas ++ wsV RX13 403 RX13 yX13_fails wf_Mfails))
theorem gf_X13_conway_a : GoodIn wf_M_conway (wsV RX13 423 RX13 yX13_has wf_Mhas) := goodIn_sub (fun _ h => List.mem_cons_of_mem _ (List.mem_append_right _ (List.mem_append_left _ h))) (by decide +kernel)
theorem gf_X13_conway_b : GoodIn wf_M_conway (wsV RX13 403 RX13 yX13_fails wf_Mfails) := goodIn_sub (fun _ h => List.mem_cons_of_mem _ (List.mem_append_right _ (List.mem_append_right _ h))) (by decide +kernel)
set_option maxHeartbeats 4000000 in
set_option maxRecDepth 100000 in
theorem kf_X13_conway (l : Launch) (dC : Nat → ClassId) (dI : Nat → Nat → Nat) (cI cB cJ cZ : ClassId) (h0 ar sz : Nat) (fs : List Value) (hfs : fs.length = 120) (hk : fs[11]? = some (.ref ar)) (p0 p1 : Int32) : Met l yX13_conway wf_M_conway (({ frames := 1, cells := 0, slots := 0, locals := 21 } : Room)) (va_Pc [.ref h0, .int p0, .int p1] (fun U => U.heap.size = sz ∧ va_P (dC, dI) vwCl [(h0, .inr (16, fs)), (ar, .inl (cI, 1280, .inl (fun _ => 0)))] U.heap ∧ va_K (dC, dI) vwCl [(cI, .int), (cB, .byte), (cJ, .long), (cZ, .boolean)] U ∧ va_D (fun _ => True) [(h0, .inr (16, fs)), (ar, .inl (cI, 1280, .inl (fun _ => 0)))])) (va_Qi (fun r (g : List Value) => r = 0 ∧ g[0]? = some (.int 1)) (fun g t => va_P (dC, dI) vwCl [(h0, .inr (16, g))] t.heap ∧ va_D (va_A [(h0, .inr (16, fs)), (ar, .inl (cI, 1280, .inl (fun _ => 0)))] sz) [(h0, .inr (16, g))]) (va_A [(h0, .inr (16, fs)), (ar, .inl (cI, 1280, .inl (fun _ => 0)))] sz)) 0 0 (va_A [(h0, .inr (16, fs)), (ar, .inl (cI, 1280, .inl (fun _ => 0)))] sz) := by
  refine Met.ofW (cc := cX13_conway) (maxL := 4) (ret := (some .int)) (by decide) rfl ?_
  intro p e s m args below meth c s₁ B hml hv
  obtain ⟨rfl, hsz, hP, hK, hD0⟩ := hv
  have hx := B.exec
  have hb := B.bytes
  have hr := B.returns
  have hts := atoms_spec (ws := wf_M_conway) B.pre
  have hown : s.vm.findClass RX13 = some m.cls := findClass_of_methodNamed B.named
  have hlocks := B.notSynchronized
  subst hsz
  have hD := hD0.self (sz := s.heap.size)
  generalize hAe : va_A [(h0, .inr (16, fs)), (ar, .inl (cI, 1280, .inl (fun _ => 0)))] s.heap.size = A at hD ⊢
  have hA : ∀ q : Nat, s.heap.size ≤ q → A q := fun q h => by rw [← hAe]; exact Or.inr h
  have hS : va_S A s.heap s.heap [] := va_S.rf
  have hP : va_P (dC, dI) vwCl [(h0, .inr (16, fs)), (ar, .inl (cI, 1280, .inl (fun _ => 0)))] s.heap := hP
  have hl := lv_entry ([.ref h0, .int p0, .int p1]) (n := 4) (Nat.le_of_ble_eq_true rfl)
  rw [lg_entry_eq]
  generalize (lg_sl ([.ref h0, .int p0, .int p1]) ++ List.replicate (4 - (lg_sl ([.ref h0, .int p0, .int p1])).length) Slot.unset).toArray = ls at hl ⊢
  have hl : lv_has ls 4 [(0, .ref h0), (1, .int p0), (2, .int p1)] := hl
  refine ow_named (fun QQ hQQ => ?_)
  refine lv_aload_n hx hb dX13_conway_0 rfl (lv_at hl 0 rfl) ?_
  refine lv_iconst (v := 0) hx hb dX13_conway_1 (by decide) ?_
  refine va_put (D := (dC, dI)) (ci := 16) (v := .int 0) (ty := .int) (C := RX13) (T := TX13) (N := 120) hx hb hts (fun _ h => List.mem_cons_of_mem _ (List.mem_append_left _ (List.mem_append_right _ h))) tyX13 tyX13_ok nmX13 hown hK hP hD hS 0 rfl rfl 0 (by decide) (hts (.fieldLink RX13 1 "KnotHouseModel" "thrown" "I") (by decide +kernel)) (fun _ h9 => h9) rfl (by decide +kernel) rfl rfl (by rw [hfs]; decide) dX13_conway_2 (fun H locs hP hD hS => ?_)
  obtain ⟨fs1, efs1⟩ : ∃ x, x = List.set fs 0 (.int 0) := ⟨_, rfl⟩
  have hnfs1 : fs1.length = 120 := by rw [efs1, List.length_set]; exact hfs
  have hfs1_11 : fs1[11]? = some (.ref ar) := by rw [efs1, List.getElem?_set_ne (by decide)]; exact hk
  have hfs1_0 : fs1[0]? = some (.int 0) := by rw [efs1]; exact List.getElem?_set_self (by rw [hfs]; decide)
  have hP : va_P (dC, dI) vwCl [(h0, .inr (16, fs1)), (ar, .inl (cI, 1280, .inl (fun _ => 0)))] H := by rw [efs1]; exact hP
  have hD : va_D A [(h0, .inr (16, fs1)), (ar, .inl (cI, 1280, .inl (fun _ => 0)))] := by rw [efs1]; exact hD
  refine lv_aload_n hx hb dX13_conway_5 rfl (lv_at hl 0 rfl) ?_
  refine lv_iload_n hx hb dX13_conway_6 rfl (lv_at hl 1 rfl) ?_
  have hPc := hP.sub (ws' := [(h0, .inr (16, fs1)), (ar, .inl (cI, 1280, .inl (fun _ => 0)))]) [0, 1] rfl
  refine va_calli (va_runV (As := [.int p0]) (rest := []) ⟨hx, hb, hml, hown, hts⟩ (kf_X13_has l dC dI cI cB cJ cZ h0 ar fs1 hnfs1 hfs1_11 p0) (cwV 1 hts gf_X13_conway_a rfl rfl rfl (by decide +kernel) ⟨(Nat.le_of_ble_eq_true rfl), (Nat.le_of_ble_eq_true rfl)⟩) ⟨fun a U g mk q => by obtain ⟨q0, qP, qK⟩ := q; exact ⟨q0, qP, va_K.moved (u := U) (U := U.calling g mk a) (Vm.Alike.refl U.vm) qK⟩, va_recv hK hPc (ci := 16) (q0 := 0) rfl rfl, fun U hU hW => ⟨rfl, by rw [hU]; exact hPc, va_K.moved hW.alike hK⟩⟩ rfl rfl hl.1 rfl (lv_room (Nat.le_of_ble_eq_true rfl)) dX13_conway_7 ⟨(Nat.le_of_ble_eq_true rfl), (Nat.le_of_ble_eq_true rfl)⟩) hS (fun q _ h => h.elim) (fun q h => h.elim) (fun r9 un t H1 locs ht hvm hw hB hz1 hk1 hS => ?_)
  obtain rfl : r9 = 0 := hw
  have hP := hP.kept (fun k9 x9 h9 => hk1 x9.1 ((hP k9 x9 h9).lt) id)
  generalize H1 = H at hP hS ⊢
  refine lv_if_ne (tgt := 19) hx hb dX13_conway_10 (by decide) (fun c9 => absurd c9 (by decide)) (fun _ => ?_)
  refine lv_aload_n hx hb dX13_conway_13 rfl (lv_at hl 0 rfl) ?_
  refine lv_iconst (v := 1) hx hb dX13_conway_14 (by decide) ?_
  have hPc := hP.sub (ws' := [(h0, .inr (16, fs1))]) [0] rfl
  have hDc := hD.sub (ws' := [(h0, .inr (16, fs1))]) [0] (by decide) rfl
  have hFc := va_free (wc := [(h0, .inr (16, fs1))]) hD hS hA [0] rfl
  refine va_calli (va_runV (As := [.int 1]) (rest := []) ⟨hx, hb, hml, hown, hts⟩ (kf_X13_fails l dC dI cI cB cJ cZ h0 H.size fs1 hnfs1 1) (cwV 1 hts gf_X13_conway_b rfl rfl rfl (by decide +kernel) ⟨(Nat.le_of_ble_eq_true rfl), (Nat.le_of_ble_eq_true rfl)⟩) ⟨fun a U g mk q => by obtain ⟨q0, q1, qP, qK, qD⟩ := q; exact ⟨q0, q1, qP, va_K.moved (u := U) (U := U.calling g mk a) (Vm.Alike.refl U.vm) qK, qD⟩, va_recv hK hPc (ci := 16) (q0 := 0) rfl rfl, fun U hU hW => ⟨rfl, by rw [hU], by rw [hU]; exact hPc, va_K.moved hW.alike hK, hDc.weaken (fun _ _ _ _ => trivial)⟩⟩ rfl rfl hl.1 rfl (lv_room (Nat.le_of_ble_eq_true rfl)) dX13_conway_15 ⟨(Nat.le_of_ble_eq_true rfl), (Nat.le_of_ble_eq_true rfl)⟩) hS (fun q _ h => hFc q h) hFc (fun r9 gs t H1 locs ht hvm hw hB hz1 hk1 hS => ?_)
  obtain ⟨hP1, hD1⟩ := hB
  rw [ht] at hP1
  obtain ⟨hr0, hg0⟩ := hw
  subst hr0
  obtain ⟨hP, hD⟩ := va_join (wr := [(ar, .inl (cI, 1280, .inl (fun _ => 0)))]) (w1 := [(h0, .inr (16, gs))]) hP hD [0] [1] rfl rfl (by decide) (by decide) hk1 hFc hP1 hD1
  generalize H1 = H at hP hS ⊢
  have hP : va_P (dC, dI) vwCl [(ar, .inl (cI, 1280, .inl (fun _ => 0))), (h0, .inr (16, gs))] H := hP
  have hD : va_D A [(ar, .inl (cI, 1280, .inl (fun _ => 0))), (h0, .inr (16, gs))] := hD
  have hP := hP.sub (ws' := [(h0, .inr (16, gs))]) [1] rfl
  have hD := hD.sub (ws' := [(h0, .inr (16, gs))]) [1] (by decide) rfl
  rw [hQQ]
  exact W.iret (v := 0) hx hb hr (fun t ht hW => ⟨⟨0, gs, rfl, ⟨rfl, hg0⟩, by rw [ht]; exact hP, hD⟩, hS.F ht⟩) hS.2.2 dX13_conway_18
theorem dX13_jones_0 : decode cX13_jones 0 = .ok (.aload_n 0, 1) := by decide +kernel
theorem dX13_jones_1 : decode cX13_jones 1 = .ok (.iconst 0, 1) := by decide +kernel
theorem dX13_jones_2 : decode cX13_jones 2 = .ok (.putfield 1, 3) := by decide +kernel
theorem dX13_jones_5 : decode cX13_jones 5 = .ok (.aload_n 0, 1) := by decide +kernel
theorem dX13_jones_6 : decode cX13_jones 6 = .ok (.iload_n 1, 1) := by decide +kernel
theorem dX13_jones_7 : decode cX13_jones 7 = .ok (.invokevirtual 423, 3) := by decide +kernel
theorem dX13_jones_10 : decode cX13_jones 10 = .ok (.ifCond .ne 9, 3) := by decide +kernel
theorem dX13_jones_13 : decode cX13_jones 13 = .ok (.aload_n 0, 1) := by decide +kernel
theorem dX13_jones_14 : decode cX13_jones 14 = .ok (.iconst 1, 1) := by decide +kernel
theorem dX13_jones_15 : decode cX13_jones 15 = .ok (.invokevirtual 403, 3) := by decide +kernel
theorem dX13_jones_18 : decode cX13_jones 18 = .ok (.ireturn, 1) := by decide +kernel
theorem dX13_jones_19 : decode cX13_jones 19 = .ok (.aload_n 0, 1) := by decide +kernel
def wf_M_jones : List Cond := .code yX13_jones cX13_jones 4 (some .int) :: ([.fieldLink RX13 1 "KnotHouseModel" "thrown" "I"] ++ wsX130 ++ (wsV RX13 423 RX13 yX13_has wf_Mhas ++ wsV RX13 403 RX13 yX13_fails wf_Mfails))
theorem gf_X13_jones_a : GoodIn wf_M_jones (wsV RX13 423 RX13 yX13_has wf_Mhas) := goodIn_sub (fun _ h => List.mem_cons_of_mem _ (List.mem_append_right _ (List.mem_append_left _ h))) (by decide +kernel)
theorem gf_X13_jones_b : GoodIn wf_M_jones (wsV RX13 403 RX13 yX13_fails wf_Mfails) := goodIn_sub (fun _ h => List.mem_cons_of_mem _ (List.mem_append_right _ (List.mem_append_right _ h))) (by decide +kernel)
set_option maxHeartbeats 4000000 in
set_option maxRecDepth 100000 in
theorem kf_X13_jones (l : Launch) (dC : Nat → ClassId) (dI : Nat → Nat → Nat) (cI cB cJ cZ : ClassId) (h0 ar sz : Nat) (fs : List Value) (hfs : fs.length = 120) (hk : fs[11]? = some (.ref ar)) (p0 p1 : Int32) : Met l yX13_jones wf_M_jones (({ frames := 1, cells := 0, slots := 0, locals := 21 } : Room)) (va_Pc [.ref h0, .int p0, .int p1] (fun U => U.heap.size = sz ∧ va_P (dC, dI) vwCl [(h0, .inr (16, fs)), (ar, .inl (cI, 1280, .inl (fun _ => 0)))] U.heap ∧ va_K (dC, dI) vwCl [(cI, .int), (cB, .byte), (cJ, .long), (cZ, .boolean)] U ∧ va_D (fun _ => True) [(h0, .inr (16, fs)), (ar, .inl (cI, 1280, .inl (fun _ => 0)))])) (va_Qi (fun r (g : List Value) => r = 0 ∧ g[0]? = some (.int 1)) (fun g t => va_P (dC, dI) vwCl [(h0, .inr (16, g))] t.heap ∧ va_D (va_A [(h0, .inr (16, fs)), (ar, .inl (cI, 1280, .inl (fun _ => 0)))] sz) [(h0, .inr (16, g))]) (va_A [(h0, .inr (16, fs)), (ar, .inl (cI, 1280, .inl (fun _ => 0)))] sz)) 0 0 (va_A [(h0, .inr (16, fs)), (ar, .inl (cI, 1280, .inl (fun _ => 0)))] sz) := by
  refine Met.ofW (cc := cX13_jones) (maxL := 4) (ret := (some .int)) (by decide) rfl ?_
  intro p e s m args below meth c s₁ B hml hv
  obtain ⟨rfl, hsz, hP, hK, hD0⟩ := hv
  have hx := B.exec
  have hb := B.bytes
  have hr := B.returns
  have hts := atoms_spec (ws := wf_M_jones) B.pre
  have hown : s.vm.findClass RX13 = some m.cls := findClass_of_methodNamed B.named
  have hlocks := B.notSynchronized
  subst hsz
  have hD := hD0.self (sz := s.heap.size)
  generalize hAe : va_A [(h0, .inr (16, fs)), (ar, .inl (cI, 1280, .inl (fun _ => 0)))] s.heap.size = A at hD ⊢
  have hA : ∀ q : Nat, s.heap.size ≤ q → A q := fun q h => by rw [← hAe]; exact Or.inr h
  have hS : va_S A s.heap s.heap [] := va_S.rf
  have hP : va_P (dC, dI) vwCl [(h0, .inr (16, fs)), (ar, .inl (cI, 1280, .inl (fun _ => 0)))] s.heap := hP
  have hl := lv_entry ([.ref h0, .int p0, .int p1]) (n := 4) (Nat.le_of_ble_eq_true rfl)
  rw [lg_entry_eq]
  generalize (lg_sl ([.ref h0, .int p0, .int p1]) ++ List.replicate (4 - (lg_sl ([.ref h0, .int p0, .int p1])).length) Slot.unset).toArray = ls at hl ⊢
  have hl : lv_has ls 4 [(0, .ref h0), (1, .int p0), (2, .int p1)] := hl
  refine ow_named (fun QQ hQQ => ?_)
  refine lv_aload_n hx hb dX13_jones_0 rfl (lv_at hl 0 rfl) ?_
  refine lv_iconst (v := 0) hx hb dX13_jones_1 (by decide) ?_
  refine va_put (D := (dC, dI)) (ci := 16) (v := .int 0) (ty := .int) (C := RX13) (T := TX13) (N := 120) hx hb hts (fun _ h => List.mem_cons_of_mem _ (List.mem_append_left _ (List.mem_append_right _ h))) tyX13 tyX13_ok nmX13 hown hK hP hD hS 0 rfl rfl 0 (by decide) (hts (.fieldLink RX13 1 "KnotHouseModel" "thrown" "I") (by decide +kernel)) (fun _ h9 => h9) rfl (by decide +kernel) rfl rfl (by rw [hfs]; decide) dX13_jones_2 (fun H locs hP hD hS => ?_)
  obtain ⟨fs1, efs1⟩ : ∃ x, x = List.set fs 0 (.int 0) := ⟨_, rfl⟩
  have hnfs1 : fs1.length = 120 := by rw [efs1, List.length_set]; exact hfs
  have hfs1_11 : fs1[11]? = some (.ref ar) := by rw [efs1, List.getElem?_set_ne (by decide)]; exact hk
  have hfs1_0 : fs1[0]? = some (.int 0) := by rw [efs1]; exact List.getElem?_set_self (by rw [hfs]; decide)
  have hP : va_P (dC, dI) vwCl [(h0, .inr (16, fs1)), (ar, .inl (cI, 1280, .inl (fun _ => 0)))] H := by rw [efs1]; exact hP
  have hD : va_D A [(h0, .inr (16, fs1)), (ar, .inl (cI, 1280, .inl (fun _ => 0)))] := by rw [efs1]; exact hD
  refine lv_aload_n hx hb dX13_jones_5 rfl (lv_at hl 0 rfl) ?_
  refine lv_iload_n hx hb dX13_jones_6 rfl (lv_at hl 1 rfl) ?_
  have hPc := hP.sub (ws' := [(h0, .inr (16, fs1)), (ar, .inl (cI, 1280, .inl (fun _ => 0)))]) [0, 1] rfl
  refine va_calli (va_runV (As := [.int p0]) (rest := []) ⟨hx, hb, hml, hown, hts⟩ (kf_X13_has l dC dI cI cB cJ cZ h0 ar fs1 hnfs1 hfs1_11 p0) (cwV 1 hts gf_X13_jones_a rfl rfl rfl (by decide +kernel) ⟨(Nat.le_of_ble_eq_true rfl), (Nat.le_of_ble_eq_true rfl)⟩) ⟨fun a U g mk q => by obtain ⟨q0, qP, qK⟩ := q; exact ⟨q0, qP, va_K.moved (u := U) (U := U.calling g mk a) (Vm.Alike.refl U.vm) qK⟩, va_recv hK hPc (ci := 16) (q0 := 0) rfl rfl, fun U hU hW => ⟨rfl, by rw [hU]; exact hPc, va_K.moved hW.alike hK⟩⟩ rfl rfl hl.1 rfl (lv_room (Nat.le_of_ble_eq_true rfl)) dX13_jones_7 ⟨(Nat.le_of_ble_eq_true rfl), (Nat.le_of_ble_eq_true rfl)⟩) hS (fun q _ h => h.elim) (fun q h => h.elim) (fun r9 un t H1 locs ht hvm hw hB hz1 hk1 hS => ?_)
  obtain rfl : r9 = 0 := hw
  have hP := hP.kept (fun k9 x9 h9 => hk1 x9.1 ((hP k9 x9 h9).lt) id)
  generalize H1 = H at hP hS ⊢
  refine lv_if_ne (tgt := 19) hx hb dX13_jones_10 (by decide) (fun c9 => absurd c9 (by decide)) (fun _ => ?_)
  refine lv_aload_n hx hb dX13_jones_13 rfl (lv_at hl 0 rfl) ?_
  refine lv_iconst (v := 1) hx hb dX13_jones_14 (by decide) ?_
  have hPc := hP.sub (ws' := [(h0, .inr (16, fs1))]) [0] rfl
  have hDc := hD.sub (ws' := [(h0, .inr (16, fs1))]) [0] (by decide) rfl
  have hFc := va_free (wc := [(h0, .inr (16, fs1))]) hD hS hA [0] rfl
  refine va_calli (va_runV (As := [.int 1]) (rest := []) ⟨hx, hb, hml, hown, hts⟩ (kf_X13_fails l dC dI cI cB cJ cZ h0 H.size fs1 hnfs1 1) (cwV 1 hts gf_X13_jones_b rfl rfl rfl (by decide +kernel) ⟨(Nat.le_of_ble_eq_true rfl), (Nat.le_of_ble_eq_true rfl)⟩) ⟨fun a U g mk q => by obtain ⟨q0, q1, qP, qK, qD⟩ := q; exact ⟨q0, q1, qP, va_K.moved (u := U) (U := U.calling g mk a) (Vm.Alike.refl U.vm) qK, qD⟩, va_recv hK hPc (ci := 16) (q0 := 0) rfl rfl, fun U hU hW => ⟨rfl, by rw [hU], by rw [hU]; exact hPc, va_K.moved hW.alike hK, hDc.weaken (fun _ _ _ _ => trivial)⟩⟩ rfl rfl hl.1 rfl (lv_room (Nat.le_of_ble_eq_true rfl)) dX13_jones_15 ⟨(Nat.le_of_ble_eq_true rfl), (Nat.le_of_ble_eq_true rfl)⟩) hS (fun q _ h => hFc q h) hFc (fun r9 gs t H1 locs ht hvm hw hB hz1 hk1 hS => ?_)
  obtain ⟨hP1, hD1⟩ := hB
  rw [ht] at hP1
  obtain ⟨hr0, hg0⟩ := hw
  subst hr0
  obtain ⟨hP, hD⟩ := va_join (wr := [(ar, .inl (cI, 1280, .inl (fun _ => 0)))]) (w1 := [(h0, .inr (16, gs))]) hP hD [0] [1] rfl rfl (by decide) (by decide) hk1 hFc hP1 hD1
  generalize H1 = H at hP hS ⊢
  have hP : va_P (dC, dI) vwCl [(ar, .inl (cI, 1280, .inl (fun _ => 0))), (h0, .inr (16, gs))] H := hP
  have hD : va_D A [(ar, .inl (cI, 1280, .inl (fun _ => 0))), (h0, .inr (16, gs))] := hD
  have hP := hP.sub (ws' := [(h0, .inr (16, gs))]) [1] rfl
  have hD := hD.sub (ws' := [(h0, .inr (16, gs))]) [1] (by decide) rfl
  rw [hQQ]
  exact W.iret (v := 0) hx hb hr (fun t ht hW => ⟨⟨0, gs, rfl, ⟨rfl, hg0⟩, by rw [ht]; exact hP, hD⟩, hS.F ht⟩) hS.2.2 dX13_jones_18
theorem dX13_signature_0 : decode cX13_signature 0 = .ok (.aload_n 0, 1) := by decide +kernel
theorem dX13_signature_1 : decode cX13_signature 1 = .ok (.iconst 0, 1) := by decide +kernel
theorem dX13_signature_2 : decode cX13_signature 2 = .ok (.putfield 1, 3) := by decide +kernel
theorem dX13_signature_5 : decode cX13_signature 5 = .ok (.aload_n 0, 1) := by decide +kernel
theorem dX13_signature_6 : decode cX13_signature 6 = .ok (.iload_n 1, 1) := by decide +kernel
theorem dX13_signature_7 : decode cX13_signature 7 = .ok (.invokevirtual 423, 3) := by decide +kernel
theorem dX13_signature_10 : decode cX13_signature 10 = .ok (.ifCond .ne 9, 3) := by decide +kernel
theorem dX13_signature_13 : decode cX13_signature 13 = .ok (.aload_n 0, 1) := by decide +kernel
theorem dX13_signature_14 : decode cX13_signature 14 = .ok (.iconst 1, 1) := by decide +kernel
theorem dX13_signature_15 : decode cX13_signature 15 = .ok (.invokevirtual 403, 3) := by decide +kernel
theorem dX13_signature_18 : decode cX13_signature 18 = .ok (.ireturn, 1) := by decide +kernel
theorem dX13_signature_19 : decode cX13_signature 19 = .ok (.aload_n 0, 1) := by decide +kernel
def wf_M_signature : List Cond := .code yX13_signature cX13_signature 6 (some .int) :: ([.fieldLink RX13 1 "KnotHouseModel" "thrown" "I"] ++ wsX130 ++ (wsV RX13 423 RX13 yX13_has wf_Mhas ++ wsV RX13 403 RX13 yX13_fails wf_Mfails))
theorem gf_X13_signature_a : GoodIn wf_M_signature (wsV RX13 423 RX13 yX13_has wf_Mhas) := goodIn_sub (fun _ h => List.mem_cons_of_mem _ (List.mem_append_right _ (List.mem_append_left _ h))) (by decide +kernel)
theorem gf_X13_signature_b : GoodIn wf_M_signature (wsV RX13 403 RX13 yX13_fails wf_Mfails) := goodIn_sub (fun _ h => List.mem_cons_of_mem _ (List.mem_append_right _ (List.mem_append_right _ h))) (by decide +kernel)
set_option maxHeartbeats 4000000 in
set_option maxRecDepth 100000 in
theorem kf_X13_signature (l : Launch) (dC : Nat → ClassId) (dI : Nat → Nat → Nat) (cI cB cJ cZ : ClassId) (h0 ar sz : Nat) (fs : List Value) (hfs : fs.length = 120) (hk : fs[11]? = some (.ref ar)) (p0 : Int32) : Met l yX13_signature wf_M_signature (({ frames := 1, cells := 0, slots := 0, locals := 21 } : Room)) (va_Pc [.ref h0, .int p0] (fun U => U.heap.size = sz ∧ va_P (dC, dI) vwCl [(h0, .inr (16, fs)), (ar, .inl (cI, 1280, .inl (fun _ => 0)))] U.heap ∧ va_K (dC, dI) vwCl [(cI, .int), (cB, .byte), (cJ, .long), (cZ, .boolean)] U ∧ va_D (fun _ => True) [(h0, .inr (16, fs)), (ar, .inl (cI, 1280, .inl (fun _ => 0)))])) (va_Qi (fun r (g : List Value) => r = 0 ∧ g[0]? = some (.int 1)) (fun g t => va_P (dC, dI) vwCl [(h0, .inr (16, g))] t.heap ∧ va_D (va_A [(h0, .inr (16, fs)), (ar, .inl (cI, 1280, .inl (fun _ => 0)))] sz) [(h0, .inr (16, g))]) (va_A [(h0, .inr (16, fs)), (ar, .inl (cI, 1280, .inl (fun _ => 0)))] sz)) 0 0 (va_A [(h0, .inr (16, fs)), (ar, .inl (cI, 1280, .inl (fun _ => 0)))] sz) := by
  refine Met.ofW (cc := cX13_signature) (maxL := 6) (ret := (some .int)) (by decide) rfl ?_
  intro p e s m args below meth c s₁ B hml hv
  obtain ⟨rfl, hsz, hP, hK, hD0⟩ := hv
  have hx := B.exec
  have hb := B.bytes
  have hr := B.returns
  have hts := atoms_spec (ws := wf_M_signature) B.pre
  have hown : s.vm.findClass RX13 = some m.cls := findClass_of_methodNamed B.named
  have hlocks := B.notSynchronized
  subst hsz
  have hD := hD0.self (sz := s.heap.size)
  generalize hAe : va_A [(h0, .inr (16, fs)), (ar, .inl (cI, 1280, .inl (fun _ => 0)))] s.heap.size = A at hD ⊢
  have hA : ∀ q : Nat, s.heap.size ≤ q → A q := fun q h => by rw [← hAe]; exact Or.inr h
  have hS : va_S A s.heap s.heap [] := va_S.rf
  have hP : va_P (dC, dI) vwCl [(h0, .inr (16, fs)), (ar, .inl (cI, 1280, .inl (fun _ => 0)))] s.heap := hP
  have hl := lv_entry ([.ref h0, .int p0]) (n := 6) (Nat.le_of_ble_eq_true rfl)
  rw [lg_entry_eq]
  generalize (lg_sl ([.ref h0, .int p0]) ++ List.replicate (6 - (lg_sl ([.ref h0, .int p0])).length) Slot.unset).toArray = ls at hl ⊢
  have hl : lv_has ls 6 [(0, .ref h0), (1, .int p0)] := hl
  refine ow_named (fun QQ hQQ => ?_)
  refine lv_aload_n hx hb dX13_signature_0 rfl (lv_at hl 0 rfl) ?_
  refine lv_iconst (v := 0) hx hb dX13_signature_1 (by decide) ?_
  refine va_put (D := (dC, dI)) (ci := 16) (v := .int 0) (ty := .int) (C := RX13) (T := TX13) (N := 120) hx hb hts (fun _ h => List.mem_cons_of_mem _ (List.mem_append_left _ (List.mem_append_right _ h))) tyX13 tyX13_ok nmX13 hown hK hP hD hS 0 rfl rfl 0 (by decide) (hts (.fieldLink RX13 1 "KnotHouseModel" "thrown" "I") (by decide +kernel)) (fun _ h9 => h9) rfl (by decide +kernel) rfl rfl (by rw [hfs]; decide) dX13_signature_2 (fun H locs hP hD hS => ?_)
  obtain ⟨fs1, efs1⟩ : ∃ x, x = List.set fs 0 (.int 0) := ⟨_, rfl⟩
  have hnfs1 : fs1.length = 120 := by rw [efs1, List.length_set]; exact hfs
  have hfs1_11 : fs1[11]? = some (.ref ar) := by rw [efs1, List.getElem?_set_ne (by decide)]; exact hk
  have hfs1_0 : fs1[0]? = some (.int 0) := by rw [efs1]; exact List.getElem?_set_self (by rw [hfs]; decide)
  have hP : va_P (dC, dI) vwCl [(h0, .inr (16, fs1)), (ar, .inl (cI, 1280, .inl (fun _ => 0)))] H := by rw [efs1]; exact hP
  have hD : va_D A [(h0, .inr (16, fs1)), (ar, .inl (cI, 1280, .inl (fun _ => 0)))] := by rw [efs1]; exact hD
  refine lv_aload_n hx hb dX13_signature_5 rfl (lv_at hl 0 rfl) ?_
  refine lv_iload_n hx hb dX13_signature_6 rfl (lv_at hl 1 rfl) ?_
  have hPc := hP.sub (ws' := [(h0, .inr (16, fs1)), (ar, .inl (cI, 1280, .inl (fun _ => 0)))]) [0, 1] rfl
  refine va_calli (va_runV (As := [.int p0]) (rest := []) ⟨hx, hb, hml, hown, hts⟩ (kf_X13_has l dC dI cI cB cJ cZ h0 ar fs1 hnfs1 hfs1_11 p0) (cwV 1 hts gf_X13_signature_a rfl rfl rfl (by decide +kernel) ⟨(Nat.le_of_ble_eq_true rfl), (Nat.le_of_ble_eq_true rfl)⟩) ⟨fun a U g mk q => by obtain ⟨q0, qP, qK⟩ := q; exact ⟨q0, qP, va_K.moved (u := U) (U := U.calling g mk a) (Vm.Alike.refl U.vm) qK⟩, va_recv hK hPc (ci := 16) (q0 := 0) rfl rfl, fun U hU hW => ⟨rfl, by rw [hU]; exact hPc, va_K.moved hW.alike hK⟩⟩ rfl rfl hl.1 rfl (lv_room (Nat.le_of_ble_eq_true rfl)) dX13_signature_7 ⟨(Nat.le_of_ble_eq_true rfl), (Nat.le_of_ble_eq_true rfl)⟩) hS (fun q _ h => h.elim) (fun q h => h.elim) (fun r9 un t H1 locs ht hvm hw hB hz1 hk1 hS => ?_)
  obtain rfl : r9 = 0 := hw
  have hP := hP.kept (fun k9 x9 h9 => hk1 x9.1 ((hP k9 x9 h9).lt) id)
  generalize H1 = H at hP hS ⊢
  refine lv_if_ne (tgt := 19) hx hb dX13_signature_10 (by decide) (fun c9 => absurd c9 (by decide)) (fun _ => ?_)
  refine lv_aload_n hx hb dX13_signature_13 rfl (lv_at hl 0 rfl) ?_
  refine lv_iconst (v := 1) hx hb dX13_signature_14 (by decide) ?_
  have hPc := hP.sub (ws' := [(h0, .inr (16, fs1))]) [0] rfl
  have hDc := hD.sub (ws' := [(h0, .inr (16, fs1))]) [0] (by decide) rfl
  have hFc := va_free (wc := [(h0, .inr (16, fs1))]) hD hS hA [0] rfl
  refine va_calli (va_runV (As := [.int 1]) (rest := []) ⟨hx, hb, hml, hown, hts⟩ (kf_X13_fails l dC dI cI cB cJ cZ h0 H.size fs1 hnfs1 1) (cwV 1 hts gf_X13_signature_b rfl rfl rfl (by decide +kernel) ⟨(Nat.le_of_ble_eq_true rfl), (Nat.le_of_ble_eq_true rfl)⟩) ⟨fun a U g mk q => by obtain ⟨q0, q1, qP, qK, qD⟩ := q; exact ⟨q0, q1, qP, va_K.moved (u := U) (U := U.calling g mk a) (Vm.Alike.refl U.vm) qK, qD⟩, va_recv hK hPc (ci := 16) (q0 := 0) rfl rfl, fun U hU hW => ⟨rfl, by rw [hU], by rw [hU]; exact hPc, va_K.moved hW.alike hK, hDc.weaken (fun _ _ _ _ => trivial)⟩⟩ rfl rfl hl.1 rfl (lv_room (Nat.le_of_ble_eq_true rfl)) dX13_signature_15 ⟨(Nat.le_of_ble_eq_true rfl), (Nat.le_of_ble_eq_true rfl)⟩) hS (fun q _ h => hFc q h) hFc (fun r9 gs t H1 locs ht hvm hw hB hz1 hk1 hS => ?_)
  obtain ⟨hP1, hD1⟩ := hB
  rw [ht] at hP1
  obtain ⟨hr0, hg0⟩ := hw
  subst hr0
  obtain ⟨hP, hD⟩ := va_join (wr := [(ar, .inl (cI, 1280, .inl (fun _ => 0)))]) (w1 := [(h0, .inr (16, gs))]) hP hD [0] [1] rfl rfl (by decide) (by decide) hk1 hFc hP1 hD1
  generalize H1 = H at hP hS ⊢
  have hP : va_P (dC, dI) vwCl [(ar, .inl (cI, 1280, .inl (fun _ => 0))), (h0, .inr (16, gs))] H := hP
  have hD : va_D A [(ar, .inl (cI, 1280, .inl (fun _ => 0))), (h0, .inr (16, gs))] := hD
  have hP := hP.sub (ws' := [(h0, .inr (16, gs))]) [1] rfl
  have hD := hD.sub (ws' := [(h0, .inr (16, gs))]) [1] (by decide) rfl
  rw [hQQ]
  exact W.iret (v := 0) hx hb hr (fun t ht hW => ⟨⟨0, gs, rfl, ⟨rfl, hg0⟩, by rw [ht]; exact hP, hD⟩, hS.F ht⟩) hS.2.2 dX13_signature_18
theorem dX13_cover_0 : decode cX13_cover 0 = .ok (.aload_n 0, 1) := by decide +kernel
theorem dX13_cover_1 : decode cX13_cover 1 = .ok (.iconst 0, 1) := by decide +kernel
theorem dX13_cover_2 : decode cX13_cover 2 = .ok (.putfield 1, 3) := by decide +kernel
theorem dX13_cover_5 : decode cX13_cover 5 = .ok (.aload_n 0, 1) := by decide +kernel
theorem dX13_cover_6 : decode cX13_cover 6 = .ok (.iload_n 1, 1) := by decide +kernel
theorem dX13_cover_7 : decode cX13_cover 7 = .ok (.invokevirtual 423, 3) := by decide +kernel
theorem dX13_cover_10 : decode cX13_cover 10 = .ok (.ifCond .ne 9, 3) := by decide +kernel
theorem dX13_cover_13 : decode cX13_cover 13 = .ok (.aload_n 0, 1) := by decide +kernel
theorem dX13_cover_14 : decode cX13_cover 14 = .ok (.iconst 1, 1) := by decide +kernel
theorem dX13_cover_15 : decode cX13_cover 15 = .ok (.invokevirtual 403, 3) := by decide +kernel
theorem dX13_cover_18 : decode cX13_cover 18 = .ok (.ireturn, 1) := by decide +kernel
theorem dX13_cover_19 : decode cX13_cover 19 = .ok (.aload_n 0, 1) := by decide +kernel
def wf_M_cover : List Cond := .code yX13_cover cX13_cover 3 (some .int) :: ([.fieldLink RX13 1 "KnotHouseModel" "thrown" "I"] ++ wsX130 ++ (wsV RX13 423 RX13 yX13_has wf_Mhas ++ wsV RX13 403 RX13 yX13_fails wf_Mfails))
theorem gf_X13_cover_a : GoodIn wf_M_cover (wsV RX13 423 RX13 yX13_has wf_Mhas) := goodIn_sub (fun _ h => List.mem_cons_of_mem _ (List.mem_append_right _ (List.mem_append_left _ h))) (by decide +kernel)
theorem gf_X13_cover_b : GoodIn wf_M_cover (wsV RX13 403 RX13 yX13_fails wf_Mfails) := goodIn_sub (fun _ h => List.mem_cons_of_mem _ (List.mem_append_right _ (List.mem_append_right _ h))) (by decide +kernel)
set_option maxHeartbeats 4000000 in
set_option maxRecDepth 100000 in
theorem kf_X13_cover (l : Launch) (dC : Nat → ClassId) (dI : Nat → Nat → Nat) (cI cB cJ cZ : ClassId) (h0 ar sz : Nat) (fs : List Value) (hfs : fs.length = 120) (hk : fs[11]? = some (.ref ar)) (p0 p1 : Int32) : Met l yX13_cover wf_M_cover (({ frames := 1, cells := 0, slots := 0, locals := 21 } : Room)) (va_Pc [.ref h0, .int p0, .int p1] (fun U => U.heap.size = sz ∧ va_P (dC, dI) vwCl [(h0, .inr (16, fs)), (ar, .inl (cI, 1280, .inl (fun _ => 0)))] U.heap ∧ va_K (dC, dI) vwCl [(cI, .int), (cB, .byte), (cJ, .long), (cZ, .boolean)] U ∧ va_D (fun _ => True) [(h0, .inr (16, fs)), (ar, .inl (cI, 1280, .inl (fun _ => 0)))])) (va_Qi (fun r (g : List Value) => r = 0 ∧ g[0]? = some (.int 1)) (fun g t => va_P (dC, dI) vwCl [(h0, .inr (16, g))] t.heap ∧ va_D (va_A [(h0, .inr (16, fs)), (ar, .inl (cI, 1280, .inl (fun _ => 0)))] sz) [(h0, .inr (16, g))]) (va_A [(h0, .inr (16, fs)), (ar, .inl (cI, 1280, .inl (fun _ => 0)))] sz)) 0 0 (va_A [(h0, .inr (16, fs)), (ar, .inl (cI, 1280, .inl (fun _ => 0)))] sz) := by
  refine Met.ofW (cc := cX13_cover) (maxL := 3) (ret := (some .int)) (by decide) rfl ?_
  intro p e s m args below meth c s₁ B hml hv
  obtain ⟨rfl, hsz, hP, hK, hD0⟩ := hv
  have hx := B.exec
  have hb := B.bytes
  have hr := B.returns
  have hts := atoms_spec (ws := wf_M_cover) B.pre
  have hown : s.vm.findClass RX13 = some m.cls := findClass_of_methodNamed B.named
  have hlocks := B.notSynchronized
  subst hsz
  have hD := hD0.self (sz := s.heap.size)
  generalize hAe : va_A [(h0, .inr (16, fs)), (ar, .inl (cI, 1280, .inl (fun _ => 0)))] s.heap.size = A at hD ⊢
  have hA : ∀ q : Nat, s.heap.size ≤ q → A q := fun q h => by rw [← hAe]; exact Or.inr h
  have hS : va_S A s.heap s.heap [] := va_S.rf
  have hP : va_P (dC, dI) vwCl [(h0, .inr (16, fs)), (ar, .inl (cI, 1280, .inl (fun _ => 0)))] s.heap := hP
  have hl := lv_entry ([.ref h0, .int p0, .int p1]) (n := 3) (Nat.le_of_ble_eq_true rfl)
  rw [lg_entry_eq]
  generalize (lg_sl ([.ref h0, .int p0, .int p1]) ++ List.replicate (3 - (lg_sl ([.ref h0, .int p0, .int p1])).length) Slot.unset).toArray = ls at hl ⊢
  have hl : lv_has ls 3 [(0, .ref h0), (1, .int p0), (2, .int p1)] := hl
  refine ow_named (fun QQ hQQ => ?_)
  refine lv_aload_n hx hb dX13_cover_0 rfl (lv_at hl 0 rfl) ?_
  refine lv_iconst (v := 0) hx hb dX13_cover_1 (by decide) ?_
  refine va_put (D := (dC, dI)) (ci := 16) (v := .int 0) (ty := .int) (C := RX13) (T := TX13) (N := 120) hx hb hts (fun _ h => List.mem_cons_of_mem _ (List.mem_append_left _ (List.mem_append_right _ h))) tyX13 tyX13_ok nmX13 hown hK hP hD hS 0 rfl rfl 0 (by decide) (hts (.fieldLink RX13 1 "KnotHouseModel" "thrown" "I") (by decide +kernel)) (fun _ h9 => h9) rfl (by decide +kernel) rfl rfl (by rw [hfs]; decide) dX13_cover_2 (fun H locs hP hD hS => ?_)
  obtain ⟨fs1, efs1⟩ : ∃ x, x = List.set fs 0 (.int 0) := ⟨_, rfl⟩
  have hnfs1 : fs1.length = 120 := by rw [efs1, List.length_set]; exact hfs
  have hfs1_11 : fs1[11]? = some (.ref ar) := by rw [efs1, List.getElem?_set_ne (by decide)]; exact hk
  have hfs1_0 : fs1[0]? = some (.int 0) := by rw [efs1]; exact List.getElem?_set_self (by rw [hfs]; decide)
  have hP : va_P (dC, dI) vwCl [(h0, .inr (16, fs1)), (ar, .inl (cI, 1280, .inl (fun _ => 0)))] H := by rw [efs1]; exact hP
  have hD : va_D A [(h0, .inr (16, fs1)), (ar, .inl (cI, 1280, .inl (fun _ => 0)))] := by rw [efs1]; exact hD
  refine lv_aload_n hx hb dX13_cover_5 rfl (lv_at hl 0 rfl) ?_
  refine lv_iload_n hx hb dX13_cover_6 rfl (lv_at hl 1 rfl) ?_
  have hPc := hP.sub (ws' := [(h0, .inr (16, fs1)), (ar, .inl (cI, 1280, .inl (fun _ => 0)))]) [0, 1] rfl
  refine va_calli (va_runV (As := [.int p0]) (rest := []) ⟨hx, hb, hml, hown, hts⟩ (kf_X13_has l dC dI cI cB cJ cZ h0 ar fs1 hnfs1 hfs1_11 p0) (cwV 1 hts gf_X13_cover_a rfl rfl rfl (by decide +kernel) ⟨(Nat.le_of_ble_eq_true rfl), (Nat.le_of_ble_eq_true rfl)⟩) ⟨fun a U g mk q => by obtain ⟨q0, qP, qK⟩ := q; exact ⟨q0, qP, va_K.moved (u := U) (U := U.calling g mk a) (Vm.Alike.refl U.vm) qK⟩, va_recv hK hPc (ci := 16) (q0 := 0) rfl rfl, fun U hU hW => ⟨rfl, by rw [hU]; exact hPc, va_K.moved hW.alike hK⟩⟩ rfl rfl hl.1 rfl (lv_room (Nat.le_of_ble_eq_true rfl)) dX13_cover_7 ⟨(Nat.le_of_ble_eq_true rfl), (Nat.le_of_ble_eq_true rfl)⟩) hS (fun q _ h => h.elim) (fun q h => h.elim) (fun r9 un t H1 locs ht hvm hw hB hz1 hk1 hS => ?_)
  obtain rfl : r9 = 0 := hw
  have hP := hP.kept (fun k9 x9 h9 => hk1 x9.1 ((hP k9 x9 h9).lt) id)
  generalize H1 = H at hP hS ⊢
  refine lv_if_ne (tgt := 19) hx hb dX13_cover_10 (by decide) (fun c9 => absurd c9 (by decide)) (fun _ => ?_)
  refine lv_aload_n hx hb dX13_cover_13 rfl (lv_at hl 0 rfl) ?_
  refine lv_iconst (v := 1) hx hb dX13_cover_14 (by decide) ?_
  have hPc := hP.sub (ws' := [(h0, .inr (16, fs1))]) [0] rfl
  have hDc := hD.sub (ws' := [(h0, .inr (16, fs1))]) [0] (by decide) rfl
  have hFc := va_free (wc := [(h0, .inr (16, fs1))]) hD hS hA [0] rfl
  refine va_calli (va_runV (As := [.int 1]) (rest := []) ⟨hx, hb, hml, hown, hts⟩ (kf_X13_fails l dC dI cI cB cJ cZ h0 H.size fs1 hnfs1 1) (cwV 1 hts gf_X13_cover_b rfl rfl rfl (by decide +kernel) ⟨(Nat.le_of_ble_eq_true rfl), (Nat.le_of_ble_eq_true rfl)⟩) ⟨fun a U g mk q => by obtain ⟨q0, q1, qP, qK, qD⟩ := q; exact ⟨q0, q1, qP, va_K.moved (u := U) (U := U.calling g mk a) (Vm.Alike.refl U.vm) qK, qD⟩, va_recv hK hPc (ci := 16) (q0 := 0) rfl rfl, fun U hU hW => ⟨rfl, by rw [hU], by rw [hU]; exact hPc, va_K.moved hW.alike hK, hDc.weaken (fun _ _ _ _ => trivial)⟩⟩ rfl rfl hl.1 rfl (lv_room (Nat.le_of_ble_eq_true rfl)) dX13_cover_15 ⟨(Nat.le_of_ble_eq_true rfl), (Nat.le_of_ble_eq_true rfl)⟩) hS (fun q _ h => hFc q h) hFc (fun r9 gs t H1 locs ht hvm hw hB hz1 hk1 hS => ?_)
  obtain ⟨hP1, hD1⟩ := hB
  rw [ht] at hP1
  obtain ⟨hr0, hg0⟩ := hw
  subst hr0
  obtain ⟨hP, hD⟩ := va_join (wr := [(ar, .inl (cI, 1280, .inl (fun _ => 0)))]) (w1 := [(h0, .inr (16, gs))]) hP hD [0] [1] rfl rfl (by decide) (by decide) hk1 hFc hP1 hD1
  generalize H1 = H at hP hS ⊢
  have hP : va_P (dC, dI) vwCl [(ar, .inl (cI, 1280, .inl (fun _ => 0))), (h0, .inr (16, gs))] H := hP
  have hD : va_D A [(ar, .inl (cI, 1280, .inl (fun _ => 0))), (h0, .inr (16, gs))] := hD
  have hP := hP.sub (ws' := [(h0, .inr (16, gs))]) [1] rfl
  have hD := hD.sub (ws' := [(h0, .inr (16, gs))]) [1] (by decide) rfl
  rw [hQQ]
  exact W.iret (v := 0) hx hb hr (fun t ht hW => ⟨⟨0, gs, rfl, ⟨rfl, hg0⟩, by rw [ht]; exact hP, hD⟩, hS.F ht⟩) hS.2.2 dX13_cover_18
theorem dX13_colours_0 : decode cX13_colours 0 = .ok (.aload_n 0, 1) := by decide +kernel
theorem dX13_colours_1 : decode cX13_colours 1 = .ok (.iconst 0, 1) := by decide +kernel
theorem dX13_colours_2 : decode cX13_colours 2 = .ok (.putfield 1, 3) := by decide +kernel
theorem dX13_colours_5 : decode cX13_colours 5 = .ok (.aload_n 0, 1) := by decide +kernel
theorem dX13_colours_6 : decode cX13_colours 6 = .ok (.iload_n 1, 1) := by decide +kernel
theorem dX13_colours_7 : decode cX13_colours 7 = .ok (.invokevirtual 423, 3) := by decide +kernel
theorem dX13_colours_10 : decode cX13_colours 10 = .ok (.ifCond .ne 10, 3) := by decide +kernel
theorem dX13_colours_13 : decode cX13_colours 13 = .ok (.aload_n 0, 1) := by decide +kernel
theorem dX13_colours_14 : decode cX13_colours 14 = .ok (.iconst 1, 1) := by decide +kernel
theorem dX13_colours_15 : decode cX13_colours 15 = .ok (.invokevirtual 403, 3) := by decide +kernel
theorem dX13_colours_18 : decode cX13_colours 18 = .ok (.i2l, 1) := by decide +kernel
theorem dX13_colours_19 : decode cX13_colours 19 = .ok (.lreturn, 1) := by decide +kernel
theorem dX13_colours_20 : decode cX13_colours 20 = .ok (.iload_n 2, 1) := by decide +kernel
theorem dX13_colours_21 : decode cX13_colours 21 = .ok (.iconst 1, 1) := by decide +kernel
theorem dX13_colours_22 : decode cX13_colours 22 = .ok (.if_icmp .lt 9, 3) := by decide +kernel
def wf_M_colours : List Cond := .code yX13_colours cX13_colours 6 (some .long) :: ([.fieldLink RX13 1 "KnotHouseModel" "thrown" "I"] ++ wsX130 ++ (wsV RX13 423 RX13 yX13_has wf_Mhas ++ wsV RX13 403 RX13 yX13_fails wf_Mfails))
theorem gf_X13_colours_a : GoodIn wf_M_colours (wsV RX13 423 RX13 yX13_has wf_Mhas) := goodIn_sub (fun _ h => List.mem_cons_of_mem _ (List.mem_append_right _ (List.mem_append_left _ h))) (by decide +kernel)
theorem gf_X13_colours_b : GoodIn wf_M_colours (wsV RX13 403 RX13 yX13_fails wf_Mfails) := goodIn_sub (fun _ h => List.mem_cons_of_mem _ (List.mem_append_right _ (List.mem_append_right _ h))) (by decide +kernel)
set_option maxHeartbeats 4000000 in
set_option maxRecDepth 100000 in
theorem kf_X13_colours (l : Launch) (dC : Nat → ClassId) (dI : Nat → Nat → Nat) (cI cB cJ cZ : ClassId) (h0 ar sz : Nat) (fs : List Value) (hfs : fs.length = 120) (hk : fs[11]? = some (.ref ar)) (p0 p1 : Int32) : Met l yX13_colours wf_M_colours (({ frames := 1, cells := 0, slots := 0, locals := 21 } : Room)) (va_Pc [.ref h0, .int p0, .int p1] (fun U => U.heap.size = sz ∧ va_P (dC, dI) vwCl [(h0, .inr (16, fs)), (ar, .inl (cI, 1280, .inl (fun _ => 0)))] U.heap ∧ va_K (dC, dI) vwCl [(cI, .int), (cB, .byte), (cJ, .long), (cZ, .boolean)] U ∧ va_D (fun _ => True) [(h0, .inr (16, fs)), (ar, .inl (cI, 1280, .inl (fun _ => 0)))])) (va_Ql (fun r (g : List Value) => r = 0 ∧ g[0]? = some (.int 1)) (fun g t => va_P (dC, dI) vwCl [(h0, .inr (16, g))] t.heap ∧ va_D (va_A [(h0, .inr (16, fs)), (ar, .inl (cI, 1280, .inl (fun _ => 0)))] sz) [(h0, .inr (16, g))]) (va_A [(h0, .inr (16, fs)), (ar, .inl (cI, 1280, .inl (fun _ => 0)))] sz)) 0 0 (va_A [(h0, .inr (16, fs)), (ar, .inl (cI, 1280, .inl (fun _ => 0)))] sz) := by
  refine Met.ofW (cc := cX13_colours) (maxL := 6) (ret := (some .long)) (by decide) rfl ?_
  intro p e s m args below meth c s₁ B hml hv
  obtain ⟨rfl, hsz, hP, hK, hD0⟩ := hv
  have hx := B.exec
  have hb := B.bytes
  have hr := B.returns
  have hts := atoms_spec (ws := wf_M_colours) B.pre
  have hown : s.vm.findClass RX13 = some m.cls := findClass_of_methodNamed B.named
  have hlocks := B.notSynchronized
  subst hsz
  have hD := hD0.self (sz := s.heap.size)
  generalize hAe : va_A [(h0, .inr (16, fs)), (ar, .inl (cI, 1280, .inl (fun _ => 0)))] s.heap.size = A at hD ⊢
  have hA : ∀ q : Nat, s.heap.size ≤ q → A q := fun q h => by rw [← hAe]; exact Or.inr h
  have hS : va_S A s.heap s.heap [] := va_S.rf
  have hP : va_P (dC, dI) vwCl [(h0, .inr (16, fs)), (ar, .inl (cI, 1280, .inl (fun _ => 0)))] s.heap := hP
  have hl := lv_entry ([.ref h0, .int p0, .int p1]) (n := 6) (Nat.le_of_ble_eq_true rfl)
  rw [lg_entry_eq]
  generalize (lg_sl ([.ref h0, .int p0, .int p1]) ++ List.replicate (6 - (lg_sl ([.ref h0, .int p0, .int p1])).length) Slot.unset).toArray = ls at hl ⊢
  have hl : lv_has ls 6 [(0, .ref h0), (1, .int p0), (2, .int p1)] := hl
  refine ow_named (fun QQ hQQ => ?_)
  refine lv_aload_n hx hb dX13_colours_0 rfl (lv_at hl 0 rfl) ?_
  refine lv_iconst (v := 0) hx hb dX13_colours_1 (by decide) ?_
  refine va_put (D := (dC, dI)) (ci := 16) (v := .int 0) (ty := .int) (C := RX13) (T := TX13) (N := 120) hx hb hts (fun _ h => List.mem_cons_of_mem _ (List.mem_append_left _ (List.mem_append_right _ h))) tyX13 tyX13_ok nmX13 hown hK hP hD hS 0 rfl rfl 0 (by decide) (hts (.fieldLink RX13 1 "KnotHouseModel" "thrown" "I") (by decide +kernel)) (fun _ h9 => h9) rfl (by decide +kernel) rfl rfl (by rw [hfs]; decide) dX13_colours_2 (fun H locs hP hD hS => ?_)
  obtain ⟨fs1, efs1⟩ : ∃ x, x = List.set fs 0 (.int 0) := ⟨_, rfl⟩
  have hnfs1 : fs1.length = 120 := by rw [efs1, List.length_set]; exact hfs
  have hfs1_11 : fs1[11]? = some (.ref ar) := by rw [efs1, List.getElem?_set_ne (by decide)]; exact hk
  have hfs1_0 : fs1[0]? = some (.int 0) := by rw [efs1]; exact List.getElem?_set_self (by rw [hfs]; decide)
  have hP : va_P (dC, dI) vwCl [(h0, .inr (16, fs1)), (ar, .inl (cI, 1280, .inl (fun _ => 0)))] H := by rw [efs1]; exact hP
  have hD : va_D A [(h0, .inr (16, fs1)), (ar, .inl (cI, 1280, .inl (fun _ => 0)))] := by rw [efs1]; exact hD
  refine lv_aload_n hx hb dX13_colours_5 rfl (lv_at hl 0 rfl) ?_
  refine lv_iload_n hx hb dX13_colours_6 rfl (lv_at hl 1 rfl) ?_
  have hPc := hP.sub (ws' := [(h0, .inr (16, fs1)), (ar, .inl (cI, 1280, .inl (fun _ => 0)))]) [0, 1] rfl
  refine va_calli (va_runV (As := [.int p0]) (rest := []) ⟨hx, hb, hml, hown, hts⟩ (kf_X13_has l dC dI cI cB cJ cZ h0 ar fs1 hnfs1 hfs1_11 p0) (cwV 1 hts gf_X13_colours_a rfl rfl rfl (by decide +kernel) ⟨(Nat.le_of_ble_eq_true rfl), (Nat.le_of_ble_eq_true rfl)⟩) ⟨fun a U g mk q => by obtain ⟨q0, qP, qK⟩ := q; exact ⟨q0, qP, va_K.moved (u := U) (U := U.calling g mk a) (Vm.Alike.refl U.vm) qK⟩, va_recv hK hPc (ci := 16) (q0 := 0) rfl rfl, fun U hU hW => ⟨rfl, by rw [hU]; exact hPc, va_K.moved hW.alike hK⟩⟩ rfl rfl hl.1 rfl (lv_room (Nat.le_of_ble_eq_true rfl)) dX13_colours_7 ⟨(Nat.le_of_ble_eq_true rfl), (Nat.le_of_ble_eq_true rfl)⟩) hS (fun q _ h => h.elim) (fun q h => h.elim) (fun r9 un t H1 locs ht hvm hw hB hz1 hk1 hS => ?_)
  obtain rfl : r9 = 0 := hw
  have hP := hP.kept (fun k9 x9 h9 => hk1 x9.1 ((hP k9 x9 h9).lt) id)
  generalize H1 = H at hP hS ⊢
  refine lv_if_ne (tgt := 20) hx hb dX13_colours_10 (by decide) (fun c9 => absurd c9 (by decide)) (fun _ => ?_)
  refine lv_aload_n hx hb dX13_colours_13 rfl (lv_at hl 0 rfl) ?_
  refine lv_iconst (v := 1) hx hb dX13_colours_14 (by decide) ?_
  have hPc := hP.sub (ws' := [(h0, .inr (16, fs1))]) [0] rfl
  have hDc := hD.sub (ws' := [(h0, .inr (16, fs1))]) [0] (by decide) rfl
  have hFc := va_free (wc := [(h0, .inr (16, fs1))]) hD hS hA [0] rfl
  refine va_calli (va_runV (As := [.int 1]) (rest := []) ⟨hx, hb, hml, hown, hts⟩ (kf_X13_fails l dC dI cI cB cJ cZ h0 H.size fs1 hnfs1 1) (cwV 1 hts gf_X13_colours_b rfl rfl rfl (by decide +kernel) ⟨(Nat.le_of_ble_eq_true rfl), (Nat.le_of_ble_eq_true rfl)⟩) ⟨fun a U g mk q => by obtain ⟨q0, q1, qP, qK, qD⟩ := q; exact ⟨q0, q1, qP, va_K.moved (u := U) (U := U.calling g mk a) (Vm.Alike.refl U.vm) qK, qD⟩, va_recv hK hPc (ci := 16) (q0 := 0) rfl rfl, fun U hU hW => ⟨rfl, by rw [hU], by rw [hU]; exact hPc, va_K.moved hW.alike hK, hDc.weaken (fun _ _ _ _ => trivial)⟩⟩ rfl rfl hl.1 rfl (lv_room (Nat.le_of_ble_eq_true rfl)) dX13_colours_15 ⟨(Nat.le_of_ble_eq_true rfl), (Nat.le_of_ble_eq_true rfl)⟩) hS (fun q _ h => hFc q h) hFc (fun r9 gs t H1 locs ht hvm hw hB hz1 hk1 hS => ?_)
  obtain ⟨hP1, hD1⟩ := hB
  rw [ht] at hP1
  obtain ⟨hr0, hg0⟩ := hw
  subst hr0
  obtain ⟨hP, hD⟩ := va_join (wr := [(ar, .inl (cI, 1280, .inl (fun _ => 0)))]) (w1 := [(h0, .inr (16, gs))]) hP hD [0] [1] rfl rfl (by decide) (by decide) hk1 hFc hP1 hD1
  generalize H1 = H at hP hS ⊢
  have hP : va_P (dC, dI) vwCl [(ar, .inl (cI, 1280, .inl (fun _ => 0))), (h0, .inr (16, gs))] H := hP
  have hD : va_D A [(ar, .inl (cI, 1280, .inl (fun _ => 0))), (h0, .inr (16, gs))] := hD
  refine lv_i2l hx hb dX13_colours_18 rfl ?_
  have hP := hP.sub (ws' := [(h0, .inr (16, gs))]) [1] rfl
  have hD := hD.sub (ws' := [(h0, .inr (16, gs))]) [1] (by decide) rfl
  rw [hQQ]
  exact W.lret (v := 0) hx hb hr (fun t ht hW => ⟨⟨0, gs, rfl, ⟨rfl, hg0⟩, by rw [ht]; exact hP, hD⟩, hS.F ht⟩) hS.2.2 dX13_colours_19
theorem dX13_maps_0 : decode cX13_maps 0 = .ok (.aload_n 0, 1) := by decide +kernel
theorem dX13_maps_1 : decode cX13_maps 1 = .ok (.iconst 0, 1) := by decide +kernel
theorem dX13_maps_2 : decode cX13_maps 2 = .ok (.putfield 1, 3) := by decide +kernel
theorem dX13_maps_5 : decode cX13_maps 5 = .ok (.aload_n 0, 1) := by decide +kernel
theorem dX13_maps_6 : decode cX13_maps 6 = .ok (.iload_n 1, 1) := by decide +kernel
theorem dX13_maps_7 : decode cX13_maps 7 = .ok (.invokevirtual 423, 3) := by decide +kernel
theorem dX13_maps_10 : decode cX13_maps 10 = .ok (.ifCond .ne 9, 3) := by decide +kernel
theorem dX13_maps_13 : decode cX13_maps 13 = .ok (.aload_n 0, 1) := by decide +kernel
theorem dX13_maps_14 : decode cX13_maps 14 = .ok (.iconst 1, 1) := by decide +kernel
theorem dX13_maps_15 : decode cX13_maps 15 = .ok (.invokevirtual 403, 3) := by decide +kernel
theorem dX13_maps_18 : decode cX13_maps 18 = .ok (.ireturn, 1) := by decide +kernel
theorem dX13_maps_19 : decode cX13_maps 19 = .ok (.iload_n 2, 1) := by decide +kernel
def wf_M_maps : List Cond := .code yX13_maps cX13_maps 8 (some .int) :: ([.fieldLink RX13 1 "KnotHouseModel" "thrown" "I"] ++ wsX130 ++ (wsV RX13 423 RX13 yX13_has wf_Mhas ++ wsV RX13 403 RX13 yX13_fails wf_Mfails))
theorem gf_X13_maps_a : GoodIn wf_M_maps (wsV RX13 423 RX13 yX13_has wf_Mhas) := goodIn_sub (fun _ h => List.mem_cons_of_mem _ (List.mem_append_right _ (List.mem_append_left _ h))) (by decide +kernel)
theorem gf_X13_maps_b : GoodIn wf_M_maps (wsV RX13 403 RX13 yX13_fails wf_Mfails) := goodIn_sub (fun _ h => List.mem_cons_of_mem _ (List.mem_append_right _ (List.mem_append_right _ h))) (by decide +kernel)
set_option maxHeartbeats 4000000 in
set_option maxRecDepth 100000 in
theorem kf_X13_maps (l : Launch) (dC : Nat → ClassId) (dI : Nat → Nat → Nat) (cI cB cJ cZ : ClassId) (h0 ar sz : Nat) (fs : List Value) (hfs : fs.length = 120) (hk : fs[11]? = some (.ref ar)) (p0 p1 : Int32) : Met l yX13_maps wf_M_maps (({ frames := 1, cells := 0, slots := 0, locals := 21 } : Room)) (va_Pc [.ref h0, .int p0, .int p1] (fun U => U.heap.size = sz ∧ va_P (dC, dI) vwCl [(h0, .inr (16, fs)), (ar, .inl (cI, 1280, .inl (fun _ => 0)))] U.heap ∧ va_K (dC, dI) vwCl [(cI, .int), (cB, .byte), (cJ, .long), (cZ, .boolean)] U ∧ va_D (fun _ => True) [(h0, .inr (16, fs)), (ar, .inl (cI, 1280, .inl (fun _ => 0)))])) (va_Qi (fun r (g : List Value) => r = 0 ∧ g[0]? = some (.int 1)) (fun g t => va_P (dC, dI) vwCl [(h0, .inr (16, g))] t.heap ∧ va_D (va_A [(h0, .inr (16, fs)), (ar, .inl (cI, 1280, .inl (fun _ => 0)))] sz) [(h0, .inr (16, g))]) (va_A [(h0, .inr (16, fs)), (ar, .inl (cI, 1280, .inl (fun _ => 0)))] sz)) 0 0 (va_A [(h0, .inr (16, fs)), (ar, .inl (cI, 1280, .inl (fun _ => 0)))] sz) := by
  refine Met.ofW (cc := cX13_maps) (maxL := 8) (ret := (some .int)) (by decide) rfl ?_
  intro p e s m args below meth c s₁ B hml hv
  obtain ⟨rfl, hsz, hP, hK, hD0⟩ := hv
  have hx := B.exec
  have hb := B.bytes
  have hr := B.returns
  have hts := atoms_spec (ws := wf_M_maps) B.pre
  have hown : s.vm.findClass RX13 = some m.cls := findClass_of_methodNamed B.named
  have hlocks := B.notSynchronized
  subst hsz
  have hD := hD0.self (sz := s.heap.size)
  generalize hAe : va_A [(h0, .inr (16, fs)), (ar, .inl (cI, 1280, .inl (fun _ => 0)))] s.heap.size = A at hD ⊢
  have hA : ∀ q : Nat, s.heap.size ≤ q → A q := fun q h => by rw [← hAe]; exact Or.inr h
  have hS : va_S A s.heap s.heap [] := va_S.rf
  have hP : va_P (dC, dI) vwCl [(h0, .inr (16, fs)), (ar, .inl (cI, 1280, .inl (fun _ => 0)))] s.heap := hP
  have hl := lv_entry ([.ref h0, .int p0, .int p1]) (n := 8) (Nat.le_of_ble_eq_true rfl)
  rw [lg_entry_eq]
  generalize (lg_sl ([.ref h0, .int p0, .int p1]) ++ List.replicate (8 - (lg_sl ([.ref h0, .int p0, .int p1])).length) Slot.unset).toArray = ls at hl ⊢
  have hl : lv_has ls 8 [(0, .ref h0), (1, .int p0), (2, .int p1)] := hl
  refine ow_named (fun QQ hQQ => ?_)
  refine lv_aload_n hx hb dX13_maps_0 rfl (lv_at hl 0 rfl) ?_
  refine lv_iconst (v := 0) hx hb dX13_maps_1 (by decide) ?_
  refine va_put (D := (dC, dI)) (ci := 16) (v := .int 0) (ty := .int) (C := RX13) (T := TX13) (N := 120) hx hb hts (fun _ h => List.mem_cons_of_mem _ (List.mem_append_left _ (List.mem_append_right _ h))) tyX13 tyX13_ok nmX13 hown hK hP hD hS 0 rfl rfl 0 (by decide) (hts (.fieldLink RX13 1 "KnotHouseModel" "thrown" "I") (by decide +kernel)) (fun _ h9 => h9) rfl (by decide +kernel) rfl rfl (by rw [hfs]; decide) dX13_maps_2 (fun H locs hP hD hS => ?_)
  obtain ⟨fs1, efs1⟩ : ∃ x, x = List.set fs 0 (.int 0) := ⟨_, rfl⟩
  have hnfs1 : fs1.length = 120 := by rw [efs1, List.length_set]; exact hfs
  have hfs1_11 : fs1[11]? = some (.ref ar) := by rw [efs1, List.getElem?_set_ne (by decide)]; exact hk
  have hfs1_0 : fs1[0]? = some (.int 0) := by rw [efs1]; exact List.getElem?_set_self (by rw [hfs]; decide)
  have hP : va_P (dC, dI) vwCl [(h0, .inr (16, fs1)), (ar, .inl (cI, 1280, .inl (fun _ => 0)))] H := by rw [efs1]; exact hP
  have hD : va_D A [(h0, .inr (16, fs1)), (ar, .inl (cI, 1280, .inl (fun _ => 0)))] := by rw [efs1]; exact hD
  refine lv_aload_n hx hb dX13_maps_5 rfl (lv_at hl 0 rfl) ?_
  refine lv_iload_n hx hb dX13_maps_6 rfl (lv_at hl 1 rfl) ?_
  have hPc := hP.sub (ws' := [(h0, .inr (16, fs1)), (ar, .inl (cI, 1280, .inl (fun _ => 0)))]) [0, 1] rfl
  refine va_calli (va_runV (As := [.int p0]) (rest := []) ⟨hx, hb, hml, hown, hts⟩ (kf_X13_has l dC dI cI cB cJ cZ h0 ar fs1 hnfs1 hfs1_11 p0) (cwV 1 hts gf_X13_maps_a rfl rfl rfl (by decide +kernel) ⟨(Nat.le_of_ble_eq_true rfl), (Nat.le_of_ble_eq_true rfl)⟩) ⟨fun a U g mk q => by obtain ⟨q0, qP, qK⟩ := q; exact ⟨q0, qP, va_K.moved (u := U) (U := U.calling g mk a) (Vm.Alike.refl U.vm) qK⟩, va_recv hK hPc (ci := 16) (q0 := 0) rfl rfl, fun U hU hW => ⟨rfl, by rw [hU]; exact hPc, va_K.moved hW.alike hK⟩⟩ rfl rfl hl.1 rfl (lv_room (Nat.le_of_ble_eq_true rfl)) dX13_maps_7 ⟨(Nat.le_of_ble_eq_true rfl), (Nat.le_of_ble_eq_true rfl)⟩) hS (fun q _ h => h.elim) (fun q h => h.elim) (fun r9 un t H1 locs ht hvm hw hB hz1 hk1 hS => ?_)
  obtain rfl : r9 = 0 := hw
  have hP := hP.kept (fun k9 x9 h9 => hk1 x9.1 ((hP k9 x9 h9).lt) id)
  generalize H1 = H at hP hS ⊢
  refine lv_if_ne (tgt := 19) hx hb dX13_maps_10 (by decide) (fun c9 => absurd c9 (by decide)) (fun _ => ?_)
  refine lv_aload_n hx hb dX13_maps_13 rfl (lv_at hl 0 rfl) ?_
  refine lv_iconst (v := 1) hx hb dX13_maps_14 (by decide) ?_
  have hPc := hP.sub (ws' := [(h0, .inr (16, fs1))]) [0] rfl
  have hDc := hD.sub (ws' := [(h0, .inr (16, fs1))]) [0] (by decide) rfl
  have hFc := va_free (wc := [(h0, .inr (16, fs1))]) hD hS hA [0] rfl
  refine va_calli (va_runV (As := [.int 1]) (rest := []) ⟨hx, hb, hml, hown, hts⟩ (kf_X13_fails l dC dI cI cB cJ cZ h0 H.size fs1 hnfs1 1) (cwV 1 hts gf_X13_maps_b rfl rfl rfl (by decide +kernel) ⟨(Nat.le_of_ble_eq_true rfl), (Nat.le_of_ble_eq_true rfl)⟩) ⟨fun a U g mk q => by obtain ⟨q0, q1, qP, qK, qD⟩ := q; exact ⟨q0, q1, qP, va_K.moved (u := U) (U := U.calling g mk a) (Vm.Alike.refl U.vm) qK, qD⟩, va_recv hK hPc (ci := 16) (q0 := 0) rfl rfl, fun U hU hW => ⟨rfl, by rw [hU], by rw [hU]; exact hPc, va_K.moved hW.alike hK, hDc.weaken (fun _ _ _ _ => trivial)⟩⟩ rfl rfl hl.1 rfl (lv_room (Nat.le_of_ble_eq_true rfl)) dX13_maps_15 ⟨(Nat.le_of_ble_eq_true rfl), (Nat.le_of_ble_eq_true rfl)⟩) hS (fun q _ h => hFc q h) hFc (fun r9 gs t H1 locs ht hvm hw hB hz1 hk1 hS => ?_)
  obtain ⟨hP1, hD1⟩ := hB
  rw [ht] at hP1
  obtain ⟨hr0, hg0⟩ := hw
  subst hr0
  obtain ⟨hP, hD⟩ := va_join (wr := [(ar, .inl (cI, 1280, .inl (fun _ => 0)))]) (w1 := [(h0, .inr (16, gs))]) hP hD [0] [1] rfl rfl (by decide) (by decide) hk1 hFc hP1 hD1
  generalize H1 = H at hP hS ⊢
  have hP : va_P (dC, dI) vwCl [(ar, .inl (cI, 1280, .inl (fun _ => 0))), (h0, .inr (16, gs))] H := hP
  have hD : va_D A [(ar, .inl (cI, 1280, .inl (fun _ => 0))), (h0, .inr (16, gs))] := hD
  have hP := hP.sub (ws' := [(h0, .inr (16, gs))]) [1] rfl
  have hD := hD.sub (ws' := [(h0, .inr (16, gs))]) [1] (by decide) rfl
  rw [hQQ]
  exact W.iret (v := 0) hx hb hr (fun t ht hW => ⟨⟨0, gs, rfl, ⟨rfl, hg0⟩, by rw [ht]; exact hP, hD⟩, hS.F ht⟩) hS.2.2 dX13_maps_18
theorem dX13_chain_0 : decode cX13_chain 0 = .ok (.aload_n 0, 1) := by decide +kernel
theorem dX13_chain_1 : decode cX13_chain 1 = .ok (.iconst 0, 1) := by decide +kernel
theorem dX13_chain_2 : decode cX13_chain 2 = .ok (.putfield 1, 3) := by decide +kernel
theorem dX13_chain_5 : decode cX13_chain 5 = .ok (.aload_n 0, 1) := by decide +kernel
theorem dX13_chain_6 : decode cX13_chain 6 = .ok (.iload_n 1, 1) := by decide +kernel
theorem dX13_chain_7 : decode cX13_chain 7 = .ok (.invokevirtual 423, 3) := by decide +kernel
theorem dX13_chain_10 : decode cX13_chain 10 = .ok (.ifCond .ne 9, 3) := by decide +kernel
theorem dX13_chain_13 : decode cX13_chain 13 = .ok (.aload_n 0, 1) := by decide +kernel
theorem dX13_chain_14 : decode cX13_chain 14 = .ok (.iconst 1, 1) := by decide +kernel
theorem dX13_chain_15 : decode cX13_chain 15 = .ok (.invokevirtual 403, 3) := by decide +kernel
theorem dX13_chain_18 : decode cX13_chain 18 = .ok (.ireturn, 1) := by decide +kernel
theorem dX13_chain_19 : decode cX13_chain 19 = .ok (.iload_n 2, 1) := by decide +kernel
def wf_M_chain : List Cond := .code yX13_chain cX13_chain 8 (some .int) :: ([.fieldLink RX13 1 "KnotHouseModel" "thrown" "I"] ++ wsX130 ++ (wsV RX13 423 RX13 yX13_has wf_Mhas ++ wsV RX13 403 RX13 yX13_fails wf_Mfails))
theorem gf_X13_chain_a : GoodIn wf_M_chain (wsV RX13 423 RX13 yX13_has wf_Mhas) := goodIn_sub (fun _ h => List.mem_cons_of_mem _ (List.mem_append_right _ (List.mem_append_left _ h))) (by decide +kernel)
theorem gf_X13_chain_b : GoodIn wf_M_chain (wsV RX13 403 RX13 yX13_fails wf_Mfails) := goodIn_sub (fun _ h => List.mem_cons_of_mem _ (List.mem_append_right _ (List.mem_append_right _ h))) (by decide +kernel)
set_option maxHeartbeats 4000000 in
set_option maxRecDepth 100000 in
theorem kf_X13_chain (l : Launch) (dC : Nat → ClassId) (dI : Nat → Nat → Nat) (cI cB cJ cZ : ClassId) (h0 ar sz : Nat) (fs : List Value) (hfs : fs.length = 120) (hk : fs[11]? = some (.ref ar)) (p0 p1 : Int32) : Met l yX13_chain wf_M_chain (({ frames := 1, cells := 0, slots := 0, locals := 21 } : Room)) (va_Pc [.ref h0, .int p0, .int p1] (fun U => U.heap.size = sz ∧ va_P (dC, dI) vwCl [(h0, .inr (16, fs)), (ar, .inl (cI, 1280, .inl (fun _ => 0)))] U.heap ∧ va_K (dC, dI) vwCl [(cI, .int), (cB, .byte), (cJ, .long), (cZ, .boolean)] U ∧ va_D (fun _ => True) [(h0, .inr (16, fs)), (ar, .inl (cI, 1280, .inl (fun _ => 0)))])) (va_Qi (fun r (g : List Value) => r = 0 ∧ g[0]? = some (.int 1)) (fun g t => va_P (dC, dI) vwCl [(h0, .inr (16, g))] t.heap ∧ va_D (va_A [(h0, .inr (16, fs)), (ar, .inl (cI, 1280, .inl (fun _ => 0)))] sz) [(h0, .inr (16, g))]) (va_A [(h0, .inr (16, fs)), (ar, .inl (cI, 1280, .inl (fun _ => 0)))] sz)) 0 0 (va_A [(h0, .inr (16, fs)), (ar, .inl (cI, 1280, .inl (fun _ => 0)))] sz) := by
  refine Met.ofW (cc := cX13_chain) (maxL := 8) (ret := (some .int)) (by decide) rfl ?_
  intro p e s m args below meth c s₁ B hml hv
  obtain ⟨rfl, hsz, hP, hK, hD0⟩ := hv
  have hx := B.exec
  have hb := B.bytes
  have hr := B.returns
  have hts := atoms_spec (ws := wf_M_chain) B.pre
  have hown : s.vm.findClass RX13 = some m.cls := findClass_of_methodNamed B.named
  have hlocks := B.notSynchronized
  subst hsz
  have hD := hD0.self (sz := s.heap.size)
  generalize hAe : va_A [(h0, .inr (16, fs)), (ar, .inl (cI, 1280, .inl (fun _ => 0)))] s.heap.size = A at hD ⊢
  have hA : ∀ q : Nat, s.heap.size ≤ q → A q := fun q h => by rw [← hAe]; exact Or.inr h
  have hS : va_S A s.heap s.heap [] := va_S.rf
  have hP : va_P (dC, dI) vwCl [(h0, .inr (16, fs)), (ar, .inl (cI, 1280, .inl (fun _ => 0)))] s.heap := hP
  have hl := lv_entry ([.ref h0, .int p0, .int p1]) (n := 8) (Nat.le_of_ble_eq_true rfl)
  rw [lg_entry_eq]
  generalize (lg_sl ([.ref h0, .int p0, .int p1]) ++ List.replicate (8 - (lg_sl ([.ref h0, .int p0, .int p1])).length) Slot.unset).toArray = ls at hl ⊢
  have hl : lv_has ls 8 [(0, .ref h0), (1, .int p0), (2, .int p1)] := hl
  refine ow_named (fun QQ hQQ => ?_)
  refine lv_aload_n hx hb dX13_chain_0 rfl (lv_at hl 0 rfl) ?_
  refine lv_iconst (v := 0) hx hb dX13_chain_1 (by decide) ?_
  refine va_put (D := (dC, dI)) (ci := 16) (v := .int 0) (ty := .int) (C := RX13) (T := TX13) (N := 120) hx hb hts (fun _ h => List.mem_cons_of_mem _ (List.mem_append_left _ (List.mem_append_right _ h))) tyX13 tyX13_ok nmX13 hown hK hP hD hS 0 rfl rfl 0 (by decide) (hts (.fieldLink RX13 1 "KnotHouseModel" "thrown" "I") (by decide +kernel)) (fun _ h9 => h9) rfl (by decide +kernel) rfl rfl (by rw [hfs]; decide) dX13_chain_2 (fun H locs hP hD hS => ?_)
  obtain ⟨fs1, efs1⟩ : ∃ x, x = List.set fs 0 (.int 0) := ⟨_, rfl⟩
  have hnfs1 : fs1.length = 120 := by rw [efs1, List.length_set]; exact hfs
  have hfs1_11 : fs1[11]? = some (.ref ar) := by rw [efs1, List.getElem?_set_ne (by decide)]; exact hk
  have hfs1_0 : fs1[0]? = some (.int 0) := by rw [efs1]; exact List.getElem?_set_self (by rw [hfs]; decide)
  have hP : va_P (dC, dI) vwCl [(h0, .inr (16, fs1)), (ar, .inl (cI, 1280, .inl (fun _ => 0)))] H := by rw [efs1]; exact hP
  have hD : va_D A [(h0, .inr (16, fs1)), (ar, .inl (cI, 1280, .inl (fun _ => 0)))] := by rw [efs1]; exact hD
  refine lv_aload_n hx hb dX13_chain_5 rfl (lv_at hl 0 rfl) ?_
  refine lv_iload_n hx hb dX13_chain_6 rfl (lv_at hl 1 rfl) ?_
  have hPc := hP.sub (ws' := [(h0, .inr (16, fs1)), (ar, .inl (cI, 1280, .inl (fun _ => 0)))]) [0, 1] rfl
  refine va_calli (va_runV (As := [.int p0]) (rest := []) ⟨hx, hb, hml, hown, hts⟩ (kf_X13_has l dC dI cI cB cJ cZ h0 ar fs1 hnfs1 hfs1_11 p0) (cwV 1 hts gf_X13_chain_a rfl rfl rfl (by decide +kernel) ⟨(Nat.le_of_ble_eq_true rfl), (Nat.le_of_ble_eq_true rfl)⟩) ⟨fun a U g mk q => by obtain ⟨q0, qP, qK⟩ := q; exact ⟨q0, qP, va_K.moved (u := U) (U := U.calling g mk a) (Vm.Alike.refl U.vm) qK⟩, va_recv hK hPc (ci := 16) (q0 := 0) rfl rfl, fun U hU hW => ⟨rfl, by rw [hU]; exact hPc, va_K.moved hW.alike hK⟩⟩ rfl rfl hl.1 rfl (lv_room (Nat.le_of_ble_eq_true rfl)) dX13_chain_7 ⟨(Nat.le_of_ble_eq_true rfl), (Nat.le_of_ble_eq_true rfl)⟩) hS (fun q _ h => h.elim) (fun q h => h.elim) (fun r9 un t H1 locs ht hvm hw hB hz1 hk1 hS => ?_)
  obtain rfl : r9 = 0 := hw
  have hP := hP.kept (fun k9 x9 h9 => hk1 x9.1 ((hP k9 x9 h9).lt) id)
  generalize H1 = H at hP hS ⊢
  refine lv_if_ne (tgt := 19) hx hb dX13_chain_10 (by decide) (fun c9 => absurd c9 (by decide)) (fun _ => ?_)
  refine lv_aload_n hx hb dX13_chain_13 rfl (lv_at hl 0 rfl) ?_
  refine lv_iconst (v := 1) hx hb dX13_chain_14 (by decide) ?_
  have hPc := hP.sub (ws' := [(h0, .inr (16, fs1))]) [0] rfl
  have hDc := hD.sub (ws' := [(h0, .inr (16, fs1))]) [0] (by decide) rfl
  have hFc := va_free (wc := [(h0, .inr (16, fs1))]) hD hS hA [0] rfl
  refine va_calli (va_runV (As := [.int 1]) (rest := []) ⟨hx, hb, hml, hown, hts⟩ (kf_X13_fails l dC dI cI cB cJ cZ h0 H.size fs1 hnfs1 1) (cwV 1 hts gf_X13_chain_b rfl rfl rfl (by decide +kernel) ⟨(Nat.le_of_ble_eq_true rfl), (Nat.le_of_ble_eq_true rfl)⟩) ⟨fun a U g mk q => by obtain ⟨q0, q1, qP, qK, qD⟩ := q; exact ⟨q0, q1, qP, va_K.moved (u := U) (U := U.calling g mk a) (Vm.Alike.refl U.vm) qK, qD⟩, va_recv hK hPc (ci := 16) (q0 := 0) rfl rfl, fun U hU hW => ⟨rfl, by rw [hU], by rw [hU]; exact hPc, va_K.moved hW.alike hK, hDc.weaken (fun _ _ _ _ => trivial)⟩⟩ rfl rfl hl.1 rfl (lv_room (Nat.le_of_ble_eq_true rfl)) dX13_chain_15 ⟨(Nat.le_of_ble_eq_true rfl), (Nat.le_of_ble_eq_true rfl)⟩) hS (fun q _ h => hFc q h) hFc (fun r9 gs t H1 locs ht hvm hw hB hz1 hk1 hS => ?_)
  obtain ⟨hP1, hD1⟩ := hB
  rw [ht] at hP1
  obtain ⟨hr0, hg0⟩ := hw
  subst hr0
  obtain ⟨hP, hD⟩ := va_join (wr := [(ar, .inl (cI, 1280, .inl (fun _ => 0)))]) (w1 := [(h0, .inr (16, gs))]) hP hD [0] [1] rfl rfl (by decide) (by decide) hk1 hFc hP1 hD1
  generalize H1 = H at hP hS ⊢
  have hP : va_P (dC, dI) vwCl [(ar, .inl (cI, 1280, .inl (fun _ => 0))), (h0, .inr (16, gs))] H := hP
  have hD : va_D A [(ar, .inl (cI, 1280, .inl (fun _ => 0))), (h0, .inr (16, gs))] := hD
  have hP := hP.sub (ws' := [(h0, .inr (16, gs))]) [1] rfl
  have hD := hD.sub (ws' := [(h0, .inr (16, gs))]) [1] (by decide) rfl
  rw [hQQ]
  exact W.iret (v := 0) hx hb hr (fun t ht hW => ⟨⟨0, gs, rfl, ⟨rfl, hg0⟩, by rw [ht]; exact hP, hD⟩, hS.F ht⟩) hS.2.2 dX13_chain_18
theorem dX13_closure_0 : decode cX13_closure 0 = .ok (.aload_n 0, 1) := by decide +kernel
theorem dX13_closure_1 : decode cX13_closure 1 = .ok (.iconst 0, 1) := by decide +kernel
theorem dX13_closure_2 : decode cX13_closure 2 = .ok (.putfield 1, 3) := by decide +kernel
theorem dX13_closure_5 : decode cX13_closure 5 = .ok (.aload_n 0, 1) := by decide +kernel
theorem dX13_closure_6 : decode cX13_closure 6 = .ok (.iload_n 1, 1) := by decide +kernel
theorem dX13_closure_7 : decode cX13_closure 7 = .ok (.invokevirtual 739, 3) := by decide +kernel
theorem dX13_closure_10 : decode cX13_closure 10 = .ok (.ifCond .ne 9, 3) := by decide +kernel
theorem dX13_closure_13 : decode cX13_closure 13 = .ok (.aload_n 0, 1) := by decide +kernel
theorem dX13_closure_14 : decode cX13_closure 14 = .ok (.iconst 1, 1) := by decide +kernel
theorem dX13_closure_15 : decode cX13_closure 15 = .ok (.invokevirtual 403, 3) := by decide +kernel
theorem dX13_closure_18 : decode cX13_closure 18 = .ok (.ireturn, 1) := by decide +kernel
theorem dX13_closure_19 : decode cX13_closure 19 = .ok (.aload_n 0, 1) := by decide +kernel
def wf_M_closure : List Cond := .code yX13_closure cX13_closure 2 (some .int) :: ([.fieldLink RX13 1 "KnotHouseModel" "thrown" "I"] ++ wsX130 ++ (wsV RX13 739 RX13 yX13_hasBraid wf_MhasBraid ++ wsV RX13 403 RX13 yX13_fails wf_Mfails))
theorem gf_X13_closure_a : GoodIn wf_M_closure (wsV RX13 739 RX13 yX13_hasBraid wf_MhasBraid) := goodIn_sub (fun _ h => List.mem_cons_of_mem _ (List.mem_append_right _ (List.mem_append_left _ h))) (by decide +kernel)
theorem gf_X13_closure_b : GoodIn wf_M_closure (wsV RX13 403 RX13 yX13_fails wf_Mfails) := goodIn_sub (fun _ h => List.mem_cons_of_mem _ (List.mem_append_right _ (List.mem_append_right _ h))) (by decide +kernel)
set_option maxHeartbeats 4000000 in
set_option maxRecDepth 100000 in
theorem kf_X13_closure (l : Launch) (dC : Nat → ClassId) (dI : Nat → Nat → Nat) (cI cB cJ cZ : ClassId) (h0 ar sz : Nat) (fs : List Value) (hfs : fs.length = 120) (hk : fs[95]? = some (.ref ar)) (p0 : Int32) : Met l yX13_closure wf_M_closure (({ frames := 1, cells := 0, slots := 0, locals := 21 } : Room)) (va_Pc [.ref h0, .int p0] (fun U => U.heap.size = sz ∧ va_P (dC, dI) vwCl [(h0, .inr (16, fs)), (ar, .inl (cI, 20, .inl (fun _ => 0)))] U.heap ∧ va_K (dC, dI) vwCl [(cI, .int), (cB, .byte), (cJ, .long), (cZ, .boolean)] U ∧ va_D (fun _ => True) [(h0, .inr (16, fs)), (ar, .inl (cI, 20, .inl (fun _ => 0)))])) (va_Qi (fun r (g : List Value) => r = 0 ∧ g[0]? = some (.int 1)) (fun g t => va_P (dC, dI) vwCl [(h0, .inr (16, g))] t.heap ∧ va_D (va_A [(h0, .inr (16, fs)), (ar, .inl (cI, 20, .inl (fun _ => 0)))] sz) [(h0, .inr (16, g))]) (va_A [(h0, .inr (16, fs)), (ar, .inl (cI, 20, .inl (fun _ => 0)))] sz)) 0 0 (va_A [(h0, .inr (16, fs)), (ar, .inl (cI, 20, .inl (fun _ => 0)))] sz) := by
  refine Met.ofW (cc := cX13_closure) (maxL := 2) (ret := (some .int)) (by decide) rfl ?_
  intro p e s m args below meth c s₁ B hml hv
  obtain ⟨rfl, hsz, hP, hK, hD0⟩ := hv
  have hx := B.exec
  have hb := B.bytes
  have hr := B.returns
  have hts := atoms_spec (ws := wf_M_closure) B.pre
  have hown : s.vm.findClass RX13 = some m.cls := findClass_of_methodNamed B.named
  have hlocks := B.notSynchronized
  subst hsz
  have hD := hD0.self (sz := s.heap.size)
  generalize hAe : va_A [(h0, .inr (16, fs)), (ar, .inl (cI, 20, .inl (fun _ => 0)))] s.heap.size = A at hD ⊢
  have hA : ∀ q : Nat, s.heap.size ≤ q → A q := fun q h => by rw [← hAe]; exact Or.inr h
  have hS : va_S A s.heap s.heap [] := va_S.rf
  have hP : va_P (dC, dI) vwCl [(h0, .inr (16, fs)), (ar, .inl (cI, 20, .inl (fun _ => 0)))] s.heap := hP
  have hl := lv_entry ([.ref h0, .int p0]) (n := 2) (Nat.le_of_ble_eq_true rfl)
  rw [lg_entry_eq]
  generalize (lg_sl ([.ref h0, .int p0]) ++ List.replicate (2 - (lg_sl ([.ref h0, .int p0])).length) Slot.unset).toArray = ls at hl ⊢
  have hl : lv_has ls 2 [(0, .ref h0), (1, .int p0)] := hl
  refine ow_named (fun QQ hQQ => ?_)
  refine lv_aload_n hx hb dX13_closure_0 rfl (lv_at hl 0 rfl) ?_
  refine lv_iconst (v := 0) hx hb dX13_closure_1 (by decide) ?_
  refine va_put (D := (dC, dI)) (ci := 16) (v := .int 0) (ty := .int) (C := RX13) (T := TX13) (N := 120) hx hb hts (fun _ h => List.mem_cons_of_mem _ (List.mem_append_left _ (List.mem_append_right _ h))) tyX13 tyX13_ok nmX13 hown hK hP hD hS 0 rfl rfl 0 (by decide) (hts (.fieldLink RX13 1 "KnotHouseModel" "thrown" "I") (by decide +kernel)) (fun _ h9 => h9) rfl (by decide +kernel) rfl rfl (by rw [hfs]; decide) dX13_closure_2 (fun H locs hP hD hS => ?_)
  obtain ⟨fs1, efs1⟩ : ∃ x, x = List.set fs 0 (.int 0) := ⟨_, rfl⟩
  have hnfs1 : fs1.length = 120 := by rw [efs1, List.length_set]; exact hfs
  have hfs1_95 : fs1[95]? = some (.ref ar) := by rw [efs1, List.getElem?_set_ne (by decide)]; exact hk
  have hfs1_0 : fs1[0]? = some (.int 0) := by rw [efs1]; exact List.getElem?_set_self (by rw [hfs]; decide)
  have hP : va_P (dC, dI) vwCl [(h0, .inr (16, fs1)), (ar, .inl (cI, 20, .inl (fun _ => 0)))] H := by rw [efs1]; exact hP
  have hD : va_D A [(h0, .inr (16, fs1)), (ar, .inl (cI, 20, .inl (fun _ => 0)))] := by rw [efs1]; exact hD
  refine lv_aload_n hx hb dX13_closure_5 rfl (lv_at hl 0 rfl) ?_
  refine lv_iload_n hx hb dX13_closure_6 rfl (lv_at hl 1 rfl) ?_
  have hPc := hP.sub (ws' := [(h0, .inr (16, fs1)), (ar, .inl (cI, 20, .inl (fun _ => 0)))]) [0, 1] rfl
  refine va_calli (va_runV (As := [.int p0]) (rest := []) ⟨hx, hb, hml, hown, hts⟩ (kf_X13_hasBraid l dC dI cI cB cJ cZ h0 ar fs1 hnfs1 hfs1_95 p0) (cwV 1 hts gf_X13_closure_a rfl rfl rfl (by decide +kernel) ⟨(Nat.le_of_ble_eq_true rfl), (Nat.le_of_ble_eq_true rfl)⟩) ⟨fun a U g mk q => by obtain ⟨q0, qP, qK⟩ := q; exact ⟨q0, qP, va_K.moved (u := U) (U := U.calling g mk a) (Vm.Alike.refl U.vm) qK⟩, va_recv hK hPc (ci := 16) (q0 := 0) rfl rfl, fun U hU hW => ⟨rfl, by rw [hU]; exact hPc, va_K.moved hW.alike hK⟩⟩ rfl rfl hl.1 rfl (lv_room (Nat.le_of_ble_eq_true rfl)) dX13_closure_7 ⟨(Nat.le_of_ble_eq_true rfl), (Nat.le_of_ble_eq_true rfl)⟩) hS (fun q _ h => h.elim) (fun q h => h.elim) (fun r9 un t H1 locs ht hvm hw hB hz1 hk1 hS => ?_)
  obtain rfl : r9 = 0 := hw
  have hP := hP.kept (fun k9 x9 h9 => hk1 x9.1 ((hP k9 x9 h9).lt) id)
  generalize H1 = H at hP hS ⊢
  refine lv_if_ne (tgt := 19) hx hb dX13_closure_10 (by decide) (fun c9 => absurd c9 (by decide)) (fun _ => ?_)
  refine lv_aload_n hx hb dX13_closure_13 rfl (lv_at hl 0 rfl) ?_
  refine lv_iconst (v := 1) hx hb dX13_closure_14 (by decide) ?_
  have hPc := hP.sub (ws' := [(h0, .inr (16, fs1))]) [0] rfl
  have hDc := hD.sub (ws' := [(h0, .inr (16, fs1))]) [0] (by decide) rfl
  have hFc := va_free (wc := [(h0, .inr (16, fs1))]) hD hS hA [0] rfl
  refine va_calli (va_runV (As := [.int 1]) (rest := []) ⟨hx, hb, hml, hown, hts⟩ (kf_X13_fails l dC dI cI cB cJ cZ h0 H.size fs1 hnfs1 1) (cwV 1 hts gf_X13_closure_b rfl rfl rfl (by decide +kernel) ⟨(Nat.le_of_ble_eq_true rfl), (Nat.le_of_ble_eq_true rfl)⟩) ⟨fun a U g mk q => by obtain ⟨q0, q1, qP, qK, qD⟩ := q; exact ⟨q0, q1, qP, va_K.moved (u := U) (U := U.calling g mk a) (Vm.Alike.refl U.vm) qK, qD⟩, va_recv hK hPc (ci := 16) (q0 := 0) rfl rfl, fun U hU hW => ⟨rfl, by rw [hU], by rw [hU]; exact hPc, va_K.moved hW.alike hK, hDc.weaken (fun _ _ _ _ => trivial)⟩⟩ rfl rfl hl.1 rfl (lv_room (Nat.le_of_ble_eq_true rfl)) dX13_closure_15 ⟨(Nat.le_of_ble_eq_true rfl), (Nat.le_of_ble_eq_true rfl)⟩) hS (fun q _ h => hFc q h) hFc (fun r9 gs t H1 locs ht hvm hw hB hz1 hk1 hS => ?_)
  obtain ⟨hP1, hD1⟩ := hB
  rw [ht] at hP1
  obtain ⟨hr0, hg0⟩ := hw
  subst hr0
  obtain ⟨hP, hD⟩ := va_join (wr := [(ar, .inl (cI, 20, .inl (fun _ => 0)))]) (w1 := [(h0, .inr (16, gs))]) hP hD [0] [1] rfl rfl (by decide) (by decide) hk1 hFc hP1 hD1
  generalize H1 = H at hP hS ⊢
  have hP : va_P (dC, dI) vwCl [(ar, .inl (cI, 20, .inl (fun _ => 0))), (h0, .inr (16, gs))] H := hP
  have hD : va_D A [(ar, .inl (cI, 20, .inl (fun _ => 0))), (h0, .inr (16, gs))] := hD
  have hP := hP.sub (ws' := [(h0, .inr (16, gs))]) [1] rfl
  have hD := hD.sub (ws' := [(h0, .inr (16, gs))]) [1] (by decide) rfl
  rw [hQQ]
  exact W.iret (v := 0) hx hb hr (fun t ht hW => ⟨⟨0, gs, rfl, ⟨rfl, hg0⟩, by rw [ht]; exact hP, hD⟩, hS.F ht⟩) hS.2.2 dX13_closure_18
theorem dX13_product_0 : decode cX13_product 0 = .ok (.aload_n 0, 1) := by decide +kernel
theorem dX13_product_1 : decode cX13_product 1 = .ok (.iconst 0, 1) := by decide +kernel
theorem dX13_product_2 : decode cX13_product 2 = .ok (.putfield 1, 3) := by decide +kernel
theorem dX13_product_5 : decode cX13_product 5 = .ok (.aload_n 0, 1) := by decide +kernel
theorem dX13_product_6 : decode cX13_product 6 = .ok (.iload_n 1, 1) := by decide +kernel
theorem dX13_product_7 : decode cX13_product 7 = .ok (.invokevirtual 739, 3) := by decide +kernel
theorem dX13_product_10 : decode cX13_product 10 = .ok (.ifCond .eq 11, 3) := by decide +kernel
theorem dX13_product_13 : decode cX13_product 13 = .ok (.aload_n 0, 1) := by decide +kernel
theorem dX13_product_14 : decode cX13_product 14 = .ok (.iload_n 2, 1) := by decide +kernel
theorem dX13_product_15 : decode cX13_product 15 = .ok (.invokevirtual 739, 3) := by decide +kernel
theorem dX13_product_18 : decode cX13_product 18 = .ok (.ifCond .ne 9, 3) := by decide +kernel
theorem dX13_product_21 : decode cX13_product 21 = .ok (.aload_n 0, 1) := by decide +kernel
theorem dX13_product_22 : decode cX13_product 22 = .ok (.iconst 1, 1) := by decide +kernel
theorem dX13_product_23 : decode cX13_product 23 = .ok (.invokevirtual 403, 3) := by decide +kernel
theorem dX13_product_26 : decode cX13_product 26 = .ok (.ireturn, 1) := by decide +kernel
theorem dX13_product_27 : decode cX13_product 27 = .ok (.aload_n 0, 1) := by decide +kernel
def wf_M_product : List Cond := .code yX13_product cX13_product 5 (some .int) :: ([.fieldLink RX13 1 "KnotHouseModel" "thrown" "I"] ++ wsX130 ++ (wsV RX13 739 RX13 yX13_hasBraid wf_MhasBraid ++ wsV RX13 403 RX13 yX13_fails wf_Mfails))
theorem gf_X13_product_a : GoodIn wf_M_product (wsV RX13 739 RX13 yX13_hasBraid wf_MhasBraid) := goodIn_sub (fun _ h => List.mem_cons_of_mem _ (List.mem_append_right _ (List.mem_append_left _ h))) (by decide +kernel)
theorem gf_X13_product_b : GoodIn wf_M_product (wsV RX13 403 RX13 yX13_fails wf_Mfails) := goodIn_sub (fun _ h => List.mem_cons_of_mem _ (List.mem_append_right _ (List.mem_append_right _ h))) (by decide +kernel)
set_option maxHeartbeats 4000000 in
set_option maxRecDepth 100000 in
theorem kf_X13_product (l : Launch) (dC : Nat → ClassId) (dI : Nat → Nat → Nat) (cI cB cJ cZ : ClassId) (h0 ar sz : Nat) (fs : List Value) (hfs : fs.length = 120) (hk : fs[95]? = some (.ref ar)) (p0 p1 : Int32) : Met l yX13_product wf_M_product (({ frames := 1, cells := 0, slots := 0, locals := 21 } : Room)) (va_Pc [.ref h0, .int p0, .int p1] (fun U => U.heap.size = sz ∧ va_P (dC, dI) vwCl [(h0, .inr (16, fs)), (ar, .inl (cI, 20, .inl (fun _ => 0)))] U.heap ∧ va_K (dC, dI) vwCl [(cI, .int), (cB, .byte), (cJ, .long), (cZ, .boolean)] U ∧ va_D (fun _ => True) [(h0, .inr (16, fs)), (ar, .inl (cI, 20, .inl (fun _ => 0)))])) (va_Qi (fun r (g : List Value) => r = 0 ∧ g[0]? = some (.int 1)) (fun g t => va_P (dC, dI) vwCl [(h0, .inr (16, g))] t.heap ∧ va_D (va_A [(h0, .inr (16, fs)), (ar, .inl (cI, 20, .inl (fun _ => 0)))] sz) [(h0, .inr (16, g))]) (va_A [(h0, .inr (16, fs)), (ar, .inl (cI, 20, .inl (fun _ => 0)))] sz)) 0 0 (va_A [(h0, .inr (16, fs)), (ar, .inl (cI, 20, .inl (fun _ => 0)))] sz) := by
  refine Met.ofW (cc := cX13_product) (maxL := 5) (ret := (some .int)) (by decide) rfl ?_
  intro p e s m args below meth c s₁ B hml hv
  obtain ⟨rfl, hsz, hP, hK, hD0⟩ := hv
  have hx := B.exec
  have hb := B.bytes
  have hr := B.returns
  have hts := atoms_spec (ws := wf_M_product) B.pre
  have hown : s.vm.findClass RX13 = some m.cls := findClass_of_methodNamed B.named
  have hlocks := B.notSynchronized
  subst hsz
  have hD := hD0.self (sz := s.heap.size)
  generalize hAe : va_A [(h0, .inr (16, fs)), (ar, .inl (cI, 20, .inl (fun _ => 0)))] s.heap.size = A at hD ⊢
  have hA : ∀ q : Nat, s.heap.size ≤ q → A q := fun q h => by rw [← hAe]; exact Or.inr h
  have hS : va_S A s.heap s.heap [] := va_S.rf
  have hP : va_P (dC, dI) vwCl [(h0, .inr (16, fs)), (ar, .inl (cI, 20, .inl (fun _ => 0)))] s.heap := hP
  have hl := lv_entry ([.ref h0, .int p0, .int p1]) (n := 5) (Nat.le_of_ble_eq_true rfl)
  rw [lg_entry_eq]
  generalize (lg_sl ([.ref h0, .int p0, .int p1]) ++ List.replicate (5 - (lg_sl ([.ref h0, .int p0, .int p1])).length) Slot.unset).toArray = ls at hl ⊢
  have hl : lv_has ls 5 [(0, .ref h0), (1, .int p0), (2, .int p1)] := hl
  refine ow_named (fun QQ hQQ => ?_)
  refine lv_aload_n hx hb dX13_product_0 rfl (lv_at hl 0 rfl) ?_
  refine lv_iconst (v := 0) hx hb dX13_product_1 (by decide) ?_
  refine va_put (D := (dC, dI)) (ci := 16) (v := .int 0) (ty := .int) (C := RX13) (T := TX13) (N := 120) hx hb hts (fun _ h => List.mem_cons_of_mem _ (List.mem_append_left _ (List.mem_append_right _ h))) tyX13 tyX13_ok nmX13 hown hK hP hD hS 0 rfl rfl 0 (by decide) (hts (.fieldLink RX13 1 "KnotHouseModel" "thrown" "I") (by decide +kernel)) (fun _ h9 => h9) rfl (by decide +kernel) rfl rfl (by rw [hfs]; decide) dX13_product_2 (fun H locs hP hD hS => ?_)
  obtain ⟨fs1, efs1⟩ : ∃ x, x = List.set fs 0 (.int 0) := ⟨_, rfl⟩
  have hnfs1 : fs1.length = 120 := by rw [efs1, List.length_set]; exact hfs
  have hfs1_95 : fs1[95]? = some (.ref ar) := by rw [efs1, List.getElem?_set_ne (by decide)]; exact hk
  have hfs1_0 : fs1[0]? = some (.int 0) := by rw [efs1]; exact List.getElem?_set_self (by rw [hfs]; decide)
  have hP : va_P (dC, dI) vwCl [(h0, .inr (16, fs1)), (ar, .inl (cI, 20, .inl (fun _ => 0)))] H := by rw [efs1]; exact hP
  have hD : va_D A [(h0, .inr (16, fs1)), (ar, .inl (cI, 20, .inl (fun _ => 0)))] := by rw [efs1]; exact hD
  refine lv_aload_n hx hb dX13_product_5 rfl (lv_at hl 0 rfl) ?_
  refine lv_iload_n hx hb dX13_product_6 rfl (lv_at hl 1 rfl) ?_
  have hPc := hP.sub (ws' := [(h0, .inr (16, fs1)), (ar, .inl (cI, 20, .inl (fun _ => 0)))]) [0, 1] rfl
  refine va_calli (va_runV (As := [.int p0]) (rest := []) ⟨hx, hb, hml, hown, hts⟩ (kf_X13_hasBraid l dC dI cI cB cJ cZ h0 ar fs1 hnfs1 hfs1_95 p0) (cwV 1 hts gf_X13_product_a rfl rfl rfl (by decide +kernel) ⟨(Nat.le_of_ble_eq_true rfl), (Nat.le_of_ble_eq_true rfl)⟩) ⟨fun a U g mk q => by obtain ⟨q0, qP, qK⟩ := q; exact ⟨q0, qP, va_K.moved (u := U) (U := U.calling g mk a) (Vm.Alike.refl U.vm) qK⟩, va_recv hK hPc (ci := 16) (q0 := 0) rfl rfl, fun U hU hW => ⟨rfl, by rw [hU]; exact hPc, va_K.moved hW.alike hK⟩⟩ rfl rfl hl.1 rfl (lv_room (Nat.le_of_ble_eq_true rfl)) dX13_product_7 ⟨(Nat.le_of_ble_eq_true rfl), (Nat.le_of_ble_eq_true rfl)⟩) hS (fun q _ h => h.elim) (fun q h => h.elim) (fun r9 un t H1 locs ht hvm hw hB hz1 hk1 hS => ?_)
  obtain rfl : r9 = 0 := hw
  have hP := hP.kept (fun k9 x9 h9 => hk1 x9.1 ((hP k9 x9 h9).lt) id)
  generalize H1 = H at hP hS ⊢
  refine lv_if_eq (tgt := 21) hx hb dX13_product_10 (by decide) (fun _ => ?_) (fun c9 => absurd (by decide) c9)
  refine lv_aload_n hx hb dX13_product_21 rfl (lv_at hl 0 rfl) ?_
  refine lv_iconst (v := 1) hx hb dX13_product_22 (by decide) ?_
  have hPc := hP.sub (ws' := [(h0, .inr (16, fs1))]) [0] rfl
  have hDc := hD.sub (ws' := [(h0, .inr (16, fs1))]) [0] (by decide) rfl
  have hFc := va_free (wc := [(h0, .inr (16, fs1))]) hD hS hA [0] rfl
  refine va_calli (va_runV (As := [.int 1]) (rest := []) ⟨hx, hb, hml, hown, hts⟩ (kf_X13_fails l dC dI cI cB cJ cZ h0 H.size fs1 hnfs1 1) (cwV 1 hts gf_X13_product_b rfl rfl rfl (by decide +kernel) ⟨(Nat.le_of_ble_eq_true rfl), (Nat.le_of_ble_eq_true rfl)⟩) ⟨fun a U g mk q => by obtain ⟨q0, q1, qP, qK, qD⟩ := q; exact ⟨q0, q1, qP, va_K.moved (u := U) (U := U.calling g mk a) (Vm.Alike.refl U.vm) qK, qD⟩, va_recv hK hPc (ci := 16) (q0 := 0) rfl rfl, fun U hU hW => ⟨rfl, by rw [hU], by rw [hU]; exact hPc, va_K.moved hW.alike hK, hDc.weaken (fun _ _ _ _ => trivial)⟩⟩ rfl rfl hl.1 rfl (lv_room (Nat.le_of_ble_eq_true rfl)) dX13_product_23 ⟨(Nat.le_of_ble_eq_true rfl), (Nat.le_of_ble_eq_true rfl)⟩) hS (fun q _ h => hFc q h) hFc (fun r9 gs t H1 locs ht hvm hw hB hz1 hk1 hS => ?_)
  obtain ⟨hP1, hD1⟩ := hB
  rw [ht] at hP1
  obtain ⟨hr0, hg0⟩ := hw
  subst hr0
  obtain ⟨hP, hD⟩ := va_join (wr := [(ar, .inl (cI, 20, .inl (fun _ => 0)))]) (w1 := [(h0, .inr (16, gs))]) hP hD [0] [1] rfl rfl (by decide) (by decide) hk1 hFc hP1 hD1
  generalize H1 = H at hP hS ⊢
  have hP : va_P (dC, dI) vwCl [(ar, .inl (cI, 20, .inl (fun _ => 0))), (h0, .inr (16, gs))] H := hP
  have hD : va_D A [(ar, .inl (cI, 20, .inl (fun _ => 0))), (h0, .inr (16, gs))] := hD
  have hP := hP.sub (ws' := [(h0, .inr (16, gs))]) [1] rfl
  have hD := hD.sub (ws' := [(h0, .inr (16, gs))]) [1] (by decide) rfl
  rw [hQQ]
  exact W.iret (v := 0) hx hb hr (fun t ht hW => ⟨⟨0, gs, rfl, ⟨rfl, hg0⟩, by rw [ht]; exact hP, hD⟩, hS.F ht⟩) hS.2.2 dX13_product_26
theorem dX13_inverse_0 : decode cX13_inverse 0 = .ok (.aload_n 0, 1) := by decide +kernel
theorem dX13_inverse_1 : decode cX13_inverse 1 = .ok (.iconst 0, 1) := by decide +kernel
theorem dX13_inverse_2 : decode cX13_inverse 2 = .ok (.putfield 1, 3) := by decide +kernel
theorem dX13_inverse_5 : decode cX13_inverse 5 = .ok (.aload_n 0, 1) := by decide +kernel
theorem dX13_inverse_6 : decode cX13_inverse 6 = .ok (.iload_n 1, 1) := by decide +kernel
theorem dX13_inverse_7 : decode cX13_inverse 7 = .ok (.invokevirtual 739, 3) := by decide +kernel
theorem dX13_inverse_10 : decode cX13_inverse 10 = .ok (.ifCond .ne 9, 3) := by decide +kernel
theorem dX13_inverse_13 : decode cX13_inverse 13 = .ok (.aload_n 0, 1) := by decide +kernel
theorem dX13_inverse_14 : decode cX13_inverse 14 = .ok (.iconst 1, 1) := by decide +kernel
theorem dX13_inverse_15 : decode cX13_inverse 15 = .ok (.invokevirtual 403, 3) := by decide +kernel
theorem dX13_inverse_18 : decode cX13_inverse 18 = .ok (.ireturn, 1) := by decide +kernel
theorem dX13_inverse_19 : decode cX13_inverse 19 = .ok (.aload_n 0, 1) := by decide +kernel
def wf_M_inverse : List Cond := .code yX13_inverse cX13_inverse 4 (some .int) :: ([.fieldLink RX13 1 "KnotHouseModel" "thrown" "I"] ++ wsX130 ++ (wsV RX13 739 RX13 yX13_hasBraid wf_MhasBraid ++ wsV RX13 403 RX13 yX13_fails wf_Mfails))
theorem gf_X13_inverse_a : GoodIn wf_M_inverse (wsV RX13 739 RX13 yX13_hasBraid wf_MhasBraid) := goodIn_sub (fun _ h => List.mem_cons_of_mem _ (List.mem_append_right _ (List.mem_append_left _ h))) (by decide +kernel)
theorem gf_X13_inverse_b : GoodIn wf_M_inverse (wsV RX13 403 RX13 yX13_fails wf_Mfails) := goodIn_sub (fun _ h => List.mem_cons_of_mem _ (List.mem_append_right _ (List.mem_append_right _ h))) (by decide +kernel)
set_option maxHeartbeats 4000000 in
set_option maxRecDepth 100000 in
theorem kf_X13_inverse (l : Launch) (dC : Nat → ClassId) (dI : Nat → Nat → Nat) (cI cB cJ cZ : ClassId) (h0 ar sz : Nat) (fs : List Value) (hfs : fs.length = 120) (hk : fs[95]? = some (.ref ar)) (p0 : Int32) : Met l yX13_inverse wf_M_inverse (({ frames := 1, cells := 0, slots := 0, locals := 21 } : Room)) (va_Pc [.ref h0, .int p0] (fun U => U.heap.size = sz ∧ va_P (dC, dI) vwCl [(h0, .inr (16, fs)), (ar, .inl (cI, 20, .inl (fun _ => 0)))] U.heap ∧ va_K (dC, dI) vwCl [(cI, .int), (cB, .byte), (cJ, .long), (cZ, .boolean)] U ∧ va_D (fun _ => True) [(h0, .inr (16, fs)), (ar, .inl (cI, 20, .inl (fun _ => 0)))])) (va_Qi (fun r (g : List Value) => r = 0 ∧ g[0]? = some (.int 1)) (fun g t => va_P (dC, dI) vwCl [(h0, .inr (16, g))] t.heap ∧ va_D (va_A [(h0, .inr (16, fs)), (ar, .inl (cI, 20, .inl (fun _ => 0)))] sz) [(h0, .inr (16, g))]) (va_A [(h0, .inr (16, fs)), (ar, .inl (cI, 20, .inl (fun _ => 0)))] sz)) 0 0 (va_A [(h0, .inr (16, fs)), (ar, .inl (cI, 20, .inl (fun _ => 0)))] sz) := by
  refine Met.ofW (cc := cX13_inverse) (maxL := 4) (ret := (some .int)) (by decide) rfl ?_
  intro p e s m args below meth c s₁ B hml hv
  obtain ⟨rfl, hsz, hP, hK, hD0⟩ := hv
  have hx := B.exec
  have hb := B.bytes
  have hr := B.returns
  have hts := atoms_spec (ws := wf_M_inverse) B.pre
  have hown : s.vm.findClass RX13 = some m.cls := findClass_of_methodNamed B.named
  have hlocks := B.notSynchronized
  subst hsz
  have hD := hD0.self (sz := s.heap.size)
  generalize hAe : va_A [(h0, .inr (16, fs)), (ar, .inl (cI, 20, .inl (fun _ => 0)))] s.heap.size = A at hD ⊢
  have hA : ∀ q : Nat, s.heap.size ≤ q → A q := fun q h => by rw [← hAe]; exact Or.inr h
  have hS : va_S A s.heap s.heap [] := va_S.rf
  have hP : va_P (dC, dI) vwCl [(h0, .inr (16, fs)), (ar, .inl (cI, 20, .inl (fun _ => 0)))] s.heap := hP
  have hl := lv_entry ([.ref h0, .int p0]) (n := 4) (Nat.le_of_ble_eq_true rfl)
  rw [lg_entry_eq]
  generalize (lg_sl ([.ref h0, .int p0]) ++ List.replicate (4 - (lg_sl ([.ref h0, .int p0])).length) Slot.unset).toArray = ls at hl ⊢
  have hl : lv_has ls 4 [(0, .ref h0), (1, .int p0)] := hl
  refine ow_named (fun QQ hQQ => ?_)
  refine lv_aload_n hx hb dX13_inverse_0 rfl (lv_at hl 0 rfl) ?_
  refine lv_iconst (v := 0) hx hb dX13_inverse_1 (by decide) ?_
  refine va_put (D := (dC, dI)) (ci := 16) (v := .int 0) (ty := .int) (C := RX13) (T := TX13) (N := 120) hx hb hts (fun _ h => List.mem_cons_of_mem _ (List.mem_append_left _ (List.mem_append_right _ h))) tyX13 tyX13_ok nmX13 hown hK hP hD hS 0 rfl rfl 0 (by decide) (hts (.fieldLink RX13 1 "KnotHouseModel" "thrown" "I") (by decide +kernel)) (fun _ h9 => h9) rfl (by decide +kernel) rfl rfl (by rw [hfs]; decide) dX13_inverse_2 (fun H locs hP hD hS => ?_)
  obtain ⟨fs1, efs1⟩ : ∃ x, x = List.set fs 0 (.int 0) := ⟨_, rfl⟩
  have hnfs1 : fs1.length = 120 := by rw [efs1, List.length_set]; exact hfs
  have hfs1_95 : fs1[95]? = some (.ref ar) := by rw [efs1, List.getElem?_set_ne (by decide)]; exact hk
  have hfs1_0 : fs1[0]? = some (.int 0) := by rw [efs1]; exact List.getElem?_set_self (by rw [hfs]; decide)
  have hP : va_P (dC, dI) vwCl [(h0, .inr (16, fs1)), (ar, .inl (cI, 20, .inl (fun _ => 0)))] H := by rw [efs1]; exact hP
  have hD : va_D A [(h0, .inr (16, fs1)), (ar, .inl (cI, 20, .inl (fun _ => 0)))] := by rw [efs1]; exact hD
  refine lv_aload_n hx hb dX13_inverse_5 rfl (lv_at hl 0 rfl) ?_
  refine lv_iload_n hx hb dX13_inverse_6 rfl (lv_at hl 1 rfl) ?_
  have hPc := hP.sub (ws' := [(h0, .inr (16, fs1)), (ar, .inl (cI, 20, .inl (fun _ => 0)))]) [0, 1] rfl
  refine va_calli (va_runV (As := [.int p0]) (rest := []) ⟨hx, hb, hml, hown, hts⟩ (kf_X13_hasBraid l dC dI cI cB cJ cZ h0 ar fs1 hnfs1 hfs1_95 p0) (cwV 1 hts gf_X13_inverse_a rfl rfl rfl (by decide +kernel) ⟨(Nat.le_of_ble_eq_true rfl), (Nat.le_of_ble_eq_true rfl)⟩) ⟨fun a U g mk q => by obtain ⟨q0, qP, qK⟩ := q; exact ⟨q0, qP, va_K.moved (u := U) (U := U.calling g mk a) (Vm.Alike.refl U.vm) qK⟩, va_recv hK hPc (ci := 16) (q0 := 0) rfl rfl, fun U hU hW => ⟨rfl, by rw [hU]; exact hPc, va_K.moved hW.alike hK⟩⟩ rfl rfl hl.1 rfl (lv_room (Nat.le_of_ble_eq_true rfl)) dX13_inverse_7 ⟨(Nat.le_of_ble_eq_true rfl), (Nat.le_of_ble_eq_true rfl)⟩) hS (fun q _ h => h.elim) (fun q h => h.elim) (fun r9 un t H1 locs ht hvm hw hB hz1 hk1 hS => ?_)
  obtain rfl : r9 = 0 := hw
  have hP := hP.kept (fun k9 x9 h9 => hk1 x9.1 ((hP k9 x9 h9).lt) id)
  generalize H1 = H at hP hS ⊢
  refine lv_if_ne (tgt := 19) hx hb dX13_inverse_10 (by decide) (fun c9 => absurd c9 (by decide)) (fun _ => ?_)
  refine lv_aload_n hx hb dX13_inverse_13 rfl (lv_at hl 0 rfl) ?_
  refine lv_iconst (v := 1) hx hb dX13_inverse_14 (by decide) ?_
  have hPc := hP.sub (ws' := [(h0, .inr (16, fs1))]) [0] rfl
  have hDc := hD.sub (ws' := [(h0, .inr (16, fs1))]) [0] (by decide) rfl
  have hFc := va_free (wc := [(h0, .inr (16, fs1))]) hD hS hA [0] rfl
  refine va_calli (va_runV (As := [.int 1]) (rest := []) ⟨hx, hb, hml, hown, hts⟩ (kf_X13_fails l dC dI cI cB cJ cZ h0 H.size fs1 hnfs1 1) (cwV 1 hts gf_X13_inverse_b rfl rfl rfl (by decide +kernel) ⟨(Nat.le_of_ble_eq_true rfl), (Nat.le_of_ble_eq_true rfl)⟩) ⟨fun a U g mk q => by obtain ⟨q0, q1, qP, qK, qD⟩ := q; exact ⟨q0, q1, qP, va_K.moved (u := U) (U := U.calling g mk a) (Vm.Alike.refl U.vm) qK, qD⟩, va_recv hK hPc (ci := 16) (q0 := 0) rfl rfl, fun U hU hW => ⟨rfl, by rw [hU], by rw [hU]; exact hPc, va_K.moved hW.alike hK, hDc.weaken (fun _ _ _ _ => trivial)⟩⟩ rfl rfl hl.1 rfl (lv_room (Nat.le_of_ble_eq_true rfl)) dX13_inverse_15 ⟨(Nat.le_of_ble_eq_true rfl), (Nat.le_of_ble_eq_true rfl)⟩) hS (fun q _ h => hFc q h) hFc (fun r9 gs t H1 locs ht hvm hw hB hz1 hk1 hS => ?_)
  obtain ⟨hP1, hD1⟩ := hB
  rw [ht] at hP1
  obtain ⟨hr0, hg0⟩ := hw
  subst hr0
  obtain ⟨hP, hD⟩ := va_join (wr := [(ar, .inl (cI, 20, .inl (fun _ => 0)))]) (w1 := [(h0, .inr (16, gs))]) hP hD [0] [1] rfl rfl (by decide) (by decide) hk1 hFc hP1 hD1
  generalize H1 = H at hP hS ⊢
  have hP : va_P (dC, dI) vwCl [(ar, .inl (cI, 20, .inl (fun _ => 0))), (h0, .inr (16, gs))] H := hP
  have hD : va_D A [(ar, .inl (cI, 20, .inl (fun _ => 0))), (h0, .inr (16, gs))] := hD
  have hP := hP.sub (ws' := [(h0, .inr (16, gs))]) [1] rfl
  have hD := hD.sub (ws' := [(h0, .inr (16, gs))]) [1] (by decide) rfl
  rw [hQQ]
  exact W.iret (v := 0) hx hb hr (fun t ht hW => ⟨⟨0, gs, rfl, ⟨rfl, hg0⟩, by rw [ht]; exact hP, hD⟩, hS.F ht⟩) hS.2.2 dX13_inverse_18
theorem dX13_normal_0 : decode cX13_normal 0 = .ok (.aload_n 0, 1) := by decide +kernel
theorem dX13_normal_1 : decode cX13_normal 1 = .ok (.iconst 0, 1) := by decide +kernel
theorem dX13_normal_2 : decode cX13_normal 2 = .ok (.putfield 1, 3) := by decide +kernel
theorem dX13_normal_5 : decode cX13_normal 5 = .ok (.aload_n 0, 1) := by decide +kernel
theorem dX13_normal_6 : decode cX13_normal 6 = .ok (.iload_n 1, 1) := by decide +kernel
theorem dX13_normal_7 : decode cX13_normal 7 = .ok (.invokevirtual 739, 3) := by decide +kernel
theorem dX13_normal_10 : decode cX13_normal 10 = .ok (.ifCond .ne 9, 3) := by decide +kernel
theorem dX13_normal_13 : decode cX13_normal 13 = .ok (.aload_n 0, 1) := by decide +kernel
theorem dX13_normal_14 : decode cX13_normal 14 = .ok (.iconst 1, 1) := by decide +kernel
theorem dX13_normal_15 : decode cX13_normal 15 = .ok (.invokevirtual 403, 3) := by decide +kernel
theorem dX13_normal_18 : decode cX13_normal 18 = .ok (.ireturn, 1) := by decide +kernel
theorem dX13_normal_19 : decode cX13_normal 19 = .ok (.iload_n 2, 1) := by decide +kernel
def wf_M_normal : List Cond := .code yX13_normal cX13_normal 3 (some .int) :: ([.fieldLink RX13 1 "KnotHouseModel" "thrown" "I"] ++ wsX130 ++ (wsV RX13 739 RX13 yX13_hasBraid wf_MhasBraid ++ wsV RX13 403 RX13 yX13_fails wf_Mfails))
theorem gf_X13_normal_a : GoodIn wf_M_normal (wsV RX13 739 RX13 yX13_hasBraid wf_MhasBraid) := goodIn_sub (fun _ h => List.mem_cons_of_mem _ (List.mem_append_right _ (List.mem_append_left _ h))) (by decide +kernel)
theorem gf_X13_normal_b : GoodIn wf_M_normal (wsV RX13 403 RX13 yX13_fails wf_Mfails) := goodIn_sub (fun _ h => List.mem_cons_of_mem _ (List.mem_append_right _ (List.mem_append_right _ h))) (by decide +kernel)
set_option maxHeartbeats 4000000 in
set_option maxRecDepth 100000 in
theorem kf_X13_normal (l : Launch) (dC : Nat → ClassId) (dI : Nat → Nat → Nat) (cI cB cJ cZ : ClassId) (h0 ar sz : Nat) (fs : List Value) (hfs : fs.length = 120) (hk : fs[95]? = some (.ref ar)) (p0 p1 : Int32) : Met l yX13_normal wf_M_normal (({ frames := 1, cells := 0, slots := 0, locals := 21 } : Room)) (va_Pc [.ref h0, .int p0, .int p1] (fun U => U.heap.size = sz ∧ va_P (dC, dI) vwCl [(h0, .inr (16, fs)), (ar, .inl (cI, 20, .inl (fun _ => 0)))] U.heap ∧ va_K (dC, dI) vwCl [(cI, .int), (cB, .byte), (cJ, .long), (cZ, .boolean)] U ∧ va_D (fun _ => True) [(h0, .inr (16, fs)), (ar, .inl (cI, 20, .inl (fun _ => 0)))])) (va_Qi (fun r (g : List Value) => r = 0 ∧ g[0]? = some (.int 1)) (fun g t => va_P (dC, dI) vwCl [(h0, .inr (16, g))] t.heap ∧ va_D (va_A [(h0, .inr (16, fs)), (ar, .inl (cI, 20, .inl (fun _ => 0)))] sz) [(h0, .inr (16, g))]) (va_A [(h0, .inr (16, fs)), (ar, .inl (cI, 20, .inl (fun _ => 0)))] sz)) 0 0 (va_A [(h0, .inr (16, fs)), (ar, .inl (cI, 20, .inl (fun _ => 0)))] sz) := by
  refine Met.ofW (cc := cX13_normal) (maxL := 3) (ret := (some .int)) (by decide) rfl ?_
  intro p e s m args below meth c s₁ B hml hv
  obtain ⟨rfl, hsz, hP, hK, hD0⟩ := hv
  have hx := B.exec
  have hb := B.bytes
  have hr := B.returns
  have hts := atoms_spec (ws := wf_M_normal) B.pre
  have hown : s.vm.findClass RX13 = some m.cls := findClass_of_methodNamed B.named
  have hlocks := B.notSynchronized
  subst hsz
  have hD := hD0.self (sz := s.heap.size)
  generalize hAe : va_A [(h0, .inr (16, fs)), (ar, .inl (cI, 20, .inl (fun _ => 0)))] s.heap.size = A at hD ⊢
  have hA : ∀ q : Nat, s.heap.size ≤ q → A q := fun q h => by rw [← hAe]; exact Or.inr h
  have hS : va_S A s.heap s.heap [] := va_S.rf
  have hP : va_P (dC, dI) vwCl [(h0, .inr (16, fs)), (ar, .inl (cI, 20, .inl (fun _ => 0)))] s.heap := hP
  have hl := lv_entry ([.ref h0, .int p0, .int p1]) (n := 3) (Nat.le_of_ble_eq_true rfl)
  rw [lg_entry_eq]
  generalize (lg_sl ([.ref h0, .int p0, .int p1]) ++ List.replicate (3 - (lg_sl ([.ref h0, .int p0, .int p1])).length) Slot.unset).toArray = ls at hl ⊢
  have hl : lv_has ls 3 [(0, .ref h0), (1, .int p0), (2, .int p1)] := hl
  refine ow_named (fun QQ hQQ => ?_)
  refine lv_aload_n hx hb dX13_normal_0 rfl (lv_at hl 0 rfl) ?_
  refine lv_iconst (v := 0) hx hb dX13_normal_1 (by decide) ?_
  refine va_put (D := (dC, dI)) (ci := 16) (v := .int 0) (ty := .int) (C := RX13) (T := TX13) (N := 120) hx hb hts (fun _ h => List.mem_cons_of_mem _ (List.mem_append_left _ (List.mem_append_right _ h))) tyX13 tyX13_ok nmX13 hown hK hP hD hS 0 rfl rfl 0 (by decide) (hts (.fieldLink RX13 1 "KnotHouseModel" "thrown" "I") (by decide +kernel)) (fun _ h9 => h9) rfl (by decide +kernel) rfl rfl (by rw [hfs]; decide) dX13_normal_2 (fun H locs hP hD hS => ?_)
  obtain ⟨fs1, efs1⟩ : ∃ x, x = List.set fs 0 (.int 0) := ⟨_, rfl⟩
  have hnfs1 : fs1.length = 120 := by rw [efs1, List.length_set]; exact hfs
  have hfs1_95 : fs1[95]? = some (.ref ar) := by rw [efs1, List.getElem?_set_ne (by decide)]; exact hk
  have hfs1_0 : fs1[0]? = some (.int 0) := by rw [efs1]; exact List.getElem?_set_self (by rw [hfs]; decide)
  have hP : va_P (dC, dI) vwCl [(h0, .inr (16, fs1)), (ar, .inl (cI, 20, .inl (fun _ => 0)))] H := by rw [efs1]; exact hP
  have hD : va_D A [(h0, .inr (16, fs1)), (ar, .inl (cI, 20, .inl (fun _ => 0)))] := by rw [efs1]; exact hD
  refine lv_aload_n hx hb dX13_normal_5 rfl (lv_at hl 0 rfl) ?_
  refine lv_iload_n hx hb dX13_normal_6 rfl (lv_at hl 1 rfl) ?_
  have hPc := hP.sub (ws' := [(h0, .inr (16, fs1)), (ar, .inl (cI, 20, .inl (fun _ => 0)))]) [0, 1] rfl
  refine va_calli (va_runV (As := [.int p0]) (rest := []) ⟨hx, hb, hml, hown, hts⟩ (kf_X13_hasBraid l dC dI cI cB cJ cZ h0 ar fs1 hnfs1 hfs1_95 p0) (cwV 1 hts gf_X13_normal_a rfl rfl rfl (by decide +kernel) ⟨(Nat.le_of_ble_eq_true rfl), (Nat.le_of_ble_eq_true rfl)⟩) ⟨fun a U g mk q => by obtain ⟨q0, qP, qK⟩ := q; exact ⟨q0, qP, va_K.moved (u := U) (U := U.calling g mk a) (Vm.Alike.refl U.vm) qK⟩, va_recv hK hPc (ci := 16) (q0 := 0) rfl rfl, fun U hU hW => ⟨rfl, by rw [hU]; exact hPc, va_K.moved hW.alike hK⟩⟩ rfl rfl hl.1 rfl (lv_room (Nat.le_of_ble_eq_true rfl)) dX13_normal_7 ⟨(Nat.le_of_ble_eq_true rfl), (Nat.le_of_ble_eq_true rfl)⟩) hS (fun q _ h => h.elim) (fun q h => h.elim) (fun r9 un t H1 locs ht hvm hw hB hz1 hk1 hS => ?_)
  obtain rfl : r9 = 0 := hw
  have hP := hP.kept (fun k9 x9 h9 => hk1 x9.1 ((hP k9 x9 h9).lt) id)
  generalize H1 = H at hP hS ⊢
  refine lv_if_ne (tgt := 19) hx hb dX13_normal_10 (by decide) (fun c9 => absurd c9 (by decide)) (fun _ => ?_)
  refine lv_aload_n hx hb dX13_normal_13 rfl (lv_at hl 0 rfl) ?_
  refine lv_iconst (v := 1) hx hb dX13_normal_14 (by decide) ?_
  have hPc := hP.sub (ws' := [(h0, .inr (16, fs1))]) [0] rfl
  have hDc := hD.sub (ws' := [(h0, .inr (16, fs1))]) [0] (by decide) rfl
  have hFc := va_free (wc := [(h0, .inr (16, fs1))]) hD hS hA [0] rfl
  refine va_calli (va_runV (As := [.int 1]) (rest := []) ⟨hx, hb, hml, hown, hts⟩ (kf_X13_fails l dC dI cI cB cJ cZ h0 H.size fs1 hnfs1 1) (cwV 1 hts gf_X13_normal_b rfl rfl rfl (by decide +kernel) ⟨(Nat.le_of_ble_eq_true rfl), (Nat.le_of_ble_eq_true rfl)⟩) ⟨fun a U g mk q => by obtain ⟨q0, q1, qP, qK, qD⟩ := q; exact ⟨q0, q1, qP, va_K.moved (u := U) (U := U.calling g mk a) (Vm.Alike.refl U.vm) qK, qD⟩, va_recv hK hPc (ci := 16) (q0 := 0) rfl rfl, fun U hU hW => ⟨rfl, by rw [hU], by rw [hU]; exact hPc, va_K.moved hW.alike hK, hDc.weaken (fun _ _ _ _ => trivial)⟩⟩ rfl rfl hl.1 rfl (lv_room (Nat.le_of_ble_eq_true rfl)) dX13_normal_15 ⟨(Nat.le_of_ble_eq_true rfl), (Nat.le_of_ble_eq_true rfl)⟩) hS (fun q _ h => hFc q h) hFc (fun r9 gs t H1 locs ht hvm hw hB hz1 hk1 hS => ?_)
  obtain ⟨hP1, hD1⟩ := hB
  rw [ht] at hP1
  obtain ⟨hr0, hg0⟩ := hw
  subst hr0
  obtain ⟨hP, hD⟩ := va_join (wr := [(ar, .inl (cI, 20, .inl (fun _ => 0)))]) (w1 := [(h0, .inr (16, gs))]) hP hD [0] [1] rfl rfl (by decide) (by decide) hk1 hFc hP1 hD1
  generalize H1 = H at hP hS ⊢
  have hP : va_P (dC, dI) vwCl [(ar, .inl (cI, 20, .inl (fun _ => 0))), (h0, .inr (16, gs))] H := hP
  have hD : va_D A [(ar, .inl (cI, 20, .inl (fun _ => 0))), (h0, .inr (16, gs))] := hD
  have hP := hP.sub (ws' := [(h0, .inr (16, gs))]) [1] rfl
  have hD := hD.sub (ws' := [(h0, .inr (16, gs))]) [1] (by decide) rfl
  rw [hQQ]
  exact W.iret (v := 0) hx hb hr (fun t ht hW => ⟨⟨0, gs, rfl, ⟨rfl, hg0⟩, by rw [ht]; exact hP, hD⟩, hS.F ht⟩) hS.2.2 dX13_normal_18
theorem dX13_factor_0 : decode cX13_factor 0 = .ok (.aload_n 0, 1) := by decide +kernel
theorem dX13_factor_1 : decode cX13_factor 1 = .ok (.iconst 0, 1) := by decide +kernel
theorem dX13_factor_2 : decode cX13_factor 2 = .ok (.putfield 1, 3) := by decide +kernel
theorem dX13_factor_5 : decode cX13_factor 5 = .ok (.aload_n 0, 1) := by decide +kernel
theorem dX13_factor_6 : decode cX13_factor 6 = .ok (.iload_n 1, 1) := by decide +kernel
theorem dX13_factor_7 : decode cX13_factor 7 = .ok (.invokevirtual 739, 3) := by decide +kernel
theorem dX13_factor_10 : decode cX13_factor 10 = .ok (.ifCond .ne 9, 3) := by decide +kernel
theorem dX13_factor_13 : decode cX13_factor 13 = .ok (.aload_n 0, 1) := by decide +kernel
theorem dX13_factor_14 : decode cX13_factor 14 = .ok (.iconst 1, 1) := by decide +kernel
theorem dX13_factor_15 : decode cX13_factor 15 = .ok (.invokevirtual 403, 3) := by decide +kernel
theorem dX13_factor_18 : decode cX13_factor 18 = .ok (.ireturn, 1) := by decide +kernel
theorem dX13_factor_19 : decode cX13_factor 19 = .ok (.aload_n 0, 1) := by decide +kernel
def wf_M_factor : List Cond := .code yX13_factor cX13_factor 4 (some .int) :: ([.fieldLink RX13 1 "KnotHouseModel" "thrown" "I"] ++ wsX130 ++ (wsV RX13 739 RX13 yX13_hasBraid wf_MhasBraid ++ wsV RX13 403 RX13 yX13_fails wf_Mfails))
theorem gf_X13_factor_a : GoodIn wf_M_factor (wsV RX13 739 RX13 yX13_hasBraid wf_MhasBraid) := goodIn_sub (fun _ h => List.mem_cons_of_mem _ (List.mem_append_right _ (List.mem_append_left _ h))) (by decide +kernel)
theorem gf_X13_factor_b : GoodIn wf_M_factor (wsV RX13 403 RX13 yX13_fails wf_Mfails) := goodIn_sub (fun _ h => List.mem_cons_of_mem _ (List.mem_append_right _ (List.mem_append_right _ h))) (by decide +kernel)
set_option maxHeartbeats 4000000 in
set_option maxRecDepth 100000 in
theorem kf_X13_factor (l : Launch) (dC : Nat → ClassId) (dI : Nat → Nat → Nat) (cI cB cJ cZ : ClassId) (h0 ar sz : Nat) (fs : List Value) (hfs : fs.length = 120) (hk : fs[95]? = some (.ref ar)) (p0 p1 p2 : Int32) : Met l yX13_factor wf_M_factor (({ frames := 1, cells := 0, slots := 0, locals := 21 } : Room)) (va_Pc [.ref h0, .int p0, .int p1, .int p2] (fun U => U.heap.size = sz ∧ va_P (dC, dI) vwCl [(h0, .inr (16, fs)), (ar, .inl (cI, 20, .inl (fun _ => 0)))] U.heap ∧ va_K (dC, dI) vwCl [(cI, .int), (cB, .byte), (cJ, .long), (cZ, .boolean)] U ∧ va_D (fun _ => True) [(h0, .inr (16, fs)), (ar, .inl (cI, 20, .inl (fun _ => 0)))])) (va_Qi (fun r (g : List Value) => r = 0 ∧ g[0]? = some (.int 1)) (fun g t => va_P (dC, dI) vwCl [(h0, .inr (16, g))] t.heap ∧ va_D (va_A [(h0, .inr (16, fs)), (ar, .inl (cI, 20, .inl (fun _ => 0)))] sz) [(h0, .inr (16, g))]) (va_A [(h0, .inr (16, fs)), (ar, .inl (cI, 20, .inl (fun _ => 0)))] sz)) 0 0 (va_A [(h0, .inr (16, fs)), (ar, .inl (cI, 20, .inl (fun _ => 0)))] sz) := by
  refine Met.ofW (cc := cX13_factor) (maxL := 4) (ret := (some .int)) (by decide) rfl ?_
  intro p e s m args below meth c s₁ B hml hv
  obtain ⟨rfl, hsz, hP, hK, hD0⟩ := hv
  have hx := B.exec
  have hb := B.bytes
  have hr := B.returns
  have hts := atoms_spec (ws := wf_M_factor) B.pre
  have hown : s.vm.findClass RX13 = some m.cls := findClass_of_methodNamed B.named
  have hlocks := B.notSynchronized
  subst hsz
  have hD := hD0.self (sz := s.heap.size)
  generalize hAe : va_A [(h0, .inr (16, fs)), (ar, .inl (cI, 20, .inl (fun _ => 0)))] s.heap.size = A at hD ⊢
  have hA : ∀ q : Nat, s.heap.size ≤ q → A q := fun q h => by rw [← hAe]; exact Or.inr h
  have hS : va_S A s.heap s.heap [] := va_S.rf
  have hP : va_P (dC, dI) vwCl [(h0, .inr (16, fs)), (ar, .inl (cI, 20, .inl (fun _ => 0)))] s.heap := hP
  have hl := lv_entry ([.ref h0, .int p0, .int p1, .int p2]) (n := 4) (Nat.le_of_ble_eq_true rfl)
  rw [lg_entry_eq]
  generalize (lg_sl ([.ref h0, .int p0, .int p1, .int p2]) ++ List.replicate (4 - (lg_sl ([.ref h0, .int p0, .int p1, .int p2])).length) Slot.unset).toArray = ls at hl ⊢
  have hl : lv_has ls 4 [(0, .ref h0), (1, .int p0), (2, .int p1), (3, .int p2)] := hl
  refine ow_named (fun QQ hQQ => ?_)
  refine lv_aload_n hx hb dX13_factor_0 rfl (lv_at hl 0 rfl) ?_
  refine lv_iconst (v := 0) hx hb dX13_factor_1 (by decide) ?_
  refine va_put (D := (dC, dI)) (ci := 16) (v := .int 0) (ty := .int) (C := RX13) (T := TX13) (N := 120) hx hb hts (fun _ h => List.mem_cons_of_mem _ (List.mem_append_left _ (List.mem_append_right _ h))) tyX13 tyX13_ok nmX13 hown hK hP hD hS 0 rfl rfl 0 (by decide) (hts (.fieldLink RX13 1 "KnotHouseModel" "thrown" "I") (by decide +kernel)) (fun _ h9 => h9) rfl (by decide +kernel) rfl rfl (by rw [hfs]; decide) dX13_factor_2 (fun H locs hP hD hS => ?_)
  obtain ⟨fs1, efs1⟩ : ∃ x, x = List.set fs 0 (.int 0) := ⟨_, rfl⟩
  have hnfs1 : fs1.length = 120 := by rw [efs1, List.length_set]; exact hfs
  have hfs1_95 : fs1[95]? = some (.ref ar) := by rw [efs1, List.getElem?_set_ne (by decide)]; exact hk
  have hfs1_0 : fs1[0]? = some (.int 0) := by rw [efs1]; exact List.getElem?_set_self (by rw [hfs]; decide)
  have hP : va_P (dC, dI) vwCl [(h0, .inr (16, fs1)), (ar, .inl (cI, 20, .inl (fun _ => 0)))] H := by rw [efs1]; exact hP
  have hD : va_D A [(h0, .inr (16, fs1)), (ar, .inl (cI, 20, .inl (fun _ => 0)))] := by rw [efs1]; exact hD
  refine lv_aload_n hx hb dX13_factor_5 rfl (lv_at hl 0 rfl) ?_
  refine lv_iload_n hx hb dX13_factor_6 rfl (lv_at hl 1 rfl) ?_
  have hPc := hP.sub (ws' := [(h0, .inr (16, fs1)), (ar, .inl (cI, 20, .inl (fun _ => 0)))]) [0, 1] rfl
  refine va_calli (va_runV (As := [.int p0]) (rest := []) ⟨hx, hb, hml, hown, hts⟩ (kf_X13_hasBraid l dC dI cI cB cJ cZ h0 ar fs1 hnfs1 hfs1_95 p0) (cwV 1 hts gf_X13_factor_a rfl rfl rfl (by decide +kernel) ⟨(Nat.le_of_ble_eq_true rfl), (Nat.le_of_ble_eq_true rfl)⟩) ⟨fun a U g mk q => by obtain ⟨q0, qP, qK⟩ := q; exact ⟨q0, qP, va_K.moved (u := U) (U := U.calling g mk a) (Vm.Alike.refl U.vm) qK⟩, va_recv hK hPc (ci := 16) (q0 := 0) rfl rfl, fun U hU hW => ⟨rfl, by rw [hU]; exact hPc, va_K.moved hW.alike hK⟩⟩ rfl rfl hl.1 rfl (lv_room (Nat.le_of_ble_eq_true rfl)) dX13_factor_7 ⟨(Nat.le_of_ble_eq_true rfl), (Nat.le_of_ble_eq_true rfl)⟩) hS (fun q _ h => h.elim) (fun q h => h.elim) (fun r9 un t H1 locs ht hvm hw hB hz1 hk1 hS => ?_)
  obtain rfl : r9 = 0 := hw
  have hP := hP.kept (fun k9 x9 h9 => hk1 x9.1 ((hP k9 x9 h9).lt) id)
  generalize H1 = H at hP hS ⊢
  refine lv_if_ne (tgt := 19) hx hb dX13_factor_10 (by decide) (fun c9 => absurd c9 (by decide)) (fun _ => ?_)
  refine lv_aload_n hx hb dX13_factor_13 rfl (lv_at hl 0 rfl) ?_
  refine lv_iconst (v := 1) hx hb dX13_factor_14 (by decide) ?_
  have hPc := hP.sub (ws' := [(h0, .inr (16, fs1))]) [0] rfl
  have hDc := hD.sub (ws' := [(h0, .inr (16, fs1))]) [0] (by decide) rfl
  have hFc := va_free (wc := [(h0, .inr (16, fs1))]) hD hS hA [0] rfl
  refine va_calli (va_runV (As := [.int 1]) (rest := []) ⟨hx, hb, hml, hown, hts⟩ (kf_X13_fails l dC dI cI cB cJ cZ h0 H.size fs1 hnfs1 1) (cwV 1 hts gf_X13_factor_b rfl rfl rfl (by decide +kernel) ⟨(Nat.le_of_ble_eq_true rfl), (Nat.le_of_ble_eq_true rfl)⟩) ⟨fun a U g mk q => by obtain ⟨q0, q1, qP, qK, qD⟩ := q; exact ⟨q0, q1, qP, va_K.moved (u := U) (U := U.calling g mk a) (Vm.Alike.refl U.vm) qK, qD⟩, va_recv hK hPc (ci := 16) (q0 := 0) rfl rfl, fun U hU hW => ⟨rfl, by rw [hU], by rw [hU]; exact hPc, va_K.moved hW.alike hK, hDc.weaken (fun _ _ _ _ => trivial)⟩⟩ rfl rfl hl.1 rfl (lv_room (Nat.le_of_ble_eq_true rfl)) dX13_factor_15 ⟨(Nat.le_of_ble_eq_true rfl), (Nat.le_of_ble_eq_true rfl)⟩) hS (fun q _ h => hFc q h) hFc (fun r9 gs t H1 locs ht hvm hw hB hz1 hk1 hS => ?_)
  obtain ⟨hP1, hD1⟩ := hB
  rw [ht] at hP1
  obtain ⟨hr0, hg0⟩ := hw
  subst hr0
  obtain ⟨hP, hD⟩ := va_join (wr := [(ar, .inl (cI, 20, .inl (fun _ => 0)))]) (w1 := [(h0, .inr (16, gs))]) hP hD [0] [1] rfl rfl (by decide) (by decide) hk1 hFc hP1 hD1
  generalize H1 = H at hP hS ⊢
  have hP : va_P (dC, dI) vwCl [(ar, .inl (cI, 20, .inl (fun _ => 0))), (h0, .inr (16, gs))] H := hP
  have hD : va_D A [(ar, .inl (cI, 20, .inl (fun _ => 0))), (h0, .inr (16, gs))] := hD
  have hP := hP.sub (ws' := [(h0, .inr (16, gs))]) [1] rfl
  have hD := hD.sub (ws' := [(h0, .inr (16, gs))]) [1] (by decide) rfl
  rw [hQQ]
  exact W.iret (v := 0) hx hb hr (fun t ht hW => ⟨⟨0, gs, rfl, ⟨rfl, hg0⟩, by rw [ht]; exact hP, hD⟩, hS.F ht⟩) hS.2.2 dX13_factor_18
theorem dX13_summit_0 : decode cX13_summit 0 = .ok (.aload_n 0, 1) := by decide +kernel
theorem dX13_summit_1 : decode cX13_summit 1 = .ok (.iconst 0, 1) := by decide +kernel
theorem dX13_summit_2 : decode cX13_summit 2 = .ok (.putfield 1, 3) := by decide +kernel
theorem dX13_summit_5 : decode cX13_summit 5 = .ok (.aload_n 0, 1) := by decide +kernel
theorem dX13_summit_6 : decode cX13_summit 6 = .ok (.iload_n 1, 1) := by decide +kernel
theorem dX13_summit_7 : decode cX13_summit 7 = .ok (.invokevirtual 739, 3) := by decide +kernel
theorem dX13_summit_10 : decode cX13_summit 10 = .ok (.ifCond .ne 9, 3) := by decide +kernel
theorem dX13_summit_13 : decode cX13_summit 13 = .ok (.aload_n 0, 1) := by decide +kernel
theorem dX13_summit_14 : decode cX13_summit 14 = .ok (.iconst 1, 1) := by decide +kernel
theorem dX13_summit_15 : decode cX13_summit 15 = .ok (.invokevirtual 403, 3) := by decide +kernel
theorem dX13_summit_18 : decode cX13_summit 18 = .ok (.ireturn, 1) := by decide +kernel
theorem dX13_summit_19 : decode cX13_summit 19 = .ok (.aload_n 0, 1) := by decide +kernel
def wf_M_summit : List Cond := .code yX13_summit cX13_summit 2 (some .int) :: ([.fieldLink RX13 1 "KnotHouseModel" "thrown" "I"] ++ wsX130 ++ (wsV RX13 739 RX13 yX13_hasBraid wf_MhasBraid ++ wsV RX13 403 RX13 yX13_fails wf_Mfails))
theorem gf_X13_summit_a : GoodIn wf_M_summit (wsV RX13 739 RX13 yX13_hasBraid wf_MhasBraid) := goodIn_sub (fun _ h => List.mem_cons_of_mem _ (List.mem_append_right _ (List.mem_append_left _ h))) (by decide +kernel)
theorem gf_X13_summit_b : GoodIn wf_M_summit (wsV RX13 403 RX13 yX13_fails wf_Mfails) := goodIn_sub (fun _ h => List.mem_cons_of_mem _ (List.mem_append_right _ (List.mem_append_right _ h))) (by decide +kernel)
set_option maxHeartbeats 4000000 in
set_option maxRecDepth 100000 in
theorem kf_X13_summit (l : Launch) (dC : Nat → ClassId) (dI : Nat → Nat → Nat) (cI cB cJ cZ : ClassId) (h0 ar sz : Nat) (fs : List Value) (hfs : fs.length = 120) (hk : fs[95]? = some (.ref ar)) (p0 : Int32) : Met l yX13_summit wf_M_summit (({ frames := 1, cells := 0, slots := 0, locals := 21 } : Room)) (va_Pc [.ref h0, .int p0] (fun U => U.heap.size = sz ∧ va_P (dC, dI) vwCl [(h0, .inr (16, fs)), (ar, .inl (cI, 20, .inl (fun _ => 0)))] U.heap ∧ va_K (dC, dI) vwCl [(cI, .int), (cB, .byte), (cJ, .long), (cZ, .boolean)] U ∧ va_D (fun _ => True) [(h0, .inr (16, fs)), (ar, .inl (cI, 20, .inl (fun _ => 0)))])) (va_Qi (fun r (g : List Value) => r = 0 ∧ g[0]? = some (.int 1)) (fun g t => va_P (dC, dI) vwCl [(h0, .inr (16, g))] t.heap ∧ va_D (va_A [(h0, .inr (16, fs)), (ar, .inl (cI, 20, .inl (fun _ => 0)))] sz) [(h0, .inr (16, g))]) (va_A [(h0, .inr (16, fs)), (ar, .inl (cI, 20, .inl (fun _ => 0)))] sz)) 0 0 (va_A [(h0, .inr (16, fs)), (ar, .inl (cI, 20, .inl (fun _ => 0)))] sz) := by
  refine Met.ofW (cc := cX13_summit) (maxL := 2) (ret := (some .int)) (by decide) rfl ?_
  intro p e s m args below meth c s₁ B hml hv
  obtain ⟨rfl, hsz, hP, hK, hD0⟩ := hv
  have hx := B.exec
  have hb := B.bytes
  have hr := B.returns
  have hts := atoms_spec (ws := wf_M_summit) B.pre
  have hown : s.vm.findClass RX13 = some m.cls := findClass_of_methodNamed B.named
  have hlocks := B.notSynchronized
  subst hsz
  have hD := hD0.self (sz := s.heap.size)
  generalize hAe : va_A [(h0, .inr (16, fs)), (ar, .inl (cI, 20, .inl (fun _ => 0)))] s.heap.size = A at hD ⊢
  have hA : ∀ q : Nat, s.heap.size ≤ q → A q := fun q h => by rw [← hAe]; exact Or.inr h
  have hS : va_S A s.heap s.heap [] := va_S.rf
  have hP : va_P (dC, dI) vwCl [(h0, .inr (16, fs)), (ar, .inl (cI, 20, .inl (fun _ => 0)))] s.heap := hP
  have hl := lv_entry ([.ref h0, .int p0]) (n := 2) (Nat.le_of_ble_eq_true rfl)
  rw [lg_entry_eq]
  generalize (lg_sl ([.ref h0, .int p0]) ++ List.replicate (2 - (lg_sl ([.ref h0, .int p0])).length) Slot.unset).toArray = ls at hl ⊢
  have hl : lv_has ls 2 [(0, .ref h0), (1, .int p0)] := hl
  refine ow_named (fun QQ hQQ => ?_)
  refine lv_aload_n hx hb dX13_summit_0 rfl (lv_at hl 0 rfl) ?_
  refine lv_iconst (v := 0) hx hb dX13_summit_1 (by decide) ?_
  refine va_put (D := (dC, dI)) (ci := 16) (v := .int 0) (ty := .int) (C := RX13) (T := TX13) (N := 120) hx hb hts (fun _ h => List.mem_cons_of_mem _ (List.mem_append_left _ (List.mem_append_right _ h))) tyX13 tyX13_ok nmX13 hown hK hP hD hS 0 rfl rfl 0 (by decide) (hts (.fieldLink RX13 1 "KnotHouseModel" "thrown" "I") (by decide +kernel)) (fun _ h9 => h9) rfl (by decide +kernel) rfl rfl (by rw [hfs]; decide) dX13_summit_2 (fun H locs hP hD hS => ?_)
  obtain ⟨fs1, efs1⟩ : ∃ x, x = List.set fs 0 (.int 0) := ⟨_, rfl⟩
  have hnfs1 : fs1.length = 120 := by rw [efs1, List.length_set]; exact hfs
  have hfs1_95 : fs1[95]? = some (.ref ar) := by rw [efs1, List.getElem?_set_ne (by decide)]; exact hk
  have hfs1_0 : fs1[0]? = some (.int 0) := by rw [efs1]; exact List.getElem?_set_self (by rw [hfs]; decide)
  have hP : va_P (dC, dI) vwCl [(h0, .inr (16, fs1)), (ar, .inl (cI, 20, .inl (fun _ => 0)))] H := by rw [efs1]; exact hP
  have hD : va_D A [(h0, .inr (16, fs1)), (ar, .inl (cI, 20, .inl (fun _ => 0)))] := by rw [efs1]; exact hD
  refine lv_aload_n hx hb dX13_summit_5 rfl (lv_at hl 0 rfl) ?_
  refine lv_iload_n hx hb dX13_summit_6 rfl (lv_at hl 1 rfl) ?_
  have hPc := hP.sub (ws' := [(h0, .inr (16, fs1)), (ar, .inl (cI, 20, .inl (fun _ => 0)))]) [0, 1] rfl
  refine va_calli (va_runV (As := [.int p0]) (rest := []) ⟨hx, hb, hml, hown, hts⟩ (kf_X13_hasBraid l dC dI cI cB cJ cZ h0 ar fs1 hnfs1 hfs1_95 p0) (cwV 1 hts gf_X13_summit_a rfl rfl rfl (by decide +kernel) ⟨(Nat.le_of_ble_eq_true rfl), (Nat.le_of_ble_eq_true rfl)⟩) ⟨fun a U g mk q => by obtain ⟨q0, qP, qK⟩ := q; exact ⟨q0, qP, va_K.moved (u := U) (U := U.calling g mk a) (Vm.Alike.refl U.vm) qK⟩, va_recv hK hPc (ci := 16) (q0 := 0) rfl rfl, fun U hU hW => ⟨rfl, by rw [hU]; exact hPc, va_K.moved hW.alike hK⟩⟩ rfl rfl hl.1 rfl (lv_room (Nat.le_of_ble_eq_true rfl)) dX13_summit_7 ⟨(Nat.le_of_ble_eq_true rfl), (Nat.le_of_ble_eq_true rfl)⟩) hS (fun q _ h => h.elim) (fun q h => h.elim) (fun r9 un t H1 locs ht hvm hw hB hz1 hk1 hS => ?_)
  obtain rfl : r9 = 0 := hw
  have hP := hP.kept (fun k9 x9 h9 => hk1 x9.1 ((hP k9 x9 h9).lt) id)
  generalize H1 = H at hP hS ⊢
  refine lv_if_ne (tgt := 19) hx hb dX13_summit_10 (by decide) (fun c9 => absurd c9 (by decide)) (fun _ => ?_)
  refine lv_aload_n hx hb dX13_summit_13 rfl (lv_at hl 0 rfl) ?_
  refine lv_iconst (v := 1) hx hb dX13_summit_14 (by decide) ?_
  have hPc := hP.sub (ws' := [(h0, .inr (16, fs1))]) [0] rfl
  have hDc := hD.sub (ws' := [(h0, .inr (16, fs1))]) [0] (by decide) rfl
  have hFc := va_free (wc := [(h0, .inr (16, fs1))]) hD hS hA [0] rfl
  refine va_calli (va_runV (As := [.int 1]) (rest := []) ⟨hx, hb, hml, hown, hts⟩ (kf_X13_fails l dC dI cI cB cJ cZ h0 H.size fs1 hnfs1 1) (cwV 1 hts gf_X13_summit_b rfl rfl rfl (by decide +kernel) ⟨(Nat.le_of_ble_eq_true rfl), (Nat.le_of_ble_eq_true rfl)⟩) ⟨fun a U g mk q => by obtain ⟨q0, q1, qP, qK, qD⟩ := q; exact ⟨q0, q1, qP, va_K.moved (u := U) (U := U.calling g mk a) (Vm.Alike.refl U.vm) qK, qD⟩, va_recv hK hPc (ci := 16) (q0 := 0) rfl rfl, fun U hU hW => ⟨rfl, by rw [hU], by rw [hU]; exact hPc, va_K.moved hW.alike hK, hDc.weaken (fun _ _ _ _ => trivial)⟩⟩ rfl rfl hl.1 rfl (lv_room (Nat.le_of_ble_eq_true rfl)) dX13_summit_15 ⟨(Nat.le_of_ble_eq_true rfl), (Nat.le_of_ble_eq_true rfl)⟩) hS (fun q _ h => hFc q h) hFc (fun r9 gs t H1 locs ht hvm hw hB hz1 hk1 hS => ?_)
  obtain ⟨hP1, hD1⟩ := hB
  rw [ht] at hP1
  obtain ⟨hr0, hg0⟩ := hw
  subst hr0
  obtain ⟨hP, hD⟩ := va_join (wr := [(ar, .inl (cI, 20, .inl (fun _ => 0)))]) (w1 := [(h0, .inr (16, gs))]) hP hD [0] [1] rfl rfl (by decide) (by decide) hk1 hFc hP1 hD1
  generalize H1 = H at hP hS ⊢
  have hP : va_P (dC, dI) vwCl [(ar, .inl (cI, 20, .inl (fun _ => 0))), (h0, .inr (16, gs))] H := hP
  have hD : va_D A [(ar, .inl (cI, 20, .inl (fun _ => 0))), (h0, .inr (16, gs))] := hD
  have hP := hP.sub (ws' := [(h0, .inr (16, gs))]) [1] rfl
  have hD := hD.sub (ws' := [(h0, .inr (16, gs))]) [1] (by decide) rfl
  rw [hQQ]
  exact W.iret (v := 0) hx hb hr (fun t ht hW => ⟨⟨0, gs, rfl, ⟨rfl, hg0⟩, by rw [ht]; exact hP, hD⟩, hS.F ht⟩) hS.2.2 dX13_summit_18
theorem dX13_conjugate_0 : decode cX13_conjugate 0 = .ok (.aload_n 0, 1) := by decide +kernel
theorem dX13_conjugate_1 : decode cX13_conjugate 1 = .ok (.iconst 0, 1) := by decide +kernel
theorem dX13_conjugate_2 : decode cX13_conjugate 2 = .ok (.putfield 1, 3) := by decide +kernel
theorem dX13_conjugate_5 : decode cX13_conjugate 5 = .ok (.aload_n 0, 1) := by decide +kernel
theorem dX13_conjugate_6 : decode cX13_conjugate 6 = .ok (.iload_n 1, 1) := by decide +kernel
theorem dX13_conjugate_7 : decode cX13_conjugate 7 = .ok (.invokevirtual 739, 3) := by decide +kernel
theorem dX13_conjugate_10 : decode cX13_conjugate 10 = .ok (.ifCond .eq 11, 3) := by decide +kernel
theorem dX13_conjugate_13 : decode cX13_conjugate 13 = .ok (.aload_n 0, 1) := by decide +kernel
theorem dX13_conjugate_14 : decode cX13_conjugate 14 = .ok (.iload_n 2, 1) := by decide +kernel
theorem dX13_conjugate_15 : decode cX13_conjugate 15 = .ok (.invokevirtual 739, 3) := by decide +kernel
theorem dX13_conjugate_18 : decode cX13_conjugate 18 = .ok (.ifCond .ne 9, 3) := by decide +kernel
theorem dX13_conjugate_21 : decode cX13_conjugate 21 = .ok (.aload_n 0, 1) := by decide +kernel
theorem dX13_conjugate_22 : decode cX13_conjugate 22 = .ok (.iconst 1, 1) := by decide +kernel
theorem dX13_conjugate_23 : decode cX13_conjugate 23 = .ok (.invokevirtual 403, 3) := by decide +kernel
theorem dX13_conjugate_26 : decode cX13_conjugate 26 = .ok (.ireturn, 1) := by decide +kernel
theorem dX13_conjugate_27 : decode cX13_conjugate 27 = .ok (.aload_n 0, 1) := by decide +kernel
def wf_M_conjugate : List Cond := .code yX13_conjugate cX13_conjugate 4 (some .int) :: ([.fieldLink RX13 1 "KnotHouseModel" "thrown" "I"] ++ wsX130 ++ (wsV RX13 739 RX13 yX13_hasBraid wf_MhasBraid ++ wsV RX13 403 RX13 yX13_fails wf_Mfails))
theorem gf_X13_conjugate_a : GoodIn wf_M_conjugate (wsV RX13 739 RX13 yX13_hasBraid wf_MhasBraid) := goodIn_sub (fun _ h => List.mem_cons_of_mem _ (List.mem_append_right _ (List.mem_append_left _ h))) (by decide +kernel)
theorem gf_X13_conjugate_b : GoodIn wf_M_conjugate (wsV RX13 403 RX13 yX13_fails wf_Mfails) := goodIn_sub (fun _ h => List.mem_cons_of_mem _ (List.mem_append_right _ (List.mem_append_right _ h))) (by decide +kernel)
set_option maxHeartbeats 4000000 in
set_option maxRecDepth 100000 in
theorem kf_X13_conjugate (l : Launch) (dC : Nat → ClassId) (dI : Nat → Nat → Nat) (cI cB cJ cZ : ClassId) (h0 ar sz : Nat) (fs : List Value) (hfs : fs.length = 120) (hk : fs[95]? = some (.ref ar)) (p0 p1 : Int32) : Met l yX13_conjugate wf_M_conjugate (({ frames := 1, cells := 0, slots := 0, locals := 21 } : Room)) (va_Pc [.ref h0, .int p0, .int p1] (fun U => U.heap.size = sz ∧ va_P (dC, dI) vwCl [(h0, .inr (16, fs)), (ar, .inl (cI, 20, .inl (fun _ => 0)))] U.heap ∧ va_K (dC, dI) vwCl [(cI, .int), (cB, .byte), (cJ, .long), (cZ, .boolean)] U ∧ va_D (fun _ => True) [(h0, .inr (16, fs)), (ar, .inl (cI, 20, .inl (fun _ => 0)))])) (va_Qi (fun r (g : List Value) => r = 0 ∧ g[0]? = some (.int 1)) (fun g t => va_P (dC, dI) vwCl [(h0, .inr (16, g))] t.heap ∧ va_D (va_A [(h0, .inr (16, fs)), (ar, .inl (cI, 20, .inl (fun _ => 0)))] sz) [(h0, .inr (16, g))]) (va_A [(h0, .inr (16, fs)), (ar, .inl (cI, 20, .inl (fun _ => 0)))] sz)) 0 0 (va_A [(h0, .inr (16, fs)), (ar, .inl (cI, 20, .inl (fun _ => 0)))] sz) := by
  refine Met.ofW (cc := cX13_conjugate) (maxL := 4) (ret := (some .int)) (by decide) rfl ?_
  intro p e s m args below meth c s₁ B hml hv
  obtain ⟨rfl, hsz, hP, hK, hD0⟩ := hv
  have hx := B.exec
  have hb := B.bytes
  have hr := B.returns
  have hts := atoms_spec (ws := wf_M_conjugate) B.pre
  have hown : s.vm.findClass RX13 = some m.cls := findClass_of_methodNamed B.named
  have hlocks := B.notSynchronized
  subst hsz
  have hD := hD0.self (sz := s.heap.size)
  generalize hAe : va_A [(h0, .inr (16, fs)), (ar, .inl (cI, 20, .inl (fun _ => 0)))] s.heap.size = A at hD ⊢
  have hA : ∀ q : Nat, s.heap.size ≤ q → A q := fun q h => by rw [← hAe]; exact Or.inr h
  have hS : va_S A s.heap s.heap [] := va_S.rf
  have hP : va_P (dC, dI) vwCl [(h0, .inr (16, fs)), (ar, .inl (cI, 20, .inl (fun _ => 0)))] s.heap := hP
  have hl := lv_entry ([.ref h0, .int p0, .int p1]) (n := 4) (Nat.le_of_ble_eq_true rfl)
  rw [lg_entry_eq]
  generalize (lg_sl ([.ref h0, .int p0, .int p1]) ++ List.replicate (4 - (lg_sl ([.ref h0, .int p0, .int p1])).length) Slot.unset).toArray = ls at hl ⊢
  have hl : lv_has ls 4 [(0, .ref h0), (1, .int p0), (2, .int p1)] := hl
  refine ow_named (fun QQ hQQ => ?_)
  refine lv_aload_n hx hb dX13_conjugate_0 rfl (lv_at hl 0 rfl) ?_
  refine lv_iconst (v := 0) hx hb dX13_conjugate_1 (by decide) ?_
  refine va_put (D := (dC, dI)) (ci := 16) (v := .int 0) (ty := .int) (C := RX13) (T := TX13) (N := 120) hx hb hts (fun _ h => List.mem_cons_of_mem _ (List.mem_append_left _ (List.mem_append_right _ h))) tyX13 tyX13_ok nmX13 hown hK hP hD hS 0 rfl rfl 0 (by decide) (hts (.fieldLink RX13 1 "KnotHouseModel" "thrown" "I") (by decide +kernel)) (fun _ h9 => h9) rfl (by decide +kernel) rfl rfl (by rw [hfs]; decide) dX13_conjugate_2 (fun H locs hP hD hS => ?_)
  obtain ⟨fs1, efs1⟩ : ∃ x, x = List.set fs 0 (.int 0) := ⟨_, rfl⟩
  have hnfs1 : fs1.length = 120 := by rw [efs1, List.length_set]; exact hfs
  have hfs1_95 : fs1[95]? = some (.ref ar) := by rw [efs1, List.getElem?_set_ne (by decide)]; exact hk
  have hfs1_0 : fs1[0]? = some (.int 0) := by rw [efs1]; exact List.getElem?_set_self (by rw [hfs]; decide)
  have hP : va_P (dC, dI) vwCl [(h0, .inr (16, fs1)), (ar, .inl (cI, 20, .inl (fun _ => 0)))] H := by rw [efs1]; exact hP
  have hD : va_D A [(h0, .inr (16, fs1)), (ar, .inl (cI, 20, .inl (fun _ => 0)))] := by rw [efs1]; exact hD
  refine lv_aload_n hx hb dX13_conjugate_5 rfl (lv_at hl 0 rfl) ?_
  refine lv_iload_n hx hb dX13_conjugate_6 rfl (lv_at hl 1 rfl) ?_
  have hPc := hP.sub (ws' := [(h0, .inr (16, fs1)), (ar, .inl (cI, 20, .inl (fun _ => 0)))]) [0, 1] rfl
  refine va_calli (va_runV (As := [.int p0]) (rest := []) ⟨hx, hb, hml, hown, hts⟩ (kf_X13_hasBraid l dC dI cI cB cJ cZ h0 ar fs1 hnfs1 hfs1_95 p0) (cwV 1 hts gf_X13_conjugate_a rfl rfl rfl (by decide +kernel) ⟨(Nat.le_of_ble_eq_true rfl), (Nat.le_of_ble_eq_true rfl)⟩) ⟨fun a U g mk q => by obtain ⟨q0, qP, qK⟩ := q; exact ⟨q0, qP, va_K.moved (u := U) (U := U.calling g mk a) (Vm.Alike.refl U.vm) qK⟩, va_recv hK hPc (ci := 16) (q0 := 0) rfl rfl, fun U hU hW => ⟨rfl, by rw [hU]; exact hPc, va_K.moved hW.alike hK⟩⟩ rfl rfl hl.1 rfl (lv_room (Nat.le_of_ble_eq_true rfl)) dX13_conjugate_7 ⟨(Nat.le_of_ble_eq_true rfl), (Nat.le_of_ble_eq_true rfl)⟩) hS (fun q _ h => h.elim) (fun q h => h.elim) (fun r9 un t H1 locs ht hvm hw hB hz1 hk1 hS => ?_)
  obtain rfl : r9 = 0 := hw
  have hP := hP.kept (fun k9 x9 h9 => hk1 x9.1 ((hP k9 x9 h9).lt) id)
  generalize H1 = H at hP hS ⊢
  refine lv_if_eq (tgt := 21) hx hb dX13_conjugate_10 (by decide) (fun _ => ?_) (fun c9 => absurd (by decide) c9)
  refine lv_aload_n hx hb dX13_conjugate_21 rfl (lv_at hl 0 rfl) ?_
  refine lv_iconst (v := 1) hx hb dX13_conjugate_22 (by decide) ?_
  have hPc := hP.sub (ws' := [(h0, .inr (16, fs1))]) [0] rfl
  have hDc := hD.sub (ws' := [(h0, .inr (16, fs1))]) [0] (by decide) rfl
  have hFc := va_free (wc := [(h0, .inr (16, fs1))]) hD hS hA [0] rfl
  refine va_calli (va_runV (As := [.int 1]) (rest := []) ⟨hx, hb, hml, hown, hts⟩ (kf_X13_fails l dC dI cI cB cJ cZ h0 H.size fs1 hnfs1 1) (cwV 1 hts gf_X13_conjugate_b rfl rfl rfl (by decide +kernel) ⟨(Nat.le_of_ble_eq_true rfl), (Nat.le_of_ble_eq_true rfl)⟩) ⟨fun a U g mk q => by obtain ⟨q0, q1, qP, qK, qD⟩ := q; exact ⟨q0, q1, qP, va_K.moved (u := U) (U := U.calling g mk a) (Vm.Alike.refl U.vm) qK, qD⟩, va_recv hK hPc (ci := 16) (q0 := 0) rfl rfl, fun U hU hW => ⟨rfl, by rw [hU], by rw [hU]; exact hPc, va_K.moved hW.alike hK, hDc.weaken (fun _ _ _ _ => trivial)⟩⟩ rfl rfl hl.1 rfl (lv_room (Nat.le_of_ble_eq_true rfl)) dX13_conjugate_23 ⟨(Nat.le_of_ble_eq_true rfl), (Nat.le_of_ble_eq_true rfl)⟩) hS (fun q _ h => hFc q h) hFc (fun r9 gs t H1 locs ht hvm hw hB hz1 hk1 hS => ?_)
  obtain ⟨hP1, hD1⟩ := hB
  rw [ht] at hP1
  obtain ⟨hr0, hg0⟩ := hw
  subst hr0
  obtain ⟨hP, hD⟩ := va_join (wr := [(ar, .inl (cI, 20, .inl (fun _ => 0)))]) (w1 := [(h0, .inr (16, gs))]) hP hD [0] [1] rfl rfl (by decide) (by decide) hk1 hFc hP1 hD1
  generalize H1 = H at hP hS ⊢
  have hP : va_P (dC, dI) vwCl [(ar, .inl (cI, 20, .inl (fun _ => 0))), (h0, .inr (16, gs))] H := hP
  have hD : va_D A [(ar, .inl (cI, 20, .inl (fun _ => 0))), (h0, .inr (16, gs))] := hD
  have hP := hP.sub (ws' := [(h0, .inr (16, gs))]) [1] rfl
  have hD := hD.sub (ws' := [(h0, .inr (16, gs))]) [1] (by decide) rfl
  rw [hQQ]
  exact W.iret (v := 0) hx hb hr (fun t ht hW => ⟨⟨0, gs, rfl, ⟨rfl, hg0⟩, by rw [ht]; exact hP, hD⟩, hS.F ht⟩) hS.2.2 dX13_conjugate_26
theorem dX13_two_0 : decode cX13_two 0 = .ok (.aload_n 0, 1) := by decide +kernel
theorem dX13_two_1 : decode cX13_two 1 = .ok (.iconst 0, 1) := by decide +kernel
theorem dX13_two_2 : decode cX13_two 2 = .ok (.putfield 1, 3) := by decide +kernel
theorem dX13_two_5 : decode cX13_two 5 = .ok (.aload_n 0, 1) := by decide +kernel
theorem dX13_two_6 : decode cX13_two 6 = .ok (.iload_n 1, 1) := by decide +kernel
theorem dX13_two_7 : decode cX13_two 7 = .ok (.invokevirtual 739, 3) := by decide +kernel
theorem dX13_two_10 : decode cX13_two 10 = .ok (.ifCond .ne 9, 3) := by decide +kernel
theorem dX13_two_13 : decode cX13_two 13 = .ok (.aload_n 0, 1) := by decide +kernel
theorem dX13_two_14 : decode cX13_two 14 = .ok (.iconst 1, 1) := by decide +kernel
theorem dX13_two_15 : decode cX13_two 15 = .ok (.invokevirtual 403, 3) := by decide +kernel
theorem dX13_two_18 : decode cX13_two 18 = .ok (.ireturn, 1) := by decide +kernel
theorem dX13_two_19 : decode cX13_two 19 = .ok (.aload_n 0, 1) := by decide +kernel
def wf_M_two : List Cond := .code yX13_two cX13_two 5 (some .int) :: ([.fieldLink RX13 1 "KnotHouseModel" "thrown" "I"] ++ wsX130 ++ (wsV RX13 739 RX13 yX13_hasBraid wf_MhasBraid ++ wsV RX13 403 RX13 yX13_fails wf_Mfails))
theorem gf_X13_two_a : GoodIn wf_M_two (wsV RX13 739 RX13 yX13_hasBraid wf_MhasBraid) := goodIn_sub (fun _ h => List.mem_cons_of_mem _ (List.mem_append_right _ (List.mem_append_left _ h))) (by decide +kernel)
theorem gf_X13_two_b : GoodIn wf_M_two (wsV RX13 403 RX13 yX13_fails wf_Mfails) := goodIn_sub (fun _ h => List.mem_cons_of_mem _ (List.mem_append_right _ (List.mem_append_right _ h))) (by decide +kernel)
set_option maxHeartbeats 4000000 in
set_option maxRecDepth 100000 in
theorem kf_X13_two (l : Launch) (dC : Nat → ClassId) (dI : Nat → Nat → Nat) (cI cB cJ cZ : ClassId) (h0 ar sz : Nat) (fs : List Value) (hfs : fs.length = 120) (hk : fs[95]? = some (.ref ar)) (p0 p1 p2 : Int32) : Met l yX13_two wf_M_two (({ frames := 1, cells := 0, slots := 0, locals := 21 } : Room)) (va_Pc [.ref h0, .int p0, .int p1, .int p2] (fun U => U.heap.size = sz ∧ va_P (dC, dI) vwCl [(h0, .inr (16, fs)), (ar, .inl (cI, 20, .inl (fun _ => 0)))] U.heap ∧ va_K (dC, dI) vwCl [(cI, .int), (cB, .byte), (cJ, .long), (cZ, .boolean)] U ∧ va_D (fun _ => True) [(h0, .inr (16, fs)), (ar, .inl (cI, 20, .inl (fun _ => 0)))])) (va_Qi (fun r (g : List Value) => r = 0 ∧ g[0]? = some (.int 1)) (fun g t => va_P (dC, dI) vwCl [(h0, .inr (16, g))] t.heap ∧ va_D (va_A [(h0, .inr (16, fs)), (ar, .inl (cI, 20, .inl (fun _ => 0)))] sz) [(h0, .inr (16, g))]) (va_A [(h0, .inr (16, fs)), (ar, .inl (cI, 20, .inl (fun _ => 0)))] sz)) 0 0 (va_A [(h0, .inr (16, fs)), (ar, .inl (cI, 20, .inl (fun _ => 0)))] sz) := by
  refine Met.ofW (cc := cX13_two) (maxL := 5) (ret := (some .int)) (by decide) rfl ?_
  intro p e s m args below meth c s₁ B hml hv
  obtain ⟨rfl, hsz, hP, hK, hD0⟩ := hv
  have hx := B.exec
  have hb := B.bytes
  have hr := B.returns
  have hts := atoms_spec (ws := wf_M_two) B.pre
  have hown : s.vm.findClass RX13 = some m.cls := findClass_of_methodNamed B.named
  have hlocks := B.notSynchronized
  subst hsz
  have hD := hD0.self (sz := s.heap.size)
  generalize hAe : va_A [(h0, .inr (16, fs)), (ar, .inl (cI, 20, .inl (fun _ => 0)))] s.heap.size = A at hD ⊢
  have hA : ∀ q : Nat, s.heap.size ≤ q → A q := fun q h => by rw [← hAe]; exact Or.inr h
  have hS : va_S A s.heap s.heap [] := va_S.rf
  have hP : va_P (dC, dI) vwCl [(h0, .inr (16, fs)), (ar, .inl (cI, 20, .inl (fun _ => 0)))] s.heap := hP
  have hl := lv_entry ([.ref h0, .int p0, .int p1, .int p2]) (n := 5) (Nat.le_of_ble_eq_true rfl)
  rw [lg_entry_eq]
  generalize (lg_sl ([.ref h0, .int p0, .int p1, .int p2]) ++ List.replicate (5 - (lg_sl ([.ref h0, .int p0, .int p1, .int p2])).length) Slot.unset).toArray = ls at hl ⊢
  have hl : lv_has ls 5 [(0, .ref h0), (1, .int p0), (2, .int p1), (3, .int p2)] := hl
  refine ow_named (fun QQ hQQ => ?_)
  refine lv_aload_n hx hb dX13_two_0 rfl (lv_at hl 0 rfl) ?_
  refine lv_iconst (v := 0) hx hb dX13_two_1 (by decide) ?_
  refine va_put (D := (dC, dI)) (ci := 16) (v := .int 0) (ty := .int) (C := RX13) (T := TX13) (N := 120) hx hb hts (fun _ h => List.mem_cons_of_mem _ (List.mem_append_left _ (List.mem_append_right _ h))) tyX13 tyX13_ok nmX13 hown hK hP hD hS 0 rfl rfl 0 (by decide) (hts (.fieldLink RX13 1 "KnotHouseModel" "thrown" "I") (by decide +kernel)) (fun _ h9 => h9) rfl (by decide +kernel) rfl rfl (by rw [hfs]; decide) dX13_two_2 (fun H locs hP hD hS => ?_)
  obtain ⟨fs1, efs1⟩ : ∃ x, x = List.set fs 0 (.int 0) := ⟨_, rfl⟩
  have hnfs1 : fs1.length = 120 := by rw [efs1, List.length_set]; exact hfs
  have hfs1_95 : fs1[95]? = some (.ref ar) := by rw [efs1, List.getElem?_set_ne (by decide)]; exact hk
  have hfs1_0 : fs1[0]? = some (.int 0) := by rw [efs1]; exact List.getElem?_set_self (by rw [hfs]; decide)
  have hP : va_P (dC, dI) vwCl [(h0, .inr (16, fs1)), (ar, .inl (cI, 20, .inl (fun _ => 0)))] H := by rw [efs1]; exact hP
  have hD : va_D A [(h0, .inr (16, fs1)), (ar, .inl (cI, 20, .inl (fun _ => 0)))] := by rw [efs1]; exact hD
  refine lv_aload_n hx hb dX13_two_5 rfl (lv_at hl 0 rfl) ?_
  refine lv_iload_n hx hb dX13_two_6 rfl (lv_at hl 1 rfl) ?_
  have hPc := hP.sub (ws' := [(h0, .inr (16, fs1)), (ar, .inl (cI, 20, .inl (fun _ => 0)))]) [0, 1] rfl
  refine va_calli (va_runV (As := [.int p0]) (rest := []) ⟨hx, hb, hml, hown, hts⟩ (kf_X13_hasBraid l dC dI cI cB cJ cZ h0 ar fs1 hnfs1 hfs1_95 p0) (cwV 1 hts gf_X13_two_a rfl rfl rfl (by decide +kernel) ⟨(Nat.le_of_ble_eq_true rfl), (Nat.le_of_ble_eq_true rfl)⟩) ⟨fun a U g mk q => by obtain ⟨q0, qP, qK⟩ := q; exact ⟨q0, qP, va_K.moved (u := U) (U := U.calling g mk a) (Vm.Alike.refl U.vm) qK⟩, va_recv hK hPc (ci := 16) (q0 := 0) rfl rfl, fun U hU hW => ⟨rfl, by rw [hU]; exact hPc, va_K.moved hW.alike hK⟩⟩ rfl rfl hl.1 rfl (lv_room (Nat.le_of_ble_eq_true rfl)) dX13_two_7 ⟨(Nat.le_of_ble_eq_true rfl), (Nat.le_of_ble_eq_true rfl)⟩) hS (fun q _ h => h.elim) (fun q h => h.elim) (fun r9 un t H1 locs ht hvm hw hB hz1 hk1 hS => ?_)
  obtain rfl : r9 = 0 := hw
  have hP := hP.kept (fun k9 x9 h9 => hk1 x9.1 ((hP k9 x9 h9).lt) id)
  generalize H1 = H at hP hS ⊢
  refine lv_if_ne (tgt := 19) hx hb dX13_two_10 (by decide) (fun c9 => absurd c9 (by decide)) (fun _ => ?_)
  refine lv_aload_n hx hb dX13_two_13 rfl (lv_at hl 0 rfl) ?_
  refine lv_iconst (v := 1) hx hb dX13_two_14 (by decide) ?_
  have hPc := hP.sub (ws' := [(h0, .inr (16, fs1))]) [0] rfl
  have hDc := hD.sub (ws' := [(h0, .inr (16, fs1))]) [0] (by decide) rfl
  have hFc := va_free (wc := [(h0, .inr (16, fs1))]) hD hS hA [0] rfl
  refine va_calli (va_runV (As := [.int 1]) (rest := []) ⟨hx, hb, hml, hown, hts⟩ (kf_X13_fails l dC dI cI cB cJ cZ h0 H.size fs1 hnfs1 1) (cwV 1 hts gf_X13_two_b rfl rfl rfl (by decide +kernel) ⟨(Nat.le_of_ble_eq_true rfl), (Nat.le_of_ble_eq_true rfl)⟩) ⟨fun a U g mk q => by obtain ⟨q0, q1, qP, qK, qD⟩ := q; exact ⟨q0, q1, qP, va_K.moved (u := U) (U := U.calling g mk a) (Vm.Alike.refl U.vm) qK, qD⟩, va_recv hK hPc (ci := 16) (q0 := 0) rfl rfl, fun U hU hW => ⟨rfl, by rw [hU], by rw [hU]; exact hPc, va_K.moved hW.alike hK, hDc.weaken (fun _ _ _ _ => trivial)⟩⟩ rfl rfl hl.1 rfl (lv_room (Nat.le_of_ble_eq_true rfl)) dX13_two_15 ⟨(Nat.le_of_ble_eq_true rfl), (Nat.le_of_ble_eq_true rfl)⟩) hS (fun q _ h => hFc q h) hFc (fun r9 gs t H1 locs ht hvm hw hB hz1 hk1 hS => ?_)
  obtain ⟨hP1, hD1⟩ := hB
  rw [ht] at hP1
  obtain ⟨hr0, hg0⟩ := hw
  subst hr0
  obtain ⟨hP, hD⟩ := va_join (wr := [(ar, .inl (cI, 20, .inl (fun _ => 0)))]) (w1 := [(h0, .inr (16, gs))]) hP hD [0] [1] rfl rfl (by decide) (by decide) hk1 hFc hP1 hD1
  generalize H1 = H at hP hS ⊢
  have hP : va_P (dC, dI) vwCl [(ar, .inl (cI, 20, .inl (fun _ => 0))), (h0, .inr (16, gs))] H := hP
  have hD : va_D A [(ar, .inl (cI, 20, .inl (fun _ => 0))), (h0, .inr (16, gs))] := hD
  have hP := hP.sub (ws' := [(h0, .inr (16, gs))]) [1] rfl
  have hD := hD.sub (ws' := [(h0, .inr (16, gs))]) [1] (by decide) rfl
  rw [hQQ]
  exact W.iret (v := 0) hx hb hr (fun t ht hW => ⟨⟨0, gs, rfl, ⟨rfl, hg0⟩, by rw [ht]; exact hP, hD⟩, hS.F ht⟩) hS.2.2 dX13_two_18
theorem dX13_alike_0 : decode cX13_alike 0 = .ok (.aload_n 0, 1) := by decide +kernel
theorem dX13_alike_1 : decode cX13_alike 1 = .ok (.iconst 0, 1) := by decide +kernel
theorem dX13_alike_2 : decode cX13_alike 2 = .ok (.putfield 1, 3) := by decide +kernel
theorem dX13_alike_5 : decode cX13_alike 5 = .ok (.aload_n 0, 1) := by decide +kernel
theorem dX13_alike_6 : decode cX13_alike 6 = .ok (.iload_n 1, 1) := by decide +kernel
theorem dX13_alike_7 : decode cX13_alike 7 = .ok (.invokevirtual 423, 3) := by decide +kernel
theorem dX13_alike_10 : decode cX13_alike 10 = .ok (.ifCond .eq 37, 3) := by decide +kernel
theorem dX13_alike_47 : decode cX13_alike 47 = .ok (.iconst 0, 1) := by decide +kernel
theorem dX13_alike_48 : decode cX13_alike 48 = .ok (.ireturn, 1) := by decide +kernel
def wf_M_alike : List Cond := .code yX13_alike cX13_alike 3 (some .boolean) :: ([.fieldLink RX13 1 "KnotHouseModel" "thrown" "I"] ++ wsX130 ++ (wsV RX13 423 RX13 yX13_has wf_Mhas ++ wsV RX13 403 RX13 yX13_fails wf_Mfails))
theorem gf_X13_alike_a : GoodIn wf_M_alike (wsV RX13 423 RX13 yX13_has wf_Mhas) := goodIn_sub (fun _ h => List.mem_cons_of_mem _ (List.mem_append_right _ (List.mem_append_left _ h))) (by decide +kernel)
set_option maxHeartbeats 4000000 in
set_option maxRecDepth 100000 in
theorem kf_X13_alike (l : Launch) (dC : Nat → ClassId) (dI : Nat → Nat → Nat) (cI cB cJ cZ : ClassId) (h0 ar sz : Nat) (fs : List Value) (hfs : fs.length = 120) (hk : fs[11]? = some (.ref ar)) (p0 p1 : Int32) : Met l yX13_alike wf_M_alike (({ frames := 1, cells := 0, slots := 0, locals := 21 } : Room)) (va_Pc [.ref h0, .int p0, .int p1] (fun U => U.heap.size = sz ∧ va_P (dC, dI) vwCl [(h0, .inr (16, fs)), (ar, .inl (cI, 1280, .inl (fun _ => 0)))] U.heap ∧ va_K (dC, dI) vwCl [(cI, .int), (cB, .byte), (cJ, .long), (cZ, .boolean)] U ∧ va_D (fun _ => True) [(h0, .inr (16, fs)), (ar, .inl (cI, 1280, .inl (fun _ => 0)))])) (va_Qi (fun r (g : List Value) => r = 0 ∧ g[0]? = some (.int 0)) (fun g t => va_P (dC, dI) vwCl [(h0, .inr (16, g))] t.heap ∧ va_D (va_A [(h0, .inr (16, fs)), (ar, .inl (cI, 1280, .inl (fun _ => 0)))] sz) [(h0, .inr (16, g))]) (va_A [(h0, .inr (16, fs)), (ar, .inl (cI, 1280, .inl (fun _ => 0)))] sz)) 0 0 (va_A [(h0, .inr (16, fs)), (ar, .inl (cI, 1280, .inl (fun _ => 0)))] sz) := by
  refine Met.ofW (cc := cX13_alike) (maxL := 3) (ret := (some .boolean)) (by decide) rfl ?_
  intro p e s m args below meth c s₁ B hml hv
  obtain ⟨rfl, hsz, hP, hK, hD0⟩ := hv
  have hx := B.exec
  have hb := B.bytes
  have hr := B.returns
  have hts := atoms_spec (ws := wf_M_alike) B.pre
  have hown : s.vm.findClass RX13 = some m.cls := findClass_of_methodNamed B.named
  have hlocks := B.notSynchronized
  subst hsz
  have hD := hD0.self (sz := s.heap.size)
  generalize hAe : va_A [(h0, .inr (16, fs)), (ar, .inl (cI, 1280, .inl (fun _ => 0)))] s.heap.size = A at hD ⊢
  have hA : ∀ q : Nat, s.heap.size ≤ q → A q := fun q h => by rw [← hAe]; exact Or.inr h
  have hS : va_S A s.heap s.heap [] := va_S.rf
  have hP : va_P (dC, dI) vwCl [(h0, .inr (16, fs)), (ar, .inl (cI, 1280, .inl (fun _ => 0)))] s.heap := hP
  have hl := lv_entry ([.ref h0, .int p0, .int p1]) (n := 3) (Nat.le_of_ble_eq_true rfl)
  rw [lg_entry_eq]
  generalize (lg_sl ([.ref h0, .int p0, .int p1]) ++ List.replicate (3 - (lg_sl ([.ref h0, .int p0, .int p1])).length) Slot.unset).toArray = ls at hl ⊢
  have hl : lv_has ls 3 [(0, .ref h0), (1, .int p0), (2, .int p1)] := hl
  refine ow_named (fun QQ hQQ => ?_)
  refine lv_aload_n hx hb dX13_alike_0 rfl (lv_at hl 0 rfl) ?_
  refine lv_iconst (v := 0) hx hb dX13_alike_1 (by decide) ?_
  refine va_put (D := (dC, dI)) (ci := 16) (v := .int 0) (ty := .int) (C := RX13) (T := TX13) (N := 120) hx hb hts (fun _ h => List.mem_cons_of_mem _ (List.mem_append_left _ (List.mem_append_right _ h))) tyX13 tyX13_ok nmX13 hown hK hP hD hS 0 rfl rfl 0 (by decide) (hts (.fieldLink RX13 1 "KnotHouseModel" "thrown" "I") (by decide +kernel)) (fun _ h9 => h9) rfl (by decide +kernel) rfl rfl (by rw [hfs]; decide) dX13_alike_2 (fun H locs hP hD hS => ?_)
  obtain ⟨fs1, efs1⟩ : ∃ x, x = List.set fs 0 (.int 0) := ⟨_, rfl⟩
  have hnfs1 : fs1.length = 120 := by rw [efs1, List.length_set]; exact hfs
  have hfs1_11 : fs1[11]? = some (.ref ar) := by rw [efs1, List.getElem?_set_ne (by decide)]; exact hk
  have hfs1_0 : fs1[0]? = some (.int 0) := by rw [efs1]; exact List.getElem?_set_self (by rw [hfs]; decide)
  have hP : va_P (dC, dI) vwCl [(h0, .inr (16, fs1)), (ar, .inl (cI, 1280, .inl (fun _ => 0)))] H := by rw [efs1]; exact hP
  have hD : va_D A [(h0, .inr (16, fs1)), (ar, .inl (cI, 1280, .inl (fun _ => 0)))] := by rw [efs1]; exact hD
  refine lv_aload_n hx hb dX13_alike_5 rfl (lv_at hl 0 rfl) ?_
  refine lv_iload_n hx hb dX13_alike_6 rfl (lv_at hl 1 rfl) ?_
  have hPc := hP.sub (ws' := [(h0, .inr (16, fs1)), (ar, .inl (cI, 1280, .inl (fun _ => 0)))]) [0, 1] rfl
  refine va_calli (va_runV (As := [.int p0]) (rest := []) ⟨hx, hb, hml, hown, hts⟩ (kf_X13_has l dC dI cI cB cJ cZ h0 ar fs1 hnfs1 hfs1_11 p0) (cwV 1 hts gf_X13_alike_a rfl rfl rfl (by decide +kernel) ⟨(Nat.le_of_ble_eq_true rfl), (Nat.le_of_ble_eq_true rfl)⟩) ⟨fun a U g mk q => by obtain ⟨q0, qP, qK⟩ := q; exact ⟨q0, qP, va_K.moved (u := U) (U := U.calling g mk a) (Vm.Alike.refl U.vm) qK⟩, va_recv hK hPc (ci := 16) (q0 := 0) rfl rfl, fun U hU hW => ⟨rfl, by rw [hU]; exact hPc, va_K.moved hW.alike hK⟩⟩ rfl rfl hl.1 rfl (lv_room (Nat.le_of_ble_eq_true rfl)) dX13_alike_7 ⟨(Nat.le_of_ble_eq_true rfl), (Nat.le_of_ble_eq_true rfl)⟩) hS (fun q _ h => h.elim) (fun q h => h.elim) (fun r9 un t H1 locs ht hvm hw hB hz1 hk1 hS => ?_)
  obtain rfl : r9 = 0 := hw
  have hP := hP.kept (fun k9 x9 h9 => hk1 x9.1 ((hP k9 x9 h9).lt) id)
  generalize H1 = H at hP hS ⊢
  refine lv_if_eq (tgt := 47) hx hb dX13_alike_10 (by decide) (fun _ => ?_) (fun c9 => absurd (by decide) c9)
  refine lv_iconst (v := 0) hx hb dX13_alike_47 (by decide) ?_
  have hP := hP.sub (ws' := [(h0, .inr (16, fs1))]) [0] rfl
  have hD := hD.sub (ws' := [(h0, .inr (16, fs1))]) [0] (by decide) rfl
  rw [hQQ]
  exact W.zret (v := 0) (ty := .boolean) hx hb hr rfl (fun t ht hW => ⟨⟨0, fs1, rfl, ⟨rfl, hfs1_0⟩, by rw [ht]; exact hP, hD⟩, hS.F ht⟩) hS.2.2 dX13_alike_48
theorem dX13_equal_0 : decode cX13_equal 0 = .ok (.aload_n 0, 1) := by decide +kernel
theorem dX13_equal_1 : decode cX13_equal 1 = .ok (.iconst 0, 1) := by decide +kernel
theorem dX13_equal_2 : decode cX13_equal 2 = .ok (.putfield 1, 3) := by decide +kernel
theorem dX13_equal_5 : decode cX13_equal 5 = .ok (.aload_n 0, 1) := by decide +kernel
theorem dX13_equal_6 : decode cX13_equal 6 = .ok (.iload_n 1, 1) := by decide +kernel
theorem dX13_equal_7 : decode cX13_equal 7 = .ok (.invokevirtual 739, 3) := by decide +kernel
theorem dX13_equal_10 : decode cX13_equal 10 = .ok (.ifCond .eq 26, 3) := by decide +kernel
theorem dX13_equal_36 : decode cX13_equal 36 = .ok (.iconst 0, 1) := by decide +kernel
theorem dX13_equal_37 : decode cX13_equal 37 = .ok (.ireturn, 1) := by decide +kernel
theorem dX13_equal_38 : decode cX13_equal 38 = .ok (.aload_n 0, 1) := by decide +kernel
theorem dX13_equal_39 : decode cX13_equal 39 = .ok (.iload_n 1, 1) := by decide +kernel
theorem dX13_equal_40 : decode cX13_equal 40 = .ok (.invokevirtual 763, 3) := by decide +kernel
def wf_M_equal : List Cond := .code yX13_equal cX13_equal 3 (some .boolean) :: ([.fieldLink RX13 1 "KnotHouseModel" "thrown" "I"] ++ wsX130 ++ (wsV RX13 739 RX13 yX13_hasBraid wf_MhasBraid ++ wsV RX13 403 RX13 yX13_fails wf_Mfails))
theorem gf_X13_equal_a : GoodIn wf_M_equal (wsV RX13 739 RX13 yX13_hasBraid wf_MhasBraid) := goodIn_sub (fun _ h => List.mem_cons_of_mem _ (List.mem_append_right _ (List.mem_append_left _ h))) (by decide +kernel)
set_option maxHeartbeats 4000000 in
set_option maxRecDepth 100000 in
theorem kf_X13_equal (l : Launch) (dC : Nat → ClassId) (dI : Nat → Nat → Nat) (cI cB cJ cZ : ClassId) (h0 ar sz : Nat) (fs : List Value) (hfs : fs.length = 120) (hk : fs[95]? = some (.ref ar)) (p0 p1 : Int32) : Met l yX13_equal wf_M_equal (({ frames := 1, cells := 0, slots := 0, locals := 21 } : Room)) (va_Pc [.ref h0, .int p0, .int p1] (fun U => U.heap.size = sz ∧ va_P (dC, dI) vwCl [(h0, .inr (16, fs)), (ar, .inl (cI, 20, .inl (fun _ => 0)))] U.heap ∧ va_K (dC, dI) vwCl [(cI, .int), (cB, .byte), (cJ, .long), (cZ, .boolean)] U ∧ va_D (fun _ => True) [(h0, .inr (16, fs)), (ar, .inl (cI, 20, .inl (fun _ => 0)))])) (va_Qi (fun r (g : List Value) => r = 0 ∧ g[0]? = some (.int 0)) (fun g t => va_P (dC, dI) vwCl [(h0, .inr (16, g))] t.heap ∧ va_D (va_A [(h0, .inr (16, fs)), (ar, .inl (cI, 20, .inl (fun _ => 0)))] sz) [(h0, .inr (16, g))]) (va_A [(h0, .inr (16, fs)), (ar, .inl (cI, 20, .inl (fun _ => 0)))] sz)) 0 0 (va_A [(h0, .inr (16, fs)), (ar, .inl (cI, 20, .inl (fun _ => 0)))] sz) := by
  refine Met.ofW (cc := cX13_equal) (maxL := 3) (ret := (some .boolean)) (by decide) rfl ?_
  intro p e s m args below meth c s₁ B hml hv
  obtain ⟨rfl, hsz, hP, hK, hD0⟩ := hv
  have hx := B.exec
  have hb := B.bytes
  have hr := B.returns
  have hts := atoms_spec (ws := wf_M_equal) B.pre
  have hown : s.vm.findClass RX13 = some m.cls := findClass_of_methodNamed B.named
  have hlocks := B.notSynchronized
  subst hsz
  have hD := hD0.self (sz := s.heap.size)
  generalize hAe : va_A [(h0, .inr (16, fs)), (ar, .inl (cI, 20, .inl (fun _ => 0)))] s.heap.size = A at hD ⊢
  have hA : ∀ q : Nat, s.heap.size ≤ q → A q := fun q h => by rw [← hAe]; exact Or.inr h
  have hS : va_S A s.heap s.heap [] := va_S.rf
  have hP : va_P (dC, dI) vwCl [(h0, .inr (16, fs)), (ar, .inl (cI, 20, .inl (fun _ => 0)))] s.heap := hP
  have hl := lv_entry ([.ref h0, .int p0, .int p1]) (n := 3) (Nat.le_of_ble_eq_true rfl)
  rw [lg_entry_eq]
  generalize (lg_sl ([.ref h0, .int p0, .int p1]) ++ List.replicate (3 - (lg_sl ([.ref h0, .int p0, .int p1])).length) Slot.unset).toArray = ls at hl ⊢
  have hl : lv_has ls 3 [(0, .ref h0), (1, .int p0), (2, .int p1)] := hl
  refine ow_named (fun QQ hQQ => ?_)
  refine lv_aload_n hx hb dX13_equal_0 rfl (lv_at hl 0 rfl) ?_
  refine lv_iconst (v := 0) hx hb dX13_equal_1 (by decide) ?_
  refine va_put (D := (dC, dI)) (ci := 16) (v := .int 0) (ty := .int) (C := RX13) (T := TX13) (N := 120) hx hb hts (fun _ h => List.mem_cons_of_mem _ (List.mem_append_left _ (List.mem_append_right _ h))) tyX13 tyX13_ok nmX13 hown hK hP hD hS 0 rfl rfl 0 (by decide) (hts (.fieldLink RX13 1 "KnotHouseModel" "thrown" "I") (by decide +kernel)) (fun _ h9 => h9) rfl (by decide +kernel) rfl rfl (by rw [hfs]; decide) dX13_equal_2 (fun H locs hP hD hS => ?_)
  obtain ⟨fs1, efs1⟩ : ∃ x, x = List.set fs 0 (.int 0) := ⟨_, rfl⟩
  have hnfs1 : fs1.length = 120 := by rw [efs1, List.length_set]; exact hfs
  have hfs1_95 : fs1[95]? = some (.ref ar) := by rw [efs1, List.getElem?_set_ne (by decide)]; exact hk
  have hfs1_0 : fs1[0]? = some (.int 0) := by rw [efs1]; exact List.getElem?_set_self (by rw [hfs]; decide)
  have hP : va_P (dC, dI) vwCl [(h0, .inr (16, fs1)), (ar, .inl (cI, 20, .inl (fun _ => 0)))] H := by rw [efs1]; exact hP
  have hD : va_D A [(h0, .inr (16, fs1)), (ar, .inl (cI, 20, .inl (fun _ => 0)))] := by rw [efs1]; exact hD
  refine lv_aload_n hx hb dX13_equal_5 rfl (lv_at hl 0 rfl) ?_
  refine lv_iload_n hx hb dX13_equal_6 rfl (lv_at hl 1 rfl) ?_
  have hPc := hP.sub (ws' := [(h0, .inr (16, fs1)), (ar, .inl (cI, 20, .inl (fun _ => 0)))]) [0, 1] rfl
  refine va_calli (va_runV (As := [.int p0]) (rest := []) ⟨hx, hb, hml, hown, hts⟩ (kf_X13_hasBraid l dC dI cI cB cJ cZ h0 ar fs1 hnfs1 hfs1_95 p0) (cwV 1 hts gf_X13_equal_a rfl rfl rfl (by decide +kernel) ⟨(Nat.le_of_ble_eq_true rfl), (Nat.le_of_ble_eq_true rfl)⟩) ⟨fun a U g mk q => by obtain ⟨q0, qP, qK⟩ := q; exact ⟨q0, qP, va_K.moved (u := U) (U := U.calling g mk a) (Vm.Alike.refl U.vm) qK⟩, va_recv hK hPc (ci := 16) (q0 := 0) rfl rfl, fun U hU hW => ⟨rfl, by rw [hU]; exact hPc, va_K.moved hW.alike hK⟩⟩ rfl rfl hl.1 rfl (lv_room (Nat.le_of_ble_eq_true rfl)) dX13_equal_7 ⟨(Nat.le_of_ble_eq_true rfl), (Nat.le_of_ble_eq_true rfl)⟩) hS (fun q _ h => h.elim) (fun q h => h.elim) (fun r9 un t H1 locs ht hvm hw hB hz1 hk1 hS => ?_)
  obtain rfl : r9 = 0 := hw
  have hP := hP.kept (fun k9 x9 h9 => hk1 x9.1 ((hP k9 x9 h9).lt) id)
  generalize H1 = H at hP hS ⊢
  refine lv_if_eq (tgt := 36) hx hb dX13_equal_10 (by decide) (fun _ => ?_) (fun c9 => absurd (by decide) c9)
  refine lv_iconst (v := 0) hx hb dX13_equal_36 (by decide) ?_
  have hP := hP.sub (ws' := [(h0, .inr (16, fs1))]) [0] rfl
  have hD := hD.sub (ws' := [(h0, .inr (16, fs1))]) [0] (by decide) rfl
  rw [hQQ]
  exact W.zret (v := 0) (ty := .boolean) hx hb hr rfl (fun t ht hW => ⟨⟨0, fs1, rfl, ⟨rfl, hfs1_0⟩, by rw [ht]; exact hP, hD⟩, hS.F ht⟩) hS.2.2 dX13_equal_37
