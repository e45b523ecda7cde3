theorem dX13_thrown_0 : decode cX13_thrown 0 = .ok (.aload_n 0, 1) := by decide +kernel
theorem dX13_thrown_1 : decode cX13_thrown 1 = .ok (.getfield 1, 3) := by decide +kernel
theorem dX13_thrown_4 : decode cX13_thrown 4 = .ok (.ireturn, 1) := by decide +kernel
def wf_Mthrown : List Cond := .code yX13_thrown cX13_thrown 1 (some .int) :: ([.fieldLink RX13 1 "KnotHouseModel" "thrown" "I"] ++ wsX130)
set_option maxHeartbeats 4000000 in
set_option maxRecDepth 100000 in
theorem kf_X13_thrown (l : Launch) (dC : Nat → ClassId) (dI : Nat → Nat → Nat) (cI cB cJ cZ : ClassId) (h0 : Nat) (fs : List Value) (hfs : fs.length = 120) (x : Int32) (h0x : fs[0]? = some (.int x)) : Met l yX13_thrown wf_Mthrown (({ frames := 0, cells := 0, slots := 0, locals := 0 } : Room)) (va_Pc [.ref h0] (fun U => va_P (dC, dI) vwCl [(h0, .inr (16, fs))] U.heap ∧ va_K (dC, dI) vwCl [(cI, .int), (cB, .byte), (cJ, .long), (cZ, .boolean)] U)) (va_Qi (fun r (_ : Unit) => r = x) (fun _ _ => True) (fun _ => False)) 0 0 (fun _ => False) := by
  refine Met.ofW (cc := cX13_thrown) (maxL := 1) (ret := (some .int)) (by decide) rfl ?_
  intro p e s m args below meth c s₁ B hml hv
  obtain ⟨rfl, hP, hK⟩ := hv
  have hx := B.exec
  have hb := B.bytes
  have hr := B.returns
  have hts := atoms_spec (ws := wf_Mthrown) B.pre
  have hown : s.vm.findClass RX13 = some m.cls := findClass_of_methodNamed B.named
  have hlocks := B.notSynchronized
  have hS : va_S (fun _ => False) s.heap s.heap [] := va_S.rf
  have hP : va_P (dC, dI) vwCl [(h0, .inr (16, fs))] s.heap := hP
  have hl := lv_entry ([.ref h0]) (n := 1) (Nat.le_of_ble_eq_true rfl)
  rw [lg_entry_eq]
  generalize (lg_sl ([.ref h0]) ++ List.replicate (1 - (lg_sl ([.ref h0])).length) Slot.unset).toArray = ls at hl ⊢
  have hl : lv_has ls 1 [(0, .ref h0)] := hl
  refine ow_named (fun QQ hQQ => ?_)
  refine lv_aload_n hx hb dX13_thrown_0 rfl (lv_at hl 0 rfl) ?_
  refine va_get (D := (dC, dI)) (ci := 16) (v := .int x) (C := RX13) (T := TX13) (N := 120) hx hb hts (fun _ h => List.mem_cons_of_mem _ (List.mem_append_right _ h)) hown hK hP 0 rfl rfl 0 (by decide) (hts (.fieldLink RX13 1 "KnotHouseModel" "thrown" "I") (by decide +kernel)) (fun _ h9 => h9) h0x dX13_thrown_1 ?_
  rw [hQQ]
  exact W.iret (v := x) hx hb hr (fun t ht hW => ⟨⟨x, (), rfl, rfl, trivial⟩, hS.F ht⟩) hS.2.2 dX13_thrown_4
theorem dX13_moved_0 : decode cX13_moved 0 = .ok (.aload_n 0, 1) := by decide +kernel
theorem dX13_moved_1 : decode cX13_moved 1 = .ok (.iconst 0, 1) := by decide +kernel
theorem dX13_moved_2 : decode cX13_moved 2 = .ok (.putfield 1, 3) := by decide +kernel
theorem dX13_moved_5 : decode cX13_moved 5 = .ok (.iload_n 1, 1) := by decide +kernel
theorem dX13_moved_6 : decode cX13_moved 6 = .ok (.ifCond .lt 11, 3) := by decide +kernel
theorem dX13_moved_9 : decode cX13_moved 9 = .ok (.iload_n 1, 1) := by decide +kernel
theorem dX13_moved_10 : decode cX13_moved 10 = .ok (.aload_n 0, 1) := by decide +kernel
theorem dX13_moved_11 : decode cX13_moved 11 = .ok (.getfield 485, 3) := by decide +kernel
theorem dX13_moved_14 : decode cX13_moved 14 = .ok (.if_icmp .lt 9, 3) := by decide +kernel
theorem dX13_moved_17 : decode cX13_moved 17 = .ok (.aload_n 0, 1) := by decide +kernel
theorem dX13_moved_18 : decode cX13_moved 18 = .ok (.iconst 1, 1) := by decide +kernel
theorem dX13_moved_19 : decode cX13_moved 19 = .ok (.invokevirtual 403, 3) := by decide +kernel
theorem dX13_moved_22 : decode cX13_moved 22 = .ok (.ireturn, 1) := by decide +kernel
def wf_M_moved : List Cond := .code yX13_moved cX13_moved 2 (some .int) :: ([.fieldLink RX13 1 "KnotHouseModel" "thrown" "I", .fieldLink RX13 485 "KnotHouseModel" "listed" "I"] ++ wsX130 ++ wsV RX13 403 RX13 yX13_fails wf_Mfails)
theorem gf_X13_moved_b : GoodIn wf_M_moved (wsV RX13 403 RX13 yX13_fails wf_Mfails) := goodIn_sub (fun _ h => List.mem_cons_of_mem _ (List.mem_append_right _ h)) (by decide +kernel)
set_option maxHeartbeats 4000000 in
set_option maxRecDepth 100000 in
theorem kf_X13_moved (l : Launch) (dC : Nat → ClassId) (dI : Nat → Nat → Nat) (cI cB cJ cZ : ClassId) (h0 sz : Nat) (fs : List Value) (hfs : fs.length = 120) (hk : fs[21]? = some (.int 0)) (p0 : Int32) : Met l yX13_moved wf_M_moved (({ frames := 1, cells := 0, slots := 0, locals := 21 } : Room)) (va_Pc [.ref h0, .int p0] (fun U => U.heap.size = sz ∧ va_P (dC, dI) vwCl [(h0, .inr (16, fs))] U.heap ∧ va_K (dC, dI) vwCl [(cI, .int), (cB, .byte), (cJ, .long), (cZ, .boolean)] U ∧ va_D (fun _ => True) [(h0, .inr (16, fs))])) (va_Qi (fun r (g : List Value) => r = 0 ∧ g[0]? = some (.int 1)) (fun g t => va_P (dC, dI) vwCl [(h0, .inr (16, g))] t.heap ∧ va_D (va_A [(h0, .inr (16, fs))] sz) [(h0, .inr (16, g))]) (va_A [(h0, .inr (16, fs))] sz)) 0 0 (va_A [(h0, .inr (16, fs))] sz) := by
  refine Met.ofW (cc := cX13_moved) (maxL := 2) (ret := (some .int)) (by decide) rfl ?_
  intro p e s m args below meth c s₁ B hml hv
  obtain ⟨rfl, hsz, hP, hK, hD0⟩ := hv
  have hx := B.exec
  have hb := B.bytes
  have hr := B.returns
  have hts := atoms_spec (ws := wf_M_moved) B.pre
  have hown : s.vm.findClass RX13 = some m.cls := findClass_of_methodNamed B.named
  have hlocks := B.notSynchronized
  subst hsz
  have hD := hD0.self (sz := s.heap.size)
  generalize hAe : va_A [(h0, .inr (16, fs))] s.heap.size = A at hD ⊢
  have hA : ∀ q : Nat, s.heap.size ≤ q → A q := fun q h => by rw [← hAe]; exact Or.inr h
  have hS : va_S A s.heap s.heap [] := va_S.rf
  have hP : va_P (dC, dI) vwCl [(h0, .inr (16, fs))] s.heap := hP
  have hl := lv_entry ([.ref h0, .int p0]) (n := 2) (Nat.le_of_ble_eq_true rfl)
  rw [lg_entry_eq]
  generalize (lg_sl ([.ref h0, .int p0]) ++ List.replicate (2 - (lg_sl ([.ref h0, .int p0])).length) Slot.unset).toArray = ls at hl ⊢
  have hl : lv_has ls 2 [(0, .ref h0), (1, .int p0)] := hl
  refine ow_named (fun QQ hQQ => ?_)
  refine lv_aload_n hx hb dX13_moved_0 rfl (lv_at hl 0 rfl) ?_
  refine lv_iconst (v := 0) hx hb dX13_moved_1 (by decide) ?_
  refine va_put (D := (dC, dI)) (ci := 16) (v := .int 0) (ty := .int) (C := RX13) (T := TX13) (N := 120) hx hb hts (fun _ h => List.mem_cons_of_mem _ (List.mem_append_left _ (List.mem_append_right _ h))) tyX13 tyX13_ok nmX13 hown hK hP hD hS 0 rfl rfl 0 (by decide) (hts (.fieldLink RX13 1 "KnotHouseModel" "thrown" "I") (by decide +kernel)) (fun _ h9 => h9) rfl (by decide +kernel) rfl rfl (by rw [hfs]; decide) dX13_moved_2 (fun H locs hP hD hS => ?_)
  obtain ⟨fs1, efs1⟩ : ∃ x, x = List.set fs 0 (.int 0) := ⟨_, rfl⟩
  have hnfs1 : fs1.length = 120 := by rw [efs1, List.length_set]; exact hfs
  have hfs1_21 : fs1[21]? = some (.int 0) := by rw [efs1, List.getElem?_set_ne (by decide)]; exact hk
  have hfs1_0 : fs1[0]? = some (.int 0) := by rw [efs1]; exact List.getElem?_set_self (by rw [hfs]; decide)
  have hP : va_P (dC, dI) vwCl [(h0, .inr (16, fs1))] H := by rw [efs1]; exact hP
  have hD : va_D A [(h0, .inr (16, fs1))] := by rw [efs1]; exact hD
  refine lv_iload_n hx hb dX13_moved_5 rfl (lv_at hl 1 rfl) ?_
  refine lv_if_lt (tgt := 17) hx hb dX13_moved_6 (by decide) (fun c2 => ?_) (fun c2 => ?_)
  · refine lv_aload_n hx hb dX13_moved_17 rfl (lv_at hl 0 rfl) ?_
    refine lv_iconst (v := 1) hx hb dX13_moved_18 (by decide) ?_
    have hPc := hP.sub (ws' := [(h0, .inr (16, fs1))]) [0] rfl
    have hDc := hD.sub (ws' := [(h0, .inr (16, fs1))]) [0] (by decide) rfl
    have hFc := va_free (wc := [(h0, .inr (16, fs1))]) hD hS hA [0] rfl
    refine va_calli (va_runV (As := [.int 1]) (rest := []) ⟨hx, hb, hml, hown, hts⟩ (kf_X13_fails l dC dI cI cB cJ cZ h0 H.size fs1 hnfs1 1) (cwV 1 hts gf_X13_moved_b rfl rfl rfl (by decide +kernel) ⟨(Nat.le_of_ble_eq_true rfl), (Nat.le_of_ble_eq_true rfl)⟩) ⟨fun a U g mk q => by obtain ⟨q0, q1, qP, qK, qD⟩ := q; exact ⟨q0, q1, qP, va_K.moved (u := U) (U := U.calling g mk a) (Vm.Alike.refl U.vm) qK, qD⟩, va_recv hK hPc (ci := 16) (q0 := 0) rfl rfl, fun U hU hW => ⟨rfl, by rw [hU], by rw [hU]; exact hPc, va_K.moved hW.alike hK, hDc.weaken (fun _ _ _ _ => trivial)⟩⟩ rfl rfl hl.1 rfl (lv_room (Nat.le_of_ble_eq_true rfl)) dX13_moved_19 ⟨(Nat.le_of_ble_eq_true rfl), (Nat.le_of_ble_eq_true rfl)⟩) hS (fun q _ h => hFc q h) hFc (fun r9 gs t H1 locs ht hvm hw hB hz1 hk1 hS => ?_)
    obtain ⟨hP1, hD1⟩ := hB
    rw [ht] at hP1
    obtain ⟨hr0, hg0⟩ := hw
    subst hr0
    obtain ⟨hP, hD⟩ := va_join (wr := []) (w1 := [(h0, .inr (16, gs))]) hP hD [0] [] rfl rfl (by decide) (by decide) hk1 hFc hP1 hD1
    generalize H1 = H at hP hS ⊢
    have hP : va_P (dC, dI) vwCl [(h0, .inr (16, gs))] H := hP
    have hD : va_D A [(h0, .inr (16, gs))] := hD
    have hP := hP.sub (ws' := [(h0, .inr (16, gs))]) [0] rfl
    have hD := hD.sub (ws' := [(h0, .inr (16, gs))]) [0] (by decide) rfl
    rw [hQQ]
    exact W.iret (v := 0) hx hb hr (fun t ht hW => ⟨⟨0, gs, rfl, ⟨rfl, hg0⟩, by rw [ht]; exact hP, hD⟩, hS.F ht⟩) hS.2.2 dX13_moved_22
  · refine lv_iload_n hx hb dX13_moved_9 rfl (lv_at hl 1 rfl) ?_
    refine lv_aload_n hx hb dX13_moved_10 rfl (lv_at hl 0 rfl) ?_
    refine va_get (D := (dC, dI)) (ci := 16) (v := .int 0) (C := RX13) (T := TX13) (N := 120) hx hb hts (fun _ h => List.mem_cons_of_mem _ (List.mem_append_left _ (List.mem_append_right _ h))) hown hK hP 0 rfl rfl 21 (by decide) (hts (.fieldLink RX13 485 "KnotHouseModel" "listed" "I") (by decide +kernel)) (fun _ h9 => h9) hfs1_21 dX13_moved_11 ?_
    refine lv_icmp_lt (tgt := 23) hx hb dX13_moved_14 (by decide) (fun c9 => absurd c9 (c2)) (fun _ => ?_)
    refine lv_aload_n hx hb dX13_moved_17 rfl (lv_at hl 0 rfl) ?_
    refine lv_iconst (v := 1) hx hb dX13_moved_18 (by decide) ?_
    have hPc := hP.sub (ws' := [(h0, .inr (16, fs1))]) [0] rfl
    have hDc := hD.sub (ws' := [(h0, .inr (16, fs1))]) [0] (by decide) rfl
    have hFc := va_free (wc := [(h0, .inr (16, fs1))]) hD hS hA [0] rfl
    refine va_calli (va_runV (As := [.int 1]) (rest := []) ⟨hx, hb, hml, hown, hts⟩ (kf_X13_fails l dC dI cI cB cJ cZ h0 H.size fs1 hnfs1 1) (cwV 1 hts gf_X13_moved_b rfl rfl rfl (by decide +kernel) ⟨(Nat.le_of_ble_eq_true rfl), (Nat.le_of_ble_eq_true rfl)⟩) ⟨fun a U g mk q => by obtain ⟨q0, q1, qP, qK, qD⟩ := q; exact ⟨q0, q1, qP, va_K.moved (u := U) (U := U.calling g mk a) (Vm.Alike.refl U.vm) qK, qD⟩, va_recv hK hPc (ci := 16) (q0 := 0) rfl rfl, fun U hU hW => ⟨rfl, by rw [hU], by rw [hU]; exact hPc, va_K.moved hW.alike hK, hDc.weaken (fun _ _ _ _ => trivial)⟩⟩ rfl rfl hl.1 rfl (lv_room (Nat.le_of_ble_eq_true rfl)) dX13_moved_19 ⟨(Nat.le_of_ble_eq_true rfl), (Nat.le_of_ble_eq_true rfl)⟩) hS (fun q _ h => hFc q h) hFc (fun r9 gs t H1 locs ht hvm hw hB hz1 hk1 hS => ?_)
    obtain ⟨hP1, hD1⟩ := hB
    rw [ht] at hP1
    obtain ⟨hr0, hg0⟩ := hw
    subst hr0
    obtain ⟨hP, hD⟩ := va_join (wr := []) (w1 := [(h0, .inr (16, gs))]) hP hD [0] [] rfl rfl (by decide) (by decide) hk1 hFc hP1 hD1
    generalize H1 = H at hP hS ⊢
    have hP : va_P (dC, dI) vwCl [(h0, .inr (16, gs))] H := hP
    have hD : va_D A [(h0, .inr (16, gs))] := hD
    have hP := hP.sub (ws' := [(h0, .inr (16, gs))]) [0] rfl
    have hD := hD.sub (ws' := [(h0, .inr (16, gs))]) [0] (by decide) rfl
    rw [hQQ]
    exact W.iret (v := 0) hx hb hr (fun t ht hW => ⟨⟨0, gs, rfl, ⟨rfl, hg0⟩, by rw [ht]; exact hP, hD⟩, hS.F ht⟩) hS.2.2 dX13_moved_22
theorem dX13_summand_0 : decode cX13_summand 0 = .ok (.aload_n 0, 1) := by decide +kernel
theorem dX13_summand_1 : decode cX13_summand 1 = .ok (.iconst 0, 1) := by decide +kernel
theorem dX13_summand_2 : decode cX13_summand 2 = .ok (.putfield 1, 3) := by decide +kernel
theorem dX13_summand_5 : decode cX13_summand 5 = .ok (.iload_n 1, 1) := by decide +kernel
theorem dX13_summand_6 : decode cX13_summand 6 = .ok (.ifCond .lt 11, 3) := by decide +kernel
theorem dX13_summand_9 : decode cX13_summand 9 = .ok (.iload_n 1, 1) := by decide +kernel
theorem dX13_summand_10 : decode cX13_summand 10 = .ok (.aload_n 0, 1) := by decide +kernel
theorem dX13_summand_11 : decode cX13_summand 11 = .ok (.getfield 553, 3) := by decide +kernel
theorem dX13_summand_14 : decode cX13_summand 14 = .ok (.if_icmp .lt 9, 3) := by decide +kernel
theorem dX13_summand_17 : decode cX13_summand 17 = .ok (.aload_n 0, 1) := by decide +kernel
theorem dX13_summand_18 : decode cX13_summand 18 = .ok (.iconst 1, 1) := by decide +kernel
theorem dX13_summand_19 : decode cX13_summand 19 = .ok (.invokevirtual 403, 3) := by decide +kernel
theorem dX13_summand_22 : decode cX13_summand 22 = .ok (.ireturn, 1) := by decide +kernel
def wf_M_summand : List Cond := .code yX13_summand cX13_summand 2 (some .int) :: ([.fieldLink RX13 1 "KnotHouseModel" "thrown" "I", .fieldLink RX13 553 "KnotHouseModel" "summandCount" "I"] ++ wsX130 ++ wsV RX13 403 RX13 yX13_fails wf_Mfails)
theorem gf_X13_summand_b : GoodIn wf_M_summand (wsV RX13 403 RX13 yX13_fails wf_Mfails) := goodIn_sub (fun _ h => List.mem_cons_of_mem _ (List.mem_append_right _ h)) (by decide +kernel)
set_option maxHeartbeats 4000000 in
set_option maxRecDepth 100000 in
theorem kf_X13_summand (l : Launch) (dC : Nat → ClassId) (dI : Nat → Nat → Nat) (cI cB cJ cZ : ClassId) (h0 sz : Nat) (fs : List Value) (hfs : fs.length = 120) (hk : fs[35]? = some (.int 0)) (p0 : Int32) : Met l yX13_summand wf_M_summand (({ frames := 1, cells := 0, slots := 0, locals := 21 } : Room)) (va_Pc [.ref h0, .int p0] (fun U => U.heap.size = sz ∧ va_P (dC, dI) vwCl [(h0, .inr (16, fs))] U.heap ∧ va_K (dC, dI) vwCl [(cI, .int), (cB, .byte), (cJ, .long), (cZ, .boolean)] U ∧ va_D (fun _ => True) [(h0, .inr (16, fs))])) (va_Qi (fun r (g : List Value) => r = 0 ∧ g[0]? = some (.int 1)) (fun g t => va_P (dC, dI) vwCl [(h0, .inr (16, g))] t.heap ∧ va_D (va_A [(h0, .inr (16, fs))] sz) [(h0, .inr (16, g))]) (va_A [(h0, .inr (16, fs))] sz)) 0 0 (va_A [(h0, .inr (16, fs))] sz) := by
  refine Met.ofW (cc := cX13_summand) (maxL := 2) (ret := (some .int)) (by decide) rfl ?_
  intro p e s m args below meth c s₁ B hml hv
  obtain ⟨rfl, hsz, hP, hK, hD0⟩ := hv
  have hx := B.exec
  have hb := B.bytes
  have hr := B.returns
  have hts := atoms_spec (ws := wf_M_summand) B.pre
  have hown : s.vm.findClass RX13 = some m.cls := findClass_of_methodNamed B.named
  have hlocks := B.notSynchronized
  subst hsz
  have hD := hD0.self (sz := s.heap.size)
  generalize hAe : va_A [(h0, .inr (16, fs))] s.heap.size = A at hD ⊢
  have hA : ∀ q : Nat, s.heap.size ≤ q → A q := fun q h => by rw [← hAe]; exact Or.inr h
  have hS : va_S A s.heap s.heap [] := va_S.rf
  have hP : va_P (dC, dI) vwCl [(h0, .inr (16, fs))] s.heap := hP
  have hl := lv_entry ([.ref h0, .int p0]) (n := 2) (Nat.le_of_ble_eq_true rfl)
  rw [lg_entry_eq]
  generalize (lg_sl ([.ref h0, .int p0]) ++ List.replicate (2 - (lg_sl ([.ref h0, .int p0])).length) Slot.unset).toArray = ls at hl ⊢
  have hl : lv_has ls 2 [(0, .ref h0), (1, .int p0)] := hl
  refine ow_named (fun QQ hQQ => ?_)
  refine lv_aload_n hx hb dX13_summand_0 rfl (lv_at hl 0 rfl) ?_
  refine lv_iconst (v := 0) hx hb dX13_summand_1 (by decide) ?_
  refine va_put (D := (dC, dI)) (ci := 16) (v := .int 0) (ty := .int) (C := RX13) (T := TX13) (N := 120) hx hb hts (fun _ h => List.mem_cons_of_mem _ (List.mem_append_left _ (List.mem_append_right _ h))) tyX13 tyX13_ok nmX13 hown hK hP hD hS 0 rfl rfl 0 (by decide) (hts (.fieldLink RX13 1 "KnotHouseModel" "thrown" "I") (by decide +kernel)) (fun _ h9 => h9) rfl (by decide +kernel) rfl rfl (by rw [hfs]; decide) dX13_summand_2 (fun H locs hP hD hS => ?_)
  obtain ⟨fs1, efs1⟩ : ∃ x, x = List.set fs 0 (.int 0) := ⟨_, rfl⟩
  have hnfs1 : fs1.length = 120 := by rw [efs1, List.length_set]; exact hfs
  have hfs1_35 : fs1[35]? = some (.int 0) := by rw [efs1, List.getElem?_set_ne (by decide)]; exact hk
  have hfs1_0 : fs1[0]? = some (.int 0) := by rw [efs1]; exact List.getElem?_set_self (by rw [hfs]; decide)
  have hP : va_P (dC, dI) vwCl [(h0, .inr (16, fs1))] H := by rw [efs1]; exact hP
  have hD : va_D A [(h0, .inr (16, fs1))] := by rw [efs1]; exact hD
  refine lv_iload_n hx hb dX13_summand_5 rfl (lv_at hl 1 rfl) ?_
  refine lv_if_lt (tgt := 17) hx hb dX13_summand_6 (by decide) (fun c2 => ?_) (fun c2 => ?_)
  · refine lv_aload_n hx hb dX13_summand_17 rfl (lv_at hl 0 rfl) ?_
    refine lv_iconst (v := 1) hx hb dX13_summand_18 (by decide) ?_
    have hPc := hP.sub (ws' := [(h0, .inr (16, fs1))]) [0] rfl
    have hDc := hD.sub (ws' := [(h0, .inr (16, fs1))]) [0] (by decide) rfl
    have hFc := va_free (wc := [(h0, .inr (16, fs1))]) hD hS hA [0] rfl
    refine va_calli (va_runV (As := [.int 1]) (rest := []) ⟨hx, hb, hml, hown, hts⟩ (kf_X13_fails l dC dI cI cB cJ cZ h0 H.size fs1 hnfs1 1) (cwV 1 hts gf_X13_summand_b rfl rfl rfl (by decide +kernel) ⟨(Nat.le_of_ble_eq_true rfl), (Nat.le_of_ble_eq_true rfl)⟩) ⟨fun a U g mk q => by obtain ⟨q0, q1, qP, qK, qD⟩ := q; exact ⟨q0, q1, qP, va_K.moved (u := U) (U := U.calling g mk a) (Vm.Alike.refl U.vm) qK, qD⟩, va_recv hK hPc (ci := 16) (q0 := 0) rfl rfl, fun U hU hW => ⟨rfl, by rw [hU], by rw [hU]; exact hPc, va_K.moved hW.alike hK, hDc.weaken (fun _ _ _ _ => trivial)⟩⟩ rfl rfl hl.1 rfl (lv_room (Nat.le_of_ble_eq_true rfl)) dX13_summand_19 ⟨(Nat.le_of_ble_eq_true rfl), (Nat.le_of_ble_eq_true rfl)⟩) hS (fun q _ h => hFc q h) hFc (fun r9 gs t H1 locs ht hvm hw hB hz1 hk1 hS => ?_)
    obtain ⟨hP1, hD1⟩ := hB
    rw [ht] at hP1
    obtain ⟨hr0, hg0⟩ := hw
    subst hr0
    obtain ⟨hP, hD⟩ := va_join (wr := []) (w1 := [(h0, .inr (16, gs))]) hP hD [0] [] rfl rfl (by decide) (by decide) hk1 hFc hP1 hD1
    generalize H1 = H at hP hS ⊢
    have hP : va_P (dC, dI) vwCl [(h0, .inr (16, gs))] H := hP
    have hD : va_D A [(h0, .inr (16, gs))] := hD
    have hP := hP.sub (ws' := [(h0, .inr (16, gs))]) [0] rfl
    have hD := hD.sub (ws' := [(h0, .inr (16, gs))]) [0] (by decide) rfl
    rw [hQQ]
    exact W.iret (v := 0) hx hb hr (fun t ht hW => ⟨⟨0, gs, rfl, ⟨rfl, hg0⟩, by rw [ht]; exact hP, hD⟩, hS.F ht⟩) hS.2.2 dX13_summand_22
  · refine lv_iload_n hx hb dX13_summand_9 rfl (lv_at hl 1 rfl) ?_
    refine lv_aload_n hx hb dX13_summand_10 rfl (lv_at hl 0 rfl) ?_
    refine va_get (D := (dC, dI)) (ci := 16) (v := .int 0) (C := RX13) (T := TX13) (N := 120) hx hb hts (fun _ h => List.mem_cons_of_mem _ (List.mem_append_left _ (List.mem_append_right _ h))) hown hK hP 0 rfl rfl 35 (by decide) (hts (.fieldLink RX13 553 "KnotHouseModel" "summandCount" "I") (by decide +kernel)) (fun _ h9 => h9) hfs1_35 dX13_summand_11 ?_
    refine lv_icmp_lt (tgt := 23) hx hb dX13_summand_14 (by decide) (fun c9 => absurd c9 (c2)) (fun _ => ?_)
    refine lv_aload_n hx hb dX13_summand_17 rfl (lv_at hl 0 rfl) ?_
    refine lv_iconst (v := 1) hx hb dX13_summand_18 (by decide) ?_
    have hPc := hP.sub (ws' := [(h0, .inr (16, fs1))]) [0] rfl
    have hDc := hD.sub (ws' := [(h0, .inr (16, fs1))]) [0] (by decide) rfl
    have hFc := va_free (wc := [(h0, .inr (16, fs1))]) hD hS hA [0] rfl
    refine va_calli (va_runV (As := [.int 1]) (rest := []) ⟨hx, hb, hml, hown, hts⟩ (kf_X13_fails l dC dI cI cB cJ cZ h0 H.size fs1 hnfs1 1) (cwV 1 hts gf_X13_summand_b rfl rfl rfl (by decide +kernel) ⟨(Nat.le_of_ble_eq_true rfl), (Nat.le_of_ble_eq_true rfl)⟩) ⟨fun a U g mk q => by obtain ⟨q0, q1, qP, qK, qD⟩ := q; exact ⟨q0, q1, qP, va_K.moved (u := U) (U := U.calling g mk a) (Vm.Alike.refl U.vm) qK, qD⟩, va_recv hK hPc (ci := 16) (q0 := 0) rfl rfl, fun U hU hW => ⟨rfl, by rw [hU], by rw [hU]; exact hPc, va_K.moved hW.alike hK, hDc.weaken (fun _ _ _ _ => trivial)⟩⟩ rfl rfl hl.1 rfl (lv_room (Nat.le_of_ble_eq_true rfl)) dX13_summand_19 ⟨(Nat.le_of_ble_eq_true rfl), (Nat.le_of_ble_eq_true rfl)⟩) hS (fun q _ h => hFc q h) hFc (fun r9 gs t H1 locs ht hvm hw hB hz1 hk1 hS => ?_)
    obtain ⟨hP1, hD1⟩ := hB
    rw [ht] at hP1
    obtain ⟨hr0, hg0⟩ := hw
    subst hr0
    obtain ⟨hP, hD⟩ := va_join (wr := []) (w1 := [(h0, .inr (16, gs))]) hP hD [0] [] rfl rfl (by decide) (by decide) hk1 hFc hP1 hD1
    generalize H1 = H at hP hS ⊢
    have hP : va_P (dC, dI) vwCl [(h0, .inr (16, gs))] H := hP
    have hD : va_D A [(h0, .inr (16, gs))] := hD
    have hP := hP.sub (ws' := [(h0, .inr (16, gs))]) [0] rfl
    have hD := hD.sub (ws' := [(h0, .inr (16, gs))]) [0] (by decide) rfl
    rw [hQQ]
    exact W.iret (v := 0) hx hb hr (fun t ht hW => ⟨⟨0, gs, rfl, ⟨rfl, hg0⟩, by rw [ht]; exact hP, hD⟩, hS.F ht⟩) hS.2.2 dX13_summand_22
theorem dX13_drop_0 : decode cX13_drop 0 = .ok (.aload_n 0, 1) := by decide +kernel
theorem dX13_drop_1 : decode cX13_drop 1 = .ok (.iconst 0, 1) := by decide +kernel
theorem dX13_drop_2 : decode cX13_drop 2 = .ok (.putfield 1, 3) := by decide +kernel
theorem dX13_drop_5 : decode cX13_drop 5 = .ok (.aload_n 0, 1) := by decide +kernel
theorem dX13_drop_6 : decode cX13_drop 6 = .ok (.iload_n 1, 1) := by decide +kernel
theorem dX13_drop_7 : decode cX13_drop 7 = .ok (.invokevirtual 423, 3) := by decide +kernel
theorem dX13_drop_10 : decode cX13_drop 10 = .ok (.istore_n 2, 1) := by decide +kernel
theorem dX13_drop_11 : decode cX13_drop 11 = .ok (.iload_n 2, 1) := by decide +kernel
theorem dX13_drop_12 : decode cX13_drop 12 = .ok (.ifCond .eq 13, 3) := by decide +kernel
theorem dX13_drop_15 : decode cX13_drop 15 = .ok (.aload_n 0, 1) := by decide +kernel
theorem dX13_drop_16 : decode cX13_drop 16 = .ok (.getfield 110, 3) := by decide +kernel
theorem dX13_drop_19 : decode cX13_drop 19 = .ok (.bipush 32, 2) := by decide +kernel
theorem dX13_drop_21 : decode cX13_drop 21 = .ok (.iload_n 1, 1) := by decide +kernel
theorem dX13_drop_22 : decode cX13_drop 22 = .ok (.imul, 1) := by decide +kernel
theorem dX13_drop_23 : decode cX13_drop 23 = .ok (.iconst 0, 1) := by decide +kernel
theorem dX13_drop_24 : decode cX13_drop 24 = .ok (.iastore, 1) := by decide +kernel
theorem dX13_drop_25 : decode cX13_drop 25 = .ok (.iload_n 2, 1) := by decide +kernel
theorem dX13_drop_26 : decode cX13_drop 26 = .ok (.ireturn, 1) := by decide +kernel
def wf_M_drop : List Cond := .code yX13_drop cX13_drop 3 (some .boolean) :: ([.fieldLink RX13 1 "KnotHouseModel" "thrown" "I"] ++ wsX130 ++ wsV RX13 423 RX13 yX13_has wf_Mhas)
theorem gf_X13_drop_a : GoodIn wf_M_drop (wsV RX13 423 RX13 yX13_has wf_Mhas) := goodIn_sub (fun _ h => List.mem_cons_of_mem _ (List.mem_append_right _ h)) (by decide +kernel)
set_option maxHeartbeats 4000000 in
set_option maxRecDepth 100000 in
theorem kf_X13_drop (l : Launch) (dC : Nat → ClassId) (dI : Nat → Nat → Nat) (cI cB cJ cZ : ClassId) (h0 sz : Nat) (fs : List Value) (hfs : fs.length = 120) (ar : Nat) (hk : fs[11]? = some (.ref ar)) (p0 : Int32) : Met l yX13_drop wf_M_drop (({ frames := 1, cells := 0, slots := 0, locals := 21 } : Room)) (va_Pc [.ref h0, .int p0] (fun U => U.heap.size = sz ∧ va_P (dC, dI) vwCl [(h0, .inr (16, fs)), (ar, .inl (cI, 1280, .inl (fun _ => 0)))] U.heap ∧ va_K (dC, dI) vwCl [(cI, .int), (cB, .byte), (cJ, .long), (cZ, .boolean)] U ∧ va_D (fun _ => True) [(h0, .inr (16, fs)), (ar, .inl (cI, 1280, .inl (fun _ => 0)))])) (va_Qi (fun r (g : List Value) => r = 0 ∧ g[0]? = some (.int 0)) (fun g t => va_P (dC, dI) vwCl [(h0, .inr (16, g))] t.heap ∧ va_D (va_A [(h0, .inr (16, fs)), (ar, .inl (cI, 1280, .inl (fun _ => 0)))] sz) [(h0, .inr (16, g))]) (va_A [(h0, .inr (16, fs)), (ar, .inl (cI, 1280, .inl (fun _ => 0)))] sz)) 0 0 (va_A [(h0, .inr (16, fs)), (ar, .inl (cI, 1280, .inl (fun _ => 0)))] sz) := by
  refine Met.ofW (cc := cX13_drop) (maxL := 3) (ret := (some .boolean)) (by decide) rfl ?_
  intro p e s m args below meth c s₁ B hml hv
  obtain ⟨rfl, hsz, hP, hK, hD0⟩ := hv
  have hx := B.exec
  have hb := B.bytes
  have hr := B.returns
  have hts := atoms_spec (ws := wf_M_drop) B.pre
  have hown : s.vm.findClass RX13 = some m.cls := findClass_of_methodNamed B.named
  have hlocks := B.notSynchronized
  subst hsz
  have hD := hD0.self (sz := s.heap.size)
  generalize hAe : va_A [(h0, .inr (16, fs)), (ar, .inl (cI, 1280, .inl (fun _ => 0)))] s.heap.size = A at hD ⊢
  have hA : ∀ q : Nat, s.heap.size ≤ q → A q := fun q h => by rw [← hAe]; exact Or.inr h
  have hS : va_S A s.heap s.heap [] := va_S.rf
  have hP : va_P (dC, dI) vwCl [(h0, .inr (16, fs)), (ar, .inl (cI, 1280, .inl (fun _ => 0)))] s.heap := hP
  have hl := lv_entry ([.ref h0, .int p0]) (n := 3) (Nat.le_of_ble_eq_true rfl)
  rw [lg_entry_eq]
  generalize (lg_sl ([.ref h0, .int p0]) ++ List.replicate (3 - (lg_sl ([.ref h0, .int p0])).length) Slot.unset).toArray = ls at hl ⊢
  have hl : lv_has ls 3 [(0, .ref h0), (1, .int p0)] := hl
  refine ow_named (fun QQ hQQ => ?_)
  refine lv_aload_n hx hb dX13_drop_0 rfl (lv_at hl 0 rfl) ?_
  refine lv_iconst (v := 0) hx hb dX13_drop_1 (by decide) ?_
  refine va_put (D := (dC, dI)) (ci := 16) (v := .int 0) (ty := .int) (C := RX13) (T := TX13) (N := 120) hx hb hts (fun _ h => List.mem_cons_of_mem _ (List.mem_append_left _ (List.mem_append_right _ h))) tyX13 tyX13_ok nmX13 hown hK hP hD hS 0 rfl rfl 0 (by decide) (hts (.fieldLink RX13 1 "KnotHouseModel" "thrown" "I") (by decide +kernel)) (fun _ h9 => h9) rfl (by decide +kernel) rfl rfl (by rw [hfs]; decide) dX13_drop_2 (fun H locs hP hD hS => ?_)
  obtain ⟨fs1, efs1⟩ : ∃ x, x = List.set fs 0 (.int 0) := ⟨_, rfl⟩
  have hnfs1 : fs1.length = 120 := by rw [efs1, List.length_set]; exact hfs
  have hfs1_11 : fs1[11]? = some (.ref ar) := by rw [efs1, List.getElem?_set_ne (by decide)]; exact hk
  have hfs1_0 : fs1[0]? = some (.int 0) := by rw [efs1]; exact List.getElem?_set_self (by rw [hfs]; decide)
  have hP : va_P (dC, dI) vwCl [(h0, .inr (16, fs1)), (ar, .inl (cI, 1280, .inl (fun _ => 0)))] H := by rw [efs1]; exact hP
  have hD : va_D A [(h0, .inr (16, fs1)), (ar, .inl (cI, 1280, .inl (fun _ => 0)))] := by rw [efs1]; exact hD
  refine lv_aload_n hx hb dX13_drop_5 rfl (lv_at hl 0 rfl) ?_
  refine lv_iload_n hx hb dX13_drop_6 rfl (lv_at hl 1 rfl) ?_
  have hPc := hP.sub (ws' := [(h0, .inr (16, fs1)), (ar, .inl (cI, 1280, .inl (fun _ => 0)))]) [0, 1] rfl
  refine va_calli (va_runV (As := [.int p0]) (rest := []) ⟨hx, hb, hml, hown, hts⟩ (kf_X13_has l dC dI cI cB cJ cZ h0 ar fs1 hnfs1 hfs1_11 p0) (cwV 1 hts gf_X13_drop_a rfl rfl rfl (by decide +kernel) ⟨(Nat.le_of_ble_eq_true rfl), (Nat.le_of_ble_eq_true rfl)⟩) ⟨fun a U g mk q => by obtain ⟨q0, qP, qK⟩ := q; exact ⟨q0, qP, va_K.moved (u := U) (U := U.calling g mk a) (Vm.Alike.refl U.vm) qK⟩, va_recv hK hPc (ci := 16) (q0 := 0) rfl rfl, fun U hU hW => ⟨rfl, by rw [hU]; exact hPc, va_K.moved hW.alike hK⟩⟩ rfl rfl hl.1 rfl (lv_room (Nat.le_of_ble_eq_true rfl)) dX13_drop_7 ⟨(Nat.le_of_ble_eq_true rfl), (Nat.le_of_ble_eq_true rfl)⟩) hS (fun q _ h => h.elim) (fun q h => h.elim) (fun r9 un t H1 locs ht hvm hw hB hz1 hk1 hS => ?_)
  obtain rfl : r9 = 0 := hw
  have hP := hP.kept (fun k9 x9 h9 => hk1 x9.1 ((hP k9 x9 h9).lt) id)
  generalize H1 = H at hP hS ⊢
  refine lv_istore_n (lv' := [(2, .int 0), (0, .ref h0), (1, .int p0)]) hx hb dX13_drop_10 rfl hl (by decide) rfl (fun ls hl => ?_)
  refine lv_iload_n hx hb dX13_drop_11 rfl (lv_at hl 0 rfl) ?_
  refine lv_if_eq (tgt := 25) hx hb dX13_drop_12 (by decide) (fun _ => ?_) (fun c9 => absurd (by decide) c9)
  refine lv_iload_n hx hb dX13_drop_25 rfl (lv_at hl 0 rfl) ?_
  have hP := hP.sub (ws' := [(h0, .inr (16, fs1))]) [0] rfl
  have hD := hD.sub (ws' := [(h0, .inr (16, fs1))]) [0] (by decide) rfl
  rw [hQQ]
  exact W.zret (v := 0) (ty := .boolean) hx hb hr rfl (fun t ht hW => ⟨⟨0, fs1, rfl, ⟨rfl, hfs1_0⟩, by rw [ht]; exact hP, hD⟩, hS.F ht⟩) hS.2.2 dX13_drop_26
theorem dX13_dropBraid_0 : decode cX13_dropBraid 0 = .ok (.aload_n 0, 1) := by decide +kernel
theorem dX13_dropBraid_1 : decode cX13_dropBraid 1 = .ok (.iconst 0, 1) := by decide +kernel
theorem dX13_dropBraid_2 : decode cX13_dropBraid 2 = .ok (.putfield 1, 3) := by decide +kernel
theorem dX13_dropBraid_5 : decode cX13_dropBraid 5 = .ok (.aload_n 0, 1) := by decide +kernel
theorem dX13_dropBraid_6 : decode cX13_dropBraid 6 = .ok (.iload_n 1, 1) := by decide +kernel
theorem dX13_dropBraid_7 : decode cX13_dropBraid 7 = .ok (.invokevirtual 739, 3) := by decide +kernel
theorem dX13_dropBraid_10 : decode cX13_dropBraid 10 = .ok (.istore_n 2, 1) := by decide +kernel
theorem dX13_dropBraid_11 : decode cX13_dropBraid 11 = .ok (.iload_n 2, 1) := by decide +kernel
theorem dX13_dropBraid_12 : decode cX13_dropBraid 12 = .ok (.ifCond .eq 10, 3) := by decide +kernel
theorem dX13_dropBraid_15 : decode cX13_dropBraid 15 = .ok (.aload_n 0, 1) := by decide +kernel
theorem dX13_dropBraid_16 : decode cX13_dropBraid 16 = .ok (.getfield 326, 3) := by decide +kernel
theorem dX13_dropBraid_19 : decode cX13_dropBraid 19 = .ok (.iload_n 1, 1) := by decide +kernel
theorem dX13_dropBraid_20 : decode cX13_dropBraid 20 = .ok (.iconst 0, 1) := by decide +kernel
theorem dX13_dropBraid_21 : decode cX13_dropBraid 21 = .ok (.iastore, 1) := by decide +kernel
theorem dX13_dropBraid_22 : decode cX13_dropBraid 22 = .ok (.iload_n 2, 1) := by decide +kernel
theorem dX13_dropBraid_23 : decode cX13_dropBraid 23 = .ok (.ireturn, 1) := by decide +kernel
def wf_M_dropBraid : List Cond := .code yX13_dropBraid cX13_dropBraid 3 (some .boolean) :: ([.fieldLink RX13 1 "KnotHouseModel" "thrown" "I"] ++ wsX130 ++ wsV RX13 739 RX13 yX13_hasBraid wf_MhasBraid)
theorem gf_X13_dropBraid_a : GoodIn wf_M_dropBraid (wsV RX13 739 RX13 yX13_hasBraid wf_MhasBraid) := goodIn_sub (fun _ h => List.mem_cons_of_mem _ (List.mem_append_right _ h)) (by decide +kernel)
set_option maxHeartbeats 4000000 in
set_option maxRecDepth 100000 in
theorem kf_X13_dropBraid (l : Launch) (dC : Nat → ClassId) (dI : Nat → Nat → Nat) (cI cB cJ cZ : ClassId) (h0 sz : Nat) (fs : List Value) (hfs : fs.length = 120) (ar : Nat) (hk : fs[95]? = some (.ref ar)) (p0 : Int32) : Met l yX13_dropBraid wf_M_dropBraid (({ frames := 1, cells := 0, slots := 0, locals := 21 } : Room)) (va_Pc [.ref h0, .int p0] (fun U => U.heap.size = sz ∧ va_P (dC, dI) vwCl [(h0, .inr (16, fs)), (ar, .inl (cI, 20, .inl (fun _ => 0)))] U.heap ∧ va_K (dC, dI) vwCl [(cI, .int), (cB, .byte), (cJ, .long), (cZ, .boolean)] U ∧ va_D (fun _ => True) [(h0, .inr (16, fs)), (ar, .inl (cI, 20, .inl (fun _ => 0)))])) (va_Qi (fun r (g : List Value) => r = 0 ∧ g[0]? = some (.int 0)) (fun g t => va_P (dC, dI) vwCl [(h0, .inr (16, g))] t.heap ∧ va_D (va_A [(h0, .inr (16, fs)), (ar, .inl (cI, 20, .inl (fun _ => 0)))] sz) [(h0, .inr (16, g))]) (va_A [(h0, .inr (16, fs)), (ar, .inl (cI, 20, .inl (fun _ => 0)))] sz)) 0 0 (va_A [(h0, .inr (16, fs)), (ar, .inl (cI, 20, .inl (fun _ => 0)))] sz) := by
  refine Met.ofW (cc := cX13_dropBraid) (maxL := 3) (ret := (some .boolean)) (by decide) rfl ?_
  intro p e s m args below meth c s₁ B hml hv
  obtain ⟨rfl, hsz, hP, hK, hD0⟩ := hv
  have hx := B.exec
  have hb := B.bytes
  have hr := B.returns
  have hts := atoms_spec (ws := wf_M_dropBraid) B.pre
  have hown : s.vm.findClass RX13 = some m.cls := findClass_of_methodNamed B.named
  have hlocks := B.notSynchronized
  subst hsz
  have hD := hD0.self (sz := s.heap.size)
  generalize hAe : va_A [(h0, .inr (16, fs)), (ar, .inl (cI, 20, .inl (fun _ => 0)))] s.heap.size = A at hD ⊢
  have hA : ∀ q : Nat, s.heap.size ≤ q → A q := fun q h => by rw [← hAe]; exact Or.inr h
  have hS : va_S A s.heap s.heap [] := va_S.rf
  have hP : va_P (dC, dI) vwCl [(h0, .inr (16, fs)), (ar, .inl (cI, 20, .inl (fun _ => 0)))] s.heap := hP
  have hl := lv_entry ([.ref h0, .int p0]) (n := 3) (Nat.le_of_ble_eq_true rfl)
  rw [lg_entry_eq]
  generalize (lg_sl ([.ref h0, .int p0]) ++ List.replicate (3 - (lg_sl ([.ref h0, .int p0])).length) Slot.unset).toArray = ls at hl ⊢
  have hl : lv_has ls 3 [(0, .ref h0), (1, .int p0)] := hl
  refine ow_named (fun QQ hQQ => ?_)
  refine lv_aload_n hx hb dX13_dropBraid_0 rfl (lv_at hl 0 rfl) ?_
  refine lv_iconst (v := 0) hx hb dX13_dropBraid_1 (by decide) ?_
  refine va_put (D := (dC, dI)) (ci := 16) (v := .int 0) (ty := .int) (C := RX13) (T := TX13) (N := 120) hx hb hts (fun _ h => List.mem_cons_of_mem _ (List.mem_append_left _ (List.mem_append_right _ h))) tyX13 tyX13_ok nmX13 hown hK hP hD hS 0 rfl rfl 0 (by decide) (hts (.fieldLink RX13 1 "KnotHouseModel" "thrown" "I") (by decide +kernel)) (fun _ h9 => h9) rfl (by decide +kernel) rfl rfl (by rw [hfs]; decide) dX13_dropBraid_2 (fun H locs hP hD hS => ?_)
  obtain ⟨fs1, efs1⟩ : ∃ x, x = List.set fs 0 (.int 0) := ⟨_, rfl⟩
  have hnfs1 : fs1.length = 120 := by rw [efs1, List.length_set]; exact hfs
  have hfs1_95 : fs1[95]? = some (.ref ar) := by rw [efs1, List.getElem?_set_ne (by decide)]; exact hk
  have hfs1_0 : fs1[0]? = some (.int 0) := by rw [efs1]; exact List.getElem?_set_self (by rw [hfs]; decide)
  have hP : va_P (dC, dI) vwCl [(h0, .inr (16, fs1)), (ar, .inl (cI, 20, .inl (fun _ => 0)))] H := by rw [efs1]; exact hP
  have hD : va_D A [(h0, .inr (16, fs1)), (ar, .inl (cI, 20, .inl (fun _ => 0)))] := by rw [efs1]; exact hD
  refine lv_aload_n hx hb dX13_dropBraid_5 rfl (lv_at hl 0 rfl) ?_
  refine lv_iload_n hx hb dX13_dropBraid_6 rfl (lv_at hl 1 rfl) ?_
  have hPc := hP.sub (ws' := [(h0, .inr (16, fs1)), (ar, .inl (cI, 20, .inl (fun _ => 0)))]) [0, 1] rfl
  refine va_calli (va_runV (As := [.int p0]) (rest := []) ⟨hx, hb, hml, hown, hts⟩ (kf_X13_hasBraid l dC dI cI cB cJ cZ h0 ar fs1 hnfs1 hfs1_95 p0) (cwV 1 hts gf_X13_dropBraid_a rfl rfl rfl (by decide +kernel) ⟨(Nat.le_of_ble_eq_true rfl), (Nat.le_of_ble_eq_true rfl)⟩) ⟨fun a U g mk q => by obtain ⟨q0, qP, qK⟩ := q; exact ⟨q0, qP, va_K.moved (u := U) (U := U.calling g mk a) (Vm.Alike.refl U.vm) qK⟩, va_recv hK hPc (ci := 16) (q0 := 0) rfl rfl, fun U hU hW => ⟨rfl, by rw [hU]; exact hPc, va_K.moved hW.alike hK⟩⟩ rfl rfl hl.1 rfl (lv_room (Nat.le_of_ble_eq_true rfl)) dX13_dropBraid_7 ⟨(Nat.le_of_ble_eq_true rfl), (Nat.le_of_ble_eq_true rfl)⟩) hS (fun q _ h => h.elim) (fun q h => h.elim) (fun r9 un t H1 locs ht hvm hw hB hz1 hk1 hS => ?_)
  obtain rfl : r9 = 0 := hw
  have hP := hP.kept (fun k9 x9 h9 => hk1 x9.1 ((hP k9 x9 h9).lt) id)
  generalize H1 = H at hP hS ⊢
  refine lv_istore_n (lv' := [(2, .int 0), (0, .ref h0), (1, .int p0)]) hx hb dX13_dropBraid_10 rfl hl (by decide) rfl (fun ls hl => ?_)
  refine lv_iload_n hx hb dX13_dropBraid_11 rfl (lv_at hl 0 rfl) ?_
  refine lv_if_eq (tgt := 22) hx hb dX13_dropBraid_12 (by decide) (fun _ => ?_) (fun c9 => absurd (by decide) c9)
  refine lv_iload_n hx hb dX13_dropBraid_22 rfl (lv_at hl 0 rfl) ?_
  have hP := hP.sub (ws' := [(h0, .inr (16, fs1))]) [0] rfl
  have hD := hD.sub (ws' := [(h0, .inr (16, fs1))]) [0] (by decide) rfl
  rw [hQQ]
  exact W.zret (v := 0) (ty := .boolean) hx hb hr rfl (fun t ht hW => ⟨⟨0, fs1, rfl, ⟨rfl, hfs1_0⟩, by rw [ht]; exact hP, hD⟩, hS.F ht⟩) hS.2.2 dX13_dropBraid_23
theorem dX13_end_0 : decode cX13_end 0 = .ok (.aload_n 0, 1) := by decide +kernel
theorem dX13_end_1 : decode cX13_end 1 = .ok (.iconst 0, 1) := by decide +kernel
theorem dX13_end_2 : decode cX13_end 2 = .ok (.putfield 1, 3) := by decide +kernel
theorem dX13_end_5 : decode cX13_end 5 = .ok (.iload_n 1, 1) := by decide +kernel
theorem dX13_end_6 : decode cX13_end 6 = .ok (.ifCond .lt 11, 3) := by decide +kernel
theorem dX13_end_9 : decode cX13_end 9 = .ok (.iload_n 1, 1) := by decide +kernel
theorem dX13_end_10 : decode cX13_end 10 = .ok (.aload_n 0, 1) := by decide +kernel
theorem dX13_end_11 : decode cX13_end 11 = .ok (.getfield 400, 3) := by decide +kernel
theorem dX13_end_14 : decode cX13_end 14 = .ok (.if_icmp .le 12, 3) := by decide +kernel
theorem dX13_end_17 : decode cX13_end 17 = .ok (.aload_n 0, 1) := by decide +kernel
theorem dX13_end_18 : decode cX13_end 18 = .ok (.iconst 1, 1) := by decide +kernel
theorem dX13_end_19 : decode cX13_end 19 = .ok (.invokevirtual 403, 3) := by decide +kernel
theorem dX13_end_22 : decode cX13_end 22 = .ok (.pop, 1) := by decide +kernel
theorem dX13_end_23 : decode cX13_end 23 = .ok (.goto 8, 3) := by decide +kernel
theorem dX13_end_26 : decode cX13_end 26 = .ok (.aload_n 0, 1) := by decide +kernel
theorem dX13_end_27 : decode cX13_end 27 = .ok (.iload_n 1, 1) := by decide +kernel
theorem dX13_end_28 : decode cX13_end 28 = .ok (.putfield 400, 3) := by decide +kernel
theorem dX13_end_31 : decode cX13_end 31 = .ok (.return_, 1) := by decide +kernel
def wf_M_end : List Cond := .code yX13_end cX13_end 2 none :: ([.fieldLink RX13 1 "KnotHouseModel" "thrown" "I", .fieldLink RX13 400 "KnotHouseModel" "taped" "I"] ++ wsX130 ++ wsV RX13 403 RX13 yX13_fails wf_Mfails)
theorem gf_X13_end_b : GoodIn wf_M_end (wsV RX13 403 RX13 yX13_fails wf_Mfails) := goodIn_sub (fun _ h => List.mem_cons_of_mem _ (List.mem_append_right _ h)) (by decide +kernel)
set_option maxHeartbeats 4000000 in
set_option maxRecDepth 100000 in
theorem kf_X13_end (l : Launch) (dC : Nat → ClassId) (dI : Nat → Nat → Nat) (cI cB cJ cZ : ClassId) (h0 sz : Nat) (fs : List Value) (hfs : fs.length = 120) (hk : fs[10]? = some (.int 0)) (p0 : Int32) : Met l yX13_end wf_M_end (({ frames := 1, cells := 0, slots := 0, locals := 21 } : Room)) (va_Pc [.ref h0, .int p0] (fun U => U.heap.size = sz ∧ va_P (dC, dI) vwCl [(h0, .inr (16, fs))] U.heap ∧ va_K (dC, dI) vwCl [(cI, .int), (cB, .byte), (cJ, .long), (cZ, .boolean)] U ∧ va_D (fun _ => True) [(h0, .inr (16, fs))])) (va_Qv (fun (g : List Value) => g[0]? = some (.int (if p0 = 0 then 0 else 1))) (fun g t => va_P (dC, dI) vwCl [(h0, .inr (16, g))] t.heap ∧ va_D (va_A [(h0, .inr (16, fs))] sz) [(h0, .inr (16, g))]) (va_A [(h0, .inr (16, fs))] sz)) 0 0 (va_A [(h0, .inr (16, fs))] sz) := by
  refine Met.ofW (cc := cX13_end) (maxL := 2) (ret := none) (by decide) rfl ?_
  intro p e s m args below meth c s₁ B hml hv
  obtain ⟨rfl, hsz, hP, hK, hD0⟩ := hv
  have hx := B.exec
  have hb := B.bytes
  have hr := B.returns
  have hts := atoms_spec (ws := wf_M_end) B.pre
  have hown : s.vm.findClass RX13 = some m.cls := findClass_of_methodNamed B.named
  have hlocks := B.notSynchronized
  subst hsz
  have hD := hD0.self (sz := s.heap.size)
  generalize hAe : va_A [(h0, .inr (16, fs))] s.heap.size = A at hD ⊢
  have hA : ∀ q : Nat, s.heap.size ≤ q → A q := fun q h => by rw [← hAe]; exact Or.inr h
  have hS : va_S A s.heap s.heap [] := va_S.rf
  have hP : va_P (dC, dI) vwCl [(h0, .inr (16, fs))] s.heap := hP
  have hl := lv_entry ([.ref h0, .int p0]) (n := 2) (Nat.le_of_ble_eq_true rfl)
  rw [lg_entry_eq]
  generalize (lg_sl ([.ref h0, .int p0]) ++ List.replicate (2 - (lg_sl ([.ref h0, .int p0])).length) Slot.unset).toArray = ls at hl ⊢
  have hl : lv_has ls 2 [(0, .ref h0), (1, .int p0)] := hl
  refine ow_named (fun QQ hQQ => ?_)
  refine lv_aload_n hx hb dX13_end_0 rfl (lv_at hl 0 rfl) ?_
  refine lv_iconst (v := 0) hx hb dX13_end_1 (by decide) ?_
  refine va_put (D := (dC, dI)) (ci := 16) (v := .int 0) (ty := .int) (C := RX13) (T := TX13) (N := 120) hx hb hts (fun _ h => List.mem_cons_of_mem _ (List.mem_append_left _ (List.mem_append_right _ h))) tyX13 tyX13_ok nmX13 hown hK hP hD hS 0 rfl rfl 0 (by decide) (hts (.fieldLink RX13 1 "KnotHouseModel" "thrown" "I") (by decide +kernel)) (fun _ h9 => h9) rfl (by decide +kernel) rfl rfl (by rw [hfs]; decide) dX13_end_2 (fun H locs hP hD hS => ?_)
  obtain ⟨fs1, efs1⟩ : ∃ x, x = List.set fs 0 (.int 0) := ⟨_, rfl⟩
  have hnfs1 : fs1.length = 120 := by rw [efs1, List.length_set]; exact hfs
  have hfs1_10 : fs1[10]? = some (.int 0) := by rw [efs1, List.getElem?_set_ne (by decide)]; exact hk
  have hfs1_0 : fs1[0]? = some (.int 0) := by rw [efs1]; exact List.getElem?_set_self (by rw [hfs]; decide)
  have hP : va_P (dC, dI) vwCl [(h0, .inr (16, fs1))] H := by rw [efs1]; exact hP
  have hD : va_D A [(h0, .inr (16, fs1))] := by rw [efs1]; exact hD
  refine lv_iload_n hx hb dX13_end_5 rfl (lv_at hl 1 rfl) ?_
  refine lv_if_lt (tgt := 17) hx hb dX13_end_6 (by decide) (fun c2 => ?_) (fun c2 => ?_)
  · refine lv_aload_n hx hb dX13_end_17 rfl (lv_at hl 0 rfl) ?_
    refine lv_iconst (v := 1) hx hb dX13_end_18 (by decide) ?_
    have hPc := hP.sub (ws' := [(h0, .inr (16, fs1))]) [0] rfl
    have hDc := hD.sub (ws' := [(h0, .inr (16, fs1))]) [0] (by decide) rfl
    have hFc := va_free (wc := [(h0, .inr (16, fs1))]) hD hS hA [0] rfl
    refine va_calli (va_runV (As := [.int 1]) (rest := []) ⟨hx, hb, hml, hown, hts⟩ (kf_X13_fails l dC dI cI cB cJ cZ h0 H.size fs1 hnfs1 1) (cwV 1 hts gf_X13_end_b rfl rfl rfl (by decide +kernel) ⟨(Nat.le_of_ble_eq_true rfl), (Nat.le_of_ble_eq_true rfl)⟩) ⟨fun a U g mk q => by obtain ⟨q0, q1, qP, qK, qD⟩ := q; exact ⟨q0, q1, qP, va_K.moved (u := U) (U := U.calling g mk a) (Vm.Alike.refl U.vm) qK, qD⟩, va_recv hK hPc (ci := 16) (q0 := 0) rfl rfl, fun U hU hW => ⟨rfl, by rw [hU], by rw [hU]; exact hPc, va_K.moved hW.alike hK, hDc.weaken (fun _ _ _ _ => trivial)⟩⟩ rfl rfl hl.1 rfl (lv_room (Nat.le_of_ble_eq_true rfl)) dX13_end_19 ⟨(Nat.le_of_ble_eq_true rfl), (Nat.le_of_ble_eq_true rfl)⟩) hS (fun q _ h => hFc q h) hFc (fun r9 gs t H1 locs ht hvm hw hB hz1 hk1 hS => ?_)
    obtain ⟨hP1, hD1⟩ := hB
    rw [ht] at hP1
    obtain ⟨hr0, hg0⟩ := hw
    subst hr0
    obtain ⟨hP, hD⟩ := va_join (wr := []) (w1 := [(h0, .inr (16, gs))]) hP hD [0] [] rfl rfl (by decide) (by decide) hk1 hFc hP1 hD1
    generalize H1 = H at hP hS ⊢
    have hP : va_P (dC, dI) vwCl [(h0, .inr (16, gs))] H := hP
    have hD : va_D A [(h0, .inr (16, gs))] := hD
    refine lv_pop hx hb dX13_end_22 rfl ?_
    refine lv_goto (tgt := 31) hx hb dX13_end_23 (by decide) ?_
    rw [hQQ]
    exact W.vret hx hb hr (fun t ht hW => ⟨⟨gs, rfl, by rw [if_neg (fun h9 => absurd (h9 ▸ c2) (by decide))]; exact hg0, by rw [ht]; exact hP, hD⟩, hS.F ht⟩) hS.2.2 dX13_end_31
  · refine lv_iload_n hx hb dX13_end_9 rfl (lv_at hl 1 rfl) ?_
    refine lv_aload_n hx hb dX13_end_10 rfl (lv_at hl 0 rfl) ?_
    refine va_get (D := (dC, dI)) (ci := 16) (v := .int 0) (C := RX13) (T := TX13) (N := 120) hx hb hts (fun _ h => List.mem_cons_of_mem _ (List.mem_append_left _ (List.mem_append_right _ h))) hown hK hP 0 rfl rfl 10 (by decide) (hts (.fieldLink RX13 400 "KnotHouseModel" "taped" "I") (by decide +kernel)) (fun _ h9 => h9) hfs1_10 dX13_end_11 ?_
    refine lv_icmp_le (tgt := 26) hx hb dX13_end_14 (by decide) (fun c3 => ?_) (fun c3 => ?_)
    · have hp0 : p0 = 0 := Int32.le_antisymm c3 (Int32.not_lt.mp c2)
      refine lv_aload_n hx hb dX13_end_26 rfl (lv_at hl 0 rfl) ?_
      refine lv_iload_n hx hb dX13_end_27 rfl (lv_at hl 1 rfl) ?_
      refine va_put (D := (dC, dI)) (ci := 16) (v := .int p0) (ty := .int) (C := RX13) (T := TX13) (N := 120) hx hb hts (fun _ h => List.mem_cons_of_mem _ (List.mem_append_left _ (List.mem_append_right _ h))) tyX13 tyX13_ok nmX13 hown hK hP hD hS 0 rfl rfl 10 (by decide) (hts (.fieldLink RX13 400 "KnotHouseModel" "taped" "I") (by decide +kernel)) (fun _ h9 => h9) rfl (by decide +kernel) rfl rfl (by rw [hnfs1]; decide) dX13_end_28 (fun H locs hP hD hS => ?_)
      obtain ⟨fs4, efs4⟩ : ∃ x, x = List.set fs1 10 (.int p0) := ⟨_, rfl⟩
      have hnfs4 : fs4.length = 120 := by rw [efs4, List.length_set]; exact hnfs1
      have hfs4_0 : fs4[0]? = some (.int 0) := by rw [efs4, List.getElem?_set_ne (by decide)]; exact hfs1_0
      have hfs4_10 : fs4[10]? = some (.int p0) := by rw [efs4]; exact List.getElem?_set_self (by rw [hnfs1]; decide)
      have hP : va_P (dC, dI) vwCl [(h0, .inr (16, fs4))] H := by rw [efs4]; exact hP
      have hD : va_D A [(h0, .inr (16, fs4))] := by rw [efs4]; exact hD
      rw [hQQ]
      exact W.vret hx hb hr (fun t ht hW => ⟨⟨fs4, rfl, by rw [if_pos hp0]; exact hfs4_0, by rw [ht]; exact hP, hD⟩, hS.F ht⟩) hS.2.2 dX13_end_31
    · refine lv_aload_n hx hb dX13_end_17 rfl (lv_at hl 0 rfl) ?_
      refine lv_iconst (v := 1) hx hb dX13_end_18 (by decide) ?_
      have hPc := hP.sub (ws' := [(h0, .inr (16, fs1))]) [0] rfl
      have hDc := hD.sub (ws' := [(h0, .inr (16, fs1))]) [0] (by decide) rfl
      have hFc := va_free (wc := [(h0, .inr (16, fs1))]) hD hS hA [0] rfl
      refine va_calli (va_runV (As := [.int 1]) (rest := []) ⟨hx, hb, hml, hown, hts⟩ (kf_X13_fails l dC dI cI cB cJ cZ h0 H.size fs1 hnfs1 1) (cwV 1 hts gf_X13_end_b rfl rfl rfl (by decide +kernel) ⟨(Nat.le_of_ble_eq_true rfl), (Nat.le_of_ble_eq_true rfl)⟩) ⟨fun a U g mk q => by obtain ⟨q0, q1, qP, qK, qD⟩ := q; exact ⟨q0, q1, qP, va_K.moved (u := U) (U := U.calling g mk a) (Vm.Alike.refl U.vm) qK, qD⟩, va_recv hK hPc (ci := 16) (q0 := 0) rfl rfl, fun U hU hW => ⟨rfl, by rw [hU], by rw [hU]; exact hPc, va_K.moved hW.alike hK, hDc.weaken (fun _ _ _ _ => trivial)⟩⟩ rfl rfl hl.1 rfl (lv_room (Nat.le_of_ble_eq_true rfl)) dX13_end_19 ⟨(Nat.le_of_ble_eq_true rfl), (Nat.le_of_ble_eq_true rfl)⟩) hS (fun q _ h => hFc q h) hFc (fun r9 gs t H1 locs ht hvm hw hB hz1 hk1 hS => ?_)
      obtain ⟨hP1, hD1⟩ := hB
      rw [ht] at hP1
      obtain ⟨hr0, hg0⟩ := hw
      subst hr0
      obtain ⟨hP, hD⟩ := va_join (wr := []) (w1 := [(h0, .inr (16, gs))]) hP hD [0] [] rfl rfl (by decide) (by decide) hk1 hFc hP1 hD1
      generalize H1 = H at hP hS ⊢
      have hP : va_P (dC, dI) vwCl [(h0, .inr (16, gs))] H := hP
      have hD : va_D A [(h0, .inr (16, gs))] := hD
      refine lv_pop hx hb dX13_end_22 rfl ?_
      refine lv_goto (tgt := 31) hx hb dX13_end_23 (by decide) ?_
      rw [hQQ]
      exact W.vret hx hb hr (fun t ht hW => ⟨⟨gs, rfl, by rw [if_neg (fun h9 => c3 (by rw [h9]; decide))]; exact hg0, by rw [ht]; exact hP, hD⟩, hS.F ht⟩) hS.2.2 dX13_end_31
