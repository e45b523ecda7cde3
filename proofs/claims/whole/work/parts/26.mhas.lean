theorem dX13_has_0 : decode cX13_has 0 = .ok (.iload_n 1, 1) := by decide +kernel
theorem dX13_has_1 : decode cX13_has 1 = .ok (.ifCond .lt 25, 3) := by decide +kernel
theorem dX13_has_4 : decode cX13_has 4 = .ok (.iload_n 1, 1) := by decide +kernel
theorem dX13_has_5 : decode cX13_has 5 = .ok (.bipush 40, 2) := by decide +kernel
theorem dX13_has_7 : decode cX13_has 7 = .ok (.if_icmp .ge 19, 3) := by decide +kernel
theorem dX13_has_10 : decode cX13_has 10 = .ok (.aload_n 0, 1) := by decide +kernel
theorem dX13_has_11 : decode cX13_has 11 = .ok (.getfield 110, 3) := by decide +kernel
theorem dX13_has_14 : decode cX13_has 14 = .ok (.bipush 32, 2) := by decide +kernel
theorem dX13_has_16 : decode cX13_has 16 = .ok (.iload_n 1, 1) := by decide +kernel
theorem dX13_has_17 : decode cX13_has 17 = .ok (.imul, 1) := by decide +kernel
theorem dX13_has_18 : decode cX13_has 18 = .ok (.iaload, 1) := by decide +kernel
theorem dX13_has_19 : decode cX13_has 19 = .ok (.ifCond .le 7, 3) := by decide +kernel
theorem dX13_has_22 : decode cX13_has 22 = .ok (.iconst 1, 1) := by decide +kernel
theorem dX13_has_23 : decode cX13_has 23 = .ok (.goto 4, 3) := by decide +kernel
theorem dX13_has_26 : decode cX13_has 26 = .ok (.iconst 0, 1) := by decide +kernel
theorem dX13_has_27 : decode cX13_has 27 = .ok (.ireturn, 1) := by decide +kernel
def wf_Mhas : List Cond := .code yX13_has cX13_has 2 (some .boolean) :: ([.fieldLink RX13 110 "KnotHouseModel" "rows" "[I"] ++ wsX130)
set_option maxHeartbeats 4000000 in
set_option maxRecDepth 100000 in
theorem kf_X13_has (l : Launch) (dC : Nat → ClassId) (dI : Nat → Nat → Nat) (cI cB cJ cZ : ClassId) (h0 ar : Nat) (fs : List Value) (hfs : fs.length = 120) (hk : fs[11]? = some (.ref ar)) (d : Int32) : Met l yX13_has wf_Mhas (({ frames := 0, cells := 0, slots := 0, locals := 0 } : Room)) (va_Pc [.ref h0, .int d] (fun U => va_P (dC, dI) vwCl [(h0, .inr (16, fs)), (ar, .inl (cI, 1280, .inl (fun _ => 0)))] U.heap ∧ va_K (dC, dI) vwCl [(cI, .int), (cB, .byte), (cJ, .long), (cZ, .boolean)] U)) (va_Qi (fun r (_ : Unit) => r = 0) (fun _ _ => True) (fun _ => False)) 0 0 (fun _ => False) := by
  refine Met.ofW (cc := cX13_has) (maxL := 2) (ret := (some .boolean)) (by decide) rfl ?_
  intro p e s m args below meth c s₁ B hml hv
  obtain ⟨rfl, hP, hK⟩ := hv
  have hx := B.exec
  have hb := B.bytes
  have hr := B.returns
  have hts := atoms_spec (ws := wf_Mhas) B.pre
  have hown : s.vm.findClass RX13 = some m.cls := findClass_of_methodNamed B.named
  have hlocks := B.notSynchronized
  have hS : va_S (fun _ => False) s.heap s.heap [] := va_S.rf
  have hP : va_P (dC, dI) vwCl [(h0, .inr (16, fs)), (ar, .inl (cI, 1280, .inl (fun _ => 0)))] s.heap := hP
  have hl := lv_entry ([.ref h0, .int d]) (n := 2) (Nat.le_of_ble_eq_true rfl)
  rw [lg_entry_eq]
  generalize (lg_sl ([.ref h0, .int d]) ++ List.replicate (2 - (lg_sl ([.ref h0, .int d])).length) Slot.unset).toArray = ls at hl ⊢
  have hl : lv_has ls 2 [(0, .ref h0), (1, .int d)] := hl
  refine ow_named (fun QQ hQQ => ?_)
  refine lv_iload_n hx hb dX13_has_0 rfl (lv_at hl 1 rfl) ?_
  refine lv_if_lt (tgt := 26) hx hb dX13_has_1 (by decide) (fun c1 => ?_) (fun c1 => ?_)
  · refine lv_iconst (v := 0) hx hb dX13_has_26 (by decide) ?_
    rw [hQQ]
    exact W.zret (v := 0) (ty := .boolean) hx hb hr rfl (fun t ht hW => ⟨⟨0, (), rfl, rfl, trivial⟩, hS.F ht⟩) hS.2.2 dX13_has_27
  · refine lv_iload_n hx hb dX13_has_4 rfl (lv_at hl 1 rfl) ?_
    refine lv_bipush (v := 40) hx hb dX13_has_5 (by decide) ?_
    refine lv_icmp_ge (tgt := 26) hx hb dX13_has_7 (by decide) (fun c2 => ?_) (fun c2 => ?_)
    · refine lv_iconst (v := 0) hx hb dX13_has_26 (by decide) ?_
      rw [hQQ]
      exact W.zret (v := 0) (ty := .boolean) hx hb hr rfl (fun t ht hW => ⟨⟨0, (), rfl, rfl, trivial⟩, hS.F ht⟩) hS.2.2 dX13_has_27
    · have hin : vp_in d 40 := by
        refine vp_in_iff.mpr ⟨?_, ?_⟩
        · have h9 := Int32.not_lt.mp c1
          exact Int32.le_iff_toInt_le.mp h9
        · have h9 := Int32.not_le.mp c2
          exact Int32.lt_iff_toInt_lt.mp h9
      obtain ⟨j, hj, rfl⟩ := vp_in_of hin (by decide)
      refine lv_aload_n hx hb dX13_has_10 rfl (lv_at hl 0 rfl) ?_
      refine va_get (D := (dC, dI)) (ci := 16) (v := .ref ar) (C := RX13) (T := TX13) (N := 120) hx hb hts (fun _ h => List.mem_cons_of_mem _ (List.mem_append_right _ h)) hown hK hP 0 rfl rfl 11 (by decide) (hts (.fieldLink RX13 110 "KnotHouseModel" "rows" "[I") (by decide +kernel)) (fun _ h9 => h9) hk dX13_has_11 ?_
      refine lv_bipush (v := 32) hx hb dX13_has_14 (by decide) ?_
      refine lv_iload_n hx hb dX13_has_16 rfl (lv_at hl 1 rfl) ?_
      refine lv_imul hx hb dX13_has_17 ?_
      refine ow_topi (y := nI (32 * j)) (pk_mul 32 j) ?_
      refine va_iald hx hb hK hP 1 0 rfl rfl (vp_in_nI (n := 32 * j) (N := 1280) (by omega) (by decide)) dX13_has_18 ?_
      refine ow_topi (y := 0) (rfl) ?_
      refine lv_if_le (tgt := 26) hx hb dX13_has_19 (by decide) (fun _ => ?_) (fun c9 => absurd (by decide) c9)
      refine lv_iconst (v := 0) hx hb dX13_has_26 (by decide) ?_
      rw [hQQ]
      exact W.zret (v := 0) (ty := .boolean) hx hb hr rfl (fun t ht hW => ⟨⟨0, (), rfl, rfl, trivial⟩, hS.F ht⟩) hS.2.2 dX13_has_27
theorem dX13_hasBraid_0 : decode cX13_hasBraid 0 = .ok (.iload_n 1, 1) := by decide +kernel
theorem dX13_hasBraid_1 : decode cX13_hasBraid 1 = .ok (.ifCond .lt 22, 3) := by decide +kernel
theorem dX13_hasBraid_4 : decode cX13_hasBraid 4 = .ok (.iload_n 1, 1) := by decide +kernel
theorem dX13_hasBraid_5 : decode cX13_hasBraid 5 = .ok (.bipush 20, 2) := by decide +kernel
theorem dX13_hasBraid_7 : decode cX13_hasBraid 7 = .ok (.if_icmp .ge 16, 3) := by decide +kernel
theorem dX13_hasBraid_10 : decode cX13_hasBraid 10 = .ok (.aload_n 0, 1) := by decide +kernel
theorem dX13_hasBraid_11 : decode cX13_hasBraid 11 = .ok (.getfield 326, 3) := by decide +kernel
theorem dX13_hasBraid_14 : decode cX13_hasBraid 14 = .ok (.iload_n 1, 1) := by decide +kernel
theorem dX13_hasBraid_15 : decode cX13_hasBraid 15 = .ok (.iaload, 1) := by decide +kernel
theorem dX13_hasBraid_16 : decode cX13_hasBraid 16 = .ok (.ifCond .le 7, 3) := by decide +kernel
theorem dX13_hasBraid_19 : decode cX13_hasBraid 19 = .ok (.iconst 1, 1) := by decide +kernel
theorem dX13_hasBraid_20 : decode cX13_hasBraid 20 = .ok (.goto 4, 3) := by decide +kernel
theorem dX13_hasBraid_23 : decode cX13_hasBraid 23 = .ok (.iconst 0, 1) := by decide +kernel
theorem dX13_hasBraid_24 : decode cX13_hasBraid 24 = .ok (.ireturn, 1) := by decide +kernel
def wf_MhasBraid : List Cond := .code yX13_hasBraid cX13_hasBraid 2 (some .boolean) :: ([.fieldLink RX13 326 "KnotHouseModel" "strands" "[I"] ++ wsX130)
set_option maxHeartbeats 4000000 in
set_option maxRecDepth 100000 in
theorem kf_X13_hasBraid (l : Launch) (dC : Nat → ClassId) (dI : Nat → Nat → Nat) (cI cB cJ cZ : ClassId) (h0 ar : Nat) (fs : List Value) (hfs : fs.length = 120) (hk : fs[95]? = some (.ref ar)) (d : Int32) : Met l yX13_hasBraid wf_MhasBraid (({ frames := 0, cells := 0, slots := 0, locals := 0 } : Room)) (va_Pc [.ref h0, .int d] (fun U => va_P (dC, dI) vwCl [(h0, .inr (16, fs)), (ar, .inl (cI, 20, .inl (fun _ => 0)))] U.heap ∧ va_K (dC, dI) vwCl [(cI, .int), (cB, .byte), (cJ, .long), (cZ, .boolean)] U)) (va_Qi (fun r (_ : Unit) => r = 0) (fun _ _ => True) (fun _ => False)) 0 0 (fun _ => False) := by
  refine Met.ofW (cc := cX13_hasBraid) (maxL := 2) (ret := (some .boolean)) (by decide) rfl ?_
  intro p e s m args below meth c s₁ B hml hv
  obtain ⟨rfl, hP, hK⟩ := hv
  have hx := B.exec
  have hb := B.bytes
  have hr := B.returns
  have hts := atoms_spec (ws := wf_MhasBraid) B.pre
  have hown : s.vm.findClass RX13 = some m.cls := findClass_of_methodNamed B.named
  have hlocks := B.notSynchronized
  have hS : va_S (fun _ => False) s.heap s.heap [] := va_S.rf
  have hP : va_P (dC, dI) vwCl [(h0, .inr (16, fs)), (ar, .inl (cI, 20, .inl (fun _ => 0)))] s.heap := hP
  have hl := lv_entry ([.ref h0, .int d]) (n := 2) (Nat.le_of_ble_eq_true rfl)
  rw [lg_entry_eq]
  generalize (lg_sl ([.ref h0, .int d]) ++ List.replicate (2 - (lg_sl ([.ref h0, .int d])).length) Slot.unset).toArray = ls at hl ⊢
  have hl : lv_has ls 2 [(0, .ref h0), (1, .int d)] := hl
  refine ow_named (fun QQ hQQ => ?_)
  refine lv_iload_n hx hb dX13_hasBraid_0 rfl (lv_at hl 1 rfl) ?_
  refine lv_if_lt (tgt := 23) hx hb dX13_hasBraid_1 (by decide) (fun c1 => ?_) (fun c1 => ?_)
  · refine lv_iconst (v := 0) hx hb dX13_hasBraid_23 (by decide) ?_
    rw [hQQ]
    exact W.zret (v := 0) (ty := .boolean) hx hb hr rfl (fun t ht hW => ⟨⟨0, (), rfl, rfl, trivial⟩, hS.F ht⟩) hS.2.2 dX13_hasBraid_24
  · refine lv_iload_n hx hb dX13_hasBraid_4 rfl (lv_at hl 1 rfl) ?_
    refine lv_bipush (v := 20) hx hb dX13_hasBraid_5 (by decide) ?_
    refine lv_icmp_ge (tgt := 23) hx hb dX13_hasBraid_7 (by decide) (fun c2 => ?_) (fun c2 => ?_)
    · refine lv_iconst (v := 0) hx hb dX13_hasBraid_23 (by decide) ?_
      rw [hQQ]
      exact W.zret (v := 0) (ty := .boolean) hx hb hr rfl (fun t ht hW => ⟨⟨0, (), rfl, rfl, trivial⟩, hS.F ht⟩) hS.2.2 dX13_hasBraid_24
    · have hin : vp_in d 20 := by
        refine vp_in_iff.mpr ⟨?_, ?_⟩
        · have h9 := Int32.not_lt.mp c1
          exact Int32.le_iff_toInt_le.mp h9
        · have h9 := Int32.not_le.mp c2
          exact Int32.lt_iff_toInt_lt.mp h9
      obtain ⟨j, hj, rfl⟩ := vp_in_of hin (by decide)
      refine lv_aload_n hx hb dX13_hasBraid_10 rfl (lv_at hl 0 rfl) ?_
      refine va_get (D := (dC, dI)) (ci := 16) (v := .ref ar) (C := RX13) (T := TX13) (N := 120) hx hb hts (fun _ h => List.mem_cons_of_mem _ (List.mem_append_right _ h)) hown hK hP 0 rfl rfl 95 (by decide) (hts (.fieldLink RX13 326 "KnotHouseModel" "strands" "[I") (by decide +kernel)) (fun _ h9 => h9) hk dX13_hasBraid_11 ?_
      refine lv_iload_n hx hb dX13_hasBraid_14 rfl (lv_at hl 1 rfl) ?_
      refine va_iald hx hb hK hP 1 0 rfl rfl (vp_in_nI (n := j) (N := 20) hj (by decide)) dX13_hasBraid_15 ?_
      refine ow_topi (y := 0) (rfl) ?_
      refine lv_if_le (tgt := 23) hx hb dX13_hasBraid_16 (by decide) (fun _ => ?_) (fun c9 => absurd (by decide) c9)
      refine lv_iconst (v := 0) hx hb dX13_hasBraid_23 (by decide) ?_
      rw [hQQ]
      exact W.zret (v := 0) (ty := .boolean) hx hb hr rfl (fun t ht hW => ⟨⟨0, (), rfl, rfl, trivial⟩, hS.F ht⟩) hS.2.2 dX13_hasBraid_24
theorem dX13_fails_0 : decode cX13_fails 0 = .ok (.aload_n 0, 1) := by decide +kernel
theorem dX13_fails_1 : decode cX13_fails 1 = .ok (.iload_n 1, 1) := by decide +kernel
theorem dX13_fails_2 : decode cX13_fails 2 = .ok (.putfield 1, 3) := by decide +kernel
theorem dX13_fails_5 : decode cX13_fails 5 = .ok (.iconst 0, 1) := by decide +kernel
theorem dX13_fails_6 : decode cX13_fails 6 = .ok (.ireturn, 1) := by decide +kernel
def wf_Mfails : List Cond := .code yX13_fails cX13_fails 2 (some .int) :: ([.fieldLink RX13 1 "KnotHouseModel" "thrown" "I"] ++ wsX130)
set_option maxHeartbeats 4000000 in
set_option maxRecDepth 100000 in
theorem kf_X13_fails (l : Launch) (dC : Nat → ClassId) (dI : Nat → Nat → Nat) (cI cB cJ cZ : ClassId) (h0 sz : Nat) (fs : List Value) (hfs : fs.length = 120) (k : Int32) : Met l yX13_fails wf_Mfails (({ frames := 0, cells := 0, slots := 0, locals := 0 } : Room)) (va_Pc [.ref h0, .int k] (fun U => U.heap.size = sz ∧ va_P (dC, dI) vwCl [(h0, .inr (16, fs))] U.heap ∧ va_K (dC, dI) vwCl [(cI, .int), (cB, .byte), (cJ, .long), (cZ, .boolean)] U ∧ va_D (fun _ => True) [(h0, .inr (16, fs))])) (va_Qi (fun r (g : List Value) => r = 0 ∧ g[0]? = some (.int k)) (fun g t => va_P (dC, dI) vwCl [(h0, .inr (16, g))] t.heap ∧ va_D (va_A [(h0, .inr (16, fs))] sz) [(h0, .inr (16, g))]) (va_A [(h0, .inr (16, fs))] sz)) 0 0 (va_A [(h0, .inr (16, fs))] sz) := by
  refine Met.ofW (cc := cX13_fails) (maxL := 2) (ret := (some .int)) (by decide) rfl ?_
  intro p e s m args below meth c s₁ B hml hv
  obtain ⟨rfl, hsz, hP, hK, hD0⟩ := hv
  have hx := B.exec
  have hb := B.bytes
  have hr := B.returns
  have hts := atoms_spec (ws := wf_Mfails) B.pre
  have hown : s.vm.findClass RX13 = some m.cls := findClass_of_methodNamed B.named
  have hlocks := B.notSynchronized
  subst hsz
  have hD := hD0.self (sz := s.heap.size)
  generalize hAe : va_A [(h0, .inr (16, fs))] s.heap.size = A at hD ⊢
  have hA : ∀ q : Nat, s.heap.size ≤ q → A q := fun q h => by rw [← hAe]; exact Or.inr h
  have hS : va_S A s.heap s.heap [] := va_S.rf
  have hP : va_P (dC, dI) vwCl [(h0, .inr (16, fs))] s.heap := hP
  have hl := lv_entry ([.ref h0, .int k]) (n := 2) (Nat.le_of_ble_eq_true rfl)
  rw [lg_entry_eq]
  generalize (lg_sl ([.ref h0, .int k]) ++ List.replicate (2 - (lg_sl ([.ref h0, .int k])).length) Slot.unset).toArray = ls at hl ⊢
  have hl : lv_has ls 2 [(0, .ref h0), (1, .int k)] := hl
  refine ow_named (fun QQ hQQ => ?_)
  refine lv_aload_n hx hb dX13_fails_0 rfl (lv_at hl 0 rfl) ?_
  refine lv_iload_n hx hb dX13_fails_1 rfl (lv_at hl 1 rfl) ?_
  refine va_put (D := (dC, dI)) (ci := 16) (v := .int k) (ty := .int) (C := RX13) (T := TX13) (N := 120) hx hb hts (fun _ h => List.mem_cons_of_mem _ (List.mem_append_right _ h)) tyX13 tyX13_ok nmX13 hown hK hP hD hS 0 rfl rfl 0 (by decide) (hts (.fieldLink RX13 1 "KnotHouseModel" "thrown" "I") (by decide +kernel)) (fun _ h9 => h9) rfl (by decide +kernel) rfl rfl (by rw [hfs]; decide) dX13_fails_2 (fun H locs hP hD hS => ?_)
  obtain ⟨fs1, efs1⟩ : ∃ x, x = List.set fs 0 (.int k) := ⟨_, rfl⟩
  have hnfs1 : fs1.length = 120 := by rw [efs1, List.length_set]; exact hfs
  have hfs1_0 : fs1[0]? = some (.int k) := by rw [efs1]; exact List.getElem?_set_self (by rw [hfs]; decide)
  have hP : va_P (dC, dI) vwCl [(h0, .inr (16, fs1))] H := by rw [efs1]; exact hP
  have hD : va_D A [(h0, .inr (16, fs1))] := by rw [efs1]; exact hD
  refine lv_iconst (v := 0) hx hb dX13_fails_5 (by decide) ?_
  rw [hQQ]
  exact W.iret (v := 0) hx hb hr (fun t ht hW => ⟨⟨0, fs1, rfl, ⟨rfl, hfs1_0⟩, by rw [ht]; exact hP, hD⟩, hS.F ht⟩) hS.2.2 dX13_fails_6
