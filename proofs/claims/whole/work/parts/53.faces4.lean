/-! sides of faces: 2 v goes forward along the gap behind v, 2 v + 1 backward -/
def fc_end (N : Nat → Nat) (sd : Nat) : Nat := if sd % 2 = 0 then N (sd / 2) else sd / 2
def fc_on (S : ow_NP) (G : Nat → Int32) (sd : Nat) : Nat :=
  if (decide (fc_end S.1 sd % 2 = 0) == decide (0 < G (fc_end S.1 sd / 2))) == decide (sd % 2 = 0) then 2 * mt (fc_end S.1 sd) else 2 * S.2 (mt (fc_end S.1 sd)) + 1
theorem fc_end_lt {S : ow_NP} (h : ow_b24 S) {sd : Nat} (hs : sd < 48) : fc_end S.1 sd < 24 := by
  unfold fc_end
  split
  · exact h.1 _
  · omega
theorem mt_24 {q : Nat} (h : q < 24) : mt q < 24 := mt_lt (c := 12) h
theorem fc_on_lt {S : ow_NP} (h : ow_b24 S) (G : Nat → Int32) {sd : Nat} (hs : sd < 48) : fc_on S G sd < 48 := by
  unfold fc_on
  split
  · have := mt_24 (fc_end_lt h hs)
    omega
  · have := h.2 (mt (fc_end S.1 sd))
    omega
theorem dgX4_endOf_0 : decode cX4_endOf 0 = .ok (.iload_n 1, 1) := by decide +kernel
theorem dgX4_endOf_1 : decode cX4_endOf 1 = .ok (.iconst 1, 1) := by decide +kernel
theorem dgX4_endOf_2 : decode cX4_endOf 2 = .ok (.iand, 1) := by decide +kernel
theorem dgX4_endOf_3 : decode cX4_endOf 3 = .ok (.ifCond .ne 14, 3) := by decide +kernel
theorem dgX4_endOf_6 : decode cX4_endOf 6 = .ok (.aload_n 0, 1) := by decide +kernel
theorem dgX4_endOf_7 : decode cX4_endOf 7 = .ok (.getfield 34, 3) := by decide +kernel
theorem dgX4_endOf_10 : decode cX4_endOf 10 = .ok (.iload_n 1, 1) := by decide +kernel
theorem dgX4_endOf_11 : decode cX4_endOf 11 = .ok (.iconst 1, 1) := by decide +kernel
theorem dgX4_endOf_12 : decode cX4_endOf 12 = .ok (.ishr, 1) := by decide +kernel
theorem dgX4_endOf_13 : decode cX4_endOf 13 = .ok (.iaload, 1) := by decide +kernel
theorem dgX4_endOf_14 : decode cX4_endOf 14 = .ok (.goto 6, 3) := by decide +kernel
theorem dgX4_endOf_17 : decode cX4_endOf 17 = .ok (.iload_n 1, 1) := by decide +kernel
theorem dgX4_endOf_18 : decode cX4_endOf 18 = .ok (.iconst 1, 1) := by decide +kernel
theorem dgX4_endOf_19 : decode cX4_endOf 19 = .ok (.ishr, 1) := by decide +kernel
theorem dgX4_endOf_20 : decode cX4_endOf 20 = .ok (.ireturn, 1) := by decide +kernel
def wg_X4_endOf : List Cond := .code yX4_endOf cX4_endOf 2 (some .int) :: (([.fieldLink RX4 34 "KnotHouse$Net" "next" "[I"] ++ wsX70) ++ [])
set_option maxHeartbeats 4000000 in
set_option maxRecDepth 100000 in
theorem kg_X4_endOf (l : Launch) (dC : Nat → ClassId) (dI : Nat → Nat → Nat) (cI cB cJ cZ : ClassId) (aX : Nat) (nx : Nat → Nat) (x7 x8 x9 x10 : Int32) (S : ow_NP) (hS0 : ow_b24 S) (sd : Nat) (hsd : sd < 48) : Met l yX4_endOf wg_X4_endOf (({ frames := 0, cells := 0, slots := 0, locals := 0 } : Room)) (va_Pc [.ref aX, .int (nI sd)] (fun U => va_P (dC, dI) vwCl [(aX, .inr (10, [.ref (nx 0), .ref (nx 1), .ref (nx 2), .ref (nx 3), .ref (nx 4), .ref (nx 5), .ref (nx 6), .int x7, .int x8, .int x9, .int x10])), ((nx 0), .inl (cI, 24, .inl (ow_nI S.1)))] U.heap ∧ va_K (dC, dI) vwCl [(cI, .int), (cB, .byte), (cJ, .long), (cZ, .boolean)] U)) (va_Qi (fun r (_ : Unit) => r = nI (fc_end S.1 sd)) (fun _ _ => True) (fun _ => False)) 0 0 (fun _ => False) := by
  refine Met.ofW (cc := cX4_endOf) (maxL := 2) (ret := (some .int)) (by decide) rfl ?_
  intro p e s m args below meth c s₁ B hml hv
  obtain ⟨rfl, hP, hK⟩ := hv
  have hx := B.exec
  have hb := B.bytes
  have hr := B.returns
  have hts := atoms_spec (ws := wg_X4_endOf) B.pre
  have hown : s.vm.findClass RX4 = some m.cls := findClass_of_methodNamed B.named
  have hlocks := B.notSynchronized
  have hS : va_S (fun _ => False) s.heap s.heap [] := va_S.rf
  have hP : va_P (dC, dI) vwCl [(aX, .inr (10, [.ref (nx 0), .ref (nx 1), .ref (nx 2), .ref (nx 3), .ref (nx 4), .ref (nx 5), .ref (nx 6), .int x7, .int x8, .int x9, .int x10])), ((nx 0), .inl (cI, 24, .inl (ow_nI S.1)))] s.heap := hP
  have hl := lv_entry ([.ref aX, .int (nI sd)]) (n := 2) (Nat.le_of_ble_eq_true rfl)
  rw [lg_entry_eq]
  generalize (lg_sl ([.ref aX, .int (nI sd)]) ++ List.replicate (2 - (lg_sl ([.ref aX, .int (nI sd)])).length) Slot.unset).toArray = ls at hl ⊢
  have hl : lv_has ls 2 [(0, .ref aX), (1, .int (nI sd))] := hl
  refine ow_named (fun QQ hQQ => ?_)
  refine lv_iload_n hx hb dgX4_endOf_0 rfl (lv_at hl 1 rfl) ?_
  refine lv_iconst (v := 1) hx hb dgX4_endOf_1 (by decide) ?_
  refine lv_iand hx hb dgX4_endOf_2 ?_
  refine ow_topi (y := nI (sd % 2)) (ow_and1 (n := sd) (by omega)) ?_
  rcases Nat.mod_two_eq_zero_or_one sd with h0 | h0
  · refine lv_if_ne (tgt := 17) hx hb dgX4_endOf_3 (by decide) (fun c9 => absurd c9 (not_not_intro (congrArg nI h0))) (fun _ => ?_)
    refine lv_aload_n hx hb dgX4_endOf_6 rfl (lv_at hl 0 rfl) ?_
    refine va_get (D := (dC, dI)) (ci := 10) (v := .ref (nx 0)) (C := RX7) (T := TX7) (N := 11) hx hb hts (fun _ h => List.mem_cons_of_mem _ (List.mem_append_left _ (List.mem_append_right _ h))) hown hK hP 0 rfl rfl 0 (by decide) (hts (.fieldLink RX4 34 "KnotHouse$Net" "next" "[I") (by decide +kernel)) (fun _ h9 => h9) rfl dgX4_endOf_7 ?_
    refine lv_iload_n hx hb dgX4_endOf_10 rfl (lv_at hl 1 rfl) ?_
    refine lv_iconst (v := 1) hx hb dgX4_endOf_11 (by decide) ?_
    refine lv_ishr hx hb dgX4_endOf_12 ?_
    refine ow_topi (y := nI (sd / 2)) (ow_shr1 (n := sd) (by omega)) ?_
    refine va_iald hx hb hK hP 1 0 rfl rfl (vp_in_nI (n := sd / 2) (N := 24) (by omega) (by decide)) dgX4_endOf_13 ?_
    refine ow_topi (y := nI (S.1 (sd / 2))) (ow_nI_at S.1 (Nat.lt_trans (m := 24) (by omega) (by decide))) ?_
    refine lv_goto (tgt := 20) hx hb dgX4_endOf_14 (by decide) ?_
    rw [hQQ]
    exact W.iret (v := (nI (S.1 (sd / 2)))) hx hb hr (fun t ht hW => ⟨⟨(nI (S.1 (sd / 2))), (), rfl, congrArg nI (if_pos h0).symm, trivial⟩, hS.F ht⟩) hS.2.2 dgX4_endOf_20
  · refine lv_if_ne (tgt := 17) hx hb dgX4_endOf_3 (by decide) (fun _ => ?_) (fun c9 => absurd c9 (by rw [h0]; decide))
    refine lv_iload_n hx hb dgX4_endOf_17 rfl (lv_at hl 1 rfl) ?_
    refine lv_iconst (v := 1) hx hb dgX4_endOf_18 (by decide) ?_
    refine lv_ishr hx hb dgX4_endOf_19 ?_
    refine ow_topi (y := nI (sd / 2)) (ow_shr1 (n := sd) (by omega)) ?_
    rw [hQQ]
    exact W.iret (v := (nI (sd / 2))) hx hb hr (fun t ht hW => ⟨⟨(nI (sd / 2)), (), rfl, congrArg nI (if_neg (by omega)).symm, trivial⟩, hS.F ht⟩) hS.2.2 dgX4_endOf_20
theorem dgX4_onward_0 : decode cX4_onward 0 = .ok (.iload_n 1, 1) := by decide +kernel
theorem dgX4_onward_1 : decode cX4_onward 1 = .ok (.iconst 1, 1) := by decide +kernel
theorem dgX4_onward_2 : decode cX4_onward 2 = .ok (.iand, 1) := by decide +kernel
theorem dgX4_onward_3 : decode cX4_onward 3 = .ok (.ifCond .ne 7, 3) := by decide +kernel
theorem dgX4_onward_6 : decode cX4_onward 6 = .ok (.iconst 1, 1) := by decide +kernel
theorem dgX4_onward_7 : decode cX4_onward 7 = .ok (.goto 4, 3) := by decide +kernel
theorem dgX4_onward_10 : decode cX4_onward 10 = .ok (.iconst 0, 1) := by decide +kernel
theorem dgX4_onward_11 : decode cX4_onward 11 = .ok (.istore_n 2, 1) := by decide +kernel
theorem dgX4_onward_12 : decode cX4_onward 12 = .ok (.iload_n 2, 1) := by decide +kernel
theorem dgX4_onward_13 : decode cX4_onward 13 = .ok (.ifCond .eq 14, 3) := by decide +kernel
theorem dgX4_onward_16 : decode cX4_onward 16 = .ok (.aload_n 0, 1) := by decide +kernel
theorem dgX4_onward_17 : decode cX4_onward 17 = .ok (.getfield 34, 3) := by decide +kernel
theorem dgX4_onward_20 : decode cX4_onward 20 = .ok (.iload_n 1, 1) := by decide +kernel
theorem dgX4_onward_21 : decode cX4_onward 21 = .ok (.iconst 1, 1) := by decide +kernel
theorem dgX4_onward_22 : decode cX4_onward 22 = .ok (.ishr, 1) := by decide +kernel
theorem dgX4_onward_23 : decode cX4_onward 23 = .ok (.iaload, 1) := by decide +kernel
theorem dgX4_onward_24 : decode cX4_onward 24 = .ok (.goto 6, 3) := by decide +kernel
theorem dgX4_onward_27 : decode cX4_onward 27 = .ok (.iload_n 1, 1) := by decide +kernel
theorem dgX4_onward_28 : decode cX4_onward 28 = .ok (.iconst 1, 1) := by decide +kernel
theorem dgX4_onward_29 : decode cX4_onward 29 = .ok (.ishr, 1) := by decide +kernel
theorem dgX4_onward_30 : decode cX4_onward 30 = .ok (.istore_n 3, 1) := by decide +kernel
theorem dgX4_onward_31 : decode cX4_onward 31 = .ok (.iload_n 3, 1) := by decide +kernel
theorem dgX4_onward_32 : decode cX4_onward 32 = .ok (.iconst 1, 1) := by decide +kernel
theorem dgX4_onward_33 : decode cX4_onward 33 = .ok (.ixor, 1) := by decide +kernel
theorem dgX4_onward_34 : decode cX4_onward 34 = .ok (.istore 4, 2) := by decide +kernel
theorem dgX4_onward_36 : decode cX4_onward 36 = .ok (.iload_n 3, 1) := by decide +kernel
theorem dgX4_onward_37 : decode cX4_onward 37 = .ok (.iconst 1, 1) := by decide +kernel
theorem dgX4_onward_38 : decode cX4_onward 38 = .ok (.iand, 1) := by decide +kernel
theorem dgX4_onward_39 : decode cX4_onward 39 = .ok (.ifCond .ne 7, 3) := by decide +kernel
theorem dgX4_onward_42 : decode cX4_onward 42 = .ok (.iconst 1, 1) := by decide +kernel
theorem dgX4_onward_43 : decode cX4_onward 43 = .ok (.goto 4, 3) := by decide +kernel
theorem dgX4_onward_46 : decode cX4_onward 46 = .ok (.iconst 0, 1) := by decide +kernel
theorem dgX4_onward_47 : decode cX4_onward 47 = .ok (.aload_n 0, 1) := by decide +kernel
theorem dgX4_onward_48 : decode cX4_onward 48 = .ok (.getfield 39, 3) := by decide +kernel
theorem dgX4_onward_51 : decode cX4_onward 51 = .ok (.iload_n 3, 1) := by decide +kernel
theorem dgX4_onward_52 : decode cX4_onward 52 = .ok (.iconst 1, 1) := by decide +kernel
theorem dgX4_onward_53 : decode cX4_onward 53 = .ok (.ishr, 1) := by decide +kernel
theorem dgX4_onward_54 : decode cX4_onward 54 = .ok (.iaload, 1) := by decide +kernel
theorem dgX4_onward_55 : decode cX4_onward 55 = .ok (.ifCond .le 7, 3) := by decide +kernel
theorem dgX4_onward_58 : decode cX4_onward 58 = .ok (.iconst 1, 1) := by decide +kernel
theorem dgX4_onward_59 : decode cX4_onward 59 = .ok (.goto 4, 3) := by decide +kernel
theorem dgX4_onward_62 : decode cX4_onward 62 = .ok (.iconst 0, 1) := by decide +kernel
theorem dgX4_onward_63 : decode cX4_onward 63 = .ok (.if_icmp .ne 7, 3) := by decide +kernel
theorem dgX4_onward_66 : decode cX4_onward 66 = .ok (.iconst 1, 1) := by decide +kernel
theorem dgX4_onward_67 : decode cX4_onward 67 = .ok (.goto 4, 3) := by decide +kernel
theorem dgX4_onward_70 : decode cX4_onward 70 = .ok (.iconst 0, 1) := by decide +kernel
theorem dgX4_onward_71 : decode cX4_onward 71 = .ok (.istore 5, 2) := by decide +kernel
theorem dgX4_onward_73 : decode cX4_onward 73 = .ok (.iload 5, 2) := by decide +kernel
theorem dgX4_onward_75 : decode cX4_onward 75 = .ok (.iload_n 2, 1) := by decide +kernel
theorem dgX4_onward_76 : decode cX4_onward 76 = .ok (.if_icmp .ne 10, 3) := by decide +kernel
theorem dgX4_onward_79 : decode cX4_onward 79 = .ok (.iconst 2, 1) := by decide +kernel
theorem dgX4_onward_80 : decode cX4_onward 80 = .ok (.iload 4, 2) := by decide +kernel
theorem dgX4_onward_82 : decode cX4_onward 82 = .ok (.imul, 1) := by decide +kernel
theorem dgX4_onward_83 : decode cX4_onward 83 = .ok (.goto 14, 3) := by decide +kernel
theorem dgX4_onward_86 : decode cX4_onward 86 = .ok (.iconst 2, 1) := by decide +kernel
theorem dgX4_onward_87 : decode cX4_onward 87 = .ok (.aload_n 0, 1) := by decide +kernel
theorem dgX4_onward_88 : decode cX4_onward 88 = .ok (.getfield 42, 3) := by decide +kernel
theorem dgX4_onward_91 : decode cX4_onward 91 = .ok (.iload 4, 2) := by decide +kernel
theorem dgX4_onward_93 : decode cX4_onward 93 = .ok (.iaload, 1) := by decide +kernel
theorem dgX4_onward_94 : decode cX4_onward 94 = .ok (.imul, 1) := by decide +kernel
theorem dgX4_onward_95 : decode cX4_onward 95 = .ok (.iconst 1, 1) := by decide +kernel
theorem dgX4_onward_96 : decode cX4_onward 96 = .ok (.iadd, 1) := by decide +kernel
theorem dgX4_onward_97 : decode cX4_onward 97 = .ok (.ireturn, 1) := by decide +kernel
def wg_X4_onward : List Cond := .code yX4_onward cX4_onward 6 (some .int) :: (([.fieldLink RX4 34 "KnotHouse$Net" "next" "[I", .fieldLink RX4 39 "KnotHouse$Net" "sign" "[I", .fieldLink RX4 42 "KnotHouse$Net" "prev" "[I"] ++ wsX70) ++ [])
set_option maxHeartbeats 4000000 in
set_option maxRecDepth 100000 in
theorem kg_X4_onward (l : Launch) (dC : Nat → ClassId) (dI : Nat → Nat → Nat) (cI cB cJ cZ : ClassId) (aX : Nat) (nx : Nat → Nat) (x7 x8 x9 x10 : Int32) (S : ow_NP) (hS0 : ow_b24 S) (G : Nat → Int32) (sd : Nat) (hsd : sd < 48) : Met l yX4_onward wg_X4_onward (({ frames := 0, cells := 0, slots := 0, locals := 0 } : Room)) (va_Pc [.ref aX, .int (nI sd)] (fun U => va_P (dC, dI) vwCl [(aX, .inr (10, [.ref (nx 0), .ref (nx 1), .ref (nx 2), .ref (nx 3), .ref (nx 4), .ref (nx 5), .ref (nx 6), .int x7, .int x8, .int x9, .int x10])), ((nx 0), .inl (cI, 24, .inl (ow_nI S.1))), ((nx 1), .inl (cI, 24, .inl (ow_nI S.2))), ((nx 2), .inl (cI, 12, .inl G))] U.heap ∧ va_K (dC, dI) vwCl [(cI, .int), (cB, .byte), (cJ, .long), (cZ, .boolean)] U)) (va_Qi (fun r (_ : Unit) => r = nI (fc_on S G sd)) (fun _ _ => True) (fun _ => False)) 0 0 (fun _ => False) := by
  refine Met.ofW (cc := cX4_onward) (maxL := 6) (ret := (some .int)) (by decide) rfl ?_
  intro p e s m args below meth c s₁ B hml hv
  obtain ⟨rfl, hP, hK⟩ := hv
  have hx := B.exec
  have hb := B.bytes
  have hr := B.returns
  have hts := atoms_spec (ws := wg_X4_onward) B.pre
  have hown : s.vm.findClass RX4 = some m.cls := findClass_of_methodNamed B.named
  have hlocks := B.notSynchronized
  have hS : va_S (fun _ => False) s.heap s.heap [] := va_S.rf
  have hP : va_P (dC, dI) vwCl [(aX, .inr (10, [.ref (nx 0), .ref (nx 1), .ref (nx 2), .ref (nx 3), .ref (nx 4), .ref (nx 5), .ref (nx 6), .int x7, .int x8, .int x9, .int x10])), ((nx 0), .inl (cI, 24, .inl (ow_nI S.1))), ((nx 1), .inl (cI, 24, .inl (ow_nI S.2))), ((nx 2), .inl (cI, 12, .inl G))] s.heap := hP
  have hl := lv_entry ([.ref aX, .int (nI sd)]) (n := 6) (Nat.le_of_ble_eq_true rfl)
  rw [lg_entry_eq]
  generalize (lg_sl ([.ref aX, .int (nI sd)]) ++ List.replicate (6 - (lg_sl ([.ref aX, .int (nI sd)])).length) Slot.unset).toArray = ls at hl ⊢
  have hl : lv_has ls 6 [(0, .ref aX), (1, .int (nI sd))] := hl
  refine ow_named (fun QQ hQQ => ?_)
  refine lv_iload_n hx hb dgX4_onward_0 rfl (lv_at hl 1 rfl) ?_
  refine lv_iconst (v := 1) hx hb dgX4_onward_1 (by decide) ?_
  refine lv_iand hx hb dgX4_onward_2 ?_
  refine ow_topi (y := nI (sd % 2)) (ow_and1 (n := sd) (by omega)) ?_
  rcases Nat.mod_two_eq_zero_or_one sd with h0 | h0
  · refine lv_if_ne (tgt := 10) hx hb dgX4_onward_3 (by decide) (fun c9 => absurd c9 (not_not_intro (congrArg nI h0))) (fun _ => ?_)
    refine lv_iconst (v := 1) hx hb dgX4_onward_6 (by decide) ?_
    refine lv_goto (tgt := 11) hx hb dgX4_onward_7 (by decide) ?_
    refine lv_istore_n (lv' := [(2, .int 1), (0, .ref aX), (1, .int (nI sd))]) hx hb dgX4_onward_11 rfl hl (by decide) rfl (fun ls hl => ?_)
    refine lv_iload_n hx hb dgX4_onward_12 rfl (lv_at hl 0 rfl) ?_
    refine lv_if_eq (tgt := 27) hx hb dgX4_onward_13 (by decide) (fun c9 => absurd c9 (by decide)) (fun _ => ?_)
    refine lv_aload_n hx hb dgX4_onward_16 rfl (lv_at hl 1 rfl) ?_
    refine va_get (D := (dC, dI)) (ci := 10) (v := .ref (nx 0)) (C := RX7) (T := TX7) (N := 11) hx hb hts (fun _ h => List.mem_cons_of_mem _ (List.mem_append_left _ (List.mem_append_right _ h))) hown hK hP 0 rfl rfl 0 (by decide) (hts (.fieldLink RX4 34 "KnotHouse$Net" "next" "[I") (by decide +kernel)) (fun _ h9 => h9) rfl dgX4_onward_17 ?_
    refine lv_iload_n hx hb dgX4_onward_20 rfl (lv_at hl 2 rfl) ?_
    refine lv_iconst (v := 1) hx hb dgX4_onward_21 (by decide) ?_
    refine lv_ishr hx hb dgX4_onward_22 ?_
    refine ow_topi (y := nI (sd / 2)) (ow_shr1 (n := sd) (by omega)) ?_
    refine va_iald hx hb hK hP 1 0 rfl rfl (vp_in_nI (n := sd / 2) (N := 24) (by omega) (by decide)) dgX4_onward_23 ?_
    refine ow_topi (y := nI (S.1 (sd / 2))) (ow_nI_at S.1 (Nat.lt_trans (m := 24) (by omega) (by decide))) ?_
    refine lv_goto (tgt := 30) hx hb dgX4_onward_24 (by decide) ?_
    have hV : fc_end S.1 sd = S.1 (sd / 2) := if_pos h0
    have hVl := fc_end_lt hS0 hsd
    rw [hV] at hVl
    obtain ⟨V, hVe⟩ : ∃ V, V = S.1 (sd / 2) := ⟨_, rfl⟩
    rw [← hVe] at hV hVl
    refine ow_topi (y := nI V) (congrArg nI hVe.symm) ?_
    have hmV := mt_24 hVl
    refine lv_istore_n (lv' := [(3, .int (nI V)), (2, .int 1), (0, .ref aX), (1, .int (nI sd))]) hx hb dgX4_onward_30 rfl hl (by decide) rfl (fun ls hl => ?_)
    refine lv_iload_n hx hb dgX4_onward_31 rfl (lv_at hl 0 rfl) ?_
    refine lv_iconst (v := 1) hx hb dgX4_onward_32 (by decide) ?_
    refine lv_ixor hx hb dgX4_onward_33 ?_
    refine ow_topi (y := nI (mt V)) (mt_xor hVl) ?_
    refine lv_istore (lv' := [(4, .int (nI (mt V))), (3, .int (nI V)), (2, .int 1), (0, .ref aX), (1, .int (nI sd))]) hx hb dgX4_onward_34 hl (by decide) rfl (fun ls hl => ?_)
    refine lv_iload_n hx hb dgX4_onward_36 rfl (lv_at hl 1 rfl) ?_
    refine lv_iconst (v := 1) hx hb dgX4_onward_37 (by decide) ?_
    refine lv_iand hx hb dgX4_onward_38 ?_
    refine ow_topi (y := nI (V % 2)) (ow_and1 (n := V) (by omega)) ?_
    rcases Nat.mod_two_eq_zero_or_one V with h1 | h1
    · refine lv_if_ne (tgt := 46) hx hb dgX4_onward_39 (by decide) (fun c9 => absurd c9 (not_not_intro (congrArg nI h1))) (fun _ => ?_)
      refine lv_iconst (v := 1) hx hb dgX4_onward_42 (by decide) ?_
      refine lv_goto (tgt := 47) hx hb dgX4_onward_43 (by decide) ?_
      refine lv_aload_n hx hb dgX4_onward_47 rfl (lv_at hl 3 rfl) ?_
      refine va_get (D := (dC, dI)) (ci := 10) (v := .ref (nx 2)) (C := RX7) (T := TX7) (N := 11) hx hb hts (fun _ h => List.mem_cons_of_mem _ (List.mem_append_left _ (List.mem_append_right _ h))) hown hK hP 0 rfl rfl 2 (by decide) (hts (.fieldLink RX4 39 "KnotHouse$Net" "sign" "[I") (by decide +kernel)) (fun _ h9 => h9) rfl dgX4_onward_48 ?_
      refine lv_iload_n hx hb dgX4_onward_51 rfl (lv_at hl 1 rfl) ?_
      refine lv_iconst (v := 1) hx hb dgX4_onward_52 (by decide) ?_
      refine lv_ishr hx hb dgX4_onward_53 ?_
      refine ow_topi (y := nI (V / 2)) (ow_shr1 (n := V) (by omega)) ?_
      refine va_iald hx hb hK hP 3 0 rfl rfl (vp_in_nI (n := V / 2) (N := 12) (by omega) (by decide)) dgX4_onward_54 ?_
      refine ow_topi (y := G (V / 2)) (congrArg G (nI_clamp (n := V / 2) (Nat.lt_trans (m := 12) (by omega) (by decide)))) ?_
      rcases Decidable.em (0 < G (V / 2)) with h2 | h2
      · refine lv_if_le (tgt := 62) hx hb dgX4_onward_55 (by decide) (fun c9 => absurd c9 (Int32.not_le.mpr h2)) (fun _ => ?_)
        refine lv_iconst (v := 1) hx hb dgX4_onward_58 (by decide) ?_
        refine lv_goto (tgt := 63) hx hb dgX4_onward_59 (by decide) ?_
        refine lv_icmp_ne (tgt := 70) hx hb dgX4_onward_63 (by decide) (fun c9 => absurd c9 (by decide)) (fun _ => ?_)
        refine lv_iconst (v := 1) hx hb dgX4_onward_66 (by decide) ?_
        refine lv_goto (tgt := 71) hx hb dgX4_onward_67 (by decide) ?_
        refine lv_istore (lv' := [(5, .int 1), (4, .int (nI (mt V))), (3, .int (nI V)), (2, .int 1), (0, .ref aX), (1, .int (nI sd))]) hx hb dgX4_onward_71 hl (by decide) rfl (fun ls hl => ?_)
        refine lv_iload hx hb dgX4_onward_73 (lv_at hl 0 rfl) ?_
        refine lv_iload_n hx hb dgX4_onward_75 rfl (lv_at hl 3 rfl) ?_
        refine lv_icmp_ne (tgt := 86) hx hb dgX4_onward_76 (by decide) (fun c9 => absurd c9 (by decide)) (fun _ => ?_)
        refine lv_iconst (v := 2) hx hb dgX4_onward_79 (by decide) ?_
        refine lv_iload hx hb dgX4_onward_80 (lv_at hl 1 rfl) ?_
        refine lv_imul hx hb dgX4_onward_82 ?_
        refine ow_topi (y := nI (2 * (mt V))) (pk_mul 2 (mt V)) ?_
        refine lv_goto (tgt := 97) hx hb dgX4_onward_83 (by decide) ?_
        rw [hQQ]
        exact W.iret (v := (nI (2 * (mt V)))) hx hb hr (fun t ht hW => ⟨⟨(nI (2 * (mt V))), (), rfl, congrArg nI (by simp [fc_on, hV, h0, h1, h2]), trivial⟩, hS.F ht⟩) hS.2.2 dgX4_onward_97
      · refine lv_if_le (tgt := 62) hx hb dgX4_onward_55 (by decide) (fun _ => ?_) (fun c9 => absurd (Int32.not_lt.mp h2) c9)
        refine lv_iconst (v := 0) hx hb dgX4_onward_62 (by decide) ?_
        refine lv_icmp_ne (tgt := 70) hx hb dgX4_onward_63 (by decide) (fun _ => ?_) (fun c9 => absurd c9 (by decide))
        refine lv_iconst (v := 0) hx hb dgX4_onward_70 (by decide) ?_
        refine lv_istore (lv' := [(5, .int 0), (4, .int (nI (mt V))), (3, .int (nI V)), (2, .int 1), (0, .ref aX), (1, .int (nI sd))]) hx hb dgX4_onward_71 hl (by decide) rfl (fun ls hl => ?_)
        refine lv_iload hx hb dgX4_onward_73 (lv_at hl 0 rfl) ?_
        refine lv_iload_n hx hb dgX4_onward_75 rfl (lv_at hl 3 rfl) ?_
        refine lv_icmp_ne (tgt := 86) hx hb dgX4_onward_76 (by decide) (fun _ => ?_) (fun c9 => absurd c9 (by decide))
        refine lv_iconst (v := 2) hx hb dgX4_onward_86 (by decide) ?_
        refine lv_aload_n hx hb dgX4_onward_87 rfl (lv_at hl 4 rfl) ?_
        refine va_get (D := (dC, dI)) (ci := 10) (v := .ref (nx 1)) (C := RX7) (T := TX7) (N := 11) hx hb hts (fun _ h => List.mem_cons_of_mem _ (List.mem_append_left _ (List.mem_append_right _ h))) hown hK hP 0 rfl rfl 1 (by decide) (hts (.fieldLink RX4 42 "KnotHouse$Net" "prev" "[I") (by decide +kernel)) (fun _ h9 => h9) rfl dgX4_onward_88 ?_
        refine lv_iload hx hb dgX4_onward_91 (lv_at hl 1 rfl) ?_
        refine va_iald hx hb hK hP 2 0 rfl rfl (vp_in_nI (n := mt V) (N := 24) hmV (by decide)) dgX4_onward_93 ?_
        refine ow_topi (y := nI (S.2 (mt V))) (ow_nI_at S.2 (Nat.lt_trans (m := 24) hmV (by decide))) ?_
        refine lv_imul hx hb dgX4_onward_94 ?_
        refine ow_topi (y := nI (2 * (S.2 (mt V)))) (pk_mul 2 (S.2 (mt V))) ?_
        refine lv_iconst (v := 1) hx hb dgX4_onward_95 (by decide) ?_
        refine lv_iadd hx hb dgX4_onward_96 ?_
        refine ow_topi (y := nI (2 * S.2 (mt V) + 1)) (nI_1 (2 * S.2 (mt V))) ?_
        rw [hQQ]
        exact W.iret (v := (nI (2 * S.2 (mt V) + 1))) hx hb hr (fun t ht hW => ⟨⟨(nI (2 * S.2 (mt V) + 1)), (), rfl, congrArg nI (by simp [fc_on, hV, h0, h1, h2]), trivial⟩, hS.F ht⟩) hS.2.2 dgX4_onward_97
    · refine lv_if_ne (tgt := 46) hx hb dgX4_onward_39 (by decide) (fun _ => ?_) (fun c9 => absurd c9 (by rw [h1]; decide))
      refine lv_iconst (v := 0) hx hb dgX4_onward_46 (by decide) ?_
      refine lv_aload_n hx hb dgX4_onward_47 rfl (lv_at hl 3 rfl) ?_
      refine va_get (D := (dC, dI)) (ci := 10) (v := .ref (nx 2)) (C := RX7) (T := TX7) (N := 11) hx hb hts (fun _ h => List.mem_cons_of_mem _ (List.mem_append_left _ (List.mem_append_right _ h))) hown hK hP 0 rfl rfl 2 (by decide) (hts (.fieldLink RX4 39 "KnotHouse$Net" "sign" "[I") (by decide +kernel)) (fun _ h9 => h9) rfl dgX4_onward_48 ?_
      refine lv_iload_n hx hb dgX4_onward_51 rfl (lv_at hl 1 rfl) ?_
      refine lv_iconst (v := 1) hx hb dgX4_onward_52 (by decide) ?_
      refine lv_ishr hx hb dgX4_onward_53 ?_
      refine ow_topi (y := nI (V / 2)) (ow_shr1 (n := V) (by omega)) ?_
      refine va_iald hx hb hK hP 3 0 rfl rfl (vp_in_nI (n := V / 2) (N := 12) (by omega) (by decide)) dgX4_onward_54 ?_
      refine ow_topi (y := G (V / 2)) (congrArg G (nI_clamp (n := V / 2) (Nat.lt_trans (m := 12) (by omega) (by decide)))) ?_
      rcases Decidable.em (0 < G (V / 2)) with h2 | h2
      · refine lv_if_le (tgt := 62) hx hb dgX4_onward_55 (by decide) (fun c9 => absurd c9 (Int32.not_le.mpr h2)) (fun _ => ?_)
        refine lv_iconst (v := 1) hx hb dgX4_onward_58 (by decide) ?_
        refine lv_goto (tgt := 63) hx hb dgX4_onward_59 (by decide) ?_
        refine lv_icmp_ne (tgt := 70) hx hb dgX4_onward_63 (by decide) (fun _ => ?_) (fun c9 => absurd c9 (by decide))
        refine lv_iconst (v := 0) hx hb dgX4_onward_70 (by decide) ?_
        refine lv_istore (lv' := [(5, .int 0), (4, .int (nI (mt V))), (3, .int (nI V)), (2, .int 1), (0, .ref aX), (1, .int (nI sd))]) hx hb dgX4_onward_71 hl (by decide) rfl (fun ls hl => ?_)
        refine lv_iload hx hb dgX4_onward_73 (lv_at hl 0 rfl) ?_
        refine lv_iload_n hx hb dgX4_onward_75 rfl (lv_at hl 3 rfl) ?_
        refine lv_icmp_ne (tgt := 86) hx hb dgX4_onward_76 (by decide) (fun _ => ?_) (fun c9 => absurd c9 (by decide))
        refine lv_iconst (v := 2) hx hb dgX4_onward_86 (by decide) ?_
        refine lv_aload_n hx hb dgX4_onward_87 rfl (lv_at hl 4 rfl) ?_
        refine va_get (D := (dC, dI)) (ci := 10) (v := .ref (nx 1)) (C := RX7) (T := TX7) (N := 11) hx hb hts (fun _ h => List.mem_cons_of_mem _ (List.mem_append_left _ (List.mem_append_right _ h))) hown hK hP 0 rfl rfl 1 (by decide) (hts (.fieldLink RX4 42 "KnotHouse$Net" "prev" "[I") (by decide +kernel)) (fun _ h9 => h9) rfl dgX4_onward_88 ?_
        refine lv_iload hx hb dgX4_onward_91 (lv_at hl 1 rfl) ?_
        refine va_iald hx hb hK hP 2 0 rfl rfl (vp_in_nI (n := mt V) (N := 24) hmV (by decide)) dgX4_onward_93 ?_
        refine ow_topi (y := nI (S.2 (mt V))) (ow_nI_at S.2 (Nat.lt_trans (m := 24) hmV (by decide))) ?_
        refine lv_imul hx hb dgX4_onward_94 ?_
        refine ow_topi (y := nI (2 * (S.2 (mt V)))) (pk_mul 2 (S.2 (mt V))) ?_
        refine lv_iconst (v := 1) hx hb dgX4_onward_95 (by decide) ?_
        refine lv_iadd hx hb dgX4_onward_96 ?_
        refine ow_topi (y := nI (2 * S.2 (mt V) + 1)) (nI_1 (2 * S.2 (mt V))) ?_
        rw [hQQ]
        exact W.iret (v := (nI (2 * S.2 (mt V) + 1))) hx hb hr (fun t ht hW => ⟨⟨(nI (2 * S.2 (mt V) + 1)), (), rfl, congrArg nI (by simp [fc_on, hV, h0, h1, h2]), trivial⟩, hS.F ht⟩) hS.2.2 dgX4_onward_97
      · refine lv_if_le (tgt := 62) hx hb dgX4_onward_55 (by decide) (fun _ => ?_) (fun c9 => absurd (Int32.not_lt.mp h2) c9)
        refine lv_iconst (v := 0) hx hb dgX4_onward_62 (by decide) ?_
        refine lv_icmp_ne (tgt := 70) hx hb dgX4_onward_63 (by decide) (fun c9 => absurd c9 (by decide)) (fun _ => ?_)
        refine lv_iconst (v := 1) hx hb dgX4_onward_66 (by decide) ?_
        refine lv_goto (tgt := 71) hx hb dgX4_onward_67 (by decide) ?_
        refine lv_istore (lv' := [(5, .int 1), (4, .int (nI (mt V))), (3, .int (nI V)), (2, .int 1), (0, .ref aX), (1, .int (nI sd))]) hx hb dgX4_onward_71 hl (by decide) rfl (fun ls hl => ?_)
        refine lv_iload hx hb dgX4_onward_73 (lv_at hl 0 rfl) ?_
        refine lv_iload_n hx hb dgX4_onward_75 rfl (lv_at hl 3 rfl) ?_
        refine lv_icmp_ne (tgt := 86) hx hb dgX4_onward_76 (by decide) (fun c9 => absurd c9 (by decide)) (fun _ => ?_)
        refine lv_iconst (v := 2) hx hb dgX4_onward_79 (by decide) ?_
        refine lv_iload hx hb dgX4_onward_80 (lv_at hl 1 rfl) ?_
        refine lv_imul hx hb dgX4_onward_82 ?_
        refine ow_topi (y := nI (2 * (mt V))) (pk_mul 2 (mt V)) ?_
        refine lv_goto (tgt := 97) hx hb dgX4_onward_83 (by decide) ?_
        rw [hQQ]
        exact W.iret (v := (nI (2 * (mt V)))) hx hb hr (fun t ht hW => ⟨⟨(nI (2 * (mt V))), (), rfl, congrArg nI (by simp [fc_on, hV, h0, h1, h2]), trivial⟩, hS.F ht⟩) hS.2.2 dgX4_onward_97
  · refine lv_if_ne (tgt := 10) hx hb dgX4_onward_3 (by decide) (fun _ => ?_) (fun c9 => absurd c9 (by rw [h0]; decide))
    refine lv_iconst (v := 0) hx hb dgX4_onward_10 (by decide) ?_
    refine lv_istore_n (lv' := [(2, .int 0), (0, .ref aX), (1, .int (nI sd))]) hx hb dgX4_onward_11 rfl hl (by decide) rfl (fun ls hl => ?_)
    refine lv_iload_n hx hb dgX4_onward_12 rfl (lv_at hl 0 rfl) ?_
    refine lv_if_eq (tgt := 27) hx hb dgX4_onward_13 (by decide) (fun _ => ?_) (fun c9 => absurd (by decide) c9)
    refine lv_iload_n hx hb dgX4_onward_27 rfl (lv_at hl 2 rfl) ?_
    refine lv_iconst (v := 1) hx hb dgX4_onward_28 (by decide) ?_
    refine lv_ishr hx hb dgX4_onward_29 ?_
    refine ow_topi (y := nI (sd / 2)) (ow_shr1 (n := sd) (by omega)) ?_
    have hV : fc_end S.1 sd = sd / 2 := if_neg (by omega)
    have hVl := fc_end_lt hS0 hsd
    rw [hV] at hVl
    obtain ⟨V, hVe⟩ : ∃ V, V = sd / 2 := ⟨_, rfl⟩
    rw [← hVe] at hV hVl
    refine ow_topi (y := nI V) (congrArg nI hVe.symm) ?_
    have hmV := mt_24 hVl
    refine lv_istore_n (lv' := [(3, .int (nI V)), (2, .int 0), (0, .ref aX), (1, .int (nI sd))]) hx hb dgX4_onward_30 rfl hl (by decide) rfl (fun ls hl => ?_)
    refine lv_iload_n hx hb dgX4_onward_31 rfl (lv_at hl 0 rfl) ?_
    refine lv_iconst (v := 1) hx hb dgX4_onward_32 (by decide) ?_
    refine lv_ixor hx hb dgX4_onward_33 ?_
    refine ow_topi (y := nI (mt V)) (mt_xor hVl) ?_
    refine lv_istore (lv' := [(4, .int (nI (mt V))), (3, .int (nI V)), (2, .int 0), (0, .ref aX), (1, .int (nI sd))]) hx hb dgX4_onward_34 hl (by decide) rfl (fun ls hl => ?_)
    refine lv_iload_n hx hb dgX4_onward_36 rfl (lv_at hl 1 rfl) ?_
    refine lv_iconst (v := 1) hx hb dgX4_onward_37 (by decide) ?_
    refine lv_iand hx hb dgX4_onward_38 ?_
    refine ow_topi (y := nI (V % 2)) (ow_and1 (n := V) (by omega)) ?_
    rcases Nat.mod_two_eq_zero_or_one V with h1 | h1
    · refine lv_if_ne (tgt := 46) hx hb dgX4_onward_39 (by decide) (fun c9 => absurd c9 (not_not_intro (congrArg nI h1))) (fun _ => ?_)
      refine lv_iconst (v := 1) hx hb dgX4_onward_42 (by decide) ?_
      refine lv_goto (tgt := 47) hx hb dgX4_onward_43 (by decide) ?_
      refine lv_aload_n hx hb dgX4_onward_47 rfl (lv_at hl 3 rfl) ?_
      refine va_get (D := (dC, dI)) (ci := 10) (v := .ref (nx 2)) (C := RX7) (T := TX7) (N := 11) hx hb hts (fun _ h => List.mem_cons_of_mem _ (List.mem_append_left _ (List.mem_append_right _ h))) hown hK hP 0 rfl rfl 2 (by decide) (hts (.fieldLink RX4 39 "KnotHouse$Net" "sign" "[I") (by decide +kernel)) (fun _ h9 => h9) rfl dgX4_onward_48 ?_
      refine lv_iload_n hx hb dgX4_onward_51 rfl (lv_at hl 1 rfl) ?_
      refine lv_iconst (v := 1) hx hb dgX4_onward_52 (by decide) ?_
      refine lv_ishr hx hb dgX4_onward_53 ?_
      refine ow_topi (y := nI (V / 2)) (ow_shr1 (n := V) (by omega)) ?_
      refine va_iald hx hb hK hP 3 0 rfl rfl (vp_in_nI (n := V / 2) (N := 12) (by omega) (by decide)) dgX4_onward_54 ?_
      refine ow_topi (y := G (V / 2)) (congrArg G (nI_clamp (n := V / 2) (Nat.lt_trans (m := 12) (by omega) (by decide)))) ?_
      rcases Decidable.em (0 < G (V / 2)) with h2 | h2
      · refine lv_if_le (tgt := 62) hx hb dgX4_onward_55 (by decide) (fun c9 => absurd c9 (Int32.not_le.mpr h2)) (fun _ => ?_)
        refine lv_iconst (v := 1) hx hb dgX4_onward_58 (by decide) ?_
        refine lv_goto (tgt := 63) hx hb dgX4_onward_59 (by decide) ?_
        refine lv_icmp_ne (tgt := 70) hx hb dgX4_onward_63 (by decide) (fun c9 => absurd c9 (by decide)) (fun _ => ?_)
        refine lv_iconst (v := 1) hx hb dgX4_onward_66 (by decide) ?_
        refine lv_goto (tgt := 71) hx hb dgX4_onward_67 (by decide) ?_
        refine lv_istore (lv' := [(5, .int 1), (4, .int (nI (mt V))), (3, .int (nI V)), (2, .int 0), (0, .ref aX), (1, .int (nI sd))]) hx hb dgX4_onward_71 hl (by decide) rfl (fun ls hl => ?_)
        refine lv_iload hx hb dgX4_onward_73 (lv_at hl 0 rfl) ?_
        refine lv_iload_n hx hb dgX4_onward_75 rfl (lv_at hl 3 rfl) ?_
        refine lv_icmp_ne (tgt := 86) hx hb dgX4_onward_76 (by decide) (fun _ => ?_) (fun c9 => absurd c9 (by decide))
        refine lv_iconst (v := 2) hx hb dgX4_onward_86 (by decide) ?_
        refine lv_aload_n hx hb dgX4_onward_87 rfl (lv_at hl 4 rfl) ?_
        refine va_get (D := (dC, dI)) (ci := 10) (v := .ref (nx 1)) (C := RX7) (T := TX7) (N := 11) hx hb hts (fun _ h => List.mem_cons_of_mem _ (List.mem_append_left _ (List.mem_append_right _ h))) hown hK hP 0 rfl rfl 1 (by decide) (hts (.fieldLink RX4 42 "KnotHouse$Net" "prev" "[I") (by decide +kernel)) (fun _ h9 => h9) rfl dgX4_onward_88 ?_
        refine lv_iload hx hb dgX4_onward_91 (lv_at hl 1 rfl) ?_
        refine va_iald hx hb hK hP 2 0 rfl rfl (vp_in_nI (n := mt V) (N := 24) hmV (by decide)) dgX4_onward_93 ?_
        refine ow_topi (y := nI (S.2 (mt V))) (ow_nI_at S.2 (Nat.lt_trans (m := 24) hmV (by decide))) ?_
        refine lv_imul hx hb dgX4_onward_94 ?_
        refine ow_topi (y := nI (2 * (S.2 (mt V)))) (pk_mul 2 (S.2 (mt V))) ?_
        refine lv_iconst (v := 1) hx hb dgX4_onward_95 (by decide) ?_
        refine lv_iadd hx hb dgX4_onward_96 ?_
        refine ow_topi (y := nI (2 * S.2 (mt V) + 1)) (nI_1 (2 * S.2 (mt V))) ?_
        rw [hQQ]
        exact W.iret (v := (nI (2 * S.2 (mt V) + 1))) hx hb hr (fun t ht hW => ⟨⟨(nI (2 * S.2 (mt V) + 1)), (), rfl, congrArg nI (by simp [fc_on, hV, h0, h1, h2]), trivial⟩, hS.F ht⟩) hS.2.2 dgX4_onward_97
      · refine lv_if_le (tgt := 62) hx hb dgX4_onward_55 (by decide) (fun _ => ?_) (fun c9 => absurd (Int32.not_lt.mp h2) c9)
        refine lv_iconst (v := 0) hx hb dgX4_onward_62 (by decide) ?_
        refine lv_icmp_ne (tgt := 70) hx hb dgX4_onward_63 (by decide) (fun _ => ?_) (fun c9 => absurd c9 (by decide))
        refine lv_iconst (v := 0) hx hb dgX4_onward_70 (by decide) ?_
        refine lv_istore (lv' := [(5, .int 0), (4, .int (nI (mt V))), (3, .int (nI V)), (2, .int 0), (0, .ref aX), (1, .int (nI sd))]) hx hb dgX4_onward_71 hl (by decide) rfl (fun ls hl => ?_)
        refine lv_iload hx hb dgX4_onward_73 (lv_at hl 0 rfl) ?_
        refine lv_iload_n hx hb dgX4_onward_75 rfl (lv_at hl 3 rfl) ?_
        refine lv_icmp_ne (tgt := 86) hx hb dgX4_onward_76 (by decide) (fun c9 => absurd c9 (by decide)) (fun _ => ?_)
        refine lv_iconst (v := 2) hx hb dgX4_onward_79 (by decide) ?_
        refine lv_iload hx hb dgX4_onward_80 (lv_at hl 1 rfl) ?_
        refine lv_imul hx hb dgX4_onward_82 ?_
        refine ow_topi (y := nI (2 * (mt V))) (pk_mul 2 (mt V)) ?_
        refine lv_goto (tgt := 97) hx hb dgX4_onward_83 (by decide) ?_
        rw [hQQ]
        exact W.iret (v := (nI (2 * (mt V)))) hx hb hr (fun t ht hW => ⟨⟨(nI (2 * (mt V))), (), rfl, congrArg nI (by simp [fc_on, hV, h0, h1, h2]), trivial⟩, hS.F ht⟩) hS.2.2 dgX4_onward_97
    · refine lv_if_ne (tgt := 46) hx hb dgX4_onward_39 (by decide) (fun _ => ?_) (fun c9 => absurd c9 (by rw [h1]; decide))
      refine lv_iconst (v := 0) hx hb dgX4_onward_46 (by decide) ?_
      refine lv_aload_n hx hb dgX4_onward_47 rfl (lv_at hl 3 rfl) ?_
      refine va_get (D := (dC, dI)) (ci := 10) (v := .ref (nx 2)) (C := RX7) (T := TX7) (N := 11) hx hb hts (fun _ h => List.mem_cons_of_mem _ (List.mem_append_left _ (List.mem_append_right _ h))) hown hK hP 0 rfl rfl 2 (by decide) (hts (.fieldLink RX4 39 "KnotHouse$Net" "sign" "[I") (by decide +kernel)) (fun _ h9 => h9) rfl dgX4_onward_48 ?_
      refine lv_iload_n hx hb dgX4_onward_51 rfl (lv_at hl 1 rfl) ?_
      refine lv_iconst (v := 1) hx hb dgX4_onward_52 (by decide) ?_
      refine lv_ishr hx hb dgX4_onward_53 ?_
      refine ow_topi (y := nI (V / 2)) (ow_shr1 (n := V) (by omega)) ?_
      refine va_iald hx hb hK hP 3 0 rfl rfl (vp_in_nI (n := V / 2) (N := 12) (by omega) (by decide)) dgX4_onward_54 ?_
      refine ow_topi (y := G (V / 2)) (congrArg G (nI_clamp (n := V / 2) (Nat.lt_trans (m := 12) (by omega) (by decide)))) ?_
      rcases Decidable.em (0 < G (V / 2)) with h2 | h2
      · refine lv_if_le (tgt := 62) hx hb dgX4_onward_55 (by decide) (fun c9 => absurd c9 (Int32.not_le.mpr h2)) (fun _ => ?_)
        refine lv_iconst (v := 1) hx hb dgX4_onward_58 (by decide) ?_
        refine lv_goto (tgt := 63) hx hb dgX4_onward_59 (by decide) ?_
        refine lv_icmp_ne (tgt := 70) hx hb dgX4_onward_63 (by decide) (fun _ => ?_) (fun c9 => absurd c9 (by decide))
        refine lv_iconst (v := 0) hx hb dgX4_onward_70 (by decide) ?_
        refine lv_istore (lv' := [(5, .int 0), (4, .int (nI (mt V))), (3, .int (nI V)), (2, .int 0), (0, .ref aX), (1, .int (nI sd))]) hx hb dgX4_onward_71 hl (by decide) rfl (fun ls hl => ?_)
        refine lv_iload hx hb dgX4_onward_73 (lv_at hl 0 rfl) ?_
        refine lv_iload_n hx hb dgX4_onward_75 rfl (lv_at hl 3 rfl) ?_
        refine lv_icmp_ne (tgt := 86) hx hb dgX4_onward_76 (by decide) (fun c9 => absurd c9 (by decide)) (fun _ => ?_)
        refine lv_iconst (v := 2) hx hb dgX4_onward_79 (by decide) ?_
        refine lv_iload hx hb dgX4_onward_80 (lv_at hl 1 rfl) ?_
        refine lv_imul hx hb dgX4_onward_82 ?_
        refine ow_topi (y := nI (2 * (mt V))) (pk_mul 2 (mt V)) ?_
        refine lv_goto (tgt := 97) hx hb dgX4_onward_83 (by decide) ?_
        rw [hQQ]
        exact W.iret (v := (nI (2 * (mt V)))) hx hb hr (fun t ht hW => ⟨⟨(nI (2 * (mt V))), (), rfl, congrArg nI (by simp [fc_on, hV, h0, h1, h2]), trivial⟩, hS.F ht⟩) hS.2.2 dgX4_onward_97
      · refine lv_if_le (tgt := 62) hx hb dgX4_onward_55 (by decide) (fun _ => ?_) (fun c9 => absurd (Int32.not_lt.mp h2) c9)
        refine lv_iconst (v := 0) hx hb dgX4_onward_62 (by decide) ?_
        refine lv_icmp_ne (tgt := 70) hx hb dgX4_onward_63 (by decide) (fun c9 => absurd c9 (by decide)) (fun _ => ?_)
        refine lv_iconst (v := 1) hx hb dgX4_onward_66 (by decide) ?_
        refine lv_goto (tgt := 71) hx hb dgX4_onward_67 (by decide) ?_
        refine lv_istore (lv' := [(5, .int 1), (4, .int (nI (mt V))), (3, .int (nI V)), (2, .int 0), (0, .ref aX), (1, .int (nI sd))]) hx hb dgX4_onward_71 hl (by decide) rfl (fun ls hl => ?_)
        refine lv_iload hx hb dgX4_onward_73 (lv_at hl 0 rfl) ?_
        refine lv_iload_n hx hb dgX4_onward_75 rfl (lv_at hl 3 rfl) ?_
        refine lv_icmp_ne (tgt := 86) hx hb dgX4_onward_76 (by decide) (fun _ => ?_) (fun c9 => absurd c9 (by decide))
        refine lv_iconst (v := 2) hx hb dgX4_onward_86 (by decide) ?_
        refine lv_aload_n hx hb dgX4_onward_87 rfl (lv_at hl 4 rfl) ?_
        refine va_get (D := (dC, dI)) (ci := 10) (v := .ref (nx 1)) (C := RX7) (T := TX7) (N := 11) hx hb hts (fun _ h => List.mem_cons_of_mem _ (List.mem_append_left _ (List.mem_append_right _ h))) hown hK hP 0 rfl rfl 1 (by decide) (hts (.fieldLink RX4 42 "KnotHouse$Net" "prev" "[I") (by decide +kernel)) (fun _ h9 => h9) rfl dgX4_onward_88 ?_
        refine lv_iload hx hb dgX4_onward_91 (lv_at hl 1 rfl) ?_
        refine va_iald hx hb hK hP 2 0 rfl rfl (vp_in_nI (n := mt V) (N := 24) hmV (by decide)) dgX4_onward_93 ?_
        refine ow_topi (y := nI (S.2 (mt V))) (ow_nI_at S.2 (Nat.lt_trans (m := 24) hmV (by decide))) ?_
        refine lv_imul hx hb dgX4_onward_94 ?_
        refine ow_topi (y := nI (2 * (S.2 (mt V)))) (pk_mul 2 (S.2 (mt V))) ?_
        refine lv_iconst (v := 1) hx hb dgX4_onward_95 (by decide) ?_
        refine lv_iadd hx hb dgX4_onward_96 ?_
        refine ow_topi (y := nI (2 * S.2 (mt V) + 1)) (nI_1 (2 * S.2 (mt V))) ?_
        rw [hQQ]
        exact W.iret (v := (nI (2 * S.2 (mt V) + 1))) hx hb hr (fun t ht hW => ⟨⟨(nI (2 * S.2 (mt V) + 1)), (), rfl, congrArg nI (by simp [fc_on, hV, h0, h1, h2]), trivial⟩, hS.F ht⟩) hS.2.2 dgX4_onward_97
