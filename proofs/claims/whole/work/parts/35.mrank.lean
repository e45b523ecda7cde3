theorem ow_rk2 {x : Int64} {y : Int32} (h1 : ¬ lg_cmp x 0 < 0) (h2 : ¬ 0 < lg_cmp x 9) (h3 : ¬ y < -40) (h4 : y < 40) : vp_in (80 * x.toInt32 + y + 40) 800 := by
  obtain ⟨a, ha, rfl⟩ := pk_lOf (fun h => h1 ((lg_cmp_lt _ _).mpr h))
  have h6 : a ≤ 9 := by
    rcases Nat.lt_or_ge 9 a with q | q
    · exact absurd ((lg_cmp_gt _ _).mpr ((pk_lLT (a := 9) (by decide) ha).mpr q)) h2
    · exact q
  have h7 : -40 ≤ y.toInt := Int32.le_iff_toInt_le.mp (Int32.not_lt.mp h3)
  have h8 : y.toInt < 40 := Int32.lt_iff_toInt_lt.mp h4
  have h9 : (y + 40).toInt = y.toInt + 40 := by
    rw [Int32.toInt_add, show (40 : Int32).toInt = 40 from by decide]
    exact Int.bmod_eq_of_le (by omega) (by omega)
  obtain ⟨b, hb, e⟩ := vp_in_of (x := y + 40) (n := 80) (vp_in_iff.mpr ⟨by omega, by omega⟩) (by decide)
  rw [lN_i, Int32.add_assoc, e]
  have e1 : 80 * nI a = nI (80 * a) := pk_mul 80 a
  rw [e1, nI_add]
  exact vp_in_nI (by omega) (by decide)
theorem dX13_rank_0 : decode cX13_rank 0 = .ok (.aload_n 0, 1) := by decide +kernel
theorem dX13_rank_1 : decode cX13_rank 1 = .ok (.iconst 0, 1) := by decide +kernel
theorem dX13_rank_2 : decode cX13_rank 2 = .ok (.putfield 1, 3) := by decide +kernel
theorem dX13_rank_5 : decode cX13_rank 5 = .ok (.iload_n 1, 1) := by decide +kernel
theorem dX13_rank_6 : decode cX13_rank 6 = .ok (.i2l, 1) := by decide +kernel
theorem dX13_rank_7 : decode cX13_rank 7 = .ok (.aload_n 0, 1) := by decide +kernel
theorem dX13_rank_8 : decode cX13_rank 8 = .ok (.getfield 690, 3) := by decide +kernel
theorem dX13_rank_11 : decode cX13_rank 11 = .ok (.i2l, 1) := by decide +kernel
theorem dX13_rank_12 : decode cX13_rank 12 = .ok (.ladd, 1) := by decide +kernel
theorem dX13_rank_13 : decode cX13_rank 13 = .ok (.lstore_n 3, 1) := by decide +kernel
theorem dX13_rank_14 : decode cX13_rank 14 = .ok (.lload_n 3, 1) := by decide +kernel
theorem dX13_rank_15 : decode cX13_rank 15 = .ok (.lconst 0, 1) := by decide +kernel
theorem dX13_rank_16 : decode cX13_rank 16 = .ok (.lcmp, 1) := by decide +kernel
theorem dX13_rank_17 : decode cX13_rank 17 = .ok (.ifCond .lt 23, 3) := by decide +kernel
theorem dX13_rank_20 : decode cX13_rank 20 = .ok (.lload_n 3, 1) := by decide +kernel
theorem dX13_rank_21 : decode cX13_rank 21 = .ok (.ldc2_w 722, 3) := by decide +kernel
theorem dX13_rank_24 : decode cX13_rank 24 = .ok (.lcmp, 1) := by decide +kernel
theorem dX13_rank_25 : decode cX13_rank 25 = .ok (.ifCond .gt 15, 3) := by decide +kernel
theorem dX13_rank_28 : decode cX13_rank 28 = .ok (.iload_n 2, 1) := by decide +kernel
theorem dX13_rank_29 : decode cX13_rank 29 = .ok (.bipush (-40), 2) := by decide +kernel
theorem dX13_rank_31 : decode cX13_rank 31 = .ok (.if_icmp .lt 9, 3) := by decide +kernel
theorem dX13_rank_34 : decode cX13_rank 34 = .ok (.iload_n 2, 1) := by decide +kernel
theorem dX13_rank_35 : decode cX13_rank 35 = .ok (.bipush 40, 2) := by decide +kernel
theorem dX13_rank_37 : decode cX13_rank 37 = .ok (.if_icmp .lt 7, 3) := by decide +kernel
theorem dX13_rank_40 : decode cX13_rank 40 = .ok (.iconst 0, 1) := by decide +kernel
theorem dX13_rank_41 : decode cX13_rank 41 = .ok (.goto 18, 3) := by decide +kernel
theorem dX13_rank_44 : decode cX13_rank 44 = .ok (.aload_n 0, 1) := by decide +kernel
theorem dX13_rank_45 : decode cX13_rank 45 = .ok (.getfield 304, 3) := by decide +kernel
theorem dX13_rank_48 : decode cX13_rank 48 = .ok (.bipush 80, 2) := by decide +kernel
theorem dX13_rank_50 : decode cX13_rank 50 = .ok (.lload_n 3, 1) := by decide +kernel
theorem dX13_rank_51 : decode cX13_rank 51 = .ok (.l2i, 1) := by decide +kernel
theorem dX13_rank_52 : decode cX13_rank 52 = .ok (.imul, 1) := by decide +kernel
theorem dX13_rank_53 : decode cX13_rank 53 = .ok (.iload_n 2, 1) := by decide +kernel
theorem dX13_rank_54 : decode cX13_rank 54 = .ok (.iadd, 1) := by decide +kernel
theorem dX13_rank_55 : decode cX13_rank 55 = .ok (.bipush 40, 2) := by decide +kernel
theorem dX13_rank_57 : decode cX13_rank 57 = .ok (.iadd, 1) := by decide +kernel
theorem dX13_rank_58 : decode cX13_rank 58 = .ok (.iaload, 1) := by decide +kernel
theorem dX13_rank_59 : decode cX13_rank 59 = .ok (.ireturn, 1) := by decide +kernel
def wf_M_rank : List Cond := .code yX13_rank cX13_rank 5 (some .int) :: ([.fieldLink RX13 1 "KnotHouseModel" "thrown" "I", .fieldLink RX13 690 "KnotHouseModel" "minus" "I", .fieldLink RX13 304 "KnotHouseModel" "ranks" "[I", .constantLong RX13 722 (9)] ++ wsX130)
set_option maxHeartbeats 4000000 in
set_option maxRecDepth 100000 in
theorem kf_X13_rank (l : Launch) (dC : Nat → ClassId) (dI : Nat → Nat → Nat) (cI cB cJ cZ : ClassId) (h0 sz : Nat) (fs : List Value) (hfs : fs.length = 120) (ar : Nat) (hk : fs[86]? = some (.ref ar)) (hm : fs[87]? = some (.int 0)) (p0 p1 : Int32) : Met l yX13_rank wf_M_rank (({ frames := 0, cells := 0, slots := 0, locals := 0 } : Room)) (va_Pc [.ref h0, .int p0, .int p1] (fun U => U.heap.size = sz ∧ va_P (dC, dI) vwCl [(h0, .inr (16, fs)), (ar, .inl (cI, 800, .inl (fun _ => 0)))] U.heap ∧ va_K (dC, dI) vwCl [(cI, .int), (cB, .byte), (cJ, .long), (cZ, .boolean)] U ∧ va_D (fun _ => True) [(h0, .inr (16, fs)), (ar, .inl (cI, 800, .inl (fun _ => 0)))])) (va_Qi (fun r (g : List Value) => r = 0 ∧ g[0]? = some (.int 0)) (fun g t => va_P (dC, dI) vwCl [(h0, .inr (16, g))] t.heap ∧ va_D (va_A [(h0, .inr (16, fs)), (ar, .inl (cI, 800, .inl (fun _ => 0)))] sz) [(h0, .inr (16, g))]) (va_A [(h0, .inr (16, fs)), (ar, .inl (cI, 800, .inl (fun _ => 0)))] sz)) 0 0 (va_A [(h0, .inr (16, fs)), (ar, .inl (cI, 800, .inl (fun _ => 0)))] sz) := by
  refine Met.ofW (cc := cX13_rank) (maxL := 5) (ret := (some .int)) (by decide) rfl ?_
  intro p e s m args below meth c s₁ B hml hv
  obtain ⟨rfl, hsz, hP, hK, hD0⟩ := hv
  have hx := B.exec
  have hb := B.bytes
  have hr := B.returns
  have hts := atoms_spec (ws := wf_M_rank) B.pre
  have hown : s.vm.findClass RX13 = some m.cls := findClass_of_methodNamed B.named
  have hlocks := B.notSynchronized
  subst hsz
  have hD := hD0.self (sz := s.heap.size)
  generalize hAe : va_A [(h0, .inr (16, fs)), (ar, .inl (cI, 800, .inl (fun _ => 0)))] s.heap.size = A at hD ⊢
  have hA : ∀ q : Nat, s.heap.size ≤ q → A q := fun q h => by rw [← hAe]; exact Or.inr h
  have hS : va_S A s.heap s.heap [] := va_S.rf
  have hP : va_P (dC, dI) vwCl [(h0, .inr (16, fs)), (ar, .inl (cI, 800, .inl (fun _ => 0)))] s.heap := hP
  have hl := lv_entry ([.ref h0, .int p0, .int p1]) (n := 5) (Nat.le_of_ble_eq_true rfl)
  rw [lg_entry_eq]
  generalize (lg_sl ([.ref h0, .int p0, .int p1]) ++ List.replicate (5 - (lg_sl ([.ref h0, .int p0, .int p1])).length) Slot.unset).toArray = ls at hl ⊢
  have hl : lv_has ls 5 [(0, .ref h0), (1, .int p0), (2, .int p1)] := hl
  refine ow_named (fun QQ hQQ => ?_)
  refine lv_aload_n hx hb dX13_rank_0 rfl (lv_at hl 0 rfl) ?_
  refine lv_iconst (v := 0) hx hb dX13_rank_1 (by decide) ?_
  refine va_put (D := (dC, dI)) (ci := 16) (v := .int 0) (ty := .int) (C := RX13) (T := TX13) (N := 120) hx hb hts (fun _ h => List.mem_cons_of_mem _ (List.mem_append_right _ h)) tyX13 tyX13_ok nmX13 hown hK hP hD hS 0 rfl rfl 0 (by decide) (hts (.fieldLink RX13 1 "KnotHouseModel" "thrown" "I") (by decide +kernel)) (fun _ h9 => h9) rfl (by decide +kernel) rfl rfl (by rw [hfs]; decide) dX13_rank_2 (fun H locs hP hD hS => ?_)
  obtain ⟨fs1, efs1⟩ : ∃ x, x = List.set fs 0 (.int 0) := ⟨_, rfl⟩
  have hnfs1 : fs1.length = 120 := by rw [efs1, List.length_set]; exact hfs
  have hfs1_86 : fs1[86]? = some (.ref ar) := by rw [efs1, List.getElem?_set_ne (by decide)]; exact hk
  have hfs1_87 : fs1[87]? = some (.int 0) := by rw [efs1, List.getElem?_set_ne (by decide)]; exact hm
  have hfs1_0 : fs1[0]? = some (.int 0) := by rw [efs1]; exact List.getElem?_set_self (by rw [hfs]; decide)
  have hP : va_P (dC, dI) vwCl [(h0, .inr (16, fs1)), (ar, .inl (cI, 800, .inl (fun _ => 0)))] H := by rw [efs1]; exact hP
  have hD : va_D A [(h0, .inr (16, fs1)), (ar, .inl (cI, 800, .inl (fun _ => 0)))] := by rw [efs1]; exact hD
  refine lv_iload_n hx hb dX13_rank_5 rfl (lv_at hl 1 rfl) ?_
  refine lv_i2l hx hb dX13_rank_6 rfl ?_
  refine lv_aload_n hx hb dX13_rank_7 rfl (lv_at hl 0 rfl) ?_
  refine va_get (D := (dC, dI)) (ci := 16) (v := .int 0) (C := RX13) (T := TX13) (N := 120) hx hb hts (fun _ h => List.mem_cons_of_mem _ (List.mem_append_right _ h)) hown hK hP 0 rfl rfl 87 (by decide) (hts (.fieldLink RX13 690 "KnotHouseModel" "minus" "I") (by decide +kernel)) (fun _ h9 => h9) hfs1_87 dX13_rank_8 ?_
  refine lv_i2l hx hb dX13_rank_11 rfl ?_
  refine lv_ladd hx hb dX13_rank_12 ?_
  refine lv_topl (fun x2 _ => ?_)
  refine lv_lstore_n (lv' := [(3, .long x2), (0, .ref h0), (1, .int p0), (2, .int p1)]) hx hb dX13_rank_13 rfl hl (by decide) rfl (fun ls hl => ?_)
  refine lv_lload_n hx hb dX13_rank_14 rfl (lv_at hl 0 rfl) ?_
  refine lv_lconst (v := 0) hx hb dX13_rank_15 rfl ?_
  refine W.lcmp hx hb dX13_rank_16 ?_
  refine lv_if_lt (tgt := 40) hx hb dX13_rank_17 (by decide) (fun c3 => ?_) (fun c3 => ?_)
  · refine lv_iconst (v := 0) hx hb dX13_rank_40 (by decide) ?_
    refine lv_goto (tgt := 59) hx hb dX13_rank_41 (by decide) ?_
    have hP := hP.sub (ws' := [(h0, .inr (16, fs1))]) [0] rfl
    have hD := hD.sub (ws' := [(h0, .inr (16, fs1))]) [0] (by decide) rfl
    rw [hQQ]
    exact W.iret (v := 0) hx hb hr (fun t ht hW => ⟨⟨0, fs1, rfl, ⟨rfl, hfs1_0⟩, by rw [ht]; exact hP, hD⟩, hS.F ht⟩) hS.2.2 dX13_rank_59
  · refine lv_lload_n hx hb dX13_rank_20 rfl (lv_at hl 0 rfl) ?_
    refine lv_ldc2 (v := 9) hx hb hown (hts (.constantLong RX13 722 (9)) (by decide +kernel)) dX13_rank_21 ?_
    refine W.lcmp hx hb dX13_rank_24 ?_
    refine lv_if_gt (tgt := 40) hx hb dX13_rank_25 (by decide) (fun c4 => ?_) (fun c4 => ?_)
    · refine lv_iconst (v := 0) hx hb dX13_rank_40 (by decide) ?_
      refine lv_goto (tgt := 59) hx hb dX13_rank_41 (by decide) ?_
      have hP := hP.sub (ws' := [(h0, .inr (16, fs1))]) [0] rfl
      have hD := hD.sub (ws' := [(h0, .inr (16, fs1))]) [0] (by decide) rfl
      rw [hQQ]
      exact W.iret (v := 0) hx hb hr (fun t ht hW => ⟨⟨0, fs1, rfl, ⟨rfl, hfs1_0⟩, by rw [ht]; exact hP, hD⟩, hS.F ht⟩) hS.2.2 dX13_rank_59
    · refine lv_iload_n hx hb dX13_rank_28 rfl (lv_at hl 3 rfl) ?_
      refine lv_bipush (v := (-40)) hx hb dX13_rank_29 (by decide) ?_
      refine lv_icmp_lt (tgt := 40) hx hb dX13_rank_31 (by decide) (fun c5 => ?_) (fun c5 => ?_)
      · refine lv_iconst (v := 0) hx hb dX13_rank_40 (by decide) ?_
        refine lv_goto (tgt := 59) hx hb dX13_rank_41 (by decide) ?_
        have hP := hP.sub (ws' := [(h0, .inr (16, fs1))]) [0] rfl
        have hD := hD.sub (ws' := [(h0, .inr (16, fs1))]) [0] (by decide) rfl
        rw [hQQ]
        exact W.iret (v := 0) hx hb hr (fun t ht hW => ⟨⟨0, fs1, rfl, ⟨rfl, hfs1_0⟩, by rw [ht]; exact hP, hD⟩, hS.F ht⟩) hS.2.2 dX13_rank_59
      · refine lv_iload_n hx hb dX13_rank_34 rfl (lv_at hl 3 rfl) ?_
        refine lv_bipush (v := 40) hx hb dX13_rank_35 (by decide) ?_
        refine lv_icmp_lt (tgt := 44) hx hb dX13_rank_37 (by decide) (fun c6 => ?_) (fun c6 => ?_)
        · refine lv_aload_n hx hb dX13_rank_44 rfl (lv_at hl 1 rfl) ?_
          refine va_get (D := (dC, dI)) (ci := 16) (v := .ref ar) (C := RX13) (T := TX13) (N := 120) hx hb hts (fun _ h => List.mem_cons_of_mem _ (List.mem_append_right _ h)) hown hK hP 0 rfl rfl 86 (by decide) (hts (.fieldLink RX13 304 "KnotHouseModel" "ranks" "[I") (by decide +kernel)) (fun _ h9 => h9) hfs1_86 dX13_rank_45 ?_
          refine lv_bipush (v := 80) hx hb dX13_rank_48 (by decide) ?_
          refine lv_lload_n hx hb dX13_rank_50 rfl (lv_at hl 0 rfl) ?_
          refine lv_l2i hx hb dX13_rank_51 rfl ?_
          refine lv_imul hx hb dX13_rank_52 ?_
          refine lv_iload_n hx hb dX13_rank_53 rfl (lv_at hl 3 rfl) ?_
          refine lv_iadd hx hb dX13_rank_54 ?_
          refine lv_bipush (v := 40) hx hb dX13_rank_55 (by decide) ?_
          refine lv_iadd hx hb dX13_rank_57 ?_
          refine va_iald hx hb hK hP 1 0 rfl rfl (ow_rk2 c3 c4 c5 c6) dX13_rank_58 ?_
          refine ow_topi (y := 0) (rfl) ?_
          have hP := hP.sub (ws' := [(h0, .inr (16, fs1))]) [0] rfl
          have hD := hD.sub (ws' := [(h0, .inr (16, fs1))]) [0] (by decide) rfl
          rw [hQQ]
          exact W.iret (v := (0)) hx hb hr (fun t ht hW => ⟨⟨(0), fs1, rfl, ⟨rfl, hfs1_0⟩, by rw [ht]; exact hP, hD⟩, hS.F ht⟩) hS.2.2 dX13_rank_59
        · refine lv_iconst (v := 0) hx hb dX13_rank_40 (by decide) ?_
          refine lv_goto (tgt := 59) hx hb dX13_rank_41 (by decide) ?_
          have hP := hP.sub (ws' := [(h0, .inr (16, fs1))]) [0] rfl
          have hD := hD.sub (ws' := [(h0, .inr (16, fs1))]) [0] (by decide) rfl
          rw [hQQ]
          exact W.iret (v := 0) hx hb hr (fun t ht hW => ⟨⟨0, fs1, rfl, ⟨rfl, hfs1_0⟩, by rw [ht]; exact hP, hD⟩, hS.F ht⟩) hS.2.2 dX13_rank_59
theorem dX13_feed_0 : decode cX13_feed 0 = .ok (.aload_n 0, 1) := by decide +kernel
theorem dX13_feed_1 : decode cX13_feed 1 = .ok (.iconst 0, 1) := by decide +kernel
theorem dX13_feed_2 : decode cX13_feed 2 = .ok (.putfield 1, 3) := by decide +kernel
theorem dX13_feed_5 : decode cX13_feed 5 = .ok (.aload_n 0, 1) := by decide +kernel
theorem dX13_feed_6 : decode cX13_feed 6 = .ok (.getfield 400, 3) := by decide +kernel
theorem dX13_feed_9 : decode cX13_feed 9 = .ok (.bipush 20, 2) := by decide +kernel
theorem dX13_feed_11 : decode cX13_feed 11 = .ok (.iadd, 1) := by decide +kernel
theorem dX13_feed_12 : decode cX13_feed 12 = .ok (.sipush 400, 3) := by decide +kernel
theorem dX13_feed_15 : decode cX13_feed 15 = .ok (.if_icmp .le 9, 3) := by decide +kernel
theorem dX13_feed_24 : decode cX13_feed 24 = .ok (.iconst 0, 1) := by decide +kernel
theorem dX13_feed_25 : decode cX13_feed 25 = .ok (.istore 6, 2) := by decide +kernel
theorem dX13_feed_27 : decode cX13_feed 27 = .ok (.iload 6, 2) := by decide +kernel
theorem dX13_feed_29 : decode cX13_feed 29 = .ok (.bipush 20, 2) := by decide +kernel
theorem dX13_feed_31 : decode cX13_feed 31 = .ok (.if_icmp .ge 90, 3) := by decide +kernel
theorem dX13_feed_34 : decode cX13_feed 34 = .ok (.iload 6, 2) := by decide +kernel
theorem dX13_feed_36 : decode cX13_feed 36 = .ok (.iconst 4, 1) := by decide +kernel
theorem dX13_feed_37 : decode cX13_feed 37 = .ok (.if_icmp .ge 7, 3) := by decide +kernel
theorem dX13_feed_40 : decode cX13_feed 40 = .ok (.iload_n 1, 1) := by decide +kernel
theorem dX13_feed_41 : decode cX13_feed 41 = .ok (.goto 39, 3) := by decide +kernel
theorem dX13_feed_44 : decode cX13_feed 44 = .ok (.iload 6, 2) := by decide +kernel
theorem dX13_feed_46 : decode cX13_feed 46 = .ok (.bipush 8, 2) := by decide +kernel
theorem dX13_feed_48 : decode cX13_feed 48 = .ok (.if_icmp .ge 7, 3) := by decide +kernel
theorem dX13_feed_51 : decode cX13_feed 51 = .ok (.iload_n 2, 1) := by decide +kernel
theorem dX13_feed_52 : decode cX13_feed 52 = .ok (.goto 28, 3) := by decide +kernel
theorem dX13_feed_55 : decode cX13_feed 55 = .ok (.iload 6, 2) := by decide +kernel
theorem dX13_feed_57 : decode cX13_feed 57 = .ok (.bipush 12, 2) := by decide +kernel
theorem dX13_feed_59 : decode cX13_feed 59 = .ok (.if_icmp .ge 7, 3) := by decide +kernel
theorem dX13_feed_62 : decode cX13_feed 62 = .ok (.iload_n 3, 1) := by decide +kernel
theorem dX13_feed_63 : decode cX13_feed 63 = .ok (.goto 17, 3) := by decide +kernel
theorem dX13_feed_66 : decode cX13_feed 66 = .ok (.iload 6, 2) := by decide +kernel
theorem dX13_feed_68 : decode cX13_feed 68 = .ok (.bipush 16, 2) := by decide +kernel
theorem dX13_feed_70 : decode cX13_feed 70 = .ok (.if_icmp .ge 8, 3) := by decide +kernel
theorem dX13_feed_73 : decode cX13_feed 73 = .ok (.iload 4, 2) := by decide +kernel
theorem dX13_feed_75 : decode cX13_feed 75 = .ok (.goto 5, 3) := by decide +kernel
theorem dX13_feed_78 : decode cX13_feed 78 = .ok (.iload 5, 2) := by decide +kernel
theorem dX13_feed_80 : decode cX13_feed 80 = .ok (.istore 7, 2) := by decide +kernel
theorem dX13_feed_82 : decode cX13_feed 82 = .ok (.aload_n 0, 1) := by decide +kernel
theorem dX13_feed_83 : decode cX13_feed 83 = .ok (.getfield 106, 3) := by decide +kernel
theorem dX13_feed_86 : decode cX13_feed 86 = .ok (.aload_n 0, 1) := by decide +kernel
theorem dX13_feed_87 : decode cX13_feed 87 = .ok (.getfield 400, 3) := by decide +kernel
theorem dX13_feed_90 : decode cX13_feed 90 = .ok (.iload 7, 2) := by decide +kernel
theorem dX13_feed_92 : decode cX13_feed 92 = .ok (.bipush 24, 2) := by decide +kernel
theorem dX13_feed_94 : decode cX13_feed 94 = .ok (.bipush 8, 2) := by decide +kernel
theorem dX13_feed_96 : decode cX13_feed 96 = .ok (.iload 6, 2) := by decide +kernel
theorem dX13_feed_98 : decode cX13_feed 98 = .ok (.iconst 3, 1) := by decide +kernel
theorem dX13_feed_99 : decode cX13_feed 99 = .ok (.iand, 1) := by decide +kernel
theorem dX13_feed_100 : decode cX13_feed 100 = .ok (.imul, 1) := by decide +kernel
theorem dX13_feed_101 : decode cX13_feed 101 = .ok (.isub, 1) := by decide +kernel
theorem dX13_feed_102 : decode cX13_feed 102 = .ok (.ishr, 1) := by decide +kernel
theorem dX13_feed_103 : decode cX13_feed 103 = .ok (.i2b, 1) := by decide +kernel
theorem dX13_feed_104 : decode cX13_feed 104 = .ok (.bastore, 1) := by decide +kernel
theorem dX13_feed_105 : decode cX13_feed 105 = .ok (.aload_n 0, 1) := by decide +kernel
theorem dX13_feed_106 : decode cX13_feed 106 = .ok (.dup, 1) := by decide +kernel
theorem dX13_feed_107 : decode cX13_feed 107 = .ok (.getfield 400, 3) := by decide +kernel
theorem dX13_feed_110 : decode cX13_feed 110 = .ok (.iconst 1, 1) := by decide +kernel
theorem dX13_feed_111 : decode cX13_feed 111 = .ok (.iadd, 1) := by decide +kernel
theorem dX13_feed_112 : decode cX13_feed 112 = .ok (.putfield 400, 3) := by decide +kernel
theorem dX13_feed_115 : decode cX13_feed 115 = .ok (.iinc 6 1, 3) := by decide +kernel
theorem dX13_feed_118 : decode cX13_feed 118 = .ok (.goto (-91), 3) := by decide +kernel
theorem dX13_feed_121 : decode cX13_feed 121 = .ok (.aload_n 0, 1) := by decide +kernel
theorem dX13_feed_122 : decode cX13_feed 122 = .ok (.getfield 400, 3) := by decide +kernel
theorem dX13_feed_125 : decode cX13_feed 125 = .ok (.ireturn, 1) := by decide +kernel
def wf_M_feed : List Cond := .code yX13_feed cX13_feed 8 (some .int) :: ([.fieldLink RX13 1 "KnotHouseModel" "thrown" "I", .fieldLink RX13 400 "KnotHouseModel" "taped" "I", .fieldLink RX13 106 "KnotHouseModel" "tape" "[B"] ++ wsX130)
set_option maxHeartbeats 4000000 in
set_option maxRecDepth 100000 in
theorem kf_X13_feed (l : Launch) (dC : Nat → ClassId) (dI : Nat → Nat → Nat) (cI cB cJ cZ : ClassId) (h0 sz : Nat) (fs : List Value) (hfs : fs.length = 120) (aT : Nat) (f : Nat → Int32) (hkT : fs[9]? = some (.ref aT)) (hkd : fs[10]? = some (.int 0)) (p0 p1 p2 p3 p4 : Int32) : Met l yX13_feed wf_M_feed (({ frames := 0, cells := 0, slots := 0, locals := 0 } : Room)) (va_Pc [.ref h0, .int p0, .int p1, .int p2, .int p3, .int p4] (fun U => U.heap.size = sz ∧ va_P (dC, dI) vwCl [(h0, .inr (16, fs)), (aT, .inl (cB, 400, .inl f))] U.heap ∧ va_K (dC, dI) vwCl [(cI, .int), (cB, .byte), (cJ, .long), (cZ, .boolean)] U ∧ va_D (fun _ => True) [(h0, .inr (16, fs)), (aT, .inl (cB, 400, .inl f))])) (va_Qi (fun r (g : List Value) => r = 20 ∧ g[0]? = some (.int 0)) (fun g t => va_P (dC, dI) vwCl [(h0, .inr (16, g))] t.heap ∧ va_D (va_A [(h0, .inr (16, fs)), (aT, .inl (cB, 400, .inl f))] sz) [(h0, .inr (16, g))]) (va_A [(h0, .inr (16, fs)), (aT, .inl (cB, 400, .inl f))] sz)) 0 0 (va_A [(h0, .inr (16, fs)), (aT, .inl (cB, 400, .inl f))] sz) := by
  refine Met.ofW (cc := cX13_feed) (maxL := 8) (ret := (some .int)) (by decide) rfl ?_
  intro p e s m args below meth c s₁ B hml hv
  obtain ⟨rfl, hsz, hP, hK, hD0⟩ := hv
  have hx := B.exec
  have hb := B.bytes
  have hr := B.returns
  have hts := atoms_spec (ws := wf_M_feed) B.pre
  have hown : s.vm.findClass RX13 = some m.cls := findClass_of_methodNamed B.named
  have hlocks := B.notSynchronized
  subst hsz
  have hD := hD0.self (sz := s.heap.size)
  generalize hAe : va_A [(h0, .inr (16, fs)), (aT, .inl (cB, 400, .inl f))] s.heap.size = A at hD ⊢
  have hA : ∀ q : Nat, s.heap.size ≤ q → A q := fun q h => by rw [← hAe]; exact Or.inr h
  have hS : va_S A s.heap s.heap [] := va_S.rf
  have hP : va_P (dC, dI) vwCl [(h0, .inr (16, fs)), (aT, .inl (cB, 400, .inl f))] s.heap := hP
  have hl := lv_entry ([.ref h0, .int p0, .int p1, .int p2, .int p3, .int p4]) (n := 8) (Nat.le_of_ble_eq_true rfl)
  rw [lg_entry_eq]
  generalize (lg_sl ([.ref h0, .int p0, .int p1, .int p2, .int p3, .int p4]) ++ List.replicate (8 - (lg_sl ([.ref h0, .int p0, .int p1, .int p2, .int p3, .int p4])).length) Slot.unset).toArray = ls at hl ⊢
  have hl : lv_has ls 8 [(0, .ref h0), (1, .int p0), (2, .int p1), (3, .int p2), (4, .int p3), (5, .int p4)] := hl
  refine ow_named (fun QQ hQQ => ?_)
  have L27 : ∀ (d k : Nat), k + d = 20 → ∀ (H : Heap) (locs : List Loc) (ls : Array Slot) (fs1 : List Value) (f : Nat → Int32), va_P (dC, dI) vwCl [(h0, .inr (16, fs1)), (aT, .inl (cB, 400, .inl f))] H → va_D A [(h0, .inr (16, fs1)), (aT, .inl (cB, 400, .inl f))] → va_S A s.heap H locs → lv_has ls 8 [(0, .ref h0), (1, .int p0), (2, .int p1), (3, .int p2), (4, .int p3), (5, .int p4), (6, .int (nI k))] → fs1.length = 120 → fs1[0]? = some (.int 0) → fs1[9]? = some (.ref aT) → fs1[10]? = some (.int (nI k)) → W p l e ({ frames := 0, cells := 0, slots := 0, locals := 0 } : Room) s m ([.ref h0, .int p0, .int p1, .int p2, .int p3, .int p4] : List Value).toArray below meth c H locs 0 0 QQ (F0 m 27 ls []) := by
    intro d
    induction d with
    | zero =>
      intro k hv_k H locs ls fs1 f hP hD hS hl hn1 hk0 hk9 hk10
      obtain rfl : k = 20 := by omega
      refine lv_iload hx hb dX13_feed_27 (lv_at hl 6 rfl) ?_
      refine lv_bipush (v := 20) hx hb dX13_feed_29 (by decide) ?_
      refine lv_icmp_ge (tgt := 121) hx hb dX13_feed_31 (by decide) (fun _ => ?_) (fun c9 => absurd (by decide) c9)
      refine lv_aload_n hx hb dX13_feed_121 rfl (lv_at hl 0 rfl) ?_
      refine va_get (D := (dC, dI)) (ci := 16) (v := .int (nI 20)) (C := RX13) (T := TX13) (N := 120) hx hb hts (fun _ h => List.mem_cons_of_mem _ (List.mem_append_right _ h)) hown hK hP 0 rfl rfl 10 (by decide) (hts (.fieldLink RX13 400 "KnotHouseModel" "taped" "I") (by decide +kernel)) (fun _ h9 => h9) hk10 dX13_feed_122 ?_
      have hP := hP.sub (ws' := [(h0, .inr (16, fs1))]) [0] rfl
      have hD := hD.sub (ws' := [(h0, .inr (16, fs1))]) [0] (by decide) rfl
      rw [hQQ]
      exact W.iret (v := (nI 20)) hx hb hr (fun t ht hW => ⟨⟨(nI 20), fs1, rfl, ⟨by decide, hk0⟩, by rw [ht]; exact hP, hD⟩, hS.F ht⟩) hS.2.2 dX13_feed_125
    | succ d ih_k =>
      intro k hv_k H locs ls fs1 f hP hD hS hl hn1 hk0 hk9 hk10
      have L82 : ∀ (ls : Array Slot) (x : Int32), lv_has ls 8 [(0, .ref h0), (1, .int p0), (2, .int p1), (3, .int p2), (4, .int p3), (5, .int p4), (6, .int (nI k)), (7, .int x)] → W p l e ({ frames := 0, cells := 0, slots := 0, locals := 0 } : Room) s m ([.ref h0, .int p0, .int p1, .int p2, .int p3, .int p4] : List Value).toArray below meth c H locs 0 0 QQ (F0 m 82 ls []) := by
        intro ls x hl
        refine lv_aload_n hx hb dX13_feed_82 rfl (lv_at hl 0 rfl) ?_
        refine va_get (D := (dC, dI)) (ci := 16) (v := .ref aT) (C := RX13) (T := TX13) (N := 120) hx hb hts (fun _ h => List.mem_cons_of_mem _ (List.mem_append_right _ h)) hown hK hP 0 rfl rfl 9 (by decide) (hts (.fieldLink RX13 106 "KnotHouseModel" "tape" "[B") (by decide +kernel)) (fun _ h9 => h9) hk9 dX13_feed_83 ?_
        refine lv_aload_n hx hb dX13_feed_86 rfl (lv_at hl 0 rfl) ?_
        refine va_get (D := (dC, dI)) (ci := 16) (v := .int (nI k)) (C := RX13) (T := TX13) (N := 120) hx hb hts (fun _ h => List.mem_cons_of_mem _ (List.mem_append_right _ h)) hown hK hP 0 rfl rfl 10 (by decide) (hts (.fieldLink RX13 400 "KnotHouseModel" "taped" "I") (by decide +kernel)) (fun _ h9 => h9) hk10 dX13_feed_87 ?_
        refine lv_iload hx hb dX13_feed_90 (lv_at hl 7 rfl) ?_
        refine lv_bipush (v := 24) hx hb dX13_feed_92 (by decide) ?_
        refine lv_bipush (v := 8) hx hb dX13_feed_94 (by decide) ?_
        refine lv_iload hx hb dX13_feed_96 (lv_at hl 6 rfl) ?_
        refine lv_iconst (v := 3) hx hb dX13_feed_98 (by decide) ?_
        refine lv_iand hx hb dX13_feed_99 ?_
        refine lv_imul hx hb dX13_feed_100 ?_
        refine lv_isub hx hb dX13_feed_101 ?_
        refine lv_ishr hx hb dX13_feed_102 ?_
        refine lv_i2b hx hb dX13_feed_103 rfl ?_
        refine lv_topi (fun x1 _ => ?_)
        refine ow_bast hx hb hK hP hD hS 1 1 rfl rfl (vp_in_nI (n := k) (N := 400) (by omega) (by decide)) dX13_feed_104 (fun f2 H locs hP hD hS => ?_)
        have hP : va_P (dC, dI) vwCl [(h0, .inr (16, fs1)), (aT, .inl (cB, 400, .inl f2))] H := hP
        have hD : va_D A [(h0, .inr (16, fs1)), (aT, .inl (cB, 400, .inl f2))] := hD
        refine lv_aload_n hx hb dX13_feed_105 rfl (lv_at hl 0 rfl) ?_
        refine lv_dup hx hb dX13_feed_106 rfl ?_
        refine va_get (D := (dC, dI)) (ci := 16) (v := .int (nI k)) (C := RX13) (T := TX13) (N := 120) hx hb hts (fun _ h => List.mem_cons_of_mem _ (List.mem_append_right _ h)) hown hK hP 0 rfl rfl 10 (by decide) (hts (.fieldLink RX13 400 "KnotHouseModel" "taped" "I") (by decide +kernel)) (fun _ h9 => h9) hk10 dX13_feed_107 ?_
        refine lv_iconst (v := 1) hx hb dX13_feed_110 (by decide) ?_
        refine lv_iadd hx hb dX13_feed_111 ?_
        refine ow_topi (y := nI (k + 1)) (nI_1 k) ?_
        refine va_put (D := (dC, dI)) (ci := 16) (v := .int (nI (k + 1))) (ty := .int) (C := RX13) (T := TX13) (N := 120) hx hb hts (fun _ h => List.mem_cons_of_mem _ (List.mem_append_right _ h)) tyX13 tyX13_ok nmX13 hown hK hP hD hS 0 rfl rfl 10 (by decide) (hts (.fieldLink RX13 400 "KnotHouseModel" "taped" "I") (by decide +kernel)) (fun _ h9 => h9) rfl (by decide +kernel) rfl rfl (by rw [hn1]; decide) dX13_feed_112 (fun H locs hP hD hS => ?_)
        obtain ⟨fs3, efs3⟩ : ∃ x, x = List.set fs1 10 (.int (nI (k + 1))) := ⟨_, rfl⟩
        have hnfs3 : fs3.length = 120 := by rw [efs3, List.length_set]; exact hn1
        have hfs3_0 : fs3[0]? = some (.int 0) := by rw [efs3, List.getElem?_set_ne (by decide)]; exact hk0
        have hfs3_9 : fs3[9]? = some (.ref aT) := by rw [efs3, List.getElem?_set_ne (by decide)]; exact hk9
        have hfs3_10 : fs3[10]? = some (.int (nI (k + 1))) := by rw [efs3]; exact List.getElem?_set_self (by rw [hn1]; decide)
        have hP : va_P (dC, dI) vwCl [(h0, .inr (16, fs3)), (aT, .inl (cB, 400, .inl f2))] H := by rw [efs3]; exact hP
        have hD : va_D A [(h0, .inr (16, fs3)), (aT, .inl (cB, 400, .inl f2))] := by rw [efs3]; exact hD
        refine lv_iinc (v := nI (k + 1)) (lv' := [(6, .int (nI (k + 1))), (0, .ref h0), (1, .int p0), (2, .int p1), (3, .int p2), (4, .int p3), (5, .int p4), (7, .int x)]) hx hb dX13_feed_115 hl (k := 6) rfl (nI_1 k) (by decide) rfl (fun ls hl => ?_)
        refine lv_goto (tgt := 27) hx hb dX13_feed_118 (by decide) ?_
        exact ih_k (k + 1) (by omega) H locs ls _ _ hP hD hS (lv_sub hl [1, 2, 3, 4, 5, 6, 0] rfl) hnfs3 hfs3_0 hfs3_9 hfs3_10
      refine lv_iload hx hb dX13_feed_27 (lv_at hl 6 rfl) ?_
      refine lv_bipush (v := 20) hx hb dX13_feed_29 (by decide) ?_
      refine lv_icmp_ge (tgt := 121) hx hb dX13_feed_31 (by decide) (fun c9 => absurd c9 (nI_ge (a := k) (b := 20) (by omega) (by decide))) (fun _ => ?_)
      refine lv_iload hx hb dX13_feed_34 (lv_at hl 6 rfl) ?_
      refine lv_iconst (v := 4) hx hb dX13_feed_36 (by decide) ?_
      refine lv_icmp_ge (tgt := 44) hx hb dX13_feed_37 (by decide) (fun c4 => ?_) (fun c4 => ?_)
      · refine lv_iload hx hb dX13_feed_44 (lv_at hl 6 rfl) ?_
        refine lv_bipush (v := 8) hx hb dX13_feed_46 (by decide) ?_
        refine lv_icmp_ge (tgt := 55) hx hb dX13_feed_48 (by decide) (fun c5 => ?_) (fun c5 => ?_)
        · refine lv_iload hx hb dX13_feed_55 (lv_at hl 6 rfl) ?_
          refine lv_bipush (v := 12) hx hb dX13_feed_57 (by decide) ?_
          refine lv_icmp_ge (tgt := 66) hx hb dX13_feed_59 (by decide) (fun c6 => ?_) (fun c6 => ?_)
          · refine lv_iload hx hb dX13_feed_66 (lv_at hl 6 rfl) ?_
            refine lv_bipush (v := 16) hx hb dX13_feed_68 (by decide) ?_
            refine lv_icmp_ge (tgt := 78) hx hb dX13_feed_70 (by decide) (fun c7 => ?_) (fun c7 => ?_)
            · refine lv_iload hx hb dX13_feed_78 (lv_at hl 5 rfl) ?_
              refine lv_istore (lv' := [(7, .int p4), (0, .ref h0), (1, .int p0), (2, .int p1), (3, .int p2), (4, .int p3), (5, .int p4), (6, .int (nI k))]) hx hb dX13_feed_80 hl (by decide) rfl (fun ls hl => ?_)
              exact L82 ls _ (lv_sub hl [1, 2, 3, 4, 5, 6, 7, 0] rfl)
            · refine lv_iload hx hb dX13_feed_73 (lv_at hl 4 rfl) ?_
              refine lv_goto (tgt := 80) hx hb dX13_feed_75 (by decide) ?_
              refine lv_istore (lv' := [(7, .int p3), (0, .ref h0), (1, .int p0), (2, .int p1), (3, .int p2), (4, .int p3), (5, .int p4), (6, .int (nI k))]) hx hb dX13_feed_80 hl (by decide) rfl (fun ls hl => ?_)
              exact L82 ls _ (lv_sub hl [1, 2, 3, 4, 5, 6, 7, 0] rfl)
          · refine lv_iload_n hx hb dX13_feed_62 rfl (lv_at hl 3 rfl) ?_
            refine lv_goto (tgt := 80) hx hb dX13_feed_63 (by decide) ?_
            refine lv_istore (lv' := [(7, .int p2), (0, .ref h0), (1, .int p0), (2, .int p1), (3, .int p2), (4, .int p3), (5, .int p4), (6, .int (nI k))]) hx hb dX13_feed_80 hl (by decide) rfl (fun ls hl => ?_)
            exact L82 ls _ (lv_sub hl [1, 2, 3, 4, 5, 6, 7, 0] rfl)
        · refine lv_iload_n hx hb dX13_feed_51 rfl (lv_at hl 2 rfl) ?_
          refine lv_goto (tgt := 80) hx hb dX13_feed_52 (by decide) ?_
          refine lv_istore (lv' := [(7, .int p1), (0, .ref h0), (1, .int p0), (2, .int p1), (3, .int p2), (4, .int p3), (5, .int p4), (6, .int (nI k))]) hx hb dX13_feed_80 hl (by decide) rfl (fun ls hl => ?_)
          exact L82 ls _ (lv_sub hl [1, 2, 3, 4, 5, 6, 7, 0] rfl)
      · refine lv_iload_n hx hb dX13_feed_40 rfl (lv_at hl 1 rfl) ?_
        refine lv_goto (tgt := 80) hx hb dX13_feed_41 (by decide) ?_
        refine lv_istore (lv' := [(7, .int p0), (0, .ref h0), (1, .int p0), (2, .int p1), (3, .int p2), (4, .int p3), (5, .int p4), (6, .int (nI k))]) hx hb dX13_feed_80 hl (by decide) rfl (fun ls hl => ?_)
        exact L82 ls _ (lv_sub hl [1, 2, 3, 4, 5, 6, 7, 0] rfl)
  refine lv_aload_n hx hb dX13_feed_0 rfl (lv_at hl 0 rfl) ?_
  refine lv_iconst (v := 0) hx hb dX13_feed_1 (by decide) ?_
  refine va_put (D := (dC, dI)) (ci := 16) (v := .int 0) (ty := .int) (C := RX13) (T := TX13) (N := 120) hx hb hts (fun _ h => List.mem_cons_of_mem _ (List.mem_append_right _ h)) tyX13 tyX13_ok nmX13 hown hK hP hD hS 0 rfl rfl 0 (by decide) (hts (.fieldLink RX13 1 "KnotHouseModel" "thrown" "I") (by decide +kernel)) (fun _ h9 => h9) rfl (by decide +kernel) rfl rfl (by rw [hfs]; decide) dX13_feed_2 (fun H locs hP hD hS => ?_)
  obtain ⟨fs8, efs8⟩ : ∃ x, x = List.set fs 0 (.int 0) := ⟨_, rfl⟩
  have hnfs8 : fs8.length = 120 := by rw [efs8, List.length_set]; exact hfs
  have hfs8_9 : fs8[9]? = some (.ref aT) := by rw [efs8, List.getElem?_set_ne (by decide)]; exact hkT
  have hfs8_10 : fs8[10]? = some (.int 0) := by rw [efs8, List.getElem?_set_ne (by decide)]; exact hkd
  have hfs8_0 : fs8[0]? = some (.int 0) := by rw [efs8]; exact List.getElem?_set_self (by rw [hfs]; decide)
  have hP : va_P (dC, dI) vwCl [(h0, .inr (16, fs8)), (aT, .inl (cB, 400, .inl f))] H := by rw [efs8]; exact hP
  have hD : va_D A [(h0, .inr (16, fs8)), (aT, .inl (cB, 400, .inl f))] := by rw [efs8]; exact hD
  refine lv_aload_n hx hb dX13_feed_5 rfl (lv_at hl 0 rfl) ?_
  refine va_get (D := (dC, dI)) (ci := 16) (v := .int 0) (C := RX13) (T := TX13) (N := 120) hx hb hts (fun _ h => List.mem_cons_of_mem _ (List.mem_append_right _ h)) hown hK hP 0 rfl rfl 10 (by decide) (hts (.fieldLink RX13 400 "KnotHouseModel" "taped" "I") (by decide +kernel)) (fun _ h9 => h9) hfs8_10 dX13_feed_6 ?_
  refine lv_bipush (v := 20) hx hb dX13_feed_9 (by decide) ?_
  refine lv_iadd hx hb dX13_feed_11 ?_
  refine ow_topi (y := 20) (by decide) ?_
  refine lv_sipush (v := 400) hx hb dX13_feed_12 (by decide) ?_
  refine lv_icmp_le (tgt := 24) hx hb dX13_feed_15 (by decide) (fun _ => ?_) (fun c9 => absurd (by decide) c9)
  refine lv_iconst (v := 0) hx hb dX13_feed_24 (by decide) ?_
  refine ow_topi (y := nI 0) (by decide) ?_
  refine lv_istore (lv' := [(6, .int (nI 0)), (0, .ref h0), (1, .int p0), (2, .int p1), (3, .int p2), (4, .int p3), (5, .int p4)]) hx hb dX13_feed_25 hl (by decide) rfl (fun ls hl => ?_)
  exact L27 20 0 (by omega) H locs ls _ _ hP hD hS (lv_sub hl [1, 2, 3, 4, 5, 6, 0] rfl) hnfs8 hfs8_0 hfs8_9 hfs8_10
theorem dX13_freeBraid_0 : decode cX13_freeBraid 0 = .ok (.iconst 0, 1) := by decide +kernel
theorem dX13_freeBraid_1 : decode cX13_freeBraid 1 = .ok (.istore_n 1, 1) := by decide +kernel
theorem dX13_freeBraid_2 : decode cX13_freeBraid 2 = .ok (.iload_n 1, 1) := by decide +kernel
theorem dX13_freeBraid_3 : decode cX13_freeBraid 3 = .ok (.bipush 20, 2) := by decide +kernel
theorem dX13_freeBraid_5 : decode cX13_freeBraid 5 = .ok (.if_icmp .ge 18, 3) := by decide +kernel
theorem dX13_freeBraid_8 : decode cX13_freeBraid 8 = .ok (.aload_n 0, 1) := by decide +kernel
theorem dX13_freeBraid_9 : decode cX13_freeBraid 9 = .ok (.getfield 326, 3) := by decide +kernel
theorem dX13_freeBraid_12 : decode cX13_freeBraid 12 = .ok (.iload_n 1, 1) := by decide +kernel
theorem dX13_freeBraid_13 : decode cX13_freeBraid 13 = .ok (.iaload, 1) := by decide +kernel
theorem dX13_freeBraid_14 : decode cX13_freeBraid 14 = .ok (.ifCond .le 9, 3) := by decide +kernel
theorem dX13_freeBraid_17 : decode cX13_freeBraid 17 = .ok (.iinc 1 1, 3) := by decide +kernel
theorem dX13_freeBraid_20 : decode cX13_freeBraid 20 = .ok (.goto (-18), 3) := by decide +kernel
theorem dX13_freeBraid_23 : decode cX13_freeBraid 23 = .ok (.iload_n 1, 1) := by decide +kernel
theorem dX13_freeBraid_24 : decode cX13_freeBraid 24 = .ok (.bipush 20, 2) := by decide +kernel
theorem dX13_freeBraid_26 : decode cX13_freeBraid 26 = .ok (.if_icmp .ge 7, 3) := by decide +kernel
theorem dX13_freeBraid_29 : decode cX13_freeBraid 29 = .ok (.iload_n 1, 1) := by decide +kernel
theorem dX13_freeBraid_30 : decode cX13_freeBraid 30 = .ok (.goto 4, 3) := by decide +kernel
theorem dX13_freeBraid_33 : decode cX13_freeBraid 33 = .ok (.iconst (-1), 1) := by decide +kernel
theorem dX13_freeBraid_34 : decode cX13_freeBraid 34 = .ok (.ireturn, 1) := by decide +kernel
def wf_MfreeBraid : List Cond := .code yX13_freeBraid cX13_freeBraid 2 (some .int) :: ([.fieldLink RX13 326 "KnotHouseModel" "strands" "[I"] ++ wsX130)
set_option maxHeartbeats 4000000 in
set_option maxRecDepth 100000 in
theorem kf_X13_freeBraid (l : Launch) (dC : Nat → ClassId) (dI : Nat → Nat → Nat) (cI cB cJ cZ : ClassId) (h0 ar : Nat) (fs : List Value) (hfs : fs.length = 120) (hk : fs[95]? = some (.ref ar)) : Met l yX13_freeBraid wf_MfreeBraid (({ frames := 0, cells := 0, slots := 0, locals := 0 } : Room)) (va_Pc [.ref h0] (fun U => va_P (dC, dI) vwCl [(h0, .inr (16, fs)), (ar, .inl (cI, 20, .inl (fun _ => 0)))] U.heap ∧ va_K (dC, dI) vwCl [(cI, .int), (cB, .byte), (cJ, .long), (cZ, .boolean)] U)) (va_Qi (fun r (_ : Unit) => r = 0) (fun _ _ => True) (fun _ => False)) 0 0 (fun _ => False) := by
  refine Met.ofW (cc := cX13_freeBraid) (maxL := 2) (ret := (some .int)) (by decide) rfl ?_
  intro p e s m args below meth c s₁ B hml hv
  obtain ⟨rfl, hP, hK⟩ := hv
  have hx := B.exec
  have hb := B.bytes
  have hr := B.returns
  have hts := atoms_spec (ws := wf_MfreeBraid) B.pre
  have hown : s.vm.findClass RX13 = some m.cls := findClass_of_methodNamed B.named
  have hlocks := B.notSynchronized
  have hS : va_S (fun _ => False) s.heap s.heap [] := va_S.rf
  have hP : va_P (dC, dI) vwCl [(h0, .inr (16, fs)), (ar, .inl (cI, 20, .inl (fun _ => 0)))] s.heap := hP
  have hl := lv_entry ([.ref h0]) (n := 2) (Nat.le_of_ble_eq_true rfl)
  rw [lg_entry_eq]
  generalize (lg_sl ([.ref h0]) ++ List.replicate (2 - (lg_sl ([.ref h0])).length) Slot.unset).toArray = ls at hl ⊢
  have hl : lv_has ls 2 [(0, .ref h0)] := hl
  refine ow_named (fun QQ hQQ => ?_)
  refine lv_iconst (v := 0) hx hb dX13_freeBraid_0 (by decide) ?_
  refine lv_istore_n (lv' := [(1, .int 0), (0, .ref h0)]) hx hb dX13_freeBraid_1 rfl hl (by decide) rfl (fun ls hl => ?_)
  refine lv_iload_n hx hb dX13_freeBraid_2 rfl (lv_at hl 0 rfl) ?_
  refine lv_bipush (v := 20) hx hb dX13_freeBraid_3 (by decide) ?_
  refine lv_icmp_ge (tgt := 23) hx hb dX13_freeBraid_5 (by decide) (fun c9 => absurd c9 (by decide)) (fun _ => ?_)
  refine lv_aload_n hx hb dX13_freeBraid_8 rfl (lv_at hl 1 rfl) ?_
  refine va_get (D := (dC, dI)) (ci := 16) (v := .ref ar) (C := RX13) (T := TX13) (N := 120) hx hb hts (fun _ h => List.mem_cons_of_mem _ (List.mem_append_right _ h)) hown hK hP 0 rfl rfl 95 (by decide) (hts (.fieldLink RX13 326 "KnotHouseModel" "strands" "[I") (by decide +kernel)) (fun _ h9 => h9) hk dX13_freeBraid_9 ?_
  refine lv_iload_n hx hb dX13_freeBraid_12 rfl (lv_at hl 0 rfl) ?_
  refine va_iald hx hb hK hP 1 0 rfl rfl (vp_in_nI (n := 0) (N := 20) (by decide) (by decide)) dX13_freeBraid_13 ?_
  refine ow_topi (y := 0) (rfl) ?_
  refine lv_if_le (tgt := 23) hx hb dX13_freeBraid_14 (by decide) (fun _ => ?_) (fun c9 => absurd (by decide) c9)
  refine lv_iload_n hx hb dX13_freeBraid_23 rfl (lv_at hl 0 rfl) ?_
  refine lv_bipush (v := 20) hx hb dX13_freeBraid_24 (by decide) ?_
  refine lv_icmp_ge (tgt := 33) hx hb dX13_freeBraid_26 (by decide) (fun c9 => absurd c9 (by decide)) (fun _ => ?_)
  refine lv_iload_n hx hb dX13_freeBraid_29 rfl (lv_at hl 0 rfl) ?_
  refine lv_goto (tgt := 34) hx hb dX13_freeBraid_30 (by decide) ?_
  rw [hQQ]
  exact W.iret (v := 0) hx hb hr (fun t ht hW => ⟨⟨0, (), rfl, rfl, trivial⟩, hS.F ht⟩) hS.2.2 dX13_freeBraid_34
theorem dX13_braid_0 : decode cX13_braid 0 = .ok (.aload_n 0, 1) := by decide +kernel
theorem dX13_braid_1 : decode cX13_braid 1 = .ok (.iconst 0, 1) := by decide +kernel
theorem dX13_braid_2 : decode cX13_braid 2 = .ok (.putfield 1, 3) := by decide +kernel
theorem dX13_braid_5 : decode cX13_braid 5 = .ok (.iload_n 1, 1) := by decide +kernel
theorem dX13_braid_6 : decode cX13_braid 6 = .ok (.iconst 2, 1) := by decide +kernel
theorem dX13_braid_7 : decode cX13_braid 7 = .ok (.if_icmp .lt 8, 3) := by decide +kernel
theorem dX13_braid_10 : decode cX13_braid 10 = .ok (.iload_n 1, 1) := by decide +kernel
theorem dX13_braid_11 : decode cX13_braid 11 = .ok (.iconst 5, 1) := by decide +kernel
theorem dX13_braid_12 : decode cX13_braid 12 = .ok (.if_icmp .le 9, 3) := by decide +kernel
theorem dX13_braid_15 : decode cX13_braid 15 = .ok (.aload_n 0, 1) := by decide +kernel
theorem dX13_braid_16 : decode cX13_braid 16 = .ok (.iconst 1, 1) := by decide +kernel
theorem dX13_braid_17 : decode cX13_braid 17 = .ok (.invokevirtual 403, 3) := by decide +kernel
theorem dX13_braid_20 : decode cX13_braid 20 = .ok (.ireturn, 1) := by decide +kernel
theorem dX13_braid_21 : decode cX13_braid 21 = .ok (.aload_n 0, 1) := by decide +kernel
theorem dX13_braid_22 : decode cX13_braid 22 = .ok (.invokevirtual 736, 3) := by decide +kernel
theorem dX13_braid_25 : decode cX13_braid 25 = .ok (.istore_n 2, 1) := by decide +kernel
theorem dX13_braid_26 : decode cX13_braid 26 = .ok (.iload_n 2, 1) := by decide +kernel
theorem dX13_braid_27 : decode cX13_braid 27 = .ok (.iconst (-1), 1) := by decide +kernel
theorem dX13_braid_28 : decode cX13_braid 28 = .ok (.if_icmp .ne 9, 3) := by decide +kernel
theorem dX13_braid_31 : decode cX13_braid 31 = .ok (.aload_n 0, 1) := by decide +kernel
theorem dX13_braid_32 : decode cX13_braid 32 = .ok (.iconst 2, 1) := by decide +kernel
theorem dX13_braid_33 : decode cX13_braid 33 = .ok (.invokevirtual 403, 3) := by decide +kernel
theorem dX13_braid_36 : decode cX13_braid 36 = .ok (.ireturn, 1) := by decide +kernel
theorem dX13_braid_37 : decode cX13_braid 37 = .ok (.iconst (-1), 1) := by decide +kernel
theorem dX13_braid_38 : decode cX13_braid 38 = .ok (.istore_n 3, 1) := by decide +kernel
theorem dX13_braid_39 : decode cX13_braid 39 = .ok (.iconst 0, 1) := by decide +kernel
theorem dX13_braid_40 : decode cX13_braid 40 = .ok (.istore 4, 2) := by decide +kernel
theorem dX13_braid_42 : decode cX13_braid 42 = .ok (.iload 4, 2) := by decide +kernel
theorem dX13_braid_44 : decode cX13_braid 44 = .ok (.aload_n 0, 1) := by decide +kernel
theorem dX13_braid_45 : decode cX13_braid 45 = .ok (.getfield 400, 3) := by decide +kernel
theorem dX13_braid_48 : decode cX13_braid 48 = .ok (.if_icmp .ge 117, 3) := by decide +kernel
theorem dX13_braid_165 : decode cX13_braid 165 = .ok (.aload_n 0, 1) := by decide +kernel
theorem dX13_braid_166 : decode cX13_braid 166 = .ok (.getfield 400, 3) := by decide +kernel
theorem dX13_braid_169 : decode cX13_braid 169 = .ok (.istore 4, 2) := by decide +kernel
theorem dX13_braid_171 : decode cX13_braid 171 = .ok (.aload_n 0, 1) := by decide +kernel
theorem dX13_braid_172 : decode cX13_braid 172 = .ok (.iconst 0, 1) := by decide +kernel
theorem dX13_braid_173 : decode cX13_braid 173 = .ok (.putfield 400, 3) := by decide +kernel
theorem dX13_braid_176 : decode cX13_braid 176 = .ok (.iload_n 3, 1) := by decide +kernel
theorem dX13_braid_177 : decode cX13_braid 177 = .ok (.iconst (-1), 1) := by decide +kernel
theorem dX13_braid_178 : decode cX13_braid 178 = .ok (.if_icmp .eq 7, 3) := by decide +kernel
theorem dX13_braid_181 : decode cX13_braid 181 = .ok (.iconst (-1), 1) := by decide +kernel
theorem dX13_braid_182 : decode cX13_braid 182 = .ok (.iload_n 3, 1) := by decide +kernel
theorem dX13_braid_183 : decode cX13_braid 183 = .ok (.isub, 1) := by decide +kernel
theorem dX13_braid_184 : decode cX13_braid 184 = .ok (.ireturn, 1) := by decide +kernel
theorem dX13_braid_185 : decode cX13_braid 185 = .ok (.aload_n 0, 1) := by decide +kernel
theorem dX13_braid_186 : decode cX13_braid 186 = .ok (.getfield 323, 3) := by decide +kernel
theorem dX13_braid_189 : decode cX13_braid 189 = .ok (.iload_n 2, 1) := by decide +kernel
theorem dX13_braid_190 : decode cX13_braid 190 = .ok (.iload 4, 2) := by decide +kernel
theorem dX13_braid_192 : decode cX13_braid 192 = .ok (.iastore, 1) := by decide +kernel
theorem dX13_braid_193 : decode cX13_braid 193 = .ok (.aload_n 0, 1) := by decide +kernel
theorem dX13_braid_194 : decode cX13_braid 194 = .ok (.getfield 326, 3) := by decide +kernel
theorem dX13_braid_197 : decode cX13_braid 197 = .ok (.iload_n 2, 1) := by decide +kernel
theorem dX13_braid_198 : decode cX13_braid 198 = .ok (.iload_n 1, 1) := by decide +kernel
theorem dX13_braid_199 : decode cX13_braid 199 = .ok (.iastore, 1) := by decide +kernel
theorem dX13_braid_200 : decode cX13_braid 200 = .ok (.iload_n 2, 1) := by decide +kernel
theorem dX13_braid_201 : decode cX13_braid 201 = .ok (.ireturn, 1) := by decide +kernel
def wf_M_braid : List Cond := .code yX13_braid cX13_braid 8 (some .int) :: ([.fieldLink RX13 1 "KnotHouseModel" "thrown" "I", .fieldLink RX13 400 "KnotHouseModel" "taped" "I", .fieldLink RX13 323 "KnotHouseModel" "lengths" "[I", .fieldLink RX13 326 "KnotHouseModel" "strands" "[I"] ++ wsX130 ++ (wsV RX13 736 RX13 yX13_freeBraid wf_MfreeBraid ++ wsV RX13 403 RX13 yX13_fails wf_Mfails))
theorem gf_X13_braid_a : GoodIn wf_M_braid (wsV RX13 736 RX13 yX13_freeBraid wf_MfreeBraid) := goodIn_sub (fun _ h => List.mem_cons_of_mem _ (List.mem_append_right _ (List.mem_append_left _ h))) (by decide +kernel)
theorem gf_X13_braid_b : GoodIn wf_M_braid (wsV RX13 403 RX13 yX13_fails wf_Mfails) := goodIn_sub (fun _ h => List.mem_cons_of_mem _ (List.mem_append_right _ (List.mem_append_right _ h))) (by decide +kernel)
set_option maxHeartbeats 4000000 in
set_option maxRecDepth 100000 in
theorem kf_X13_braid (l : Launch) (dC : Nat → ClassId) (dI : Nat → Nat → Nat) (cI cB cJ cZ : ClassId) (h0 sz : Nat) (fs : List Value) (hfs : fs.length = 120) (ar aH : Nat) (hk : fs[95]? = some (.ref ar)) (hkH : fs[94]? = some (.ref aH)) (hkd : fs[10]? = some (.int 0)) (n : Int32) : Met l yX13_braid wf_M_braid (({ frames := 1, cells := 0, slots := 0, locals := 21 } : Room)) (va_Pc [.ref h0, .int n] (fun U => U.heap.size = sz ∧ va_P (dC, dI) vwCl [(h0, .inr (16, fs)), (ar, .inl (cI, 20, .inl (fun _ => 0))), (aH, .inl (cI, 20, .inl (fun _ => 0)))] U.heap ∧ va_K (dC, dI) vwCl [(cI, .int), (cB, .byte), (cJ, .long), (cZ, .boolean)] U ∧ va_D (fun _ => True) [(h0, .inr (16, fs)), (ar, .inl (cI, 20, .inl (fun _ => 0))), (aH, .inl (cI, 20, .inl (fun _ => 0)))])) (va_Qi (fun r (g : List Value) => r = 0 ∧ g[0]? = some (.int (if n < 2 ∨ ¬ n ≤ 5 then 1 else 0))) (fun g t => va_P (dC, dI) vwCl [(h0, .inr (16, g))] t.heap ∧ va_D (va_A [(h0, .inr (16, fs)), (ar, .inl (cI, 20, .inl (fun _ => 0))), (aH, .inl (cI, 20, .inl (fun _ => 0)))] sz) [(h0, .inr (16, g))]) (va_A [(h0, .inr (16, fs)), (ar, .inl (cI, 20, .inl (fun _ => 0))), (aH, .inl (cI, 20, .inl (fun _ => 0)))] sz)) 0 0 (va_A [(h0, .inr (16, fs)), (ar, .inl (cI, 20, .inl (fun _ => 0))), (aH, .inl (cI, 20, .inl (fun _ => 0)))] sz) := by
  refine Met.ofW (cc := cX13_braid) (maxL := 8) (ret := (some .int)) (by decide) rfl ?_
  intro p e s m args below meth c s₁ B hml hv
  obtain ⟨rfl, hsz, hP, hK, hD0⟩ := hv
  have hx := B.exec
  have hb := B.bytes
  have hr := B.returns
  have hts := atoms_spec (ws := wf_M_braid) B.pre
  have hown : s.vm.findClass RX13 = some m.cls := findClass_of_methodNamed B.named
  have hlocks := B.notSynchronized
  subst hsz
  have hD := hD0.self (sz := s.heap.size)
  generalize hAe : va_A [(h0, .inr (16, fs)), (ar, .inl (cI, 20, .inl (fun _ => 0))), (aH, .inl (cI, 20, .inl (fun _ => 0)))] s.heap.size = A at hD ⊢
  have hA : ∀ q : Nat, s.heap.size ≤ q → A q := fun q h => by rw [← hAe]; exact Or.inr h
  have hS : va_S A s.heap s.heap [] := va_S.rf
  have hP : va_P (dC, dI) vwCl [(h0, .inr (16, fs)), (ar, .inl (cI, 20, .inl (fun _ => 0))), (aH, .inl (cI, 20, .inl (fun _ => 0)))] s.heap := hP
  have hl := lv_entry ([.ref h0, .int n]) (n := 8) (Nat.le_of_ble_eq_true rfl)
  rw [lg_entry_eq]
  generalize (lg_sl ([.ref h0, .int n]) ++ List.replicate (8 - (lg_sl ([.ref h0, .int n])).length) Slot.unset).toArray = ls at hl ⊢
  have hl : lv_has ls 8 [(0, .ref h0), (1, .int n)] := hl
  refine ow_named (fun QQ hQQ => ?_)
  refine lv_aload_n hx hb dX13_braid_0 rfl (lv_at hl 0 rfl) ?_
  refine lv_iconst (v := 0) hx hb dX13_braid_1 (by decide) ?_
  refine va_put (D := (dC, dI)) (ci := 16) (v := .int 0) (ty := .int) (C := RX13) (T := TX13) (N := 120) hx hb hts (fun _ h => List.mem_cons_of_mem _ (List.mem_append_left _ (List.mem_append_right _ h))) tyX13 tyX13_ok nmX13 hown hK hP hD hS 0 rfl rfl 0 (by decide) (hts (.fieldLink RX13 1 "KnotHouseModel" "thrown" "I") (by decide +kernel)) (fun _ h9 => h9) rfl (by decide +kernel) rfl rfl (by rw [hfs]; decide) dX13_braid_2 (fun H locs hP hD hS => ?_)
  obtain ⟨fs1, efs1⟩ : ∃ x, x = List.set fs 0 (.int 0) := ⟨_, rfl⟩
  have hnfs1 : fs1.length = 120 := by rw [efs1, List.length_set]; exact hfs
  have hfs1_94 : fs1[94]? = some (.ref aH) := by rw [efs1, List.getElem?_set_ne (by decide)]; exact hkH
  have hfs1_95 : fs1[95]? = some (.ref ar) := by rw [efs1, List.getElem?_set_ne (by decide)]; exact hk
  have hfs1_10 : fs1[10]? = some (.int 0) := by rw [efs1, List.getElem?_set_ne (by decide)]; exact hkd
  have hfs1_0 : fs1[0]? = some (.int 0) := by rw [efs1]; exact List.getElem?_set_self (by rw [hfs]; decide)
  have hP : va_P (dC, dI) vwCl [(h0, .inr (16, fs1)), (ar, .inl (cI, 20, .inl (fun _ => 0))), (aH, .inl (cI, 20, .inl (fun _ => 0)))] H := by rw [efs1]; exact hP
  have hD : va_D A [(h0, .inr (16, fs1)), (ar, .inl (cI, 20, .inl (fun _ => 0))), (aH, .inl (cI, 20, .inl (fun _ => 0)))] := by rw [efs1]; exact hD
  refine lv_iload_n hx hb dX13_braid_5 rfl (lv_at hl 1 rfl) ?_
  refine lv_iconst (v := 2) hx hb dX13_braid_6 (by decide) ?_
  refine lv_icmp_lt (tgt := 15) hx hb dX13_braid_7 (by decide) (fun c2 => ?_) (fun c2 => ?_)
  · refine lv_aload_n hx hb dX13_braid_15 rfl (lv_at hl 0 rfl) ?_
    refine lv_iconst (v := 1) hx hb dX13_braid_16 (by decide) ?_
    have hPc := hP.sub (ws' := [(h0, .inr (16, fs1))]) [0] rfl
    have hDc := hD.sub (ws' := [(h0, .inr (16, fs1))]) [0] (by decide) rfl
    have hFc := va_free (wc := [(h0, .inr (16, fs1))]) hD hS hA [0] rfl
    refine va_calli (va_runV (As := [.int 1]) (rest := []) ⟨hx, hb, hml, hown, hts⟩ (kf_X13_fails l dC dI cI cB cJ cZ h0 H.size fs1 hnfs1 1) (cwV 1 hts gf_X13_braid_b rfl rfl rfl (by decide +kernel) ⟨(Nat.le_of_ble_eq_true rfl), (Nat.le_of_ble_eq_true rfl)⟩) ⟨fun a U g mk q => by obtain ⟨q0, q1, qP, qK, qD⟩ := q; exact ⟨q0, q1, qP, va_K.moved (u := U) (U := U.calling g mk a) (Vm.Alike.refl U.vm) qK, qD⟩, va_recv hK hPc (ci := 16) (q0 := 0) rfl rfl, fun U hU hW => ⟨rfl, by rw [hU], by rw [hU]; exact hPc, va_K.moved hW.alike hK, hDc.weaken (fun _ _ _ _ => trivial)⟩⟩ rfl rfl hl.1 rfl (lv_room (Nat.le_of_ble_eq_true rfl)) dX13_braid_17 ⟨(Nat.le_of_ble_eq_true rfl), (Nat.le_of_ble_eq_true rfl)⟩) hS (fun q _ h => hFc q h) hFc (fun r9 gs t H1 locs ht hvm hw hB hz1 hk1 hS => ?_)
    obtain ⟨hP1, hD1⟩ := hB
    rw [ht] at hP1
    obtain ⟨hr0, hg0⟩ := hw
    subst hr0
    obtain ⟨hP, hD⟩ := va_join (wr := [(ar, .inl (cI, 20, .inl (fun _ => 0))), (aH, .inl (cI, 20, .inl (fun _ => 0)))]) (w1 := [(h0, .inr (16, gs))]) hP hD [0] [1, 2] rfl rfl (by decide) (by decide) hk1 hFc hP1 hD1
    generalize H1 = H at hP hS ⊢
    have hP : va_P (dC, dI) vwCl [(ar, .inl (cI, 20, .inl (fun _ => 0))), (aH, .inl (cI, 20, .inl (fun _ => 0))), (h0, .inr (16, gs))] H := hP
    have hD : va_D A [(ar, .inl (cI, 20, .inl (fun _ => 0))), (aH, .inl (cI, 20, .inl (fun _ => 0))), (h0, .inr (16, gs))] := hD
    have hP := hP.sub (ws' := [(h0, .inr (16, gs))]) [2] rfl
    have hD := hD.sub (ws' := [(h0, .inr (16, gs))]) [2] (by decide) rfl
    rw [hQQ]
    exact W.iret (v := 0) hx hb hr (fun t ht hW => ⟨⟨0, gs, rfl, ⟨rfl, by rw [if_pos (Or.inl c2)]; exact hg0⟩, by rw [ht]; exact hP, hD⟩, hS.F ht⟩) hS.2.2 dX13_braid_20
  · refine lv_iload_n hx hb dX13_braid_10 rfl (lv_at hl 1 rfl) ?_
    refine lv_iconst (v := 5) hx hb dX13_braid_11 (by decide) ?_
    refine lv_icmp_le (tgt := 21) hx hb dX13_braid_12 (by decide) (fun c3 => ?_) (fun c3 => ?_)
    · refine lv_aload_n hx hb dX13_braid_21 rfl (lv_at hl 0 rfl) ?_
      have hPc := hP.sub (ws' := [(h0, .inr (16, fs1)), (ar, .inl (cI, 20, .inl (fun _ => 0)))]) [0, 1] rfl
      refine va_calli (va_runV (As := []) (rest := []) ⟨hx, hb, hml, hown, hts⟩ (kf_X13_freeBraid l dC dI cI cB cJ cZ h0 ar fs1 hnfs1 hfs1_95) (cwV 0 hts gf_X13_braid_a rfl rfl rfl (by decide +kernel) ⟨(Nat.le_of_ble_eq_true rfl), (Nat.le_of_ble_eq_true rfl)⟩) ⟨fun a U g mk q => by obtain ⟨q0, qP, qK⟩ := q; exact ⟨q0, qP, va_K.moved (u := U) (U := U.calling g mk a) (Vm.Alike.refl U.vm) qK⟩, va_recv hK hPc (ci := 16) (q0 := 0) rfl rfl, fun U hU hW => ⟨rfl, by rw [hU]; exact hPc, va_K.moved hW.alike hK⟩⟩ rfl rfl hl.1 rfl (lv_room (Nat.le_of_ble_eq_true rfl)) dX13_braid_22 ⟨(Nat.le_of_ble_eq_true rfl), (Nat.le_of_ble_eq_true rfl)⟩) hS (fun q _ h => h.elim) (fun q h => h.elim) (fun r9 un t H1 locs ht hvm hw hB hz1 hk1 hS => ?_)
      obtain rfl : r9 = 0 := hw
      have hP := hP.kept (fun k9 x9 h9 => hk1 x9.1 ((hP k9 x9 h9).lt) id)
      generalize H1 = H at hP hS ⊢
      refine lv_istore_n (lv' := [(2, .int 0), (0, .ref h0), (1, .int n)]) hx hb dX13_braid_25 rfl hl (by decide) rfl (fun ls hl => ?_)
      refine lv_iload_n hx hb dX13_braid_26 rfl (lv_at hl 0 rfl) ?_
      refine lv_iconst (v := (-1)) hx hb dX13_braid_27 (by decide) ?_
      refine lv_icmp_ne (tgt := 37) hx hb dX13_braid_28 (by decide) (fun _ => ?_) (fun c9 => absurd c9 (by decide))
      refine lv_iconst (v := (-1)) hx hb dX13_braid_37 (by decide) ?_
      refine lv_istore_n (lv' := [(3, .int (-1)), (2, .int 0), (0, .ref h0), (1, .int n)]) hx hb dX13_braid_38 rfl hl (by decide) rfl (fun ls hl => ?_)
      refine lv_iconst (v := 0) hx hb dX13_braid_39 (by decide) ?_
      refine lv_istore (lv' := [(4, .int 0), (3, .int (-1)), (2, .int 0), (0, .ref h0), (1, .int n)]) hx hb dX13_braid_40 hl (by decide) rfl (fun ls hl => ?_)
      refine lv_iload hx hb dX13_braid_42 (lv_at hl 0 rfl) ?_
      refine lv_aload_n hx hb dX13_braid_44 rfl (lv_at hl 3 rfl) ?_
      refine va_get (D := (dC, dI)) (ci := 16) (v := .int 0) (C := RX13) (T := TX13) (N := 120) hx hb hts (fun _ h => List.mem_cons_of_mem _ (List.mem_append_left _ (List.mem_append_right _ h))) hown hK hP 0 rfl rfl 10 (by decide) (hts (.fieldLink RX13 400 "KnotHouseModel" "taped" "I") (by decide +kernel)) (fun _ h9 => h9) hfs1_10 dX13_braid_45 ?_
      refine lv_icmp_ge (tgt := 165) hx hb dX13_braid_48 (by decide) (fun _ => ?_) (fun c9 => absurd (by decide) c9)
      refine lv_aload_n hx hb dX13_braid_165 rfl (lv_at hl 3 rfl) ?_
      refine va_get (D := (dC, dI)) (ci := 16) (v := .int 0) (C := RX13) (T := TX13) (N := 120) hx hb hts (fun _ h => List.mem_cons_of_mem _ (List.mem_append_left _ (List.mem_append_right _ h))) hown hK hP 0 rfl rfl 10 (by decide) (hts (.fieldLink RX13 400 "KnotHouseModel" "taped" "I") (by decide +kernel)) (fun _ h9 => h9) hfs1_10 dX13_braid_166 ?_
      refine lv_istore (lv' := [(4, .int 0), (3, .int (-1)), (2, .int 0), (0, .ref h0), (1, .int n)]) hx hb dX13_braid_169 hl (by decide) rfl (fun ls hl => ?_)
      refine lv_aload_n hx hb dX13_braid_171 rfl (lv_at hl 3 rfl) ?_
      refine lv_iconst (v := 0) hx hb dX13_braid_172 (by decide) ?_
      refine va_put (D := (dC, dI)) (ci := 16) (v := .int 0) (ty := .int) (C := RX13) (T := TX13) (N := 120) hx hb hts (fun _ h => List.mem_cons_of_mem _ (List.mem_append_left _ (List.mem_append_right _ h))) tyX13 tyX13_ok nmX13 hown hK hP hD hS 0 rfl rfl 10 (by decide) (hts (.fieldLink RX13 400 "KnotHouseModel" "taped" "I") (by decide +kernel)) (fun _ h9 => h9) rfl (by decide +kernel) rfl rfl (by rw [hnfs1]; decide) dX13_braid_173 (fun H locs hP hD hS => ?_)
      obtain ⟨fs4, efs4⟩ : ∃ x, x = List.set fs1 10 (.int 0) := ⟨_, rfl⟩
      have hnfs4 : fs4.length = 120 := by rw [efs4, List.length_set]; exact hnfs1
      have hfs4_94 : fs4[94]? = some (.ref aH) := by rw [efs4, List.getElem?_set_ne (by decide)]; exact hfs1_94
      have hfs4_95 : fs4[95]? = some (.ref ar) := by rw [efs4, List.getElem?_set_ne (by decide)]; exact hfs1_95
      have hfs4_0 : fs4[0]? = some (.int 0) := by rw [efs4, List.getElem?_set_ne (by decide)]; exact hfs1_0
      have hfs4_10 : fs4[10]? = some (.int 0) := by rw [efs4]; exact List.getElem?_set_self (by rw [hnfs1]; decide)
      have hP : va_P (dC, dI) vwCl [(h0, .inr (16, fs4)), (ar, .inl (cI, 20, .inl (fun _ => 0))), (aH, .inl (cI, 20, .inl (fun _ => 0)))] H := by rw [efs4]; exact hP
      have hD : va_D A [(h0, .inr (16, fs4)), (ar, .inl (cI, 20, .inl (fun _ => 0))), (aH, .inl (cI, 20, .inl (fun _ => 0)))] := by rw [efs4]; exact hD
      refine lv_iload_n hx hb dX13_braid_176 rfl (lv_at hl 1 rfl) ?_
      refine lv_iconst (v := (-1)) hx hb dX13_braid_177 (by decide) ?_
      refine lv_icmp_eq (tgt := 185) hx hb dX13_braid_178 (by decide) (fun _ => ?_) (fun c9 => absurd (rfl) c9)
      refine lv_aload_n hx hb dX13_braid_185 rfl (lv_at hl 3 rfl) ?_
      refine va_get (D := (dC, dI)) (ci := 16) (v := .ref aH) (C := RX13) (T := TX13) (N := 120) hx hb hts (fun _ h => List.mem_cons_of_mem _ (List.mem_append_left _ (List.mem_append_right _ h))) hown hK hP 0 rfl rfl 94 (by decide) (hts (.fieldLink RX13 323 "KnotHouseModel" "lengths" "[I") (by decide +kernel)) (fun _ h9 => h9) hfs4_94 dX13_braid_186 ?_
      refine lv_iload_n hx hb dX13_braid_189 rfl (lv_at hl 2 rfl) ?_
      refine lv_iload hx hb dX13_braid_190 (lv_at hl 0 rfl) ?_
      refine ow_iast hx hb hK hP hD hS 2 0 rfl rfl (vp_in_nI (n := 0) (N := 20) (by decide) (by decide)) dX13_braid_192 (fun f5 H locs hP hD hS => ?_)
      have hP : va_P (dC, dI) vwCl [(h0, .inr (16, fs4)), (ar, .inl (cI, 20, .inl (fun _ => 0))), (aH, .inl (cI, 20, .inl f5))] H := hP
      have hD : va_D A [(h0, .inr (16, fs4)), (ar, .inl (cI, 20, .inl (fun _ => 0))), (aH, .inl (cI, 20, .inl f5))] := hD
      refine lv_aload_n hx hb dX13_braid_193 rfl (lv_at hl 3 rfl) ?_
      refine va_get (D := (dC, dI)) (ci := 16) (v := .ref ar) (C := RX13) (T := TX13) (N := 120) hx hb hts (fun _ h => List.mem_cons_of_mem _ (List.mem_append_left _ (List.mem_append_right _ h))) hown hK hP 0 rfl rfl 95 (by decide) (hts (.fieldLink RX13 326 "KnotHouseModel" "strands" "[I") (by decide +kernel)) (fun _ h9 => h9) hfs4_95 dX13_braid_194 ?_
      refine lv_iload_n hx hb dX13_braid_197 rfl (lv_at hl 2 rfl) ?_
      refine lv_iload_n hx hb dX13_braid_198 rfl (lv_at hl 4 rfl) ?_
      refine ow_iast hx hb hK hP hD hS 1 0 rfl rfl (vp_in_nI (n := 0) (N := 20) (by decide) (by decide)) dX13_braid_199 (fun f6 H locs hP hD hS => ?_)
      have hP : va_P (dC, dI) vwCl [(h0, .inr (16, fs4)), (ar, .inl (cI, 20, .inl f6)), (aH, .inl (cI, 20, .inl f5))] H := hP
      have hD : va_D A [(h0, .inr (16, fs4)), (ar, .inl (cI, 20, .inl f6)), (aH, .inl (cI, 20, .inl f5))] := hD
      refine lv_iload_n hx hb dX13_braid_200 rfl (lv_at hl 2 rfl) ?_
      have hP := hP.sub (ws' := [(h0, .inr (16, fs4))]) [0] rfl
      have hD := hD.sub (ws' := [(h0, .inr (16, fs4))]) [0] (by decide) rfl
      rw [hQQ]
      exact W.iret (v := 0) hx hb hr (fun t ht hW => ⟨⟨0, fs4, rfl, ⟨rfl, by rw [if_neg (fun h9 => h9.elim c2 (fun y9 => y9 c3))]; exact hfs4_0⟩, by rw [ht]; exact hP, hD⟩, hS.F ht⟩) hS.2.2 dX13_braid_201
    · refine lv_aload_n hx hb dX13_braid_15 rfl (lv_at hl 0 rfl) ?_
      refine lv_iconst (v := 1) hx hb dX13_braid_16 (by decide) ?_
      have hPc := hP.sub (ws' := [(h0, .inr (16, fs1))]) [0] rfl
      have hDc := hD.sub (ws' := [(h0, .inr (16, fs1))]) [0] (by decide) rfl
      have hFc := va_free (wc := [(h0, .inr (16, fs1))]) hD hS hA [0] rfl
      refine va_calli (va_runV (As := [.int 1]) (rest := []) ⟨hx, hb, hml, hown, hts⟩ (kf_X13_fails l dC dI cI cB cJ cZ h0 H.size fs1 hnfs1 1) (cwV 1 hts gf_X13_braid_b rfl rfl rfl (by decide +kernel) ⟨(Nat.le_of_ble_eq_true rfl), (Nat.le_of_ble_eq_true rfl)⟩) ⟨fun a U g mk q => by obtain ⟨q0, q1, qP, qK, qD⟩ := q; exact ⟨q0, q1, qP, va_K.moved (u := U) (U := U.calling g mk a) (Vm.Alike.refl U.vm) qK, qD⟩, va_recv hK hPc (ci := 16) (q0 := 0) rfl rfl, fun U hU hW => ⟨rfl, by rw [hU], by rw [hU]; exact hPc, va_K.moved hW.alike hK, hDc.weaken (fun _ _ _ _ => trivial)⟩⟩ rfl rfl hl.1 rfl (lv_room (Nat.le_of_ble_eq_true rfl)) dX13_braid_17 ⟨(Nat.le_of_ble_eq_true rfl), (Nat.le_of_ble_eq_true rfl)⟩) hS (fun q _ h => hFc q h) hFc (fun r9 gs t H1 locs ht hvm hw hB hz1 hk1 hS => ?_)
      obtain ⟨hP1, hD1⟩ := hB
      rw [ht] at hP1
      obtain ⟨hr0, hg0⟩ := hw
      subst hr0
      obtain ⟨hP, hD⟩ := va_join (wr := [(ar, .inl (cI, 20, .inl (fun _ => 0))), (aH, .inl (cI, 20, .inl (fun _ => 0)))]) (w1 := [(h0, .inr (16, gs))]) hP hD [0] [1, 2] rfl rfl (by decide) (by decide) hk1 hFc hP1 hD1
      generalize H1 = H at hP hS ⊢
      have hP : va_P (dC, dI) vwCl [(ar, .inl (cI, 20, .inl (fun _ => 0))), (aH, .inl (cI, 20, .inl (fun _ => 0))), (h0, .inr (16, gs))] H := hP
      have hD : va_D A [(ar, .inl (cI, 20, .inl (fun _ => 0))), (aH, .inl (cI, 20, .inl (fun _ => 0))), (h0, .inr (16, gs))] := hD
      have hP := hP.sub (ws' := [(h0, .inr (16, gs))]) [2] rfl
      have hD := hD.sub (ws' := [(h0, .inr (16, gs))]) [2] (by decide) rfl
      rw [hQQ]
      exact W.iret (v := 0) hx hb hr (fun t ht hW => ⟨⟨0, gs, rfl, ⟨rfl, by rw [if_pos (Or.inr c3)]; exact hg0⟩, by rw [ht]; exact hP, hD⟩, hS.F ht⟩) hS.2.2 dX13_braid_20
