theorem dX1_rankAt_0 : decode cX1_rankAt 0 = .ok (.iload_n 1, 1) := by decide +kernel
theorem dX1_rankAt_1 : decode cX1_rankAt 1 = .ok (.i2l, 1) := by decide +kernel
theorem dX1_rankAt_2 : decode cX1_rankAt 2 = .ok (.aload_n 0, 1) := by decide +kernel
theorem dX1_rankAt_3 : decode cX1_rankAt 3 = .ok (.getfield 93, 3) := by decide +kernel
theorem dX1_rankAt_6 : decode cX1_rankAt 6 = .ok (.i2l, 1) := by decide +kernel
theorem dX1_rankAt_7 : decode cX1_rankAt 7 = .ok (.ladd, 1) := by decide +kernel
theorem dX1_rankAt_8 : decode cX1_rankAt 8 = .ok (.lstore_n 3, 1) := by decide +kernel
theorem dX1_rankAt_9 : decode cX1_rankAt 9 = .ok (.iload_n 2, 1) := by decide +kernel
theorem dX1_rankAt_10 : decode cX1_rankAt 10 = .ok (.i2l, 1) := by decide +kernel
theorem dX1_rankAt_11 : decode cX1_rankAt 11 = .ok (.aload_n 0, 1) := by decide +kernel
theorem dX1_rankAt_12 : decode cX1_rankAt 12 = .ok (.getfield 88, 3) := by decide +kernel
theorem dX1_rankAt_15 : decode cX1_rankAt 15 = .ok (.i2l, 1) := by decide +kernel
theorem dX1_rankAt_16 : decode cX1_rankAt 16 = .ok (.lsub, 1) := by decide +kernel
theorem dX1_rankAt_17 : decode cX1_rankAt 17 = .ok (.aload_n 0, 1) := by decide +kernel
theorem dX1_rankAt_18 : decode cX1_rankAt 18 = .ok (.getfield 93, 3) := by decide +kernel
theorem dX1_rankAt_21 : decode cX1_rankAt 21 = .ok (.i2l, 1) := by decide +kernel
theorem dX1_rankAt_22 : decode cX1_rankAt 22 = .ok (.ladd, 1) := by decide +kernel
theorem dX1_rankAt_23 : decode cX1_rankAt 23 = .ok (.ldc2_w 115, 3) := by decide +kernel
theorem dX1_rankAt_26 : decode cX1_rankAt 26 = .ok (.lsub, 1) := by decide +kernel
theorem dX1_rankAt_27 : decode cX1_rankAt 27 = .ok (.lstore 5, 2) := by decide +kernel
theorem dX1_rankAt_29 : decode cX1_rankAt 29 = .ok (.lload_n 3, 1) := by decide +kernel
theorem dX1_rankAt_30 : decode cX1_rankAt 30 = .ok (.lconst 0, 1) := by decide +kernel
theorem dX1_rankAt_31 : decode cX1_rankAt 31 = .ok (.lcmp, 1) := by decide +kernel
theorem dX1_rankAt_32 : decode cX1_rankAt 32 = .ok (.ifCond .lt 27, 3) := by decide +kernel
theorem dX1_rankAt_35 : decode cX1_rankAt 35 = .ok (.lload_n 3, 1) := by decide +kernel
theorem dX1_rankAt_36 : decode cX1_rankAt 36 = .ok (.ldc2_w 117, 3) := by decide +kernel
theorem dX1_rankAt_39 : decode cX1_rankAt 39 = .ok (.lcmp, 1) := by decide +kernel
theorem dX1_rankAt_40 : decode cX1_rankAt 40 = .ok (.ifCond .gt 19, 3) := by decide +kernel
theorem dX1_rankAt_43 : decode cX1_rankAt 43 = .ok (.lload 5, 2) := by decide +kernel
theorem dX1_rankAt_45 : decode cX1_rankAt 45 = .ok (.lconst 0, 1) := by decide +kernel
theorem dX1_rankAt_46 : decode cX1_rankAt 46 = .ok (.lcmp, 1) := by decide +kernel
theorem dX1_rankAt_47 : decode cX1_rankAt 47 = .ok (.ifCond .lt 12, 3) := by decide +kernel
theorem dX1_rankAt_50 : decode cX1_rankAt 50 = .ok (.lload 5, 2) := by decide +kernel
theorem dX1_rankAt_52 : decode cX1_rankAt 52 = .ok (.ldc2_w 119, 3) := by decide +kernel
theorem dX1_rankAt_55 : decode cX1_rankAt 55 = .ok (.lcmp, 1) := by decide +kernel
theorem dX1_rankAt_56 : decode cX1_rankAt 56 = .ok (.ifCond .lt 7, 3) := by decide +kernel
theorem dX1_rankAt_59 : decode cX1_rankAt 59 = .ok (.iconst 0, 1) := by decide +kernel
theorem dX1_rankAt_60 : decode cX1_rankAt 60 = .ok (.goto 17, 3) := by decide +kernel
theorem dX1_rankAt_63 : decode cX1_rankAt 63 = .ok (.aload_n 0, 1) := by decide +kernel
theorem dX1_rankAt_64 : decode cX1_rankAt 64 = .ok (.getfield 64, 3) := by decide +kernel
theorem dX1_rankAt_67 : decode cX1_rankAt 67 = .ok (.lload_n 3, 1) := by decide +kernel
theorem dX1_rankAt_68 : decode cX1_rankAt 68 = .ok (.ldc2_w 119, 3) := by decide +kernel
theorem dX1_rankAt_71 : decode cX1_rankAt 71 = .ok (.lmul, 1) := by decide +kernel
theorem dX1_rankAt_72 : decode cX1_rankAt 72 = .ok (.lload 5, 2) := by decide +kernel
theorem dX1_rankAt_74 : decode cX1_rankAt 74 = .ok (.ladd, 1) := by decide +kernel
theorem dX1_rankAt_75 : decode cX1_rankAt 75 = .ok (.l2i, 1) := by decide +kernel
theorem dX1_rankAt_76 : decode cX1_rankAt 76 = .ok (.iaload, 1) := by decide +kernel
theorem dX1_rankAt_77 : decode cX1_rankAt 77 = .ok (.ireturn, 1) := by decide +kernel
def wf_rankAt : List Cond := .code yX1_rankAt cX1_rankAt 7 (some .int) :: ([.fieldLink RX1 93 "KnotHouse$Chains" "negatives" "I", .fieldLink RX1 88 "KnotHouse$Chains" "writhe" "I", .fieldLink RX1 64 "KnotHouse$Chains" "ranks" "[I", .constantLong RX1 115 (-20), .constantLong RX1 117 (8), .constantLong RX1 119 (56)] ++ wsX10)
theorem ow_rk {x y : Int64} (h1 : ¬ lg_cmp x 0 < 0) (h2 : ¬ 0 < lg_cmp x 8) (h3 : ¬ lg_cmp y 0 < 0) (h4 : lg_cmp y 56 < 0) : vp_in (x * 56 + y).toInt32 504 := by
  obtain ⟨a, ha, rfl⟩ := pk_lOf (fun h => h1 ((lg_cmp_lt _ _).mpr h))
  obtain ⟨b, hb, rfl⟩ := pk_lOf (fun h => h3 ((lg_cmp_lt _ _).mpr h))
  have h5 : b < 56 := (pk_lLT (b := 56) hb (by decide)).mp ((lg_cmp_lt _ _).mp h4)
  have h6 : a ≤ 8 := by
    rcases Nat.lt_or_ge 8 a with q | q
    · exact absurd ((lg_cmp_gt _ _).mpr ((pk_lLT (a := 8) (by decide) ha).mpr q)) h2
    · exact q
  have h7 : lN a * 56 + lN b = lN (a * 56 + b) := by
    have e1 := lN_mul a 56
    have e2 := lN_add (a * 56) b
    rw [← e2, ← e1]
    rfl
  rw [h7, lN_i]
  exact vp_in_nI (by omega) (by decide)
set_option maxHeartbeats 4000000 in
set_option maxRecDepth 100000 in
theorem kf_X1_rankAt (l : Launch) (dC : Nat → ClassId) (dI : Nat → Nat → Nat) (cI cB cJ cZ : ClassId) (u : Nat → Nat) (p0 p1 : Int32) : Met l yX1_rankAt wf_rankAt (({ frames := 0, cells := 0, slots := 0, locals := 0 } : Room)) (va_Pc [.ref (u 11), .int p0, .int p1] (fun U => va_P (dC, dI) vwCl [((u 11), .inr (4, [.ref (u 66), .ref (u 67), .ref (u 68), .ref (u 69), .ref (u 70), .ref (u 71), .ref (u 72), .ref (u 73), .ref (u 74), .int 0, .ref (u 75), .ref (u 76), .ref (u 77), .ref (u 78), .ref (u 79), .ref (u 80), .int 0, .ref (u 81), .int 0, .int 0])), ((u 81), .inl (cI, 504, .inl (fun _ => 0)))] U.heap ∧ va_K (dC, dI) vwCl [(cI, .int), (cB, .byte), (cJ, .long), (cZ, .boolean)] U)) (va_Qi (fun r (_ : Unit) => r = 0) (fun _ _ => True) (fun _ => False)) 0 0 (fun _ => False) := by
  refine Met.ofW (cc := cX1_rankAt) (maxL := 7) (ret := (some .int)) (by decide) rfl ?_
  intro p e s m args below meth c s₁ B hml hv
  obtain ⟨rfl, hP, hK⟩ := hv
  have hx := B.exec
  have hb := B.bytes
  have hr := B.returns
  have hts := atoms_spec (ws := wf_rankAt) B.pre
  have hown : s.vm.findClass RX1 = some m.cls := findClass_of_methodNamed B.named
  have hlocks := B.notSynchronized
  have hS : va_S (fun _ => False) s.heap s.heap [] := va_S.rf
  have hP : va_P (dC, dI) vwCl [((u 11), .inr (4, [.ref (u 66), .ref (u 67), .ref (u 68), .ref (u 69), .ref (u 70), .ref (u 71), .ref (u 72), .ref (u 73), .ref (u 74), .int 0, .ref (u 75), .ref (u 76), .ref (u 77), .ref (u 78), .ref (u 79), .ref (u 80), .int 0, .ref (u 81), .int 0, .int 0])), ((u 81), .inl (cI, 504, .inl (fun _ => 0)))] s.heap := hP
  have hl := lv_entry ([.ref (u 11), .int p0, .int p1]) (n := 7) (Nat.le_of_ble_eq_true rfl)
  rw [lg_entry_eq]
  generalize (lg_sl ([.ref (u 11), .int p0, .int p1]) ++ List.replicate (7 - (lg_sl ([.ref (u 11), .int p0, .int p1])).length) Slot.unset).toArray = ls at hl ⊢
  have hl : lv_has ls 7 [(0, .ref (u 11)), (1, .int p0), (2, .int p1)] := hl
  refine ow_named (fun QQ hQQ => ?_)
  refine lv_iload_n hx hb dX1_rankAt_0 rfl (lv_at hl 1 rfl) ?_
  refine lv_i2l hx hb dX1_rankAt_1 rfl ?_
  refine lv_aload_n hx hb dX1_rankAt_2 rfl (lv_at hl 0 rfl) ?_
  refine va_get (D := (dC, dI)) (ci := 4) (v := .int 0) (C := RX1) (T := TX1) (N := 20) hx hb hts (by decide +kernel) hown hK hP 0 rfl rfl 19 (by decide) (hts (.fieldLink RX1 93 "KnotHouse$Chains" "negatives" "I") (by decide +kernel)) (fun _ h9 => h9) rfl dX1_rankAt_3 ?_
  refine lv_i2l hx hb dX1_rankAt_6 rfl ?_
  refine lv_ladd hx hb dX1_rankAt_7 ?_
  refine lv_topl (fun x1 _ => ?_)
  refine lv_lstore_n (lv' := [(3, .long x1), (0, .ref (u 11)), (1, .int p0), (2, .int p1)]) hx hb dX1_rankAt_8 rfl hl (by decide) rfl (fun ls hl => ?_)
  refine lv_iload_n hx hb dX1_rankAt_9 rfl (lv_at hl 3 rfl) ?_
  refine lv_i2l hx hb dX1_rankAt_10 rfl ?_
  refine lv_aload_n hx hb dX1_rankAt_11 rfl (lv_at hl 1 rfl) ?_
  refine va_get (D := (dC, dI)) (ci := 4) (v := .int 0) (C := RX1) (T := TX1) (N := 20) hx hb hts (by decide +kernel) hown hK hP 0 rfl rfl 18 (by decide) (hts (.fieldLink RX1 88 "KnotHouse$Chains" "writhe" "I") (by decide +kernel)) (fun _ h9 => h9) rfl dX1_rankAt_12 ?_
  refine lv_i2l hx hb dX1_rankAt_15 rfl ?_
  refine lv_lsub hx hb dX1_rankAt_16 ?_
  refine lv_aload_n hx hb dX1_rankAt_17 rfl (lv_at hl 1 rfl) ?_
  refine va_get (D := (dC, dI)) (ci := 4) (v := .int 0) (C := RX1) (T := TX1) (N := 20) hx hb hts (by decide +kernel) hown hK hP 0 rfl rfl 19 (by decide) (hts (.fieldLink RX1 93 "KnotHouse$Chains" "negatives" "I") (by decide +kernel)) (fun _ h9 => h9) rfl dX1_rankAt_18 ?_
  refine lv_i2l hx hb dX1_rankAt_21 rfl ?_
  refine lv_ladd hx hb dX1_rankAt_22 ?_
  refine lv_ldc2 (v := (-20)) hx hb hown (hts (.constantLong RX1 115 (-20)) (by decide +kernel)) dX1_rankAt_23 ?_
  refine lv_lsub hx hb dX1_rankAt_26 ?_
  refine lv_topl (fun x2 _ => ?_)
  refine lv_lstore (lv' := [(5, .long x2), (3, .long x1), (0, .ref (u 11)), (1, .int p0), (2, .int p1)]) hx hb dX1_rankAt_27 hl (by decide) rfl (fun ls hl => ?_)
  refine lv_lload_n hx hb dX1_rankAt_29 rfl (lv_at hl 1 rfl) ?_
  refine lv_lconst (v := 0) hx hb dX1_rankAt_30 rfl ?_
  refine W.lcmp hx hb dX1_rankAt_31 ?_
  refine lv_if_lt (tgt := 59) hx hb dX1_rankAt_32 (by decide) (fun c3 => ?_) (fun c3 => ?_)
  · refine lv_iconst (v := 0) hx hb dX1_rankAt_59 (by decide) ?_
    refine lv_goto (tgt := 77) hx hb dX1_rankAt_60 (by decide) ?_
    rw [hQQ]
    exact W.iret (v := 0) hx hb hr (fun t ht hW => ⟨⟨0, (), rfl, rfl, trivial⟩, hS.F ht⟩) hS.2.2 dX1_rankAt_77
  · refine lv_lload_n hx hb dX1_rankAt_35 rfl (lv_at hl 1 rfl) ?_
    refine lv_ldc2 (v := 8) hx hb hown (hts (.constantLong RX1 117 (8)) (by decide +kernel)) dX1_rankAt_36 ?_
    refine W.lcmp hx hb dX1_rankAt_39 ?_
    refine lv_if_gt (tgt := 59) hx hb dX1_rankAt_40 (by decide) (fun c4 => ?_) (fun c4 => ?_)
    · refine lv_iconst (v := 0) hx hb dX1_rankAt_59 (by decide) ?_
      refine lv_goto (tgt := 77) hx hb dX1_rankAt_60 (by decide) ?_
      rw [hQQ]
      exact W.iret (v := 0) hx hb hr (fun t ht hW => ⟨⟨0, (), rfl, rfl, trivial⟩, hS.F ht⟩) hS.2.2 dX1_rankAt_77
    · refine lv_lload hx hb dX1_rankAt_43 (lv_at hl 0 rfl) ?_
      refine lv_lconst (v := 0) hx hb dX1_rankAt_45 rfl ?_
      refine W.lcmp hx hb dX1_rankAt_46 ?_
      refine lv_if_lt (tgt := 59) hx hb dX1_rankAt_47 (by decide) (fun c5 => ?_) (fun c5 => ?_)
      · refine lv_iconst (v := 0) hx hb dX1_rankAt_59 (by decide) ?_
        refine lv_goto (tgt := 77) hx hb dX1_rankAt_60 (by decide) ?_
        rw [hQQ]
        exact W.iret (v := 0) hx hb hr (fun t ht hW => ⟨⟨0, (), rfl, rfl, trivial⟩, hS.F ht⟩) hS.2.2 dX1_rankAt_77
      · refine lv_lload hx hb dX1_rankAt_50 (lv_at hl 0 rfl) ?_
        refine lv_ldc2 (v := 56) hx hb hown (hts (.constantLong RX1 119 (56)) (by decide +kernel)) dX1_rankAt_52 ?_
        refine W.lcmp hx hb dX1_rankAt_55 ?_
        refine lv_if_lt (tgt := 63) hx hb dX1_rankAt_56 (by decide) (fun c6 => ?_) (fun c6 => ?_)
        · refine lv_aload_n hx hb dX1_rankAt_63 rfl (lv_at hl 2 rfl) ?_
          refine va_get (D := (dC, dI)) (ci := 4) (v := .ref (u 81)) (C := RX1) (T := TX1) (N := 20) hx hb hts (by decide +kernel) hown hK hP 0 rfl rfl 17 (by decide) (hts (.fieldLink RX1 64 "KnotHouse$Chains" "ranks" "[I") (by decide +kernel)) (fun _ h9 => h9) rfl dX1_rankAt_64 ?_
          refine lv_lload_n hx hb dX1_rankAt_67 rfl (lv_at hl 1 rfl) ?_
          refine lv_ldc2 (v := 56) hx hb hown (hts (.constantLong RX1 119 (56)) (by decide +kernel)) dX1_rankAt_68 ?_
          refine lv_lmul hx hb dX1_rankAt_71 ?_
          refine lv_lload hx hb dX1_rankAt_72 (lv_at hl 0 rfl) ?_
          refine lv_ladd hx hb dX1_rankAt_74 ?_
          refine lv_l2i hx hb dX1_rankAt_75 rfl ?_
          refine va_iald hx hb hK hP 1 0 rfl rfl (ow_rk c3 c4 c5 c6) dX1_rankAt_76 ?_
          refine ow_topi (y := 0) (rfl) ?_
          rw [hQQ]
          exact W.iret (v := (0)) hx hb hr (fun t ht hW => ⟨⟨(0), (), rfl, rfl, trivial⟩, hS.F ht⟩) hS.2.2 dX1_rankAt_77
        · refine lv_iconst (v := 0) hx hb dX1_rankAt_59 (by decide) ?_
          refine lv_goto (tgt := 77) hx hb dX1_rankAt_60 (by decide) ?_
          rw [hQQ]
          exact W.iret (v := 0) hx hb hr (fun t ht hW => ⟨⟨0, (), rfl, rfl, trivial⟩, hS.F ht⟩) hS.2.2 dX1_rankAt_77
theorem dX11_rank_0 : decode cX11_rank 0 = .ok (.aload_n 0, 1) := by decide +kernel
theorem dX11_rank_1 : decode cX11_rank 1 = .ok (.getfield 79, 3) := by decide +kernel
theorem dX11_rank_4 : decode cX11_rank 4 = .ok (.iload_n 1, 1) := by decide +kernel
theorem dX11_rank_5 : decode cX11_rank 5 = .ok (.iload_n 2, 1) := by decide +kernel
theorem dX11_rank_6 : decode cX11_rank 6 = .ok (.invokevirtual 375, 3) := by decide +kernel
theorem dX11_rank_9 : decode cX11_rank 9 = .ok (.ireturn, 1) := by decide +kernel
def wf_rank : List Cond := .code yX11_rank cX11_rank 3 (some .int) :: ((.fieldLink RX11 79 "KnotHouse" "chains" "LKnotHouse$Chains;" :: wsX110) ++ wsV RX11 375 RX1 yX1_rankAt wf_rankAt)
theorem gf_X11_rank : GoodIn wf_rank (wsV RX11 375 RX1 yX1_rankAt wf_rankAt) := goodIn_sub (fun _ h => List.mem_cons_of_mem _ (List.mem_append_right _ h)) (by decide +kernel)
set_option maxHeartbeats 4000000 in
set_option maxRecDepth 100000 in
theorem kf_X11_rank (l : Launch) (dC : Nat → ClassId) (dI : Nat → Nat → Nat) (cI cB cJ cZ : ClassId) (h0 : Nat) (u : Nat → Nat) (p0 p1 : Int32) : Met l yX11_rank wf_rank (({ frames := 1, cells := 0, slots := 0, locals := 26 } : Room)) (va_Pc [.ref h0, .int p0, .int p1] (fun U => va_P (dC, dI) vwCl [(h0, .inr (14, [.ref (u 0), .ref (u 1), .ref (u 2), .ref (u 3), .ref (u 4), .ref (u 5), .ref (u 6), .ref (u 7), .ref (u 8), .ref (u 9), .ref (u 10), .ref (u 11), .ref (u 12), .ref (u 13), .ref (u 14), .ref (u 15), .ref (u 16), .ref (u 17), .ref (u 18)])), ((u 11), .inr (4, [.ref (u 66), .ref (u 67), .ref (u 68), .ref (u 69), .ref (u 70), .ref (u 71), .ref (u 72), .ref (u 73), .ref (u 74), .int 0, .ref (u 75), .ref (u 76), .ref (u 77), .ref (u 78), .ref (u 79), .ref (u 80), .int 0, .ref (u 81), .int 0, .int 0])), ((u 81), .inl (cI, 504, .inl (fun _ => 0)))] U.heap ∧ va_K (dC, dI) vwCl [(cI, .int), (cB, .byte), (cJ, .long), (cZ, .boolean)] U)) (va_Qi (fun r (_ : Unit) => r = 0) (fun _ _ => True) (fun _ => False)) 0 0 (fun _ => False) := by
  refine Met.ofW (cc := cX11_rank) (maxL := 3) (ret := (some .int)) (by decide) rfl ?_
  intro p e s m args below meth c s₁ B hml hv
  obtain ⟨rfl, hP, hK⟩ := hv
  have hx := B.exec
  have hb := B.bytes
  have hr := B.returns
  have hts := atoms_spec (ws := wf_rank) B.pre
  have hown : s.vm.findClass RX11 = some m.cls := findClass_of_methodNamed B.named
  have hlocks := B.notSynchronized
  have hS : va_S (fun _ => False) s.heap s.heap [] := va_S.rf
  have hP : va_P (dC, dI) vwCl [(h0, .inr (14, [.ref (u 0), .ref (u 1), .ref (u 2), .ref (u 3), .ref (u 4), .ref (u 5), .ref (u 6), .ref (u 7), .ref (u 8), .ref (u 9), .ref (u 10), .ref (u 11), .ref (u 12), .ref (u 13), .ref (u 14), .ref (u 15), .ref (u 16), .ref (u 17), .ref (u 18)])), ((u 11), .inr (4, [.ref (u 66), .ref (u 67), .ref (u 68), .ref (u 69), .ref (u 70), .ref (u 71), .ref (u 72), .ref (u 73), .ref (u 74), .int 0, .ref (u 75), .ref (u 76), .ref (u 77), .ref (u 78), .ref (u 79), .ref (u 80), .int 0, .ref (u 81), .int 0, .int 0])), ((u 81), .inl (cI, 504, .inl (fun _ => 0)))] s.heap := hP
  have hl := lv_entry ([.ref h0, .int p0, .int p1]) (n := 3) (Nat.le_of_ble_eq_true rfl)
  rw [lg_entry_eq]
  generalize (lg_sl ([.ref h0, .int p0, .int p1]) ++ List.replicate (3 - (lg_sl ([.ref h0, .int p0, .int p1])).length) Slot.unset).toArray = ls at hl ⊢
  have hl : lv_has ls 3 [(0, .ref h0), (1, .int p0), (2, .int p1)] := hl
  refine ow_named (fun QQ hQQ => ?_)
  refine lv_aload_n hx hb dX11_rank_0 rfl (lv_at hl 0 rfl) ?_
  refine va_get (D := (dC, dI)) (ci := 14) (v := .ref (u 11)) (C := RX11) (T := TX11) (N := 19) hx hb hts (by decide +kernel) hown hK hP 0 rfl rfl 11 (by decide) (hts (.fieldLink RX11 79 "KnotHouse" "chains" "LKnotHouse$Chains;") (by decide +kernel)) (fun _ h9 => h9) rfl dX11_rank_1 ?_
  refine lv_iload_n hx hb dX11_rank_4 rfl (lv_at hl 1 rfl) ?_
  refine lv_iload_n hx hb dX11_rank_5 rfl (lv_at hl 2 rfl) ?_
  have hPc := hP.sub (ws' := [((u 11), .inr (4, [.ref (u 66), .ref (u 67), .ref (u 68), .ref (u 69), .ref (u 70), .ref (u 71), .ref (u 72), .ref (u 73), .ref (u 74), .int 0, .ref (u 75), .ref (u 76), .ref (u 77), .ref (u 78), .ref (u 79), .ref (u 80), .int 0, .ref (u 81), .int 0, .int 0])), ((u 81), .inl (cI, 504, .inl (fun _ => 0)))]) [1, 2] rfl
  refine va_calli (va_runV (As := [.int p0, .int p1]) (rest := []) ⟨hx, hb, hml, hown, hts⟩ (kf_X1_rankAt l dC dI cI cB cJ cZ u p0 p1) (cwV 2 hts gf_X11_rank rfl rfl rfl (by decide +kernel) ⟨(Nat.le_of_ble_eq_true rfl), (Nat.le_of_ble_eq_true rfl)⟩) ⟨fun a U g mk q => by obtain ⟨q0, qP, qK⟩ := q; exact ⟨q0, qP, va_K.moved (u := U) (U := U.calling g mk a) (Vm.Alike.refl U.vm) qK⟩, va_recv hK hPc (ci := 4) (q0 := 0) rfl rfl, fun U hU hW => ⟨rfl, by rw [hU]; exact hPc, va_K.moved hW.alike hK⟩⟩ rfl rfl hl.1 rfl (lv_room (Nat.le_of_ble_eq_true rfl)) dX11_rank_6 ⟨(Nat.le_of_ble_eq_true rfl), (Nat.le_of_ble_eq_true rfl)⟩) hS (fun q _ h => h.elim) (fun q h => h.elim) (fun r9 un t H1 locs ht hvm hw hB hz1 hk1 hS => ?_)
  obtain rfl : r9 = 0 := hw
  rw [hQQ]
  exact W.iret (v := 0) hx hb hr (fun t ht hW => ⟨⟨0, (), rfl, rfl, trivial⟩, hS.F ht⟩) hS.2.2 dX11_rank_9
