set_option maxHeartbeats 4000000 in
set_option maxRecDepth 100000 in
theorem k_X0_indexOf (l : Launch) (dC : Nat → ClassId) (dI : Nat → Nat → Nat) (cI cB cJ cZ : ClassId) (h1 : Nat) (f : Nat → Int32) (b : Int32) : Met l yX0_indexOf wsX0_indexOf (({ frames := 0, cells := 0, slots := 0, locals := 0 } : Room)) (va_Pc [.ref h1, .int b] (fun U => va_P (dC, dI) vwCl [(h1, .inl (cI, 24, .inl f))] U.heap ∧ va_K (dC, dI) vwCl [(cI, .int), (cB, .byte), (cJ, .long), (cZ, .boolean)] U)) (va_Qi (fun _ (_ : Unit) => True) (fun _ _ => True) (fun _ => False)) 0 0 (fun _ => False) := by
  refine Met.ofW (cc := cX0_indexOf) (maxL := 3) (ret := (some .int)) (by decide) rfl ?_
  intro p e s m args below meth c s₁ B hml hv
  obtain ⟨rfl, hP, hK⟩ := hv
  have hx := B.exec
  have hb := B.bytes
  have hr := B.returns
  have hts := atoms_spec (ws := wsX0_indexOf) B.pre
  have hown : s.vm.findClass RX0 = some m.cls := findClass_of_methodNamed B.named
  have hlocks := B.notSynchronized
  have hS : va_S (fun _ => False) s.heap s.heap [] := va_S.rf
  have hl := lv_entry ([.ref h1, .int b]) (n := 3) (Nat.le_of_ble_eq_true rfl)
  rw [lg_entry_eq]
  generalize (lg_sl ([.ref h1, .int b]) ++ List.replicate (3 - (lg_sl ([.ref h1, .int b])).length) Slot.unset).toArray = ls at hl ⊢
  have hl : lv_has ls 3 [(0, .ref h1), (1, .int b)] := hl
  refine ow_named (fun QQ hQQ => ?_)
  have L2 : ∀ (n j : Nat), j + n = 24 → ∀ (ls : Array Slot), lv_has ls 3 [(0, .ref h1), (1, .int b), (2, .int (nI j))] → W p l e ({ frames := 0, cells := 0, slots := 0, locals := 0 } : Room) s m ([.ref h1, .int b] : List Value).toArray below meth c s.heap [] 0 0 QQ (F0 m 2 ls []) := by
    intro n
    induction n with
    | zero =>
      intro j hj ls hl
      obtain rfl : j = 24 := by omega
      refine lv_iload_n hx hb dX0_indexOf_2 rfl (lv_at hl 2 rfl) ?_
      refine lv_aload_n hx hb dX0_indexOf_3 rfl (lv_at hl 0 rfl) ?_
      refine va_alen (v := 24) hx hb hK hP 0 0 rfl rfl rfl dX0_indexOf_4 ?_
      refine lv_icmp_ge (tgt := 23) hx hb dX0_indexOf_5 (by decide) (fun _ => ?_) (fun c9 => absurd (by decide) c9)
      refine lv_iconst (v := 0) hx hb dX0_indexOf_23 (by decide) ?_
      rw [hQQ]
      exact W.iret (v := 0) hx hb hr (fun t ht hW => ⟨⟨0, (), rfl, trivial, trivial⟩, hS.F ht⟩) hS.2.2 dX0_indexOf_24
    | succ n ih =>
      intro j hj ls hl
      refine lv_iload_n hx hb dX0_indexOf_2 rfl (lv_at hl 2 rfl) ?_
      refine lv_aload_n hx hb dX0_indexOf_3 rfl (lv_at hl 0 rfl) ?_
      refine va_alen (v := 24) hx hb hK hP 0 0 rfl rfl rfl dX0_indexOf_4 ?_
      refine lv_icmp_ge (tgt := 23) hx hb dX0_indexOf_5 (by decide) (fun c9 => absurd c9 (nI_ge (a := j) (b := 24) (by omega) (by decide))) (fun _ => ?_)
      refine lv_aload_n hx hb dX0_indexOf_8 rfl (lv_at hl 0 rfl) ?_
      refine lv_iload_n hx hb dX0_indexOf_9 rfl (lv_at hl 2 rfl) ?_
      refine va_iald hx hb hK hP 0 0 rfl rfl (vp_in_nI (n := j) (N := 24) (by omega) (by decide)) dX0_indexOf_10 ?_
      refine lv_topi (fun x2 _ => ?_)
      refine lv_iload_n hx hb dX0_indexOf_11 rfl (lv_at hl 1 rfl) ?_
      refine lv_icmp_ne (tgt := 17) hx hb dX0_indexOf_12 (by decide) (fun c3 => ?_) (fun c3 => ?_)
      · refine lv_iinc (v := nI (j + 1)) (lv' := [(2, .int (nI (j + 1))), (0, .ref h1), (1, .int b)]) hx hb dX0_indexOf_17 hl (k := 2) rfl (nI_1 j) (by decide) rfl (fun ls hl => ?_)
        refine lv_goto (tgt := 2) hx hb dX0_indexOf_20 (by decide) ?_
        exact ih (j + 1) (by omega) ls (lv_sub hl [1, 2, 0] rfl)
      · refine lv_iload_n hx hb dX0_indexOf_15 rfl (lv_at hl 2 rfl) ?_
        rw [hQQ]
        exact W.iret (v := (nI j)) hx hb hr (fun t ht hW => ⟨⟨(nI j), (), rfl, trivial, trivial⟩, hS.F ht⟩) hS.2.2 dX0_indexOf_16
  refine lv_iconst (v := 0) hx hb dX0_indexOf_0 (by decide) ?_
  refine lv_istore_n (lv' := [(2, .int 0), (0, .ref h1), (1, .int b)]) hx hb dX0_indexOf_1 rfl hl (by decide) rfl (fun ls hl => ?_)
  exact L2 24 0 (by omega) ls (lv_sub hl [1, 2, 0] rfl)
set_option maxHeartbeats 4000000 in
set_option maxRecDepth 100000 in
theorem k_X0_listPermutations (l : Launch) (dC : Nat → ClassId) (dI : Nat → Nat → Nat) (cI cB cJ cZ : ClassId) (h1 sz : Nat) (f : Nat → Int32) : Met l yX0_listPermutations wsX0_listPermutations (({ frames := 0, cells := 0, slots := 0, locals := 0 } : Room)) (va_Pc [.ref h1] (fun U => U.heap.size = sz ∧ va_P (dC, dI) vwCl [(h1, .inl (cI, 24, .inl f))] U.heap ∧ va_K (dC, dI) vwCl [(cI, .int), (cB, .byte), (cJ, .long), (cZ, .boolean)] U ∧ va_D (fun _ => True) [(h1, .inl (cI, 24, .inl f))])) (va_Qv (fun _ : Nat → Int32 => True) (fun u t => va_P (dC, dI) vwCl [(h1, .inl (cI, 24, .inl u))] t.heap ∧ va_D (va_A [(h1, .inl (cI, 24, .inl f))] sz) [(h1, .inl (cI, 24, .inl u))]) (va_A [(h1, .inl (cI, 24, .inl f))] sz)) 0 0 (va_A [(h1, .inl (cI, 24, .inl f))] sz) := by
  refine Met.ofW (cc := cX0_listPermutations) (maxL := 7) (ret := none) (by decide) rfl ?_
  intro p e s m args below meth c s₁ B hml hv
  obtain ⟨rfl, hsz, hP, hK, hD0⟩ := hv
  have hx := B.exec
  have hb := B.bytes
  have hr := B.returns
  have hts := atoms_spec (ws := wsX0_listPermutations) B.pre
  have hown : s.vm.findClass RX0 = some m.cls := findClass_of_methodNamed B.named
  have hlocks := B.notSynchronized
  subst hsz
  have hD := hD0.self (sz := s.heap.size)
  generalize hAe : va_A [(h1, .inl (cI, 24, .inl f))] s.heap.size = A at hD ⊢
  have hA : ∀ q : Nat, s.heap.size ≤ q → A q := fun q h => by rw [← hAe]; exact Or.inr h
  have hS : va_S A s.heap s.heap [] := va_S.rf
  have hl := lv_entry ([.ref h1]) (n := 7) (Nat.le_of_ble_eq_true rfl)
  rw [lg_entry_eq]
  generalize (lg_sl ([.ref h1]) ++ List.replicate (7 - (lg_sl ([.ref h1])).length) Slot.unset).toArray = ls at hl ⊢
  have hl : lv_has ls 7 [(0, .ref h1)] := hl
  refine ow_named (fun QQ hQQ => ?_)
  have L4 : ∀ (n k : Nat), k + n = 256 → ∀ (H : Heap) (locs : List Loc) (ls : Array Slot) (f : Nat → Int32) (c0 : Nat), va_P (dC, dI) vwCl [(h1, .inl (cI, 24, .inl f))] H → va_D A [(h1, .inl (cI, 24, .inl f))] → va_S A s.heap H locs → lv_has ls 7 [(0, .ref h1), (1, .int (nI c0)), (2, .int (nI k))] → c0 ≤ 24 → W p l e ({ frames := 0, cells := 0, slots := 0, locals := 0 } : Room) s m ([.ref h1] : List Value).toArray below meth c H locs 0 0 QQ (F0 m 4 ls []) := by
    intro n
    induction n with
    | zero =>
      intro k hk H locs ls f c0 hP hD hS hl hc
      obtain rfl : k = 256 := by omega
      refine lv_iload_n hx hb dX0_listPermutations_4 rfl (lv_at hl 2 rfl) ?_
      refine lv_sipush (v := 256) hx hb dX0_listPermutations_5 (by decide) ?_
      refine lv_icmp_ge (tgt := 102) hx hb dX0_listPermutations_8 (by decide) (fun _ => ?_) (fun c9 => absurd (by decide) c9)
      rw [hQQ]
      exact W.vret hx hb hr (fun t ht hW => ⟨⟨_, rfl, trivial, by rw [ht]; exact hP, hD⟩, hS.F ht⟩) hS.2.2 dX0_listPermutations_102
    | succ n ih_L4 =>
      intro k hk H locs ls f c0 hP hD hS hl hc
      refine lv_iload_n hx hb dX0_listPermutations_4 rfl (lv_at hl 2 rfl) ?_
      refine lv_sipush (v := 256) hx hb dX0_listPermutations_5 (by decide) ?_
      refine lv_icmp_ge (tgt := 102) hx hb dX0_listPermutations_8 (by decide) (fun c9 => absurd c9 (nI_ge (a := k) (b := 256) (by omega) (by decide))) (fun _ => ?_)
      refine lv_iload_n hx hb dX0_listPermutations_11 rfl (lv_at hl 1 rfl) ?_
      refine lv_bipush (v := 24) hx hb dX0_listPermutations_12 (by decide) ?_
      refine lv_icmp_ge (tgt := 102) hx hb dX0_listPermutations_14 (by decide) (fun c1 => ?_) (fun c1 => ?_)
      · rw [hQQ]
        exact W.vret hx hb hr (fun t ht hW => ⟨⟨_, rfl, trivial, by rw [ht]; exact hP, hD⟩, hS.F ht⟩) hS.2.2 dX0_listPermutations_102
      · have hc9 : c0 < 24 := by
          rcases Nat.lt_or_ge c0 24 with h9 | h9
          · exact h9
          · exact absurd (nI_le (a := 24) (b := c0) h9 (by omega)) c1
        refine lv_iconst (v := 3) hx hb dX0_listPermutations_17 (by decide) ?_
        refine lv_iload_n hx hb dX0_listPermutations_18 rfl (lv_at hl 2 rfl) ?_
        refine lv_bipush (v := 6) hx hb dX0_listPermutations_19 (by decide) ?_
        refine lv_ishr hx hb dX0_listPermutations_21 ?_
        refine lv_isub hx hb dX0_listPermutations_22 ?_
        refine lv_topi (fun x2 _ => ?_)
        refine lv_istore_n (lv' := [(3, .int x2), (0, .ref h1), (1, .int (nI c0)), (2, .int (nI k))]) hx hb dX0_listPermutations_23 rfl hl (by decide) rfl (fun ls hl => ?_)
        refine lv_iconst (v := 3) hx hb dX0_listPermutations_24 (by decide) ?_
        refine lv_iload_n hx hb dX0_listPermutations_25 rfl (lv_at hl 3 rfl) ?_
        refine lv_iconst (v := 4) hx hb dX0_listPermutations_26 (by decide) ?_
        refine lv_ishr hx hb dX0_listPermutations_27 ?_
        refine lv_iconst (v := 3) hx hb dX0_listPermutations_28 (by decide) ?_
        refine lv_iand hx hb dX0_listPermutations_29 ?_
        refine lv_isub hx hb dX0_listPermutations_30 ?_
        refine lv_topi (fun x3 _ => ?_)
        refine lv_istore (lv' := [(4, .int x3), (3, .int x2), (0, .ref h1), (1, .int (nI c0)), (2, .int (nI k))]) hx hb dX0_listPermutations_31 hl (by decide) rfl (fun ls hl => ?_)
        refine lv_iconst (v := 3) hx hb dX0_listPermutations_33 (by decide) ?_
        refine lv_iload_n hx hb dX0_listPermutations_34 rfl (lv_at hl 4 rfl) ?_
        refine lv_iconst (v := 2) hx hb dX0_listPermutations_35 (by decide) ?_
        refine lv_ishr hx hb dX0_listPermutations_36 ?_
        refine lv_iconst (v := 3) hx hb dX0_listPermutations_37 (by decide) ?_
        refine lv_iand hx hb dX0_listPermutations_38 ?_
        refine lv_isub hx hb dX0_listPermutations_39 ?_
        refine lv_topi (fun x4 _ => ?_)
        refine lv_istore (lv' := [(5, .int x4), (4, .int x3), (3, .int x2), (0, .ref h1), (1, .int (nI c0)), (2, .int (nI k))]) hx hb dX0_listPermutations_40 hl (by decide) rfl (fun ls hl => ?_)
        refine lv_iconst (v := 3) hx hb dX0_listPermutations_42 (by decide) ?_
        refine lv_iload_n hx hb dX0_listPermutations_43 rfl (lv_at hl 5 rfl) ?_
        refine lv_iconst (v := 3) hx hb dX0_listPermutations_44 (by decide) ?_
        refine lv_iand hx hb dX0_listPermutations_45 ?_
        refine lv_isub hx hb dX0_listPermutations_46 ?_
        refine lv_topi (fun x5 _ => ?_)
        refine lv_istore (lv' := [(6, .int x5), (5, .int x4), (4, .int x3), (3, .int x2), (0, .ref h1), (1, .int (nI c0)), (2, .int (nI k))]) hx hb dX0_listPermutations_47 hl (by decide) rfl (fun ls hl => ?_)
        refine lv_iconst (v := 1) hx hb dX0_listPermutations_49 (by decide) ?_
        refine lv_iload hx hb dX0_listPermutations_50 (lv_at hl 0 rfl) ?_
        refine lv_ishl hx hb dX0_listPermutations_52 ?_
        refine lv_iconst (v := 1) hx hb dX0_listPermutations_53 (by decide) ?_
        refine lv_iload hx hb dX0_listPermutations_54 (lv_at hl 1 rfl) ?_
        refine lv_ishl hx hb dX0_listPermutations_56 ?_
        refine lv_ior hx hb dX0_listPermutations_57 ?_
        refine lv_iconst (v := 1) hx hb dX0_listPermutations_58 (by decide) ?_
        refine lv_iload hx hb dX0_listPermutations_59 (lv_at hl 2 rfl) ?_
        refine lv_ishl hx hb dX0_listPermutations_61 ?_
        refine lv_ior hx hb dX0_listPermutations_62 ?_
        refine lv_iconst (v := 1) hx hb dX0_listPermutations_63 (by decide) ?_
        refine lv_iload_n hx hb dX0_listPermutations_64 rfl (lv_at hl 3 rfl) ?_
        refine lv_ishl hx hb dX0_listPermutations_65 ?_
        refine lv_ior hx hb dX0_listPermutations_66 ?_
        refine lv_topi (fun x6 _ => ?_)
        refine lv_bipush (v := 15) hx hb dX0_listPermutations_67 (by decide) ?_
        refine lv_icmp_ne (tgt := 96) hx hb dX0_listPermutations_69 (by decide) (fun c7 => ?_) (fun c7 => ?_)
        · refine lv_iinc (v := nI (k + 1)) (lv' := [(2, .int (nI (k + 1))), (6, .int x5), (5, .int x4), (4, .int x3), (3, .int x2), (0, .ref h1), (1, .int (nI c0))]) hx hb dX0_listPermutations_96 hl (k := 6) rfl (nI_1 k) (by decide) rfl (fun ls hl => ?_)
          refine lv_goto (tgt := 4) hx hb dX0_listPermutations_99 (by decide) ?_
          exact ih_L4 (k + 1) (by omega) H locs ls _ c0 hP hD hS (lv_sub hl [5, 6, 0] rfl) hc
        · refine lv_aload_n hx hb dX0_listPermutations_72 rfl (lv_at hl 4 rfl) ?_
          refine lv_iload_n hx hb dX0_listPermutations_73 rfl (lv_at hl 5 rfl) ?_
          refine lv_iload hx hb dX0_listPermutations_74 (lv_at hl 0 rfl) ?_
          refine lv_iload hx hb dX0_listPermutations_76 (lv_at hl 1 rfl) ?_
          refine lv_iconst (v := 4) hx hb dX0_listPermutations_78 (by decide) ?_
          refine lv_ishl hx hb dX0_listPermutations_79 ?_
          refine lv_ior hx hb dX0_listPermutations_80 ?_
          refine lv_iload hx hb dX0_listPermutations_81 (lv_at hl 2 rfl) ?_
          refine lv_bipush (v := 8) hx hb dX0_listPermutations_83 (by decide) ?_
          refine lv_ishl hx hb dX0_listPermutations_85 ?_
          refine lv_ior hx hb dX0_listPermutations_86 ?_
          refine lv_iload_n hx hb dX0_listPermutations_87 rfl (lv_at hl 3 rfl) ?_
          refine lv_bipush (v := 12) hx hb dX0_listPermutations_88 (by decide) ?_
          refine lv_ishl hx hb dX0_listPermutations_90 ?_
          refine lv_ior hx hb dX0_listPermutations_91 ?_
          refine lv_topi (fun x8 _ => ?_)
          refine ow_iast hx hb hK hP hD hS 0 0 rfl rfl (vp_in_nI (n := c0) (N := 24) hc9 (by decide)) dX0_listPermutations_92 (fun f9 H locs hP hD hS => ?_)
          have hP : va_P (dC, dI) vwCl [(h1, .inl (cI, 24, .inl f9))] H := hP
          have hD : va_D A [(h1, .inl (cI, 24, .inl f9))] := hD
          refine lv_iinc (v := nI (c0 + 1)) (lv' := [(1, .int (nI (c0 + 1))), (6, .int x5), (5, .int x4), (4, .int x3), (3, .int x2), (0, .ref h1), (2, .int (nI k))]) hx hb dX0_listPermutations_93 hl (k := 5) rfl (nI_1 c0) (by decide) rfl (fun ls hl => ?_)
          refine lv_iinc (v := nI (k + 1)) (lv' := [(2, .int (nI (k + 1))), (1, .int (nI (c0 + 1))), (6, .int x5), (5, .int x4), (4, .int x3), (3, .int x2), (0, .ref h1)]) hx hb dX0_listPermutations_96 hl (k := 6) rfl (nI_1 k) (by decide) rfl (fun ls hl => ?_)
          refine lv_goto (tgt := 4) hx hb dX0_listPermutations_99 (by decide) ?_
          exact ih_L4 (k + 1) (by omega) H locs ls _ (c0 + 1) hP hD hS (lv_sub hl [6, 1, 0] rfl) (by omega)
  refine lv_iconst (v := 0) hx hb dX0_listPermutations_0 (by decide) ?_
  refine lv_istore_n (lv' := [(1, .int 0), (0, .ref h1)]) hx hb dX0_listPermutations_1 rfl hl (by decide) rfl (fun ls hl => ?_)
  refine lv_iconst (v := 0) hx hb dX0_listPermutations_2 (by decide) ?_
  refine lv_istore_n (lv' := [(2, .int 0), (1, .int 0), (0, .ref h1)]) hx hb dX0_listPermutations_3 rfl hl (by decide) rfl (fun ls hl => ?_)
  exact L4 256 0 (by omega) s.heap [] ls f 0 hP hD hS (lv_sub hl [2, 1, 0] rfl) (by omega)
