def ow_us (x y : Int32) : Int32 := (x.toUInt32 >>> (y.toUInt32 &&& Int32.toUInt32 31)).toInt32
def ow_bc5 (x : Int32) : Int32 := (x + ow_us x 16)
def ow_bc4 (x : Int32) : Int32 := (x + ow_us x 8)
def ow_bc3 (x : Int32) : Int32 := ((x + ow_us x 4) &&& 252645135)
def ow_bc2 (x : Int32) : Int32 := ((x &&& 858993459) + (ow_us x 2 &&& 858993459))
def ow_bc1 (x : Int32) : Int32 := (x - (ow_us x 1 &&& 1431655765))
/-- what Integer.bitCount answers -/
def ow_bc (x : Int32) : Int32 := ow_bc5 (ow_bc4 (ow_bc3 (ow_bc2 (ow_bc1 x)))) &&& 63
theorem ow_bc1024 : ∀ k : Fin 1024, 0 ≤ (ow_bc (nI k.val)).toInt ∧ (ow_bc (nI k.val)).toInt < 11 := by decide +kernel
theorem ow_bc_in {k : Nat} (h : k < 1024) : vp_in (ow_bc (nI k)) 11 := vp_in_iff.mpr (ow_bc1024 ⟨k, h⟩)
set_option maxHeartbeats 4000000 in
set_option maxRecDepth 100000 in
theorem k_J6_bitCount_0f7a4 (l : Launch) (a : Int32) : Met l yJ6_bitCount_0f7a4 wsJ6_bitCount_0f7a4 (({ frames := 0, cells := 0, slots := 0, locals := 0 } : Room)) (va_Pc [.int a] (fun _ => True)) (va_Qi (fun r (_ : Unit) => r = ow_bc a) (fun _ _ => True) (fun _ => False)) 0 0 (fun _ => False) := by
  refine Met.ofW (cc := cJ6_bitCount_0f7a4) (maxL := 1) (ret := (some .int)) (by decide) rfl ?_
  intro p e s m args below meth c s₁ B hml hv
  obtain ⟨rfl, hpre⟩ := hv
  have hx := B.exec
  have hb := B.bytes
  have hr := B.returns
  have hts := atoms_spec (ws := wsJ6_bitCount_0f7a4) B.pre
  have hown : s.vm.findClass RJ6 = some m.cls := findClass_of_methodNamed B.named
  have hlocks := B.notSynchronized
  have hS : va_S (fun _ => False) s.heap s.heap [] := va_S.rf
  have hA : ∀ q : Nat, s.heap.size ≤ q → True := fun _ _ => trivial
  have hl := lv_entry ([.int a]) (n := 1) (Nat.le_of_ble_eq_true rfl)
  rw [lg_entry_eq]
  generalize (lg_sl ([.int a]) ++ List.replicate (1 - (lg_sl ([.int a])).length) Slot.unset).toArray = ls at hl ⊢
  have hl : lv_has ls 1 [(0, .int a)] := hl
  refine ow_named (fun QQ hQQ => ?_)
  refine lv_iload_n hx hb dJ6_bitCount_0f7a4_0 rfl (lv_at hl 0 rfl) ?_
  refine lv_iload_n hx hb dJ6_bitCount_0f7a4_1 rfl (lv_at hl 0 rfl) ?_
  refine lv_iconst (v := 1) hx hb dJ6_bitCount_0f7a4_2 (by decide) ?_
  refine lv_iushr hx hb dJ6_bitCount_0f7a4_3 rfl ?_
  refine lv_ldcw (v := 1431655765) hx hb hown (hts (.constant RJ6 265 (1431655765)) (by decide +kernel)) dJ6_bitCount_0f7a4_4 ?_
  refine lv_iand hx hb dJ6_bitCount_0f7a4_7 ?_
  refine lv_isub hx hb dJ6_bitCount_0f7a4_8 ?_
  refine lv_topi (fun x1 ex1 => ?_)
  refine lv_istore_n (lv' := [(0, .int x1)]) hx hb dJ6_bitCount_0f7a4_9 rfl hl (by decide) rfl (fun ls hl => ?_)
  refine lv_iload_n hx hb dJ6_bitCount_0f7a4_10 rfl (lv_at hl 0 rfl) ?_
  refine lv_ldcw (v := 858993459) hx hb hown (hts (.constant RJ6 266 (858993459)) (by decide +kernel)) dJ6_bitCount_0f7a4_11 ?_
  refine lv_iand hx hb dJ6_bitCount_0f7a4_14 ?_
  refine lv_iload_n hx hb dJ6_bitCount_0f7a4_15 rfl (lv_at hl 0 rfl) ?_
  refine lv_iconst (v := 2) hx hb dJ6_bitCount_0f7a4_16 (by decide) ?_
  refine lv_iushr hx hb dJ6_bitCount_0f7a4_17 rfl ?_
  refine lv_ldcw (v := 858993459) hx hb hown (hts (.constant RJ6 266 (858993459)) (by decide +kernel)) dJ6_bitCount_0f7a4_18 ?_
  refine lv_iand hx hb dJ6_bitCount_0f7a4_21 ?_
  refine lv_iadd hx hb dJ6_bitCount_0f7a4_22 ?_
  refine lv_topi (fun x2 ex2 => ?_)
  refine lv_istore_n (lv' := [(0, .int x2)]) hx hb dJ6_bitCount_0f7a4_23 rfl hl (by decide) rfl (fun ls hl => ?_)
  refine lv_iload_n hx hb dJ6_bitCount_0f7a4_24 rfl (lv_at hl 0 rfl) ?_
  refine lv_iload_n hx hb dJ6_bitCount_0f7a4_25 rfl (lv_at hl 0 rfl) ?_
  refine lv_iconst (v := 4) hx hb dJ6_bitCount_0f7a4_26 (by decide) ?_
  refine lv_iushr hx hb dJ6_bitCount_0f7a4_27 rfl ?_
  refine lv_iadd hx hb dJ6_bitCount_0f7a4_28 ?_
  refine lv_ldcw (v := 252645135) hx hb hown (hts (.constant RJ6 267 (252645135)) (by decide +kernel)) dJ6_bitCount_0f7a4_29 ?_
  refine lv_iand hx hb dJ6_bitCount_0f7a4_32 ?_
  refine lv_topi (fun x3 ex3 => ?_)
  refine lv_istore_n (lv' := [(0, .int x3)]) hx hb dJ6_bitCount_0f7a4_33 rfl hl (by decide) rfl (fun ls hl => ?_)
  refine lv_iload_n hx hb dJ6_bitCount_0f7a4_34 rfl (lv_at hl 0 rfl) ?_
  refine lv_iload_n hx hb dJ6_bitCount_0f7a4_35 rfl (lv_at hl 0 rfl) ?_
  refine lv_bipush (v := 8) hx hb dJ6_bitCount_0f7a4_36 (by decide) ?_
  refine lv_iushr hx hb dJ6_bitCount_0f7a4_38 rfl ?_
  refine lv_iadd hx hb dJ6_bitCount_0f7a4_39 ?_
  refine lv_topi (fun x4 ex4 => ?_)
  refine lv_istore_n (lv' := [(0, .int x4)]) hx hb dJ6_bitCount_0f7a4_40 rfl hl (by decide) rfl (fun ls hl => ?_)
  refine lv_iload_n hx hb dJ6_bitCount_0f7a4_41 rfl (lv_at hl 0 rfl) ?_
  refine lv_iload_n hx hb dJ6_bitCount_0f7a4_42 rfl (lv_at hl 0 rfl) ?_
  refine lv_bipush (v := 16) hx hb dJ6_bitCount_0f7a4_43 (by decide) ?_
  refine lv_iushr hx hb dJ6_bitCount_0f7a4_45 rfl ?_
  refine lv_iadd hx hb dJ6_bitCount_0f7a4_46 ?_
  refine lv_topi (fun x5 ex5 => ?_)
  refine lv_istore_n (lv' := [(0, .int x5)]) hx hb dJ6_bitCount_0f7a4_47 rfl hl (by decide) rfl (fun ls hl => ?_)
  refine lv_iload_n hx hb dJ6_bitCount_0f7a4_48 rfl (lv_at hl 0 rfl) ?_
  refine lv_bipush (v := 63) hx hb dJ6_bitCount_0f7a4_49 (by decide) ?_
  refine lv_iand hx hb dJ6_bitCount_0f7a4_51 ?_
  rw [hQQ]
  exact W.iret (v := (x5 &&& 63)) hx hb hr (fun t ht hW => ⟨⟨(x5 &&& 63), (), rfl, by subst ex5 ex4 ex3 ex2 ex1; rfl, trivial⟩, hS.F ht⟩) hS.2.2 dJ6_bitCount_0f7a4_52
set_option maxHeartbeats 4000000 in
set_option maxRecDepth 100000 in
theorem k_X5_image (l : Launch) (a b : Int32) : Met l yX5_image wsX5_image (({ frames := 0, cells := 0, slots := 0, locals := 0 } : Room)) (va_Pc [.int a, .int b] (fun _ => True)) (va_Qi (fun r (_ : Unit) => r = (a >>> ((4 * b) &&& 31)) &&& 15) (fun _ _ => True) (fun _ => False)) 0 0 (fun _ => False) := by
  refine Met.ofW (cc := cX5_image) (maxL := 2) (ret := (some .int)) (by decide) rfl ?_
  intro p e s m args below meth c s₁ B hml hv
  obtain ⟨rfl, hpre⟩ := hv
  have hx := B.exec
  have hb := B.bytes
  have hr := B.returns
  have hts := atoms_spec (ws := wsX5_image) B.pre
  have hown : s.vm.findClass RX5 = some m.cls := findClass_of_methodNamed B.named
  have hlocks := B.notSynchronized
  have hS : va_S (fun _ => False) s.heap s.heap [] := va_S.rf
  have hA : ∀ q : Nat, s.heap.size ≤ q → True := fun _ _ => trivial
  have hl := lv_entry ([.int a, .int b]) (n := 2) (Nat.le_of_ble_eq_true rfl)
  rw [lg_entry_eq]
  generalize (lg_sl ([.int a, .int b]) ++ List.replicate (2 - (lg_sl ([.int a, .int b])).length) Slot.unset).toArray = ls at hl ⊢
  have hl : lv_has ls 2 [(0, .int a), (1, .int b)] := hl
  refine ow_named (fun QQ hQQ => ?_)
  refine lv_iload_n hx hb dX5_image_0 rfl (lv_at hl 0 rfl) ?_
  refine lv_iconst (v := 4) hx hb dX5_image_1 (by decide) ?_
  refine lv_iload_n hx hb dX5_image_2 rfl (lv_at hl 1 rfl) ?_
  refine lv_imul hx hb dX5_image_3 ?_
  refine lv_ishr hx hb dX5_image_4 ?_
  refine lv_bipush (v := 15) hx hb dX5_image_5 (by decide) ?_
  refine lv_iand hx hb dX5_image_7 ?_
  rw [hQQ]
  exact W.iret (v := ((a >>> ((4 * b) &&& 31)) &&& 15)) hx hb hr (fun t ht hW => ⟨⟨((a >>> ((4 * b) &&& 31)) &&& 15), (), rfl, rfl, trivial⟩, hS.F ht⟩) hS.2.2 dX5_image_8
set_option maxHeartbeats 4000000 in
set_option maxRecDepth 100000 in
theorem k_X5_invert (l : Launch) (a : Int32) (b : Nat) (hb5 : b < 2 ^ 31) : Met l yX5_invert wsX5_invert (({ frames := 1, cells := 0, slots := 0, locals := 21 } : Room)) (va_Pc [.int a, .int (nI b)] (fun _ => True)) (va_Qi (fun r (_ : Unit) => True) (fun _ _ => True) (fun _ => False)) 0 0 (fun _ => False) := by
  refine Met.ofW (cc := cX5_invert) (maxL := 4) (ret := (some .int)) (by decide) rfl ?_
  intro p e s m args below meth c s₁ B hml hv
  obtain ⟨rfl, hpre⟩ := hv
  have hx := B.exec
  have hb := B.bytes
  have hr := B.returns
  have hts := atoms_spec (ws := wsX5_invert) B.pre
  have hown : s.vm.findClass RX5 = some m.cls := findClass_of_methodNamed B.named
  have hlocks := B.notSynchronized
  have hS : va_S (fun _ => False) s.heap s.heap [] := va_S.rf
  have hA : ∀ q : Nat, s.heap.size ≤ q → True := fun _ _ => trivial
  have hl := lv_entry ([.int a, .int (nI b)]) (n := 4) (Nat.le_of_ble_eq_true rfl)
  rw [lg_entry_eq]
  generalize (lg_sl ([.int a, .int (nI b)]) ++ List.replicate (4 - (lg_sl ([.int a, .int (nI b)])).length) Slot.unset).toArray = ls at hl ⊢
  have hl : lv_has ls 4 [(0, .int a), (1, .int (nI b))] := hl
  refine ow_named (fun QQ hQQ => ?_)
  have L4 : ∀ (n j : Nat), j + n = b → ∀ (H : Heap) (locs : List Loc) (ls : Array Slot) (x : Int32), va_S (fun _ => False) s.heap H locs → lv_has ls 4 [(0, .int a), (1, .int (nI b)), (2, .int x), (3, .int (nI j))] → W p l e ({ frames := 1, cells := 0, slots := 0, locals := 21 } : Room) s m ([.int a, .int (nI b)] : List Value).toArray below meth c H locs 0 0 QQ (F0 m 4 ls []) := by
    intro n
    induction n with
    | zero =>
      intro j hj H locs ls x hS hl
      refine lv_iload_n hx hb dX5_invert_4 rfl (lv_at hl 3 rfl) ?_
      refine lv_iload_n hx hb dX5_invert_5 rfl (lv_at hl 1 rfl) ?_
      refine lv_icmp_ge (tgt := 27) hx hb dX5_invert_6 (by decide) (fun _ => ?_) (fun c9 => absurd (nI_le (a := b) (b := j) (by omega) (by omega)) c9)
      refine lv_iload_n hx hb dX5_invert_27 rfl (lv_at hl 2 rfl) ?_
      rw [hQQ]
      exact W.iret (v := x) hx hb hr (fun t ht hW => ⟨⟨x, (), rfl, trivial, trivial⟩, hS.F ht⟩) hS.2.2 dX5_invert_28
    | succ n ih =>
      intro j hj H locs ls x hS hl
      refine lv_iload_n hx hb dX5_invert_4 rfl (lv_at hl 3 rfl) ?_
      refine lv_iload_n hx hb dX5_invert_5 rfl (lv_at hl 1 rfl) ?_
      refine lv_icmp_ge (tgt := 27) hx hb dX5_invert_6 (by decide) (fun c9 => absurd c9 (nI_ge (a := j) (b := b) (by omega) (by omega))) (fun _ => ?_)
      refine lv_iload_n hx hb dX5_invert_9 rfl (lv_at hl 2 rfl) ?_
      refine lv_iload_n hx hb dX5_invert_10 rfl (lv_at hl 3 rfl) ?_
      refine lv_iconst (v := 4) hx hb dX5_invert_11 (by decide) ?_
      refine lv_iload_n hx hb dX5_invert_12 rfl (lv_at hl 0 rfl) ?_
      refine lv_iload_n hx hb dX5_invert_13 rfl (lv_at hl 3 rfl) ?_
      refine va_calli (va_runS (As := [.int a, .int (nI j)]) (rest := [.int 4, .int (nI j), .int x]) ⟨hx, hb, hml, hown, hts⟩ (k_X5_image l a (nI j)) (va_cwS 2 hts gX5_invert_X5_image rfl rfl rfl (by decide +kernel) ⟨(Nat.le_of_ble_eq_true rfl), (Nat.le_of_ble_eq_true rfl)⟩) ⟨fun a U g mk q => q, fun U hU hW => ⟨rfl, trivial⟩⟩ rfl rfl hl.1 rfl (lv_room (Nat.le_of_ble_eq_true rfl)) dX5_invert_14 ⟨(Nat.le_of_ble_eq_true rfl), (Nat.le_of_ble_eq_true rfl)⟩) hS (fun q _ h => h.elim) (fun q h => h.elim) (fun x1 u t H1 locs ht hvm hw hB hz1 hk1 hS => ?_)
      generalize H1 = H at hS ⊢
      refine lv_imul hx hb dX5_invert_17 ?_
      refine lv_ishl hx hb dX5_invert_18 ?_
      refine lv_ior hx hb dX5_invert_19 ?_
      refine lv_topi (fun x2 _ => ?_)
      refine lv_istore_n (lv' := [(2, .int x2), (0, .int a), (1, .int (nI b)), (3, .int (nI j))]) hx hb dX5_invert_20 rfl hl (by decide) rfl (fun ls hl => ?_)
      refine lv_iinc (v := nI (j + 1)) (lv' := [(3, .int (nI (j + 1))), (2, .int x2), (0, .int a), (1, .int (nI b))]) hx hb dX5_invert_21 hl (k := 3) rfl (nI_1 j) (by decide) rfl (fun ls hl => ?_)
      refine lv_goto (tgt := 4) hx hb dX5_invert_24 (by decide) ?_
      exact ih (j + 1) (by omega) H locs ls _ hS (lv_sub hl [2, 3, 1, 0] rfl)
  refine lv_iconst (v := 0) hx hb dX5_invert_0 (by decide) ?_
  refine lv_istore_n (lv' := [(2, .int 0), (0, .int a), (1, .int (nI b))]) hx hb dX5_invert_1 rfl hl (by decide) rfl (fun ls hl => ?_)
  refine lv_iconst (v := 0) hx hb dX5_invert_2 (by decide) ?_
  refine lv_istore_n (lv' := [(3, .int 0), (2, .int 0), (0, .int a), (1, .int (nI b))]) hx hb dX5_invert_3 rfl hl (by decide) rfl (fun ls hl => ?_)
  exact L4 b 0 (by omega) _ _ ls 0 hS (lv_sub hl [2, 3, 1, 0] rfl)
