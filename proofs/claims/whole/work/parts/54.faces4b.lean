/-- the faces of a net: the mark of each side, how many -/
def fc_marks (S : ow_NP) (G : Nat → Int32) (c : Nat) (F : Nat → Int32) : (Nat → Int32) × Nat := mr_out (fc_on S G) (4 * c) (np_fill F 0 (4 * c) (-1)) (4 * c)
theorem dgX4_mark_0 : decode cX4_mark 0 = .ok (.iconst 4, 1) := by decide +kernel
theorem dgX4_mark_1 : decode cX4_mark 1 = .ok (.aload_n 1, 1) := by decide +kernel
theorem dgX4_mark_2 : decode cX4_mark 2 = .ok (.getfield 45, 3) := by decide +kernel
theorem dgX4_mark_5 : decode cX4_mark 5 = .ok (.imul, 1) := by decide +kernel
theorem dgX4_mark_6 : decode cX4_mark 6 = .ok (.istore_n 2, 1) := by decide +kernel
theorem dgX4_mark_7 : decode cX4_mark 7 = .ok (.aload_n 0, 1) := by decide +kernel
theorem dgX4_mark_8 : decode cX4_mark 8 = .ok (.getfield 9, 3) := by decide +kernel
theorem dgX4_mark_11 : decode cX4_mark 11 = .ok (.iconst 0, 1) := by decide +kernel
theorem dgX4_mark_12 : decode cX4_mark 12 = .ok (.iload_n 2, 1) := by decide +kernel
theorem dgX4_mark_13 : decode cX4_mark 13 = .ok (.iconst (-1), 1) := by decide +kernel
theorem dgX4_mark_14 : decode cX4_mark 14 = .ok (.invokestatic 49, 3) := by decide +kernel
theorem dgX4_mark_17 : decode cX4_mark 17 = .ok (.aload_n 0, 1) := by decide +kernel
theorem dgX4_mark_18 : decode cX4_mark 18 = .ok (.iconst 0, 1) := by decide +kernel
theorem dgX4_mark_19 : decode cX4_mark 19 = .ok (.putfield 55, 3) := by decide +kernel
theorem dgX4_mark_22 : decode cX4_mark 22 = .ok (.iconst 0, 1) := by decide +kernel
theorem dgX4_mark_23 : decode cX4_mark 23 = .ok (.istore_n 3, 1) := by decide +kernel
theorem dgX4_mark_24 : decode cX4_mark 24 = .ok (.iload_n 3, 1) := by decide +kernel
theorem dgX4_mark_25 : decode cX4_mark 25 = .ok (.iload_n 2, 1) := by decide +kernel
theorem dgX4_mark_26 : decode cX4_mark 26 = .ok (.if_icmp .ge 80, 3) := by decide +kernel
theorem dgX4_mark_29 : decode cX4_mark 29 = .ok (.aload_n 0, 1) := by decide +kernel
theorem dgX4_mark_30 : decode cX4_mark 30 = .ok (.getfield 9, 3) := by decide +kernel
theorem dgX4_mark_33 : decode cX4_mark 33 = .ok (.iload_n 3, 1) := by decide +kernel
theorem dgX4_mark_34 : decode cX4_mark 34 = .ok (.iaload, 1) := by decide +kernel
theorem dgX4_mark_35 : decode cX4_mark 35 = .ok (.iconst (-1), 1) := by decide +kernel
theorem dgX4_mark_36 : decode cX4_mark 36 = .ok (.if_icmp .eq 6, 3) := by decide +kernel
theorem dgX4_mark_39 : decode cX4_mark 39 = .ok (.goto 61, 3) := by decide +kernel
theorem dgX4_mark_42 : decode cX4_mark 42 = .ok (.iload_n 3, 1) := by decide +kernel
theorem dgX4_mark_43 : decode cX4_mark 43 = .ok (.istore 4, 2) := by decide +kernel
theorem dgX4_mark_45 : decode cX4_mark 45 = .ok (.iconst 0, 1) := by decide +kernel
theorem dgX4_mark_46 : decode cX4_mark 46 = .ok (.istore 5, 2) := by decide +kernel
theorem dgX4_mark_48 : decode cX4_mark 48 = .ok (.iload 5, 2) := by decide +kernel
theorem dgX4_mark_50 : decode cX4_mark 50 = .ok (.iload_n 2, 1) := by decide +kernel
theorem dgX4_mark_51 : decode cX4_mark 51 = .ok (.if_icmp .ge 39, 3) := by decide +kernel
theorem dgX4_mark_54 : decode cX4_mark 54 = .ok (.aload_n 0, 1) := by decide +kernel
theorem dgX4_mark_55 : decode cX4_mark 55 = .ok (.getfield 9, 3) := by decide +kernel
theorem dgX4_mark_58 : decode cX4_mark 58 = .ok (.iload 4, 2) := by decide +kernel
theorem dgX4_mark_60 : decode cX4_mark 60 = .ok (.iaload, 1) := by decide +kernel
theorem dgX4_mark_61 : decode cX4_mark 61 = .ok (.iconst (-1), 1) := by decide +kernel
theorem dgX4_mark_62 : decode cX4_mark 62 = .ok (.if_icmp .ne 28, 3) := by decide +kernel
theorem dgX4_mark_65 : decode cX4_mark 65 = .ok (.aload_n 0, 1) := by decide +kernel
theorem dgX4_mark_66 : decode cX4_mark 66 = .ok (.getfield 9, 3) := by decide +kernel
theorem dgX4_mark_69 : decode cX4_mark 69 = .ok (.iload 4, 2) := by decide +kernel
theorem dgX4_mark_71 : decode cX4_mark 71 = .ok (.aload_n 0, 1) := by decide +kernel
theorem dgX4_mark_72 : decode cX4_mark 72 = .ok (.getfield 55, 3) := by decide +kernel
theorem dgX4_mark_75 : decode cX4_mark 75 = .ok (.iastore, 1) := by decide +kernel
theorem dgX4_mark_76 : decode cX4_mark 76 = .ok (.aload_n 1, 1) := by decide +kernel
theorem dgX4_mark_77 : decode cX4_mark 77 = .ok (.iload 4, 2) := by decide +kernel
theorem dgX4_mark_79 : decode cX4_mark 79 = .ok (.invokestatic 58, 3) := by decide +kernel
theorem dgX4_mark_82 : decode cX4_mark 82 = .ok (.istore 4, 2) := by decide +kernel
theorem dgX4_mark_84 : decode cX4_mark 84 = .ok (.iinc 5 1, 3) := by decide +kernel
theorem dgX4_mark_87 : decode cX4_mark 87 = .ok (.goto (-39), 3) := by decide +kernel
theorem dgX4_mark_90 : decode cX4_mark 90 = .ok (.aload_n 0, 1) := by decide +kernel
theorem dgX4_mark_91 : decode cX4_mark 91 = .ok (.dup, 1) := by decide +kernel
theorem dgX4_mark_92 : decode cX4_mark 92 = .ok (.getfield 55, 3) := by decide +kernel
theorem dgX4_mark_95 : decode cX4_mark 95 = .ok (.iconst 1, 1) := by decide +kernel
theorem dgX4_mark_96 : decode cX4_mark 96 = .ok (.iadd, 1) := by decide +kernel
theorem dgX4_mark_97 : decode cX4_mark 97 = .ok (.putfield 55, 3) := by decide +kernel
theorem dgX4_mark_100 : decode cX4_mark 100 = .ok (.iinc 3 1, 3) := by decide +kernel
theorem dgX4_mark_103 : decode cX4_mark 103 = .ok (.goto (-79), 3) := by decide +kernel
theorem dgX4_mark_106 : decode cX4_mark 106 = .ok (.return_, 1) := by decide +kernel
def wg_X4_mark : List Cond := .code yX4_mark cX4_mark 6 none :: (([.fieldLink RX4 45 "KnotHouse$Net" "crossings" "I", .fieldLink RX4 9 "KnotHouse$Faces" "face" "[I", .fieldLink RX4 55 "KnotHouse$Faces" "count" "I"] ++ wsX40 ++ wsX70) ++ (va_wsS RX4 49 yJ7_fill_fda19 wg_J7_fill_fda19 ++ (va_wsS RX4 58 yX4_onward wg_X4_onward ++ [])))
theorem gg_X4_mark_0 : GoodIn wg_X4_mark (va_wsS RX4 49 yJ7_fill_fda19 wg_J7_fill_fda19) := goodIn_sub (fun _ h => List.mem_cons_of_mem _ (List.mem_append_right _ (List.mem_append_left _ h))) (by decide +kernel)
theorem gg_X4_mark_1 : GoodIn wg_X4_mark (va_wsS RX4 58 yX4_onward wg_X4_onward) := goodIn_sub (fun _ h => List.mem_cons_of_mem _ (List.mem_append_right _ (List.mem_append_right _ (List.mem_append_left _ h)))) (by decide +kernel)
set_option maxHeartbeats 4000000 in
set_option maxRecDepth 100000 in
theorem kg_X4_mark (l : Launch) (dC : Nat → ClassId) (dI : Nat → Nat → Nat) (cI cB cJ cZ : ClassId) (aF : Nat) (ff : Nat → Nat) (z : Int32) (F : Nat → Int32) (aX : Nat) (nx : Nat → Nat) (x8 x9 x10 : Int32) (S : ow_NP) (hS0 : ow_b24 S) (G : Nat → Int32) (cn : Nat) (hc : cn ≤ 12) (sz : Nat) : Met l yX4_mark wg_X4_mark (({ frames := 2, cells := 0, slots := 0, locals := 60 } : Room)) (va_Pc [.ref aF, .ref aX] (fun U => U.heap.size = sz ∧ va_P (dC, dI) vwCl [(aF, .inr (7, [.ref (ff 0), .int z, .ref (ff 2), .ref (ff 3), .ref (ff 4), .ref (ff 5), .ref (ff 6), .ref (ff 7)])), ((ff 0), .inl (cI, 48, .inl F)), (aX, .inr (10, [.ref (nx 0), .ref (nx 1), .ref (nx 2), .ref (nx 3), .ref (nx 4), .ref (nx 5), .ref (nx 6), .int (nI cn), .int x8, .int x9, .int x10])), ((nx 0), .inl (cI, 24, .inl (ow_nI S.1))), ((nx 1), .inl (cI, 24, .inl (ow_nI S.2))), ((nx 2), .inl (cI, 12, .inl G))] U.heap ∧ va_K (dC, dI) vwCl [(cI, .int), (cB, .byte), (cJ, .long), (cZ, .boolean)] U ∧ va_D (fun _ => True) [(aF, .inr (7, [.ref (ff 0), .int z, .ref (ff 2), .ref (ff 3), .ref (ff 4), .ref (ff 5), .ref (ff 6), .ref (ff 7)])), ((ff 0), .inl (cI, 48, .inl F)), (aX, .inr (10, [.ref (nx 0), .ref (nx 1), .ref (nx 2), .ref (nx 3), .ref (nx 4), .ref (nx 5), .ref (nx 6), .int (nI cn), .int x8, .int x9, .int x10])), ((nx 0), .inl (cI, 24, .inl (ow_nI S.1))), ((nx 1), .inl (cI, 24, .inl (ow_nI S.2))), ((nx 2), .inl (cI, 12, .inl G))])) (va_Qv (fun (g : Unit) => True) (fun g t => va_P (dC, dI) vwCl [(aF, .inr (7, [.ref (ff 0), .int (nI (fc_marks S G cn F).2), .ref (ff 2), .ref (ff 3), .ref (ff 4), .ref (ff 5), .ref (ff 6), .ref (ff 7)])), ((ff 0), .inl (cI, 48, .inl ((fc_marks S G cn F).1))), (aX, .inr (10, [.ref (nx 0), .ref (nx 1), .ref (nx 2), .ref (nx 3), .ref (nx 4), .ref (nx 5), .ref (nx 6), .int (nI cn), .int x8, .int x9, .int x10])), ((nx 0), .inl (cI, 24, .inl (ow_nI S.1))), ((nx 1), .inl (cI, 24, .inl (ow_nI S.2))), ((nx 2), .inl (cI, 12, .inl G))] t.heap ∧ va_D (va_A [(aF, .inr (7, [.ref (ff 0), .int z, .ref (ff 2), .ref (ff 3), .ref (ff 4), .ref (ff 5), .ref (ff 6), .ref (ff 7)])), ((ff 0), .inl (cI, 48, .inl F)), (aX, .inr (10, [.ref (nx 0), .ref (nx 1), .ref (nx 2), .ref (nx 3), .ref (nx 4), .ref (nx 5), .ref (nx 6), .int (nI cn), .int x8, .int x9, .int x10])), ((nx 0), .inl (cI, 24, .inl (ow_nI S.1))), ((nx 1), .inl (cI, 24, .inl (ow_nI S.2))), ((nx 2), .inl (cI, 12, .inl G))] sz) [(aF, .inr (7, [.ref (ff 0), .int (nI (fc_marks S G cn F).2), .ref (ff 2), .ref (ff 3), .ref (ff 4), .ref (ff 5), .ref (ff 6), .ref (ff 7)])), ((ff 0), .inl (cI, 48, .inl ((fc_marks S G cn F).1))), (aX, .inr (10, [.ref (nx 0), .ref (nx 1), .ref (nx 2), .ref (nx 3), .ref (nx 4), .ref (nx 5), .ref (nx 6), .int (nI cn), .int x8, .int x9, .int x10])), ((nx 0), .inl (cI, 24, .inl (ow_nI S.1))), ((nx 1), .inl (cI, 24, .inl (ow_nI S.2))), ((nx 2), .inl (cI, 12, .inl G))]) (va_A [(aF, .inr (7, [.ref (ff 0), .int z, .ref (ff 2), .ref (ff 3), .ref (ff 4), .ref (ff 5), .ref (ff 6), .ref (ff 7)])), ((ff 0), .inl (cI, 48, .inl F)), (aX, .inr (10, [.ref (nx 0), .ref (nx 1), .ref (nx 2), .ref (nx 3), .ref (nx 4), .ref (nx 5), .ref (nx 6), .int (nI cn), .int x8, .int x9, .int x10])), ((nx 0), .inl (cI, 24, .inl (ow_nI S.1))), ((nx 1), .inl (cI, 24, .inl (ow_nI S.2))), ((nx 2), .inl (cI, 12, .inl G))] sz)) 0 0 (va_A [(aF, .inr (7, [.ref (ff 0), .int z, .ref (ff 2), .ref (ff 3), .ref (ff 4), .ref (ff 5), .ref (ff 6), .ref (ff 7)])), ((ff 0), .inl (cI, 48, .inl F)), (aX, .inr (10, [.ref (nx 0), .ref (nx 1), .ref (nx 2), .ref (nx 3), .ref (nx 4), .ref (nx 5), .ref (nx 6), .int (nI cn), .int x8, .int x9, .int x10])), ((nx 0), .inl (cI, 24, .inl (ow_nI S.1))), ((nx 1), .inl (cI, 24, .inl (ow_nI S.2))), ((nx 2), .inl (cI, 12, .inl G))] sz) := by
  refine Met.ofW (cc := cX4_mark) (maxL := 6) (ret := none) (by decide) rfl ?_
  intro p e s m args below meth c s₁ B hml hv
  obtain ⟨rfl, hsz, hP, hK, hD0⟩ := hv
  have hx := B.exec
  have hb := B.bytes
  have hr := B.returns
  have hts := atoms_spec (ws := wg_X4_mark) B.pre
  have hown : s.vm.findClass RX4 = some m.cls := findClass_of_methodNamed B.named
  have hlocks := B.notSynchronized
  subst hsz
  have hD := hD0.self (sz := s.heap.size)
  generalize hAe : va_A [(aF, .inr (7, [.ref (ff 0), .int z, .ref (ff 2), .ref (ff 3), .ref (ff 4), .ref (ff 5), .ref (ff 6), .ref (ff 7)])), ((ff 0), .inl (cI, 48, .inl F)), (aX, .inr (10, [.ref (nx 0), .ref (nx 1), .ref (nx 2), .ref (nx 3), .ref (nx 4), .ref (nx 5), .ref (nx 6), .int (nI cn), .int x8, .int x9, .int x10])), ((nx 0), .inl (cI, 24, .inl (ow_nI S.1))), ((nx 1), .inl (cI, 24, .inl (ow_nI S.2))), ((nx 2), .inl (cI, 12, .inl G))] s.heap.size = A at hD ⊢
  have hA : ∀ q : Nat, s.heap.size ≤ q → A q := fun q h => by rw [← hAe]; exact Or.inr h
  have hS : va_S A s.heap s.heap [] := va_S.rf
  have hP : va_P (dC, dI) vwCl [(aF, .inr (7, [.ref (ff 0), .int z, .ref (ff 2), .ref (ff 3), .ref (ff 4), .ref (ff 5), .ref (ff 6), .ref (ff 7)])), ((ff 0), .inl (cI, 48, .inl F)), (aX, .inr (10, [.ref (nx 0), .ref (nx 1), .ref (nx 2), .ref (nx 3), .ref (nx 4), .ref (nx 5), .ref (nx 6), .int (nI cn), .int x8, .int x9, .int x10])), ((nx 0), .inl (cI, 24, .inl (ow_nI S.1))), ((nx 1), .inl (cI, 24, .inl (ow_nI S.2))), ((nx 2), .inl (cI, 12, .inl G))] s.heap := hP
  have hl := lv_entry ([.ref aF, .ref aX]) (n := 6) (Nat.le_of_ble_eq_true rfl)
  rw [lg_entry_eq]
  generalize (lg_sl ([.ref aF, .ref aX]) ++ List.replicate (6 - (lg_sl ([.ref aF, .ref aX])).length) Slot.unset).toArray = ls at hl ⊢
  have hl : lv_has ls 6 [(0, .ref aF), (1, .ref aX)] := hl
  refine ow_named (fun QQ hQQ => ?_)
  suffices key9 : ∀ (H : Heap) (locs : List Loc), va_P (dC, dI) vwCl [(aF, .inr (7, [.ref (ff 0), .int z, .ref (ff 2), .ref (ff 3), .ref (ff 4), .ref (ff 5), .ref (ff 6), .ref (ff 7)])), ((ff 0), .inl (cI, 48, .inl F)), (aX, .inr (10, [.ref (nx 0), .ref (nx 1), .ref (nx 2), .ref (nx 3), .ref (nx 4), .ref (nx 5), .ref (nx 6), .int (nI cn), .int x8, .int x9, .int x10])), ((nx 0), .inl (cI, 24, .inl (ow_nI S.1))), ((nx 1), .inl (cI, 24, .inl (ow_nI S.2))), ((nx 2), .inl (cI, 12, .inl G))] H → va_S A s.heap H locs → W p l e ({ frames := 2, cells := 0, slots := 0, locals := 60 } : Room) s m ([.ref aF, .ref aX] : List Value).toArray below meth c H locs 0 0 QQ (F0 m 0 ls []) from key9 s.heap [] hP hS
  intro H locs hP hS
  have L24 : ∀ (d i : Nat), i + d = 4 * cn → ∀ (H : Heap) (locs : List Loc) (ls : Array Slot), va_P (dC, dI) vwCl [(aF, .inr (7, [.ref (ff 0), .int (nI (mr_out (fc_on S G) (4 * cn) (np_fill F 0 (4 * cn) (-1)) i).2), .ref (ff 2), .ref (ff 3), .ref (ff 4), .ref (ff 5), .ref (ff 6), .ref (ff 7)])), ((ff 0), .inl (cI, 48, .inl ((mr_out (fc_on S G) (4 * cn) (np_fill F 0 (4 * cn) (-1)) i).1))), (aX, .inr (10, [.ref (nx 0), .ref (nx 1), .ref (nx 2), .ref (nx 3), .ref (nx 4), .ref (nx 5), .ref (nx 6), .int (nI cn), .int x8, .int x9, .int x10])), ((nx 0), .inl (cI, 24, .inl (ow_nI S.1))), ((nx 1), .inl (cI, 24, .inl (ow_nI S.2))), ((nx 2), .inl (cI, 12, .inl G))] H → va_D A [(aF, .inr (7, [.ref (ff 0), .int (nI (mr_out (fc_on S G) (4 * cn) (np_fill F 0 (4 * cn) (-1)) i).2), .ref (ff 2), .ref (ff 3), .ref (ff 4), .ref (ff 5), .ref (ff 6), .ref (ff 7)])), ((ff 0), .inl (cI, 48, .inl ((mr_out (fc_on S G) (4 * cn) (np_fill F 0 (4 * cn) (-1)) i).1))), (aX, .inr (10, [.ref (nx 0), .ref (nx 1), .ref (nx 2), .ref (nx 3), .ref (nx 4), .ref (nx 5), .ref (nx 6), .int (nI cn), .int x8, .int x9, .int x10])), ((nx 0), .inl (cI, 24, .inl (ow_nI S.1))), ((nx 1), .inl (cI, 24, .inl (ow_nI S.2))), ((nx 2), .inl (cI, 12, .inl G))] → va_S A s.heap H locs → lv_has ls 6 [(0, .ref aF), (1, .ref aX), (2, .int (nI (4 * cn))), (3, .int (nI i))] → W p l e ({ frames := 2, cells := 0, slots := 0, locals := 60 } : Room) s m ([.ref aF, .ref aX] : List Value).toArray below meth c H locs 0 0 QQ (F0 m 24 ls []) := by
    intro d
    induction d with
    | zero =>
      intro i hi H locs ls hP hD hS hl 
      have hie : i = 4 * cn := by omega
      refine lv_iload_n hx hb dgX4_mark_24 rfl (lv_at hl 3 rfl) ?_
      refine lv_iload_n hx hb dgX4_mark_25 rfl (lv_at hl 2 rfl) ?_
      refine lv_icmp_ge (tgt := 106) hx hb dgX4_mark_26 (by decide) (fun _ => ?_) (fun c9 => absurd (nI_le (a := 4 * cn) (b := i) (by omega) (by omega)) c9)
      have hP : va_P (dC, dI) vwCl [(aF, .inr (7, [.ref (ff 0), .int (nI (fc_marks S G cn F).2), .ref (ff 2), .ref (ff 3), .ref (ff 4), .ref (ff 5), .ref (ff 6), .ref (ff 7)])), ((ff 0), .inl (cI, 48, .inl ((fc_marks S G cn F).1))), (aX, .inr (10, [.ref (nx 0), .ref (nx 1), .ref (nx 2), .ref (nx 3), .ref (nx 4), .ref (nx 5), .ref (nx 6), .int (nI cn), .int x8, .int x9, .int x10])), ((nx 0), .inl (cI, 24, .inl (ow_nI S.1))), ((nx 1), .inl (cI, 24, .inl (ow_nI S.2))), ((nx 2), .inl (cI, 12, .inl G))] H := by rw [hie] at hP; exact hP
      have hD : va_D A [(aF, .inr (7, [.ref (ff 0), .int (nI (fc_marks S G cn F).2), .ref (ff 2), .ref (ff 3), .ref (ff 4), .ref (ff 5), .ref (ff 6), .ref (ff 7)])), ((ff 0), .inl (cI, 48, .inl ((fc_marks S G cn F).1))), (aX, .inr (10, [.ref (nx 0), .ref (nx 1), .ref (nx 2), .ref (nx 3), .ref (nx 4), .ref (nx 5), .ref (nx 6), .int (nI cn), .int x8, .int x9, .int x10])), ((nx 0), .inl (cI, 24, .inl (ow_nI S.1))), ((nx 1), .inl (cI, 24, .inl (ow_nI S.2))), ((nx 2), .inl (cI, 12, .inl G))] := by rw [hie] at hD; exact hD
      rw [hQQ]
      exact W.vret hx hb hr (fun t ht hW => ⟨⟨(), rfl, trivial, by rw [ht]; exact hP, hD⟩, hS.F ht⟩) hS.2.2 dgX4_mark_106
    | succ d ih =>
      intro i hi H locs ls hP hD hS hl 
      refine lv_iload_n hx hb dgX4_mark_24 rfl (lv_at hl 3 rfl) ?_
      refine lv_iload_n hx hb dgX4_mark_25 rfl (lv_at hl 2 rfl) ?_
      refine lv_icmp_ge (tgt := 106) hx hb dgX4_mark_26 (by decide) (fun c9 => absurd c9 (nI_ge (a := i) (b := 4 * cn) (by omega) (by omega))) (fun _ => ?_)
      refine lv_aload_n hx hb dgX4_mark_29 rfl (lv_at hl 0 rfl) ?_
      refine va_get (D := (dC, dI)) (ci := 7) (v := .ref (ff 0)) (C := RX4) (T := TX4) (N := 8) hx hb hts (fun _ h => List.mem_cons_of_mem _ (List.mem_append_left _ (List.mem_append_left _ (List.mem_append_right _ h)))) hown hK hP 0 rfl rfl 0 (by decide) (hts (.fieldLink RX4 9 "KnotHouse$Faces" "face" "[I") (by decide +kernel)) (fun _ h9 => h9) rfl dgX4_mark_30 ?_
      refine lv_iload_n hx hb dgX4_mark_33 rfl (lv_at hl 3 rfl) ?_
      refine va_iald hx hb hK hP 1 0 rfl rfl (vp_in_nI (n := i) (N := 48) (by omega) (by decide)) dgX4_mark_34 ?_
      refine ow_topi (y := ((mr_out (fc_on S G) (4 * cn) (np_fill F 0 (4 * cn) (-1)) i).1) i) (congrArg ((mr_out (fc_on S G) (4 * cn) (np_fill F 0 (4 * cn) (-1)) i).1) (nI_clamp (n := i) (Nat.lt_trans (m := 48) (by omega) (by decide)))) ?_
      refine lv_iconst (v := (-1)) hx hb dgX4_mark_35 (by decide) ?_
      refine lv_icmp_eq (tgt := 42) hx hb dgX4_mark_36 (by decide) (fun c1 => ?_) (fun c1 => ?_)
      · have hst : mr_out (fc_on S G) (4 * cn) (np_fill F 0 (4 * cn) (-1)) (i + 1) = (mr_in (fc_on S G) (nI (mr_out (fc_on S G) (4 * cn) (np_fill F 0 (4 * cn) (-1)) i).2) (4 * cn) (mr_out (fc_on S G) (4 * cn) (np_fill F 0 (4 * cn) (-1)) i).1 i, (mr_out (fc_on S G) (4 * cn) (np_fill F 0 (4 * cn) (-1)) i).2 + 1) := if_pos c1
        generalize hE : (mr_out (fc_on S G) (4 * cn) (np_fill F 0 (4 * cn) (-1)) i) = E at hP hD hst
        have hP : va_P (dC, dI) vwCl [(aF, .inr (7, [.ref (ff 0), .int (nI E.2), .ref (ff 2), .ref (ff 3), .ref (ff 4), .ref (ff 5), .ref (ff 6), .ref (ff 7)])), ((ff 0), .inl (cI, 48, .inl E.1)), (aX, .inr (10, [.ref (nx 0), .ref (nx 1), .ref (nx 2), .ref (nx 3), .ref (nx 4), .ref (nx 5), .ref (nx 6), .int (nI cn), .int x8, .int x9, .int x10])), ((nx 0), .inl (cI, 24, .inl (ow_nI S.1))), ((nx 1), .inl (cI, 24, .inl (ow_nI S.2))), ((nx 2), .inl (cI, 12, .inl G))] H := hP
        have hD : va_D A [(aF, .inr (7, [.ref (ff 0), .int (nI E.2), .ref (ff 2), .ref (ff 3), .ref (ff 4), .ref (ff 5), .ref (ff 6), .ref (ff 7)])), ((ff 0), .inl (cI, 48, .inl E.1)), (aX, .inr (10, [.ref (nx 0), .ref (nx 1), .ref (nx 2), .ref (nx 3), .ref (nx 4), .ref (nx 5), .ref (nx 6), .int (nI cn), .int x8, .int x9, .int x10])), ((nx 0), .inl (cI, 24, .inl (ow_nI S.1))), ((nx 1), .inl (cI, 24, .inl (ow_nI S.2))), ((nx 2), .inl (cI, 12, .inl G))] := hD
        generalize hR : mr_in (fc_on S G) (nI E.2) (4 * cn) E.1 i = R at hst
        have K90 : ∀ (H : Heap) (locs : List Loc) (ls : Array Slot), va_P (dC, dI) vwCl [(aF, .inr (7, [.ref (ff 0), .int (nI E.2), .ref (ff 2), .ref (ff 3), .ref (ff 4), .ref (ff 5), .ref (ff 6), .ref (ff 7)])), ((ff 0), .inl (cI, 48, .inl R)), (aX, .inr (10, [.ref (nx 0), .ref (nx 1), .ref (nx 2), .ref (nx 3), .ref (nx 4), .ref (nx 5), .ref (nx 6), .int (nI cn), .int x8, .int x9, .int x10])), ((nx 0), .inl (cI, 24, .inl (ow_nI S.1))), ((nx 1), .inl (cI, 24, .inl (ow_nI S.2))), ((nx 2), .inl (cI, 12, .inl G))] H → va_D A [(aF, .inr (7, [.ref (ff 0), .int (nI E.2), .ref (ff 2), .ref (ff 3), .ref (ff 4), .ref (ff 5), .ref (ff 6), .ref (ff 7)])), ((ff 0), .inl (cI, 48, .inl R)), (aX, .inr (10, [.ref (nx 0), .ref (nx 1), .ref (nx 2), .ref (nx 3), .ref (nx 4), .ref (nx 5), .ref (nx 6), .int (nI cn), .int x8, .int x9, .int x10])), ((nx 0), .inl (cI, 24, .inl (ow_nI S.1))), ((nx 1), .inl (cI, 24, .inl (ow_nI S.2))), ((nx 2), .inl (cI, 12, .inl G))] → va_S A s.heap H locs → lv_has ls 6 [(0, .ref aF), (1, .ref aX), (2, .int (nI (4 * cn))), (3, .int (nI i))] → W p l e ({ frames := 2, cells := 0, slots := 0, locals := 60 } : Room) s m ([.ref aF, .ref aX] : List Value).toArray below meth c H locs 0 0 QQ (F0 m 90 ls []) := by
          intro H locs ls hP hD hS hl
          refine lv_aload_n hx hb dgX4_mark_90 rfl (lv_at hl 0 rfl) ?_
          refine lv_dup hx hb dgX4_mark_91 rfl ?_
          refine va_get (D := (dC, dI)) (ci := 7) (v := .int (nI E.2)) (C := RX4) (T := TX4) (N := 8) hx hb hts (fun _ h => List.mem_cons_of_mem _ (List.mem_append_left _ (List.mem_append_left _ (List.mem_append_right _ h)))) hown hK hP 0 rfl rfl 1 (by decide) (hts (.fieldLink RX4 55 "KnotHouse$Faces" "count" "I") (by decide +kernel)) (fun _ h9 => h9) rfl dgX4_mark_92 ?_
          refine lv_iconst (v := 1) hx hb dgX4_mark_95 (by decide) ?_
          refine lv_iadd hx hb dgX4_mark_96 ?_
          refine ow_topi (y := nI (E.2 + 1)) (nI_1 E.2) ?_
          refine va_put (D := (dC, dI)) (ci := 7) (v := .int (nI (E.2 + 1))) (ty := .int) (C := RX4) (T := TX4) (N := 8) hx hb hts (fun _ h => List.mem_cons_of_mem _ (List.mem_append_left _ (List.mem_append_left _ (List.mem_append_right _ h)))) tyX4 tyX4_ok nmX4 hown hK hP hD hS 0 rfl rfl 1 (by decide) (hts (.fieldLink RX4 55 "KnotHouse$Faces" "count" "I") (by decide +kernel)) (fun _ h9 => h9) rfl (by decide +kernel) rfl rfl (Nat.le_of_ble_eq_true rfl) dgX4_mark_97 (fun H locs hP hD hS => ?_)
          have hP : va_P (dC, dI) vwCl [(aF, .inr (7, [.ref (ff 0), .int (nI (E.2 + 1)), .ref (ff 2), .ref (ff 3), .ref (ff 4), .ref (ff 5), .ref (ff 6), .ref (ff 7)])), ((ff 0), .inl (cI, 48, .inl R)), (aX, .inr (10, [.ref (nx 0), .ref (nx 1), .ref (nx 2), .ref (nx 3), .ref (nx 4), .ref (nx 5), .ref (nx 6), .int (nI cn), .int x8, .int x9, .int x10])), ((nx 0), .inl (cI, 24, .inl (ow_nI S.1))), ((nx 1), .inl (cI, 24, .inl (ow_nI S.2))), ((nx 2), .inl (cI, 12, .inl G))] H := hP
          have hD : va_D A [(aF, .inr (7, [.ref (ff 0), .int (nI (E.2 + 1)), .ref (ff 2), .ref (ff 3), .ref (ff 4), .ref (ff 5), .ref (ff 6), .ref (ff 7)])), ((ff 0), .inl (cI, 48, .inl R)), (aX, .inr (10, [.ref (nx 0), .ref (nx 1), .ref (nx 2), .ref (nx 3), .ref (nx 4), .ref (nx 5), .ref (nx 6), .int (nI cn), .int x8, .int x9, .int x10])), ((nx 0), .inl (cI, 24, .inl (ow_nI S.1))), ((nx 1), .inl (cI, 24, .inl (ow_nI S.2))), ((nx 2), .inl (cI, 12, .inl G))] := hD
          have hP : va_P (dC, dI) vwCl [(aF, .inr (7, [.ref (ff 0), .int (nI (mr_out (fc_on S G) (4 * cn) (np_fill F 0 (4 * cn) (-1)) (i + 1)).2), .ref (ff 2), .ref (ff 3), .ref (ff 4), .ref (ff 5), .ref (ff 6), .ref (ff 7)])), ((ff 0), .inl (cI, 48, .inl ((mr_out (fc_on S G) (4 * cn) (np_fill F 0 (4 * cn) (-1)) (i + 1)).1))), (aX, .inr (10, [.ref (nx 0), .ref (nx 1), .ref (nx 2), .ref (nx 3), .ref (nx 4), .ref (nx 5), .ref (nx 6), .int (nI cn), .int x8, .int x9, .int x10])), ((nx 0), .inl (cI, 24, .inl (ow_nI S.1))), ((nx 1), .inl (cI, 24, .inl (ow_nI S.2))), ((nx 2), .inl (cI, 12, .inl G))] H := by rw [hst]; exact hP
          have hD : va_D A [(aF, .inr (7, [.ref (ff 0), .int (nI (mr_out (fc_on S G) (4 * cn) (np_fill F 0 (4 * cn) (-1)) (i + 1)).2), .ref (ff 2), .ref (ff 3), .ref (ff 4), .ref (ff 5), .ref (ff 6), .ref (ff 7)])), ((ff 0), .inl (cI, 48, .inl ((mr_out (fc_on S G) (4 * cn) (np_fill F 0 (4 * cn) (-1)) (i + 1)).1))), (aX, .inr (10, [.ref (nx 0), .ref (nx 1), .ref (nx 2), .ref (nx 3), .ref (nx 4), .ref (nx 5), .ref (nx 6), .int (nI cn), .int x8, .int x9, .int x10])), ((nx 0), .inl (cI, 24, .inl (ow_nI S.1))), ((nx 1), .inl (cI, 24, .inl (ow_nI S.2))), ((nx 2), .inl (cI, 12, .inl G))] := by rw [hst]; exact hD
          refine lv_iinc (v := nI (i + 1)) (lv' := [(3, .int (nI (i + 1))), (0, .ref aF), (1, .ref aX), (2, .int (nI (4 * cn)))]) hx hb dgX4_mark_100 hl (k := 3) rfl (nI_1 i) (by decide) rfl (fun ls hl => ?_)
          refine lv_goto (tgt := 24) hx hb dgX4_mark_103 (by decide) ?_
          exact ih (i + 1) (by omega) H locs ls hP hD hS (lv_sub hl [1, 2, 3, 0] rfl)
        have L48 : ∀ (d j v : Nat) (f : Nat → Int32), j + d = 4 * cn → v < 48 → mr_in (fc_on S G) (nI E.2) d f v = R → ∀ (H : Heap) (locs : List Loc) (ls : Array Slot), va_P (dC, dI) vwCl [(aF, .inr (7, [.ref (ff 0), .int (nI E.2), .ref (ff 2), .ref (ff 3), .ref (ff 4), .ref (ff 5), .ref (ff 6), .ref (ff 7)])), ((ff 0), .inl (cI, 48, .inl f)), (aX, .inr (10, [.ref (nx 0), .ref (nx 1), .ref (nx 2), .ref (nx 3), .ref (nx 4), .ref (nx 5), .ref (nx 6), .int (nI cn), .int x8, .int x9, .int x10])), ((nx 0), .inl (cI, 24, .inl (ow_nI S.1))), ((nx 1), .inl (cI, 24, .inl (ow_nI S.2))), ((nx 2), .inl (cI, 12, .inl G))] H → va_D A [(aF, .inr (7, [.ref (ff 0), .int (nI E.2), .ref (ff 2), .ref (ff 3), .ref (ff 4), .ref (ff 5), .ref (ff 6), .ref (ff 7)])), ((ff 0), .inl (cI, 48, .inl f)), (aX, .inr (10, [.ref (nx 0), .ref (nx 1), .ref (nx 2), .ref (nx 3), .ref (nx 4), .ref (nx 5), .ref (nx 6), .int (nI cn), .int x8, .int x9, .int x10])), ((nx 0), .inl (cI, 24, .inl (ow_nI S.1))), ((nx 1), .inl (cI, 24, .inl (ow_nI S.2))), ((nx 2), .inl (cI, 12, .inl G))] → va_S A s.heap H locs → lv_has ls 6 [(0, .ref aF), (1, .ref aX), (2, .int (nI (4 * cn))), (3, .int (nI i)), (4, .int (nI v)), (5, .int (nI j))] → W p l e ({ frames := 2, cells := 0, slots := 0, locals := 60 } : Room) s m ([.ref aF, .ref aX] : List Value).toArray below meth c H locs 0 0 QQ (F0 m 48 ls []) := by
          intro d2
          induction d2 with
          | zero =>
            intro j v f hj hv9 hf H locs ls hP hD hS hl
            refine lv_iload hx hb dgX4_mark_48 (lv_at hl 5 rfl) ?_
            refine lv_iload_n hx hb dgX4_mark_50 rfl (lv_at hl 2 rfl) ?_
            refine lv_icmp_ge (tgt := 90) hx hb dgX4_mark_51 (by decide) (fun _ => ?_) (fun c9 => absurd (nI_le (a := 4 * cn) (b := j) (by omega) (by omega)) c9)
            have hP : va_P (dC, dI) vwCl [(aF, .inr (7, [.ref (ff 0), .int (nI E.2), .ref (ff 2), .ref (ff 3), .ref (ff 4), .ref (ff 5), .ref (ff 6), .ref (ff 7)])), ((ff 0), .inl (cI, 48, .inl R)), (aX, .inr (10, [.ref (nx 0), .ref (nx 1), .ref (nx 2), .ref (nx 3), .ref (nx 4), .ref (nx 5), .ref (nx 6), .int (nI cn), .int x8, .int x9, .int x10])), ((nx 0), .inl (cI, 24, .inl (ow_nI S.1))), ((nx 1), .inl (cI, 24, .inl (ow_nI S.2))), ((nx 2), .inl (cI, 12, .inl G))] H := by rw [← hf]; exact hP
            have hD : va_D A [(aF, .inr (7, [.ref (ff 0), .int (nI E.2), .ref (ff 2), .ref (ff 3), .ref (ff 4), .ref (ff 5), .ref (ff 6), .ref (ff 7)])), ((ff 0), .inl (cI, 48, .inl R)), (aX, .inr (10, [.ref (nx 0), .ref (nx 1), .ref (nx 2), .ref (nx 3), .ref (nx 4), .ref (nx 5), .ref (nx 6), .int (nI cn), .int x8, .int x9, .int x10])), ((nx 0), .inl (cI, 24, .inl (ow_nI S.1))), ((nx 1), .inl (cI, 24, .inl (ow_nI S.2))), ((nx 2), .inl (cI, 12, .inl G))] := by rw [← hf]; exact hD
            exact K90 H locs ls hP hD hS (lv_sub hl [0, 1, 2, 3] rfl)
          | succ d2 ih2 =>
            intro j v f hj hv9 hf H locs ls hP hD hS hl
            refine lv_iload hx hb dgX4_mark_48 (lv_at hl 5 rfl) ?_
            refine lv_iload_n hx hb dgX4_mark_50 rfl (lv_at hl 2 rfl) ?_
            refine lv_icmp_ge (tgt := 90) hx hb dgX4_mark_51 (by decide) (fun c9 => absurd c9 (nI_ge (a := j) (b := 4 * cn) (by omega) (by omega))) (fun _ => ?_)
            refine lv_aload_n hx hb dgX4_mark_54 rfl (lv_at hl 0 rfl) ?_
            refine va_get (D := (dC, dI)) (ci := 7) (v := .ref (ff 0)) (C := RX4) (T := TX4) (N := 8) hx hb hts (fun _ h => List.mem_cons_of_mem _ (List.mem_append_left _ (List.mem_append_left _ (List.mem_append_right _ h)))) hown hK hP 0 rfl rfl 0 (by decide) (hts (.fieldLink RX4 9 "KnotHouse$Faces" "face" "[I") (by decide +kernel)) (fun _ h9 => h9) rfl dgX4_mark_55 ?_
            refine lv_iload hx hb dgX4_mark_58 (lv_at hl 4 rfl) ?_
            refine va_iald hx hb hK hP 1 0 rfl rfl (vp_in_nI (n := v) (N := 48) hv9 (by decide)) dgX4_mark_60 ?_
            refine ow_topi (y := f v) (congrArg f (nI_clamp (n := v) (Nat.lt_trans (m := 48) hv9 (by decide)))) ?_
            refine lv_iconst (v := (-1)) hx hb dgX4_mark_61 (by decide) ?_
            refine lv_icmp_ne (tgt := 90) hx hb dgX4_mark_62 (by decide) (fun c2 => ?_) (fun c2 => ?_)
            · have hfR : f = R := by rw [← hf]; exact (if_neg c2).symm
              have hP : va_P (dC, dI) vwCl [(aF, .inr (7, [.ref (ff 0), .int (nI E.2), .ref (ff 2), .ref (ff 3), .ref (ff 4), .ref (ff 5), .ref (ff 6), .ref (ff 7)])), ((ff 0), .inl (cI, 48, .inl R)), (aX, .inr (10, [.ref (nx 0), .ref (nx 1), .ref (nx 2), .ref (nx 3), .ref (nx 4), .ref (nx 5), .ref (nx 6), .int (nI cn), .int x8, .int x9, .int x10])), ((nx 0), .inl (cI, 24, .inl (ow_nI S.1))), ((nx 1), .inl (cI, 24, .inl (ow_nI S.2))), ((nx 2), .inl (cI, 12, .inl G))] H := by rw [← hfR]; exact hP
              have hD : va_D A [(aF, .inr (7, [.ref (ff 0), .int (nI E.2), .ref (ff 2), .ref (ff 3), .ref (ff 4), .ref (ff 5), .ref (ff 6), .ref (ff 7)])), ((ff 0), .inl (cI, 48, .inl R)), (aX, .inr (10, [.ref (nx 0), .ref (nx 1), .ref (nx 2), .ref (nx 3), .ref (nx 4), .ref (nx 5), .ref (nx 6), .int (nI cn), .int x8, .int x9, .int x10])), ((nx 0), .inl (cI, 24, .inl (ow_nI S.1))), ((nx 1), .inl (cI, 24, .inl (ow_nI S.2))), ((nx 2), .inl (cI, 12, .inl G))] := by rw [← hfR]; exact hD
              exact K90 H locs ls hP hD hS (lv_sub hl [0, 1, 2, 3] rfl)
            · refine lv_aload_n hx hb dgX4_mark_65 rfl (lv_at hl 0 rfl) ?_
              refine va_get (D := (dC, dI)) (ci := 7) (v := .ref (ff 0)) (C := RX4) (T := TX4) (N := 8) hx hb hts (fun _ h => List.mem_cons_of_mem _ (List.mem_append_left _ (List.mem_append_left _ (List.mem_append_right _ h)))) hown hK hP 0 rfl rfl 0 (by decide) (hts (.fieldLink RX4 9 "KnotHouse$Faces" "face" "[I") (by decide +kernel)) (fun _ h9 => h9) rfl dgX4_mark_66 ?_
              refine lv_iload hx hb dgX4_mark_69 (lv_at hl 4 rfl) ?_
              refine lv_aload_n hx hb dgX4_mark_71 rfl (lv_at hl 0 rfl) ?_
              refine va_get (D := (dC, dI)) (ci := 7) (v := .int (nI E.2)) (C := RX4) (T := TX4) (N := 8) hx hb hts (fun _ h => List.mem_cons_of_mem _ (List.mem_append_left _ (List.mem_append_left _ (List.mem_append_right _ h)))) hown hK hP 0 rfl rfl 1 (by decide) (hts (.fieldLink RX4 55 "KnotHouse$Faces" "count" "I") (by decide +kernel)) (fun _ h9 => h9) rfl dgX4_mark_72 ?_
              refine ow_iastF (j := v) (x := nI E.2) hx hb hK hP hD hS 1 0 rfl rfl hv9 (by decide) dgX4_mark_75 (fun H locs hP hD hS => ?_)
              have hP : va_P (dC, dI) vwCl [(aF, .inr (7, [.ref (ff 0), .int (nI E.2), .ref (ff 2), .ref (ff 3), .ref (ff 4), .ref (ff 5), .ref (ff 6), .ref (ff 7)])), ((ff 0), .inl (cI, 48, .inl (su f v (nI E.2)))), (aX, .inr (10, [.ref (nx 0), .ref (nx 1), .ref (nx 2), .ref (nx 3), .ref (nx 4), .ref (nx 5), .ref (nx 6), .int (nI cn), .int x8, .int x9, .int x10])), ((nx 0), .inl (cI, 24, .inl (ow_nI S.1))), ((nx 1), .inl (cI, 24, .inl (ow_nI S.2))), ((nx 2), .inl (cI, 12, .inl G))] H := hP
              have hD : va_D A [(aF, .inr (7, [.ref (ff 0), .int (nI E.2), .ref (ff 2), .ref (ff 3), .ref (ff 4), .ref (ff 5), .ref (ff 6), .ref (ff 7)])), ((ff 0), .inl (cI, 48, .inl (su f v (nI E.2)))), (aX, .inr (10, [.ref (nx 0), .ref (nx 1), .ref (nx 2), .ref (nx 3), .ref (nx 4), .ref (nx 5), .ref (nx 6), .int (nI cn), .int x8, .int x9, .int x10])), ((nx 0), .inl (cI, 24, .inl (ow_nI S.1))), ((nx 1), .inl (cI, 24, .inl (ow_nI S.2))), ((nx 2), .inl (cI, 12, .inl G))] := hD
              refine lv_aload_n hx hb dgX4_mark_76 rfl (lv_at hl 1 rfl) ?_
              refine lv_iload hx hb dgX4_mark_77 (lv_at hl 4 rfl) ?_
              have hPc := hP.sub (ws' := [(aX, .inr (10, [.ref (nx 0), .ref (nx 1), .ref (nx 2), .ref (nx 3), .ref (nx 4), .ref (nx 5), .ref (nx 6), .int (nI cn), .int x8, .int x9, .int x10])), ((nx 0), .inl (cI, 24, .inl (ow_nI S.1))), ((nx 1), .inl (cI, 24, .inl (ow_nI S.2))), ((nx 2), .inl (cI, 12, .inl G))]) [2, 3, 4, 5] rfl
              refine va_calli (va_runS (As := [.ref aX, .int (nI v)]) (rest := []) ⟨hx, hb, hml, hown, hts⟩ (kg_X4_onward l dC dI cI cB cJ cZ aX nx (nI cn) x8 x9 x10 S hS0 G v hv9) (va_cwS 2 hts gg_X4_mark_1 rfl rfl rfl (by decide +kernel) ⟨(Nat.le_of_ble_eq_true rfl), (Nat.le_of_ble_eq_true rfl)⟩) ⟨fun a U g mk q => by obtain ⟨q0, qP, qK⟩ := q; exact ⟨q0, qP, va_K.moved (u := U) (U := U.calling g mk a) (Vm.Alike.refl U.vm) qK⟩, fun U hU hW => ⟨rfl, by rw [hU]; exact hPc, va_K.moved hW.alike hK⟩⟩ rfl rfl hl.1 rfl (lv_room (Nat.le_of_ble_eq_true rfl)) dgX4_mark_79 ⟨(Nat.le_of_ble_eq_true rfl), (Nat.le_of_ble_eq_true rfl)⟩) hS (fun q _ h => h.elim) (fun q h => h.elim) (fun r9 un t H1 locs ht hvm hw9 hB hz1 hk1 hS => ?_)
              have hP := hP.kept (fun k9 x9 h9 => hk1 x9.1 ((hP k9 x9 h9).lt) id)
              generalize H1 = H at hP hS ⊢
              obtain rfl : r9 = nI (fc_on S G v) := hw9
              have hD := hD
              refine lv_istore (lv' := [(4, .int (nI (fc_on S G v))), (0, .ref aF), (1, .ref aX), (2, .int (nI (4 * cn))), (3, .int (nI i)), (5, .int (nI j))]) hx hb dgX4_mark_82 hl (by decide) rfl (fun ls hl => ?_)
              refine lv_iinc (v := nI (j + 1)) (lv' := [(5, .int (nI (j + 1))), (4, .int (nI (fc_on S G v))), (0, .ref aF), (1, .ref aX), (2, .int (nI (4 * cn))), (3, .int (nI i))]) hx hb dgX4_mark_84 hl (k := 5) rfl (nI_1 j) (by decide) rfl (fun ls hl => ?_)
              refine lv_goto (tgt := 48) hx hb dgX4_mark_87 (by decide) ?_
              exact ih2 (j + 1) (fc_on S G v) _ (by omega) (fc_on_lt hS0 G hv9) (by rw [← hf]; exact (if_pos c2).symm) H locs ls hP hD hS (lv_sub hl [2, 3, 4, 5, 1, 0] rfl)
        refine lv_iload_n hx hb dgX4_mark_42 rfl (lv_at hl 3 rfl) ?_
        refine lv_istore (lv' := [(4, .int (nI i)), (0, .ref aF), (1, .ref aX), (2, .int (nI (4 * cn))), (3, .int (nI i))]) hx hb dgX4_mark_43 hl (by decide) rfl (fun ls hl => ?_)
        refine lv_iconst (v := 0) hx hb dgX4_mark_45 (by decide) ?_
        refine ow_topi (y := nI 0) (by decide) ?_
        refine lv_istore (lv' := [(5, .int (nI 0)), (4, .int (nI i)), (0, .ref aF), (1, .ref aX), (2, .int (nI (4 * cn))), (3, .int (nI i))]) hx hb dgX4_mark_46 hl (by decide) rfl (fun ls hl => ?_)
        exact L48 (4 * cn) 0 i E.1 (by omega) (by omega) hR H locs ls hP hD hS (lv_sub hl [2, 3, 4, 5, 1, 0] rfl)
      · refine lv_goto (tgt := 100) hx hb dgX4_mark_39 (by decide) ?_
        have hP : va_P (dC, dI) vwCl [(aF, .inr (7, [.ref (ff 0), .int (nI (mr_out (fc_on S G) (4 * cn) (np_fill F 0 (4 * cn) (-1)) (i + 1)).2), .ref (ff 2), .ref (ff 3), .ref (ff 4), .ref (ff 5), .ref (ff 6), .ref (ff 7)])), ((ff 0), .inl (cI, 48, .inl ((mr_out (fc_on S G) (4 * cn) (np_fill F 0 (4 * cn) (-1)) (i + 1)).1))), (aX, .inr (10, [.ref (nx 0), .ref (nx 1), .ref (nx 2), .ref (nx 3), .ref (nx 4), .ref (nx 5), .ref (nx 6), .int (nI cn), .int x8, .int x9, .int x10])), ((nx 0), .inl (cI, 24, .inl (ow_nI S.1))), ((nx 1), .inl (cI, 24, .inl (ow_nI S.2))), ((nx 2), .inl (cI, 12, .inl G))] H := by rw [show mr_out (fc_on S G) (4 * cn) (np_fill F 0 (4 * cn) (-1)) (i + 1) = (mr_out (fc_on S G) (4 * cn) (np_fill F 0 (4 * cn) (-1)) i) from if_neg c1]; exact hP
        have hD : va_D A [(aF, .inr (7, [.ref (ff 0), .int (nI (mr_out (fc_on S G) (4 * cn) (np_fill F 0 (4 * cn) (-1)) (i + 1)).2), .ref (ff 2), .ref (ff 3), .ref (ff 4), .ref (ff 5), .ref (ff 6), .ref (ff 7)])), ((ff 0), .inl (cI, 48, .inl ((mr_out (fc_on S G) (4 * cn) (np_fill F 0 (4 * cn) (-1)) (i + 1)).1))), (aX, .inr (10, [.ref (nx 0), .ref (nx 1), .ref (nx 2), .ref (nx 3), .ref (nx 4), .ref (nx 5), .ref (nx 6), .int (nI cn), .int x8, .int x9, .int x10])), ((nx 0), .inl (cI, 24, .inl (ow_nI S.1))), ((nx 1), .inl (cI, 24, .inl (ow_nI S.2))), ((nx 2), .inl (cI, 12, .inl G))] := by rw [show mr_out (fc_on S G) (4 * cn) (np_fill F 0 (4 * cn) (-1)) (i + 1) = (mr_out (fc_on S G) (4 * cn) (np_fill F 0 (4 * cn) (-1)) i) from if_neg c1]; exact hD
        refine lv_iinc (v := nI (i + 1)) (lv' := [(3, .int (nI (i + 1))), (0, .ref aF), (1, .ref aX), (2, .int (nI (4 * cn)))]) hx hb dgX4_mark_100 hl (k := 3) rfl (nI_1 i) (by decide) rfl (fun ls hl => ?_)
        refine lv_goto (tgt := 24) hx hb dgX4_mark_103 (by decide) ?_
        exact ih (i + 1) (by omega) H locs ls hP hD hS (lv_sub hl [1, 2, 3, 0] rfl)
  refine lv_iconst (v := 4) hx hb dgX4_mark_0 (by decide) ?_
  refine lv_aload_n hx hb dgX4_mark_1 rfl (lv_at hl 1 rfl) ?_
  refine va_get (D := (dC, dI)) (ci := 10) (v := .int (nI cn)) (C := RX7) (T := TX7) (N := 11) hx hb hts (fun _ h => List.mem_cons_of_mem _ (List.mem_append_left _ (List.mem_append_right _ h))) hown hK hP 2 rfl rfl 7 (by decide) (hts (.fieldLink RX4 45 "KnotHouse$Net" "crossings" "I") (by decide +kernel)) (fun _ h9 => h9) rfl dgX4_mark_2 ?_
  refine lv_imul hx hb dgX4_mark_5 ?_
  refine ow_topi (y := nI (4 * cn)) (pk_mul 4 cn) ?_
  refine lv_istore_n (lv' := [(2, .int (nI (4 * cn))), (0, .ref aF), (1, .ref aX)]) hx hb dgX4_mark_6 rfl hl (by decide) rfl (fun ls hl => ?_)
  refine lv_aload_n hx hb dgX4_mark_7 rfl (lv_at hl 1 rfl) ?_
  refine va_get (D := (dC, dI)) (ci := 7) (v := .ref (ff 0)) (C := RX4) (T := TX4) (N := 8) hx hb hts (fun _ h => List.mem_cons_of_mem _ (List.mem_append_left _ (List.mem_append_left _ (List.mem_append_right _ h)))) hown hK hP 0 rfl rfl 0 (by decide) (hts (.fieldLink RX4 9 "KnotHouse$Faces" "face" "[I") (by decide +kernel)) (fun _ h9 => h9) rfl dgX4_mark_8 ?_
  refine lv_iconst (v := 0) hx hb dgX4_mark_11 (by decide) ?_
  refine ow_topi (y := nI 0) (by decide) ?_
  refine lv_iload_n hx hb dgX4_mark_12 rfl (lv_at hl 0 rfl) ?_
  refine lv_iconst (v := (-1)) hx hb dgX4_mark_13 (by decide) ?_
  have hPc := hP.sub (ws' := [((ff 0), .inl (cI, 48, .inl F))]) [1] rfl
  have hDc := hD.sub (ws' := [((ff 0), .inl (cI, 48, .inl F))]) [1] (by decide) rfl
  have hFc := va_free (wc := [((ff 0), .inl (cI, 48, .inl F))]) hD hS hA [1] rfl
  refine va_callv (va_runS (As := [.ref (ff 0), .int (nI 0), .int (nI (4 * cn)), .int (-1)]) (rest := []) ⟨hx, hb, hml, hown, hts⟩ (kg_J7_fill_fda19 l dC dI cI cB cJ cZ (ff 0) 48 0 (4 * cn) (by decide) (by omega) (by omega) F (-1) H.size) (va_cwS 4 hts gg_X4_mark_0 rfl rfl rfl (by decide +kernel) ⟨(Nat.le_of_ble_eq_true rfl), (Nat.le_of_ble_eq_true rfl)⟩) ⟨fun a U g mk q => by obtain ⟨q0, q1, qP, qK, qD⟩ := q; exact ⟨q0, q1, qP, va_K.moved (u := U) (U := U.calling g mk a) (Vm.Alike.refl U.vm) qK, qD⟩, fun U hU hW => ⟨rfl, by rw [hU], by rw [hU]; exact hPc, va_K.moved hW.alike hK, hDc.weaken (fun _ _ _ _ => trivial)⟩⟩ rfl rfl hl.1 rfl (lv_room (Nat.le_of_ble_eq_true rfl)) dgX4_mark_14 ⟨(Nat.le_of_ble_eq_true rfl), (Nat.le_of_ble_eq_true rfl)⟩) hS (fun q _ h => hFc q h) hFc (fun u9 t H1 locs ht hvm hw9 hB hz1 hk1 hS => ?_)
  obtain ⟨hP1, hD1⟩ := hB
  rw [ht] at hP1
  obtain ⟨hP, hD⟩ := va_join (wr := [(aF, .inr (7, [.ref (ff 0), .int z, .ref (ff 2), .ref (ff 3), .ref (ff 4), .ref (ff 5), .ref (ff 6), .ref (ff 7)])), (aX, .inr (10, [.ref (nx 0), .ref (nx 1), .ref (nx 2), .ref (nx 3), .ref (nx 4), .ref (nx 5), .ref (nx 6), .int (nI cn), .int x8, .int x9, .int x10])), ((nx 0), .inl (cI, 24, .inl (ow_nI S.1))), ((nx 1), .inl (cI, 24, .inl (ow_nI S.2))), ((nx 2), .inl (cI, 12, .inl G))]) (w1 := [((ff 0), .inl (cI, 48, .inl (np_fill F 0 (4 * cn) (-1))))]) hP hD [1] [0, 2, 3, 4, 5] rfl rfl (by decide) (by decide) hk1 hFc hP1 hD1
  generalize H1 = H at hP hS ⊢
  have hP : va_P (dC, dI) vwCl [(aF, .inr (7, [.ref (ff 0), .int z, .ref (ff 2), .ref (ff 3), .ref (ff 4), .ref (ff 5), .ref (ff 6), .ref (ff 7)])), (aX, .inr (10, [.ref (nx 0), .ref (nx 1), .ref (nx 2), .ref (nx 3), .ref (nx 4), .ref (nx 5), .ref (nx 6), .int (nI cn), .int x8, .int x9, .int x10])), ((nx 0), .inl (cI, 24, .inl (ow_nI S.1))), ((nx 1), .inl (cI, 24, .inl (ow_nI S.2))), ((nx 2), .inl (cI, 12, .inl G)), ((ff 0), .inl (cI, 48, .inl (np_fill F 0 (4 * cn) (-1))))] H := hP
  have hD : va_D A [(aF, .inr (7, [.ref (ff 0), .int z, .ref (ff 2), .ref (ff 3), .ref (ff 4), .ref (ff 5), .ref (ff 6), .ref (ff 7)])), (aX, .inr (10, [.ref (nx 0), .ref (nx 1), .ref (nx 2), .ref (nx 3), .ref (nx 4), .ref (nx 5), .ref (nx 6), .int (nI cn), .int x8, .int x9, .int x10])), ((nx 0), .inl (cI, 24, .inl (ow_nI S.1))), ((nx 1), .inl (cI, 24, .inl (ow_nI S.2))), ((nx 2), .inl (cI, 12, .inl G)), ((ff 0), .inl (cI, 48, .inl (np_fill F 0 (4 * cn) (-1))))] := hD
  have hP := hP.sub (ws' := [(aF, .inr (7, [.ref (ff 0), .int z, .ref (ff 2), .ref (ff 3), .ref (ff 4), .ref (ff 5), .ref (ff 6), .ref (ff 7)])), ((ff 0), .inl (cI, 48, .inl (np_fill F 0 (4 * cn) (-1)))), (aX, .inr (10, [.ref (nx 0), .ref (nx 1), .ref (nx 2), .ref (nx 3), .ref (nx 4), .ref (nx 5), .ref (nx 6), .int (nI cn), .int x8, .int x9, .int x10])), ((nx 0), .inl (cI, 24, .inl (ow_nI S.1))), ((nx 1), .inl (cI, 24, .inl (ow_nI S.2))), ((nx 2), .inl (cI, 12, .inl G))]) [0, 5, 1, 2, 3, 4] rfl
  have hD := hD.sub (ws' := [(aF, .inr (7, [.ref (ff 0), .int z, .ref (ff 2), .ref (ff 3), .ref (ff 4), .ref (ff 5), .ref (ff 6), .ref (ff 7)])), ((ff 0), .inl (cI, 48, .inl (np_fill F 0 (4 * cn) (-1)))), (aX, .inr (10, [.ref (nx 0), .ref (nx 1), .ref (nx 2), .ref (nx 3), .ref (nx 4), .ref (nx 5), .ref (nx 6), .int (nI cn), .int x8, .int x9, .int x10])), ((nx 0), .inl (cI, 24, .inl (ow_nI S.1))), ((nx 1), .inl (cI, 24, .inl (ow_nI S.2))), ((nx 2), .inl (cI, 12, .inl G))]) [0, 5, 1, 2, 3, 4] (by decide) rfl
  refine lv_aload_n hx hb dgX4_mark_17 rfl (lv_at hl 1 rfl) ?_
  refine lv_iconst (v := 0) hx hb dgX4_mark_18 (by decide) ?_
  refine ow_topi (y := nI 0) (by decide) ?_
  refine va_put (D := (dC, dI)) (ci := 7) (v := .int (nI 0)) (ty := .int) (C := RX4) (T := TX4) (N := 8) hx hb hts (fun _ h => List.mem_cons_of_mem _ (List.mem_append_left _ (List.mem_append_left _ (List.mem_append_right _ h)))) tyX4 tyX4_ok nmX4 hown hK hP hD hS 0 rfl rfl 1 (by decide) (hts (.fieldLink RX4 55 "KnotHouse$Faces" "count" "I") (by decide +kernel)) (fun _ h9 => h9) rfl (by decide +kernel) rfl rfl (Nat.le_of_ble_eq_true rfl) dgX4_mark_19 (fun H locs hP hD hS => ?_)
  have hP : va_P (dC, dI) vwCl [(aF, .inr (7, [.ref (ff 0), .int (nI 0), .ref (ff 2), .ref (ff 3), .ref (ff 4), .ref (ff 5), .ref (ff 6), .ref (ff 7)])), ((ff 0), .inl (cI, 48, .inl (np_fill F 0 (4 * cn) (-1)))), (aX, .inr (10, [.ref (nx 0), .ref (nx 1), .ref (nx 2), .ref (nx 3), .ref (nx 4), .ref (nx 5), .ref (nx 6), .int (nI cn), .int x8, .int x9, .int x10])), ((nx 0), .inl (cI, 24, .inl (ow_nI S.1))), ((nx 1), .inl (cI, 24, .inl (ow_nI S.2))), ((nx 2), .inl (cI, 12, .inl G))] H := hP
  have hD : va_D A [(aF, .inr (7, [.ref (ff 0), .int (nI 0), .ref (ff 2), .ref (ff 3), .ref (ff 4), .ref (ff 5), .ref (ff 6), .ref (ff 7)])), ((ff 0), .inl (cI, 48, .inl (np_fill F 0 (4 * cn) (-1)))), (aX, .inr (10, [.ref (nx 0), .ref (nx 1), .ref (nx 2), .ref (nx 3), .ref (nx 4), .ref (nx 5), .ref (nx 6), .int (nI cn), .int x8, .int x9, .int x10])), ((nx 0), .inl (cI, 24, .inl (ow_nI S.1))), ((nx 1), .inl (cI, 24, .inl (ow_nI S.2))), ((nx 2), .inl (cI, 12, .inl G))] := hD
  refine lv_iconst (v := 0) hx hb dgX4_mark_22 (by decide) ?_
  refine ow_topi (y := nI 0) (by decide) ?_
  refine lv_istore_n (lv' := [(3, .int (nI 0)), (2, .int (nI (4 * cn))), (0, .ref aF), (1, .ref aX)]) hx hb dgX4_mark_23 rfl hl (by decide) rfl (fun ls hl => ?_)
  exact L24 (4 * cn) 0 (by omega) H locs ls hP hD hS (lv_sub hl [2, 3, 1, 0] rfl)
