theorem dJ7_fill_53178_0 : decode cJ7_fill_53178 0 = .ok (.iconst 0, 1) := by decide +kernel
theorem dJ7_fill_53178_1 : decode cJ7_fill_53178 1 = .ok (.istore_n 2, 1) := by decide +kernel
theorem dJ7_fill_53178_2 : decode cJ7_fill_53178 2 = .ok (.aload_n 0, 1) := by decide +kernel
theorem dJ7_fill_53178_3 : decode cJ7_fill_53178 3 = .ok (.arraylength, 1) := by decide +kernel
theorem dJ7_fill_53178_4 : decode cJ7_fill_53178 4 = .ok (.istore_n 3, 1) := by decide +kernel
theorem dJ7_fill_53178_5 : decode cJ7_fill_53178 5 = .ok (.iload_n 2, 1) := by decide +kernel
theorem dJ7_fill_53178_6 : decode cJ7_fill_53178 6 = .ok (.iload_n 3, 1) := by decide +kernel
theorem dJ7_fill_53178_7 : decode cJ7_fill_53178 7 = .ok (.if_icmp .ge 13, 3) := by decide +kernel
theorem dJ7_fill_53178_10 : decode cJ7_fill_53178 10 = .ok (.aload_n 0, 1) := by decide +kernel
theorem dJ7_fill_53178_11 : decode cJ7_fill_53178 11 = .ok (.iload_n 2, 1) := by decide +kernel
theorem dJ7_fill_53178_12 : decode cJ7_fill_53178 12 = .ok (.iload_n 1, 1) := by decide +kernel
theorem dJ7_fill_53178_13 : decode cJ7_fill_53178 13 = .ok (.iastore, 1) := by decide +kernel
theorem dJ7_fill_53178_14 : decode cJ7_fill_53178 14 = .ok (.iinc 2 1, 3) := by decide +kernel
theorem dJ7_fill_53178_17 : decode cJ7_fill_53178 17 = .ok (.goto (-12), 3) := by decide +kernel
theorem dJ7_fill_53178_20 : decode cJ7_fill_53178 20 = .ok (.return_, 1) := by decide +kernel
def wf_fill1 : List Cond := [.code yJ7_fill_53178 cJ7_fill_53178 4 none]
set_option maxHeartbeats 4000000 in
set_option maxRecDepth 100000 in
theorem kf_J7_fill_53178 (l : Launch) (dC : Nat → ClassId) (dI : Nat → Nat → Nat) (cI cB cJ cZ : ClassId) (a sz N : Nat) (hN : N < 2 ^ 31) (f : Nat → Int32) (x : Int32) : Met l yJ7_fill_53178 wf_fill1 (({ frames := 0, cells := 0, slots := 0, locals := 0 } : Room)) (va_Pc [.ref a, .int x] (fun U => U.heap.size = sz ∧ va_P (dC, dI) vwCl [(a, .inl (cI, N, .inl f))] U.heap ∧ va_K (dC, dI) vwCl [(cI, .int), (cB, .byte), (cJ, .long), (cZ, .boolean)] U ∧ va_D (fun _ => True) [(a, .inl (cI, N, .inl f))])) (va_Qv (fun _ : Nat → Int32 => True) (fun g t => va_P (dC, dI) vwCl [(a, .inl (cI, N, .inl g))] t.heap ∧ va_D (va_A [(a, .inl (cI, N, .inl f))] sz) [(a, .inl (cI, N, .inl g))]) (va_A [(a, .inl (cI, N, .inl f))] sz)) 0 0 (va_A [(a, .inl (cI, N, .inl f))] sz) := by
  refine Met.ofW (cc := cJ7_fill_53178) (maxL := 4) (ret := none) (by decide) rfl ?_
  intro p e s m args below meth c s₁ B hml hv
  obtain ⟨rfl, hsz, hP, hK, hD0⟩ := hv
  have hx := B.exec
  have hb := B.bytes
  have hr := B.returns
  have hts := atoms_spec (ws := wf_fill1) B.pre
  have hown : s.vm.findClass RJ7 = some m.cls := findClass_of_methodNamed B.named
  have hlocks := B.notSynchronized
  subst hsz
  have hD := hD0.self (sz := s.heap.size)
  generalize hAe : va_A [(a, .inl (cI, N, .inl f))] s.heap.size = A at hD ⊢
  have hA : ∀ q : Nat, s.heap.size ≤ q → A q := fun q h => by rw [← hAe]; exact Or.inr h
  have hS : va_S A s.heap s.heap [] := va_S.rf
  have hP : va_P (dC, dI) vwCl [(a, .inl (cI, N, .inl f))] s.heap := hP
  have hl := lv_entry ([.ref a, .int x]) (n := 4) (Nat.le_of_ble_eq_true rfl)
  rw [lg_entry_eq]
  generalize (lg_sl ([.ref a, .int x]) ++ List.replicate (4 - (lg_sl ([.ref a, .int x])).length) Slot.unset).toArray = ls at hl ⊢
  have hl : lv_has ls 4 [(0, .ref a), (1, .int x)] := hl
  refine ow_named (fun QQ hQQ => ?_)
  have L5 : ∀ (n j : Nat), j + n = N → ∀ (H : Heap) (locs : List Loc) (ls : Array Slot) (f : Nat → Int32), va_P (dC, dI) vwCl [(a, .inl (cI, N, .inl f))] H → va_D A [(a, .inl (cI, N, .inl f))] → va_S A s.heap H locs → lv_has ls 4 [(0, .ref a), (1, .int x), (2, .int (nI j)), (3, .int (nI N))] → W p l e ({ frames := 0, cells := 0, slots := 0, locals := 0 } : Room) s m ([.ref a, .int x] : List Value).toArray below meth c H locs 0 0 QQ (F0 m 5 ls []) := by
    intro n
    induction n with
    | zero =>
      intro j hj H locs ls f hP hD hS hl 
      refine lv_iload_n hx hb dJ7_fill_53178_5 rfl (lv_at hl 2 rfl) ?_
      refine lv_iload_n hx hb dJ7_fill_53178_6 rfl (lv_at hl 3 rfl) ?_
      refine lv_icmp_ge (tgt := 20) hx hb dJ7_fill_53178_7 (by decide) (fun _ => ?_) (fun c9 => absurd (nI_le (a := N) (b := j) (by omega) (by omega)) c9)
      rw [hQQ]
      exact W.vret hx hb hr (fun t ht hW => ⟨⟨_, rfl, trivial, by rw [ht]; exact hP, hD⟩, hS.F ht⟩) hS.2.2 dJ7_fill_53178_20
    | succ n ih_L5 =>
      intro j hj H locs ls f hP hD hS hl 
      refine lv_iload_n hx hb dJ7_fill_53178_5 rfl (lv_at hl 2 rfl) ?_
      refine lv_iload_n hx hb dJ7_fill_53178_6 rfl (lv_at hl 3 rfl) ?_
      refine lv_icmp_ge (tgt := 20) hx hb dJ7_fill_53178_7 (by decide) (fun c9 => absurd c9 (nI_ge (a := j) (b := N) (by omega) (by omega))) (fun _ => ?_)
      refine lv_aload_n hx hb dJ7_fill_53178_10 rfl (lv_at hl 0 rfl) ?_
      refine lv_iload_n hx hb dJ7_fill_53178_11 rfl (lv_at hl 2 rfl) ?_
      refine lv_iload_n hx hb dJ7_fill_53178_12 rfl (lv_at hl 1 rfl) ?_
      refine ow_iast hx hb hK hP hD hS 0 0 rfl rfl (vp_in_nI (n := j) (N := N) (by omega) hN) dJ7_fill_53178_13 (fun f1 H locs hP hD hS => ?_)
      have hP : va_P (dC, dI) vwCl [(a, .inl (cI, N, .inl f1))] H := hP
      have hD : va_D A [(a, .inl (cI, N, .inl f1))] := hD
      refine lv_iinc (v := nI (j + 1)) (lv' := [(2, .int (nI (j + 1))), (0, .ref a), (1, .int x), (3, .int (nI N))]) hx hb dJ7_fill_53178_14 hl (k := 2) rfl (nI_1 j) (by decide) rfl (fun ls hl => ?_)
      refine lv_goto (tgt := 5) hx hb dJ7_fill_53178_17 (by decide) ?_
      exact ih_L5 (j + 1) (by omega) H locs ls _ hP hD hS (lv_sub hl [1, 2, 0, 3] rfl)
  refine lv_iconst (v := 0) hx hb dJ7_fill_53178_0 (by decide) ?_
  refine lv_istore_n (lv' := [(2, .int 0), (0, .ref a), (1, .int x)]) hx hb dJ7_fill_53178_1 rfl hl (by decide) rfl (fun ls hl => ?_)
  refine lv_aload_n hx hb dJ7_fill_53178_2 rfl (lv_at hl 1 rfl) ?_
  refine va_alen (v := (nI N)) hx hb hK hP 0 0 rfl rfl rfl dJ7_fill_53178_3 ?_
  refine lv_istore_n (lv' := [(3, .int (nI N)), (2, .int 0), (0, .ref a), (1, .int x)]) hx hb dJ7_fill_53178_4 rfl hl (by decide) rfl (fun ls hl => ?_)
  exact L5 N 0 (by omega) s.heap [] ls f hP hD hS (lv_sub hl [2, 3, 1, 0] rfl)
theorem dJ7_rangeCheck_23922_0 : decode cJ7_rangeCheck_23922 0 = .ok (.iload_n 1, 1) := by decide +kernel
theorem dJ7_rangeCheck_23922_1 : decode cJ7_rangeCheck_23922 1 = .ok (.iload_n 2, 1) := by decide +kernel
theorem dJ7_rangeCheck_23922_2 : decode cJ7_rangeCheck_23922 2 = .ok (.if_icmp .le 44, 3) := by decide +kernel
theorem dJ7_rangeCheck_23922_46 : decode cJ7_rangeCheck_23922 46 = .ok (.iload_n 1, 1) := by decide +kernel
theorem dJ7_rangeCheck_23922_47 : decode cJ7_rangeCheck_23922 47 = .ok (.ifCond .ge 12, 3) := by decide +kernel
theorem dJ7_rangeCheck_23922_59 : decode cJ7_rangeCheck_23922 59 = .ok (.iload_n 2, 1) := by decide +kernel
theorem dJ7_rangeCheck_23922_60 : decode cJ7_rangeCheck_23922 60 = .ok (.iload_n 0, 1) := by decide +kernel
theorem dJ7_rangeCheck_23922_61 : decode cJ7_rangeCheck_23922 61 = .ok (.if_icmp .le 12, 3) := by decide +kernel
theorem dJ7_rangeCheck_23922_73 : decode cJ7_rangeCheck_23922 73 = .ok (.return_, 1) := by decide +kernel
def wf_rangeCheck : List Cond := [.code yJ7_rangeCheck_23922 cJ7_rangeCheck_23922 3 none]
set_option maxHeartbeats 4000000 in
set_option maxRecDepth 100000 in
theorem kf_J7_rangeCheck_23922 (l : Launch) (N : Nat) (hN : N < 2 ^ 31) : Met l yJ7_rangeCheck_23922 wf_rangeCheck (({ frames := 0, cells := 0, slots := 0, locals := 0 } : Room)) (va_Pc [.int (nI N), .int 0, .int 0] (fun _ => True)) (va_Qv (fun _ : Unit => True) (fun _ _ => True) (fun _ => False)) 0 0 (fun _ => False) := by
  refine Met.ofW (cc := cJ7_rangeCheck_23922) (maxL := 3) (ret := none) (by decide) rfl ?_
  intro p e s m args below meth c s₁ B hml hv
  obtain ⟨rfl, hpre⟩ := hv
  have hx := B.exec
  have hb := B.bytes
  have hr := B.returns
  have hts := atoms_spec (ws := wf_rangeCheck) B.pre
  have hown : s.vm.findClass RJ7 = some m.cls := findClass_of_methodNamed B.named
  have hlocks := B.notSynchronized
  have hS : va_S (fun _ => False) s.heap s.heap [] := va_S.rf
  have hl := lv_entry ([.int (nI N), .int 0, .int 0]) (n := 3) (Nat.le_of_ble_eq_true rfl)
  rw [lg_entry_eq]
  generalize (lg_sl ([.int (nI N), .int 0, .int 0]) ++ List.replicate (3 - (lg_sl ([.int (nI N), .int 0, .int 0])).length) Slot.unset).toArray = ls at hl ⊢
  have hl : lv_has ls 3 [(0, .int (nI N)), (1, .int 0), (2, .int 0)] := hl
  refine ow_named (fun QQ hQQ => ?_)
  refine lv_iload_n hx hb dJ7_rangeCheck_23922_0 rfl (lv_at hl 1 rfl) ?_
  refine lv_iload_n hx hb dJ7_rangeCheck_23922_1 rfl (lv_at hl 2 rfl) ?_
  refine lv_icmp_le (tgt := 46) hx hb dJ7_rangeCheck_23922_2 (by decide) (fun _ => ?_) (fun c9 => absurd (by decide) c9)
  refine lv_iload_n hx hb dJ7_rangeCheck_23922_46 rfl (lv_at hl 1 rfl) ?_
  refine lv_if_ge (tgt := 59) hx hb dJ7_rangeCheck_23922_47 (by decide) (fun _ => ?_) (fun c9 => absurd (by decide) c9)
  refine lv_iload_n hx hb dJ7_rangeCheck_23922_59 rfl (lv_at hl 2 rfl) ?_
  refine lv_iload_n hx hb dJ7_rangeCheck_23922_60 rfl (lv_at hl 0 rfl) ?_
  refine lv_icmp_le (tgt := 73) hx hb dJ7_rangeCheck_23922_61 (by decide) (fun _ => ?_) (fun c9 => absurd (nI_le (a := 0) (b := N) (by omega) hN) c9)
  rw [hQQ]
  exact W.vret hx hb hr (fun t ht hW => ⟨⟨(), rfl, trivial, trivial⟩, hS.F ht⟩) hS.2.2 dJ7_rangeCheck_23922_73
theorem dJ7_fill_fda19_0 : decode cJ7_fill_fda19 0 = .ok (.aload_n 0, 1) := by decide +kernel
theorem dJ7_fill_fda19_1 : decode cJ7_fill_fda19 1 = .ok (.arraylength, 1) := by decide +kernel
theorem dJ7_fill_fda19_2 : decode cJ7_fill_fda19 2 = .ok (.iload_n 1, 1) := by decide +kernel
theorem dJ7_fill_fda19_3 : decode cJ7_fill_fda19 3 = .ok (.iload_n 2, 1) := by decide +kernel
theorem dJ7_fill_fda19_4 : decode cJ7_fill_fda19 4 = .ok (.invokestatic 13, 3) := by decide +kernel
theorem dJ7_fill_fda19_7 : decode cJ7_fill_fda19 7 = .ok (.iload_n 1, 1) := by decide +kernel
theorem dJ7_fill_fda19_8 : decode cJ7_fill_fda19 8 = .ok (.istore 4, 2) := by decide +kernel
theorem dJ7_fill_fda19_10 : decode cJ7_fill_fda19 10 = .ok (.iload 4, 2) := by decide +kernel
theorem dJ7_fill_fda19_12 : decode cJ7_fill_fda19 12 = .ok (.iload_n 2, 1) := by decide +kernel
theorem dJ7_fill_fda19_13 : decode cJ7_fill_fda19 13 = .ok (.if_icmp .ge 14, 3) := by decide +kernel
theorem dJ7_fill_fda19_27 : decode cJ7_fill_fda19 27 = .ok (.return_, 1) := by decide +kernel
def wf_fill0 : List Cond := .code yJ7_fill_fda19 cJ7_fill_fda19 5 none :: va_wsS RJ7 13 yJ7_rangeCheck_23922 wf_rangeCheck
theorem gf_J7_fill_fda19 : GoodIn wf_fill0 (va_wsS RJ7 13 yJ7_rangeCheck_23922 wf_rangeCheck) := goodIn_sub (fun _ h => List.mem_cons_of_mem _ h) (by decide +kernel)
set_option maxHeartbeats 4000000 in
set_option maxRecDepth 100000 in
theorem kf_J7_fill_fda19 (l : Launch) (dC : Nat → ClassId) (dI : Nat → Nat → Nat) (cI cB cJ cZ : ClassId) (a N : Nat) (hN : N < 2 ^ 31) (f : Nat → Int32) (x : Int32) : Met l yJ7_fill_fda19 wf_fill0 (({ frames := 1, cells := 0, slots := 0, locals := 22 } : Room)) (va_Pc [.ref a, .int 0, .int 0, .int x] (fun U => va_P (dC, dI) vwCl [(a, .inl (cI, N, .inl f))] U.heap ∧ va_K (dC, dI) vwCl [(cI, .int), (cB, .byte), (cJ, .long), (cZ, .boolean)] U)) (va_Qv (fun _ : Unit => True) (fun _ _ => True) (fun _ => False)) 0 0 (fun _ => False) := by
  refine Met.ofW (cc := cJ7_fill_fda19) (maxL := 5) (ret := none) (by decide) rfl ?_
  intro p e s m args below meth c s₁ B hml hv
  obtain ⟨rfl, hP, hK⟩ := hv
  have hx := B.exec
  have hb := B.bytes
  have hr := B.returns
  have hts := atoms_spec (ws := wf_fill0) B.pre
  have hown : s.vm.findClass RJ7 = some m.cls := findClass_of_methodNamed B.named
  have hlocks := B.notSynchronized
  have hS : va_S (fun _ => False) s.heap s.heap [] := va_S.rf
  have hl := lv_entry ([.ref a, .int 0, .int 0, .int x]) (n := 5) (Nat.le_of_ble_eq_true rfl)
  rw [lg_entry_eq]
  generalize (lg_sl ([.ref a, .int 0, .int 0, .int x]) ++ List.replicate (5 - (lg_sl ([.ref a, .int 0, .int 0, .int x])).length) Slot.unset).toArray = ls at hl ⊢
  have hl : lv_has ls 5 [(0, .ref a), (1, .int 0), (2, .int 0), (3, .int x)] := hl
  refine ow_named (fun QQ hQQ => ?_)
  refine lv_aload_n hx hb dJ7_fill_fda19_0 rfl (lv_at hl 0 rfl) ?_
  refine va_alen (v := (nI N)) hx hb hK hP 0 0 rfl rfl rfl dJ7_fill_fda19_1 ?_
  refine lv_iload_n hx hb dJ7_fill_fda19_2 rfl (lv_at hl 1 rfl) ?_
  refine lv_iload_n hx hb dJ7_fill_fda19_3 rfl (lv_at hl 2 rfl) ?_
  refine va_callv (va_runS (As := [.int (nI N), .int 0, .int 0]) (rest := []) ⟨hx, hb, hml, hown, hts⟩ (kf_J7_rangeCheck_23922 l N hN) (va_cwS 3 hts gf_J7_fill_fda19 rfl rfl rfl (by decide +kernel) ⟨(Nat.le_of_ble_eq_true rfl), (Nat.le_of_ble_eq_true rfl)⟩) ⟨fun a U g mk q => q, fun U hU hW => ⟨rfl, trivial⟩⟩ rfl rfl hl.1 rfl (lv_room (Nat.le_of_ble_eq_true rfl)) dJ7_fill_fda19_4 ⟨(Nat.le_of_ble_eq_true rfl), (Nat.le_of_ble_eq_true rfl)⟩) hS (fun q _ h => h.elim) (fun q h => h.elim) (fun u9 t H1 locs ht hvm hw hB hz1 hk1 hS => ?_)
  refine lv_iload_n hx hb dJ7_fill_fda19_7 rfl (lv_at hl 1 rfl) ?_
  refine lv_istore (lv' := [(4, .int 0), (0, .ref a), (1, .int 0), (2, .int 0), (3, .int x)]) hx hb dJ7_fill_fda19_8 hl (by decide) rfl (fun ls hl => ?_)
  refine lv_iload hx hb dJ7_fill_fda19_10 (lv_at hl 0 rfl) ?_
  refine lv_iload_n hx hb dJ7_fill_fda19_12 rfl (lv_at hl 3 rfl) ?_
  refine lv_icmp_ge (tgt := 27) hx hb dJ7_fill_fda19_13 (by decide) (fun _ => ?_) (fun c9 => absurd (by decide) c9)
  rw [hQQ]
  exact W.vret hx hb hr (fun t ht hW => ⟨⟨(), rfl, trivial, trivial⟩, hS.F ht⟩) hS.2.2 dJ7_fill_fda19_27
theorem dX11_freeDiagram_0 : decode cX11_freeDiagram 0 = .ok (.iconst 0, 1) := by decide +kernel
theorem dX11_freeDiagram_1 : decode cX11_freeDiagram 1 = .ok (.istore_n 1, 1) := by decide +kernel
theorem dX11_freeDiagram_2 : decode cX11_freeDiagram 2 = .ok (.iload_n 1, 1) := by decide +kernel
theorem dX11_freeDiagram_3 : decode cX11_freeDiagram 3 = .ok (.bipush 40, 2) := by decide +kernel
theorem dX11_freeDiagram_5 : decode cX11_freeDiagram 5 = .ok (.if_icmp .ge 23, 3) := by decide +kernel
theorem dX11_freeDiagram_8 : decode cX11_freeDiagram 8 = .ok (.aload_n 0, 1) := by decide +kernel
theorem dX11_freeDiagram_9 : decode cX11_freeDiagram 9 = .ok (.getfield 14, 3) := by decide +kernel
theorem dX11_freeDiagram_12 : decode cX11_freeDiagram 12 = .ok (.getfield 158, 3) := by decide +kernel
theorem dX11_freeDiagram_15 : decode cX11_freeDiagram 15 = .ok (.iload_n 1, 1) := by decide +kernel
theorem dX11_freeDiagram_16 : decode cX11_freeDiagram 16 = .ok (.baload, 1) := by decide +kernel
theorem dX11_freeDiagram_17 : decode cX11_freeDiagram 17 = .ok (.ifCond .ne 5, 3) := by decide +kernel
theorem dX11_freeDiagram_20 : decode cX11_freeDiagram 20 = .ok (.iload_n 1, 1) := by decide +kernel
theorem dX11_freeDiagram_21 : decode cX11_freeDiagram 21 = .ok (.ireturn, 1) := by decide +kernel
theorem dX11_freeDiagram_22 : decode cX11_freeDiagram 22 = .ok (.iinc 1 1, 3) := by decide +kernel
theorem dX11_freeDiagram_25 : decode cX11_freeDiagram 25 = .ok (.goto (-23), 3) := by decide +kernel
def wf_freeDiagram : List Cond := .code yX11_freeDiagram cX11_freeDiagram 2 (some .int) :: ([.fieldLink RX11 14 "KnotHouse" "diagrams" "LKnotHouse$Codes;", .fieldLink RX11 158 "KnotHouse$Codes" "lengths" "[B"] ++ wsX110 ++ wsX30)
set_option maxHeartbeats 4000000 in
set_option maxRecDepth 100000 in
theorem kf_X11_freeDiagram (l : Launch) (dC : Nat → ClassId) (dI : Nat → Nat → Nat) (cI cB cJ cZ : ClassId) (h0 : Nat) (u : Nat → Nat) : Met l yX11_freeDiagram wf_freeDiagram (({ frames := 0, cells := 0, slots := 0, locals := 0 } : Room)) (va_Pc [.ref h0] (fun U => va_P (dC, dI) vwCl [(h0, .inr (14, [.ref (u 0), .ref (u 1), .ref (u 2), .ref (u 3), .ref (u 4), .ref (u 5), .ref (u 6), .ref (u 7), .ref (u 8), .ref (u 9), .ref (u 10), .ref (u 11), .ref (u 12), .ref (u 13), .ref (u 14), .ref (u 15), .ref (u 16), .ref (u 17), .ref (u 18)])), ((u 0), .inr (6, [.ref (u 19), .ref (u 20), .ref (u 21), .ref (u 22), .int 0])), ((u 20), .inl (cB, 40, .inl (fun _ => 0)))] U.heap ∧ va_K (dC, dI) vwCl [(cI, .int), (cB, .byte), (cJ, .long), (cZ, .boolean)] U)) (va_Qi (fun r (_ : Unit) => r = 0) (fun _ _ => True) (fun _ => False)) 0 0 (fun _ => False) := by
  refine Met.ofW (cc := cX11_freeDiagram) (maxL := 2) (ret := (some .int)) (by decide) rfl ?_
  intro p e s m args below meth c s₁ B hml hv
  obtain ⟨rfl, hP, hK⟩ := hv
  have hx := B.exec
  have hb := B.bytes
  have hr := B.returns
  have hts := atoms_spec (ws := wf_freeDiagram) B.pre
  have hown : s.vm.findClass RX11 = some m.cls := findClass_of_methodNamed B.named
  have hlocks := B.notSynchronized
  have hS : va_S (fun _ => False) s.heap s.heap [] := va_S.rf
  have hP : va_P (dC, dI) vwCl [(h0, .inr (14, [.ref (u 0), .ref (u 1), .ref (u 2), .ref (u 3), .ref (u 4), .ref (u 5), .ref (u 6), .ref (u 7), .ref (u 8), .ref (u 9), .ref (u 10), .ref (u 11), .ref (u 12), .ref (u 13), .ref (u 14), .ref (u 15), .ref (u 16), .ref (u 17), .ref (u 18)])), ((u 0), .inr (6, [.ref (u 19), .ref (u 20), .ref (u 21), .ref (u 22), .int 0])), ((u 20), .inl (cB, 40, .inl (fun _ => 0)))] s.heap := hP
  have hl := lv_entry ([.ref h0]) (n := 2) (Nat.le_of_ble_eq_true rfl)
  rw [lg_entry_eq]
  generalize (lg_sl ([.ref h0]) ++ List.replicate (2 - (lg_sl ([.ref h0])).length) Slot.unset).toArray = ls at hl ⊢
  have hl : lv_has ls 2 [(0, .ref h0)] := hl
  refine ow_named (fun QQ hQQ => ?_)
  refine lv_iconst (v := 0) hx hb dX11_freeDiagram_0 (by decide) ?_
  refine lv_istore_n (lv' := [(1, .int 0), (0, .ref h0)]) hx hb dX11_freeDiagram_1 rfl hl (by decide) rfl (fun ls hl => ?_)
  refine lv_iload_n hx hb dX11_freeDiagram_2 rfl (lv_at hl 0 rfl) ?_
  refine lv_bipush (v := 40) hx hb dX11_freeDiagram_3 (by decide) ?_
  refine lv_icmp_ge (tgt := 28) hx hb dX11_freeDiagram_5 (by decide) (fun c9 => absurd c9 (by decide)) (fun _ => ?_)
  refine lv_aload_n hx hb dX11_freeDiagram_8 rfl (lv_at hl 1 rfl) ?_
  refine va_get (D := (dC, dI)) (ci := 14) (v := .ref (u 0)) (C := RX11) (T := TX11) (N := 19) hx hb hts (by decide +kernel) hown hK hP 0 rfl rfl 0 (by decide) (hts (.fieldLink RX11 14 "KnotHouse" "diagrams" "LKnotHouse$Codes;") (by decide +kernel)) (fun _ h9 => h9) rfl dX11_freeDiagram_9 ?_
  refine va_get (D := (dC, dI)) (ci := 6) (v := .ref (u 20)) (C := RX3) (T := TX3) (N := 5) hx hb hts (by decide +kernel) hown hK hP 1 rfl rfl 1 (by decide) (hts (.fieldLink RX11 158 "KnotHouse$Codes" "lengths" "[B") (by decide +kernel)) (fun _ h9 => h9) rfl dX11_freeDiagram_12 ?_
  refine lv_iload_n hx hb dX11_freeDiagram_15 rfl (lv_at hl 0 rfl) ?_
  refine va_bald hx hb hK hP 2 1 rfl rfl (vp_in_nI (n := 0) (N := 40) (by decide) (by decide)) dX11_freeDiagram_16 ?_
  refine ow_topi (y := 0) (rfl) ?_
  refine lv_if_ne (tgt := 22) hx hb dX11_freeDiagram_17 (by decide) (fun c9 => absurd c9 (by decide)) (fun _ => ?_)
  refine lv_iload_n hx hb dX11_freeDiagram_20 rfl (lv_at hl 0 rfl) ?_
  rw [hQQ]
  exact W.iret (v := 0) hx hb hr (fun t ht hW => ⟨⟨0, (), rfl, rfl, trivial⟩, hS.F ht⟩) hS.2.2 dX11_freeDiagram_21
theorem dX9_firstLonely_0 : decode cX9_firstLonely 0 = .ok (.iconst (-1), 1) := by decide +kernel
theorem dX9_firstLonely_1 : decode cX9_firstLonely 1 = .ok (.istore_n 2, 1) := by decide +kernel
theorem dX9_firstLonely_2 : decode cX9_firstLonely 2 = .ok (.iconst 0, 1) := by decide +kernel
theorem dX9_firstLonely_3 : decode cX9_firstLonely 3 = .ok (.istore_n 3, 1) := by decide +kernel
theorem dX9_firstLonely_4 : decode cX9_firstLonely 4 = .ok (.iload_n 3, 1) := by decide +kernel
theorem dX9_firstLonely_5 : decode cX9_firstLonely 5 = .ok (.iconst 2, 1) := by decide +kernel
theorem dX9_firstLonely_6 : decode cX9_firstLonely 6 = .ok (.aload_n 1, 1) := by decide +kernel
theorem dX9_firstLonely_7 : decode cX9_firstLonely 7 = .ok (.getfield 66, 3) := by decide +kernel
theorem dX9_firstLonely_10 : decode cX9_firstLonely 10 = .ok (.imul, 1) := by decide +kernel
theorem dX9_firstLonely_11 : decode cX9_firstLonely 11 = .ok (.if_icmp .ge 53, 3) := by decide +kernel
theorem dX9_firstLonely_64 : decode cX9_firstLonely 64 = .ok (.iload_n 2, 1) := by decide +kernel
theorem dX9_firstLonely_65 : decode cX9_firstLonely 65 = .ok (.ireturn, 1) := by decide +kernel
def wf_firstLonely : List Cond := .code yX9_firstLonely cX9_firstLonely 4 (some .int) :: ([.fieldLink RX9 66 "KnotHouse$Net" "crossings" "I"] ++ wsX70)
set_option maxHeartbeats 4000000 in
set_option maxRecDepth 100000 in
theorem kf_X9_firstLonely (l : Launch) (dC : Nat → ClassId) (dI : Nat → Nat → Nat) (cI cB cJ cZ : ClassId) (u : Nat → Nat) : Met l yX9_firstLonely wf_firstLonely (({ frames := 0, cells := 0, slots := 0, locals := 0 } : Room)) (va_Pc [.ref (u 7), .ref (u 3)] (fun U => va_P (dC, dI) vwCl [((u 3), .inr (10, [.ref (u 31), .ref (u 32), .ref (u 33), .ref (u 34), .ref (u 35), .ref (u 36), .ref (u 37), .int 0, .int 1, .int 0, .int 0]))] U.heap ∧ va_K (dC, dI) vwCl [(cI, .int), (cB, .byte), (cJ, .long), (cZ, .boolean)] U)) (va_Qi (fun r (_ : Unit) => r = -1) (fun _ _ => True) (fun _ => False)) 0 0 (fun _ => False) := by
  refine Met.ofW (cc := cX9_firstLonely) (maxL := 4) (ret := (some .int)) (by decide) rfl ?_
  intro p e s m args below meth c s₁ B hml hv
  obtain ⟨rfl, hP, hK⟩ := hv
  have hx := B.exec
  have hb := B.bytes
  have hr := B.returns
  have hts := atoms_spec (ws := wf_firstLonely) B.pre
  have hown : s.vm.findClass RX9 = some m.cls := findClass_of_methodNamed B.named
  have hlocks := B.notSynchronized
  have hS : va_S (fun _ => False) s.heap s.heap [] := va_S.rf
  have hP : va_P (dC, dI) vwCl [((u 3), .inr (10, [.ref (u 31), .ref (u 32), .ref (u 33), .ref (u 34), .ref (u 35), .ref (u 36), .ref (u 37), .int 0, .int 1, .int 0, .int 0]))] s.heap := hP
  have hl := lv_entry ([.ref (u 7), .ref (u 3)]) (n := 4) (Nat.le_of_ble_eq_true rfl)
  rw [lg_entry_eq]
  generalize (lg_sl ([.ref (u 7), .ref (u 3)]) ++ List.replicate (4 - (lg_sl ([.ref (u 7), .ref (u 3)])).length) Slot.unset).toArray = ls at hl ⊢
  have hl : lv_has ls 4 [(0, .ref (u 7)), (1, .ref (u 3))] := hl
  refine ow_named (fun QQ hQQ => ?_)
  refine lv_iconst (v := (-1)) hx hb dX9_firstLonely_0 (by decide) ?_
  refine lv_istore_n (lv' := [(2, .int (-1)), (0, .ref (u 7)), (1, .ref (u 3))]) hx hb dX9_firstLonely_1 rfl hl (by decide) rfl (fun ls hl => ?_)
  refine lv_iconst (v := 0) hx hb dX9_firstLonely_2 (by decide) ?_
  refine lv_istore_n (lv' := [(3, .int 0), (2, .int (-1)), (0, .ref (u 7)), (1, .ref (u 3))]) hx hb dX9_firstLonely_3 rfl hl (by decide) rfl (fun ls hl => ?_)
  refine lv_iload_n hx hb dX9_firstLonely_4 rfl (lv_at hl 0 rfl) ?_
  refine lv_iconst (v := 2) hx hb dX9_firstLonely_5 (by decide) ?_
  refine lv_aload_n hx hb dX9_firstLonely_6 rfl (lv_at hl 3 rfl) ?_
  refine va_get (D := (dC, dI)) (ci := 10) (v := .int 0) (C := RX7) (T := TX7) (N := 11) hx hb hts (by decide +kernel) hown hK hP 0 rfl rfl 7 (by decide) (hts (.fieldLink RX9 66 "KnotHouse$Net" "crossings" "I") (by decide +kernel)) (fun _ h9 => h9) rfl dX9_firstLonely_7 ?_
  refine lv_imul hx hb dX9_firstLonely_10 ?_
  refine ow_topi (y := 0) (by decide) ?_
  refine lv_icmp_ge (tgt := 64) hx hb dX9_firstLonely_11 (by decide) (fun _ => ?_) (fun c9 => absurd (by decide) c9)
  refine lv_iload_n hx hb dX9_firstLonely_64 rfl (lv_at hl 1 rfl) ?_
  rw [hQQ]
  exact W.iret (v := (-1)) hx hb hr (fun t ht hW => ⟨⟨(-1), (), rfl, rfl, trivial⟩, hS.F ht⟩) hS.2.2 dX9_firstLonely_65
theorem dX7_empty_0 : decode cX7_empty 0 = .ok (.aload_n 0, 1) := by decide +kernel
theorem dX7_empty_1 : decode cX7_empty 1 = .ok (.iconst 0, 1) := by decide +kernel
theorem dX7_empty_2 : decode cX7_empty 2 = .ok (.putfield 39, 3) := by decide +kernel
theorem dX7_empty_5 : decode cX7_empty 5 = .ok (.aload_n 0, 1) := by decide +kernel
theorem dX7_empty_6 : decode cX7_empty 6 = .ok (.iconst 0, 1) := by decide +kernel
theorem dX7_empty_7 : decode cX7_empty 7 = .ok (.putfield 42, 3) := by decide +kernel
theorem dX7_empty_10 : decode cX7_empty 10 = .ok (.return_, 1) := by decide +kernel
def wf_empty : List Cond := .code yX7_empty cX7_empty 1 none :: ([.fieldLink RX7 39 "KnotHouse$Net" "crossings" "I", .fieldLink RX7 42 "KnotHouse$Net" "circles" "I"] ++ wsX70)
set_option maxHeartbeats 4000000 in
set_option maxRecDepth 100000 in
theorem kf_X7_empty (l : Launch) (dC : Nat → ClassId) (dI : Nat → Nat → Nat) (cI cB cJ cZ : ClassId) (u : Nat → Nat) (sz : Nat) : Met l yX7_empty wf_empty (({ frames := 0, cells := 0, slots := 0, locals := 0 } : Room)) (va_Pc [.ref (u 3)] (fun U => U.heap.size = sz ∧ va_P (dC, dI) vwCl [((u 3), .inr (10, [.ref (u 31), .ref (u 32), .ref (u 33), .ref (u 34), .ref (u 35), .ref (u 36), .ref (u 37), .int 0, .int 0, .int 0, .int 0]))] U.heap ∧ va_K (dC, dI) vwCl [(cI, .int), (cB, .byte), (cJ, .long), (cZ, .boolean)] U ∧ va_D (fun _ => True) [((u 3), .inr (10, [.ref (u 31), .ref (u 32), .ref (u 33), .ref (u 34), .ref (u 35), .ref (u 36), .ref (u 37), .int 0, .int 0, .int 0, .int 0]))])) (va_Qv (fun _ : Unit => True) (fun _ t => va_P (dC, dI) vwCl [((u 3), .inr (10, [.ref (u 31), .ref (u 32), .ref (u 33), .ref (u 34), .ref (u 35), .ref (u 36), .ref (u 37), .int 0, .int 0, .int 0, .int 0]))] t.heap ∧ va_D (va_A [((u 3), .inr (10, [.ref (u 31), .ref (u 32), .ref (u 33), .ref (u 34), .ref (u 35), .ref (u 36), .ref (u 37), .int 0, .int 0, .int 0, .int 0]))] sz) [((u 3), .inr (10, [.ref (u 31), .ref (u 32), .ref (u 33), .ref (u 34), .ref (u 35), .ref (u 36), .ref (u 37), .int 0, .int 0, .int 0, .int 0]))]) (va_A [((u 3), .inr (10, [.ref (u 31), .ref (u 32), .ref (u 33), .ref (u 34), .ref (u 35), .ref (u 36), .ref (u 37), .int 0, .int 0, .int 0, .int 0]))] sz)) 0 0 (va_A [((u 3), .inr (10, [.ref (u 31), .ref (u 32), .ref (u 33), .ref (u 34), .ref (u 35), .ref (u 36), .ref (u 37), .int 0, .int 0, .int 0, .int 0]))] sz) := by
  refine Met.ofW (cc := cX7_empty) (maxL := 1) (ret := none) (by decide) rfl ?_
  intro p e s m args below meth c s₁ B hml hv
  obtain ⟨rfl, hsz, hP, hK, hD0⟩ := hv
  have hx := B.exec
  have hb := B.bytes
  have hr := B.returns
  have hts := atoms_spec (ws := wf_empty) B.pre
  have hown : s.vm.findClass RX7 = some m.cls := findClass_of_methodNamed B.named
  have hlocks := B.notSynchronized
  subst hsz
  have hD := hD0.self (sz := s.heap.size)
  generalize hAe : va_A [((u 3), .inr (10, [.ref (u 31), .ref (u 32), .ref (u 33), .ref (u 34), .ref (u 35), .ref (u 36), .ref (u 37), .int 0, .int 0, .int 0, .int 0]))] s.heap.size = A at hD ⊢
  have hA : ∀ q : Nat, s.heap.size ≤ q → A q := fun q h => by rw [← hAe]; exact Or.inr h
  have hS : va_S A s.heap s.heap [] := va_S.rf
  have hP : va_P (dC, dI) vwCl [((u 3), .inr (10, [.ref (u 31), .ref (u 32), .ref (u 33), .ref (u 34), .ref (u 35), .ref (u 36), .ref (u 37), .int 0, .int 0, .int 0, .int 0]))] s.heap := hP
  have hl := lv_entry ([.ref (u 3)]) (n := 1) (Nat.le_of_ble_eq_true rfl)
  rw [lg_entry_eq]
  generalize (lg_sl ([.ref (u 3)]) ++ List.replicate (1 - (lg_sl ([.ref (u 3)])).length) Slot.unset).toArray = ls at hl ⊢
  have hl : lv_has ls 1 [(0, .ref (u 3))] := hl
  refine ow_named (fun QQ hQQ => ?_)
  refine lv_aload_n hx hb dX7_empty_0 rfl (lv_at hl 0 rfl) ?_
  refine lv_iconst (v := 0) hx hb dX7_empty_1 (by decide) ?_
  refine va_put (D := (dC, dI)) (ci := 10) (v := .int 0) (ty := .int) (C := RX7) (T := TX7) (N := 11) hx hb hts (by decide +kernel) tyX7 tyX7_ok nmX7 hown hK hP hD hS 0 rfl rfl 7 (by decide) (hts (.fieldLink RX7 39 "KnotHouse$Net" "crossings" "I") (by decide +kernel)) (fun _ h9 => h9) rfl (by decide +kernel) rfl rfl (Nat.le_of_ble_eq_true rfl) dX7_empty_2 (fun H locs hP hD hS => ?_)
  have hP : va_P (dC, dI) vwCl [((u 3), .inr (10, [.ref (u 31), .ref (u 32), .ref (u 33), .ref (u 34), .ref (u 35), .ref (u 36), .ref (u 37), .int 0, .int 0, .int 0, .int 0]))] H := hP
  have hD : va_D A [((u 3), .inr (10, [.ref (u 31), .ref (u 32), .ref (u 33), .ref (u 34), .ref (u 35), .ref (u 36), .ref (u 37), .int 0, .int 0, .int 0, .int 0]))] := hD
  refine lv_aload_n hx hb dX7_empty_5 rfl (lv_at hl 0 rfl) ?_
  refine lv_iconst (v := 0) hx hb dX7_empty_6 (by decide) ?_
  refine va_put (D := (dC, dI)) (ci := 10) (v := .int 0) (ty := .int) (C := RX7) (T := TX7) (N := 11) hx hb hts (by decide +kernel) tyX7 tyX7_ok nmX7 hown hK hP hD hS 0 rfl rfl 8 (by decide) (hts (.fieldLink RX7 42 "KnotHouse$Net" "circles" "I") (by decide +kernel)) (fun _ h9 => h9) rfl (by decide +kernel) rfl rfl (Nat.le_of_ble_eq_true rfl) dX7_empty_7 (fun H locs hP hD hS => ?_)
  have hP : va_P (dC, dI) vwCl [((u 3), .inr (10, [.ref (u 31), .ref (u 32), .ref (u 33), .ref (u 34), .ref (u 35), .ref (u 36), .ref (u 37), .int 0, .int 0, .int 0, .int 0]))] H := hP
  have hD : va_D A [((u 3), .inr (10, [.ref (u 31), .ref (u 32), .ref (u 33), .ref (u 34), .ref (u 35), .ref (u 36), .ref (u 37), .int 0, .int 0, .int 0, .int 0]))] := hD
  rw [hQQ]
  exact W.vret hx hb hr (fun t ht hW => ⟨⟨(), rfl, trivial, by rw [ht]; exact hP, hD⟩, hS.F ht⟩) hS.2.2 dX7_empty_10
theorem dX9_finish_0 : decode cX9_finish 0 = .ok (.iload_n 1, 1) := by decide +kernel
theorem dX9_finish_1 : decode cX9_finish 1 = .ok (.iconst (-1), 1) := by decide +kernel
theorem dX9_finish_2 : decode cX9_finish 2 = .ok (.if_icmp .ne 16, 3) := by decide +kernel
theorem dX9_finish_5 : decode cX9_finish 5 = .ok (.aload_n 0, 1) := by decide +kernel
theorem dX9_finish_6 : decode cX9_finish 6 = .ok (.dup, 1) := by decide +kernel
theorem dX9_finish_7 : decode cX9_finish 7 = .ok (.getfield 60, 3) := by decide +kernel
theorem dX9_finish_10 : decode cX9_finish 10 = .ok (.iconst 1, 1) := by decide +kernel
theorem dX9_finish_11 : decode cX9_finish 11 = .ok (.iadd, 1) := by decide +kernel
theorem dX9_finish_12 : decode cX9_finish 12 = .ok (.putfield 60, 3) := by decide +kernel
theorem dX9_finish_15 : decode cX9_finish 15 = .ok (.goto 9, 3) := by decide +kernel
theorem dX9_finish_24 : decode cX9_finish 24 = .ok (.return_, 1) := by decide +kernel
def wf_finish : List Cond := .code yX9_finish cX9_finish 3 none :: ([.fieldLink RX9 60 "KnotHouse$Net" "circles" "I"] ++ wsX70)
set_option maxHeartbeats 4000000 in
set_option maxRecDepth 100000 in
theorem kf_X9_finish (l : Launch) (dC : Nat → ClassId) (dI : Nat → Nat → Nat) (cI cB cJ cZ : ClassId) (u : Nat → Nat) (sz : Nat) (x : Int32) : Met l yX9_finish wf_finish (({ frames := 0, cells := 0, slots := 0, locals := 0 } : Room)) (va_Pc [.ref (u 3), .int (-1), .int x] (fun U => U.heap.size = sz ∧ va_P (dC, dI) vwCl [((u 3), .inr (10, [.ref (u 31), .ref (u 32), .ref (u 33), .ref (u 34), .ref (u 35), .ref (u 36), .ref (u 37), .int 0, .int 0, .int 0, .int 0]))] U.heap ∧ va_K (dC, dI) vwCl [(cI, .int), (cB, .byte), (cJ, .long), (cZ, .boolean)] U ∧ va_D (fun _ => True) [((u 3), .inr (10, [.ref (u 31), .ref (u 32), .ref (u 33), .ref (u 34), .ref (u 35), .ref (u 36), .ref (u 37), .int 0, .int 0, .int 0, .int 0]))])) (va_Qv (fun _ : Unit => True) (fun _ t => va_P (dC, dI) vwCl [((u 3), .inr (10, [.ref (u 31), .ref (u 32), .ref (u 33), .ref (u 34), .ref (u 35), .ref (u 36), .ref (u 37), .int 0, .int 1, .int 0, .int 0]))] t.heap ∧ va_D (va_A [((u 3), .inr (10, [.ref (u 31), .ref (u 32), .ref (u 33), .ref (u 34), .ref (u 35), .ref (u 36), .ref (u 37), .int 0, .int 0, .int 0, .int 0]))] sz) [((u 3), .inr (10, [.ref (u 31), .ref (u 32), .ref (u 33), .ref (u 34), .ref (u 35), .ref (u 36), .ref (u 37), .int 0, .int 1, .int 0, .int 0]))]) (va_A [((u 3), .inr (10, [.ref (u 31), .ref (u 32), .ref (u 33), .ref (u 34), .ref (u 35), .ref (u 36), .ref (u 37), .int 0, .int 0, .int 0, .int 0]))] sz)) 0 0 (va_A [((u 3), .inr (10, [.ref (u 31), .ref (u 32), .ref (u 33), .ref (u 34), .ref (u 35), .ref (u 36), .ref (u 37), .int 0, .int 0, .int 0, .int 0]))] sz) := by
  refine Met.ofW (cc := cX9_finish) (maxL := 3) (ret := none) (by decide) rfl ?_
  intro p e s m args below meth c s₁ B hml hv
  obtain ⟨rfl, hsz, hP, hK, hD0⟩ := hv
  have hx := B.exec
  have hb := B.bytes
  have hr := B.returns
  have hts := atoms_spec (ws := wf_finish) B.pre
  have hown : s.vm.findClass RX9 = some m.cls := findClass_of_methodNamed B.named
  have hlocks := B.notSynchronized
  subst hsz
  have hD := hD0.self (sz := s.heap.size)
  generalize hAe : va_A [((u 3), .inr (10, [.ref (u 31), .ref (u 32), .ref (u 33), .ref (u 34), .ref (u 35), .ref (u 36), .ref (u 37), .int 0, .int 0, .int 0, .int 0]))] s.heap.size = A at hD ⊢
  have hA : ∀ q : Nat, s.heap.size ≤ q → A q := fun q h => by rw [← hAe]; exact Or.inr h
  have hS : va_S A s.heap s.heap [] := va_S.rf
  have hP : va_P (dC, dI) vwCl [((u 3), .inr (10, [.ref (u 31), .ref (u 32), .ref (u 33), .ref (u 34), .ref (u 35), .ref (u 36), .ref (u 37), .int 0, .int 0, .int 0, .int 0]))] s.heap := hP
  have hl := lv_entry ([.ref (u 3), .int (-1), .int x]) (n := 3) (Nat.le_of_ble_eq_true rfl)
  rw [lg_entry_eq]
  generalize (lg_sl ([.ref (u 3), .int (-1), .int x]) ++ List.replicate (3 - (lg_sl ([.ref (u 3), .int (-1), .int x])).length) Slot.unset).toArray = ls at hl ⊢
  have hl : lv_has ls 3 [(0, .ref (u 3)), (1, .int (-1)), (2, .int x)] := hl
  refine ow_named (fun QQ hQQ => ?_)
  refine lv_iload_n hx hb dX9_finish_0 rfl (lv_at hl 1 rfl) ?_
  refine lv_iconst (v := (-1)) hx hb dX9_finish_1 (by decide) ?_
  refine lv_icmp_ne (tgt := 18) hx hb dX9_finish_2 (by decide) (fun c9 => absurd c9 (by decide)) (fun _ => ?_)
  refine lv_aload_n hx hb dX9_finish_5 rfl (lv_at hl 0 rfl) ?_
  refine lv_dup hx hb dX9_finish_6 rfl ?_
  refine va_get (D := (dC, dI)) (ci := 10) (v := .int 0) (C := RX7) (T := TX7) (N := 11) hx hb hts (by decide +kernel) hown hK hP 0 rfl rfl 8 (by decide) (hts (.fieldLink RX9 60 "KnotHouse$Net" "circles" "I") (by decide +kernel)) (fun _ h9 => h9) rfl dX9_finish_7 ?_
  refine lv_iconst (v := 1) hx hb dX9_finish_10 (by decide) ?_
  refine lv_iadd hx hb dX9_finish_11 ?_
  refine ow_topi (y := 1) (by decide) ?_
  refine va_put (D := (dC, dI)) (ci := 10) (v := .int (1)) (ty := .int) (C := RX7) (T := TX7) (N := 11) hx hb hts (by decide +kernel) tyX7 tyX7_ok nmX7 hown hK hP hD hS 0 rfl rfl 8 (by decide) (hts (.fieldLink RX9 60 "KnotHouse$Net" "circles" "I") (by decide +kernel)) (fun _ h9 => h9) rfl (by decide +kernel) rfl rfl (Nat.le_of_ble_eq_true rfl) dX9_finish_12 (fun H locs hP hD hS => ?_)
  have hP : va_P (dC, dI) vwCl [((u 3), .inr (10, [.ref (u 31), .ref (u 32), .ref (u 33), .ref (u 34), .ref (u 35), .ref (u 36), .ref (u 37), .int 0, .int (1), .int 0, .int 0]))] H := hP
  have hD : va_D A [((u 3), .inr (10, [.ref (u 31), .ref (u 32), .ref (u 33), .ref (u 34), .ref (u 35), .ref (u 36), .ref (u 37), .int 0, .int (1), .int 0, .int 0]))] := hD
  refine lv_goto (tgt := 24) hx hb dX9_finish_15 (by decide) ?_
  rw [hQQ]
  exact W.vret hx hb hr (fun t ht hW => ⟨⟨(), rfl, trivial, by rw [ht]; exact hP, hD⟩, hS.F ht⟩) hS.2.2 dX9_finish_24
