/-! simple braids as packed permutations; the numbers are taken as they come -/
def f5_im (a b : Int32) : Int32 := (a >>> ((4 * b) &&& 31)) &&& 15
def f5_inv (a : Int32) : Nat → Int32
  | 0 => 0
  | j + 1 => f5_inv a j ||| (nI j <<< ((4 * f5_im a (nI j)) &&& 31))
def f5_id : Nat → Int32
  | 0 => 0
  | j + 1 => f5_id j ||| (nI j <<< ((4 * nI j) &&& 31))
def f5_de (n : Nat) : Nat → Int32
  | 0 => 0
  | j + 1 => f5_de n j ||| ((nI n - 1 - nI j) <<< ((4 * nI j) &&& 31))
def f5_tu (a : Int32) (n : Nat) : Nat → Int32
  | 0 => 0
  | j + 1 => f5_tu a n j ||| ((nI n - 1 - f5_im a (nI n - 1 - nI j)) <<< ((4 * nI j) &&& 31))
def f5_bo (a p : Int32) : Int32 := f5_im a p ^^^ f5_im a (p + 1)
def f5_ex (a p : Int32) : Int32 := (a ^^^ (f5_bo a p <<< ((4 * p) &&& 31))) ^^^ (f5_bo a p <<< ((4 * (p + 1)) &&& 31))
def f5_eb (a p : Int32) (n : Nat) : Int32 := f5_inv (f5_ex (f5_inv a n) p) n
def f5_mv (u v : Int32) : Nat → Nat → Option Nat
  | 0, _ => none
  | d + 1, x => if f5_im v (nI (x + 1)) < f5_im v (nI x) ∧ f5_im u (nI x) < f5_im u (nI (x + 1)) then some x else f5_mv u v d (x + 1)
theorem f5_mv_lt {u v : Int32} : ∀ (d x y : Nat), f5_mv u v d x = some y → y < x + d := by
  intro d
  induction d with
  | zero => intro x y h; cases h
  | succ d ih =>
    intro x y h
    rw [f5_mv] at h
    split at h
    · have := Option.some.inj h
      omega
    · have := ih _ _ h
      omega
theorem dgX5_image_0 : decode cX5_image 0 = .ok (.iload_n 0, 1) := by decide +kernel
theorem dgX5_image_1 : decode cX5_image 1 = .ok (.iconst 4, 1) := by decide +kernel
theorem dgX5_image_2 : decode cX5_image 2 = .ok (.iload_n 1, 1) := by decide +kernel
theorem dgX5_image_3 : decode cX5_image 3 = .ok (.imul, 1) := by decide +kernel
theorem dgX5_image_4 : decode cX5_image 4 = .ok (.ishr, 1) := by decide +kernel
theorem dgX5_image_5 : decode cX5_image 5 = .ok (.bipush 15, 2) := by decide +kernel
theorem dgX5_image_7 : decode cX5_image 7 = .ok (.iand, 1) := by decide +kernel
theorem dgX5_image_8 : decode cX5_image 8 = .ok (.ireturn, 1) := by decide +kernel
def wg_X5_image : List Cond := [.code yX5_image cX5_image 2 (some .int)]
set_option maxHeartbeats 4000000 in
set_option maxRecDepth 100000 in
theorem kg_X5_image (l : Launch) (dC : Nat → ClassId) (dI : Nat → Nat → Nat) (cI cB cJ cZ : ClassId) (a b : Int32) : Met l yX5_image wg_X5_image (({ frames := 0, cells := 0, slots := 0, locals := 0 } : Room)) (va_Pc [.int a, .int b] (fun U => va_P (dC, dI) vwCl [] U.heap ∧ va_K (dC, dI) vwCl [(cI, .int), (cB, .byte), (cJ, .long), (cZ, .boolean)] U)) (va_Qi (fun r (_ : Unit) => r = f5_im a b) (fun _ _ => True) (fun _ => False)) 0 0 (fun _ => False) := by
  refine Met.ofW (cc := cX5_image) (maxL := 2) (ret := (some .int)) (by decide) rfl ?_
  intro p e s m args below meth c s₁ B hml hv
  obtain ⟨rfl, hP, hK⟩ := hv
  have hx := B.exec
  have hb := B.bytes
  have hr := B.returns
  have hts := atoms_spec (ws := wg_X5_image) B.pre
  have hown : s.vm.findClass RX5 = some m.cls := findClass_of_methodNamed B.named
  have hlocks := B.notSynchronized
  have hS : va_S (fun _ => False) s.heap s.heap [] := va_S.rf
  have hP : va_P (dC, dI) vwCl [] s.heap := hP
  have hl := lv_entry ([.int a, .int b]) (n := 2) (Nat.le_of_ble_eq_true rfl)
  rw [lg_entry_eq]
  generalize (lg_sl ([.int a, .int b]) ++ List.replicate (2 - (lg_sl ([.int a, .int b])).length) Slot.unset).toArray = ls at hl ⊢
  have hl : lv_has ls 2 [(0, .int a), (1, .int b)] := hl
  refine ow_named (fun QQ hQQ => ?_)
  refine lv_iload_n hx hb dgX5_image_0 rfl (lv_at hl 0 rfl) ?_
  refine lv_iconst (v := 4) hx hb dgX5_image_1 (by decide) ?_
  refine lv_iload_n hx hb dgX5_image_2 rfl (lv_at hl 1 rfl) ?_
  refine lv_imul hx hb dgX5_image_3 ?_
  refine lv_ishr hx hb dgX5_image_4 ?_
  refine lv_bipush (v := 15) hx hb dgX5_image_5 (by decide) ?_
  refine lv_iand hx hb dgX5_image_7 ?_
  rw [hQQ]
  exact W.iret (v := ((a >>> ((4 * b) &&& 31)) &&& 15)) hx hb hr (fun t ht hW => ⟨⟨((a >>> ((4 * b) &&& 31)) &&& 15), (), rfl, rfl, trivial⟩, hS.F ht⟩) hS.2.2 dgX5_image_8
theorem dgX5_invert_0 : decode cX5_invert 0 = .ok (.iconst 0, 1) := by decide +kernel
theorem dgX5_invert_1 : decode cX5_invert 1 = .ok (.istore_n 2, 1) := by decide +kernel
theorem dgX5_invert_2 : decode cX5_invert 2 = .ok (.iconst 0, 1) := by decide +kernel
theorem dgX5_invert_3 : decode cX5_invert 3 = .ok (.istore_n 3, 1) := by decide +kernel
theorem dgX5_invert_4 : decode cX5_invert 4 = .ok (.iload_n 3, 1) := by decide +kernel
theorem dgX5_invert_5 : decode cX5_invert 5 = .ok (.iload_n 1, 1) := by decide +kernel
theorem dgX5_invert_6 : decode cX5_invert 6 = .ok (.if_icmp .ge 21, 3) := by decide +kernel
theorem dgX5_invert_9 : decode cX5_invert 9 = .ok (.iload_n 2, 1) := by decide +kernel
theorem dgX5_invert_10 : decode cX5_invert 10 = .ok (.iload_n 3, 1) := by decide +kernel
theorem dgX5_invert_11 : decode cX5_invert 11 = .ok (.iconst 4, 1) := by decide +kernel
theorem dgX5_invert_12 : decode cX5_invert 12 = .ok (.iload_n 0, 1) := by decide +kernel
theorem dgX5_invert_13 : decode cX5_invert 13 = .ok (.iload_n 3, 1) := by decide +kernel
theorem dgX5_invert_14 : decode cX5_invert 14 = .ok (.invokestatic 15, 3) := by decide +kernel
theorem dgX5_invert_17 : decode cX5_invert 17 = .ok (.imul, 1) := by decide +kernel
theorem dgX5_invert_18 : decode cX5_invert 18 = .ok (.ishl, 1) := by decide +kernel
theorem dgX5_invert_19 : decode cX5_invert 19 = .ok (.ior, 1) := by decide +kernel
theorem dgX5_invert_20 : decode cX5_invert 20 = .ok (.istore_n 2, 1) := by decide +kernel
theorem dgX5_invert_21 : decode cX5_invert 21 = .ok (.iinc 3 1, 3) := by decide +kernel
theorem dgX5_invert_24 : decode cX5_invert 24 = .ok (.goto (-20), 3) := by decide +kernel
theorem dgX5_invert_27 : decode cX5_invert 27 = .ok (.iload_n 2, 1) := by decide +kernel
theorem dgX5_invert_28 : decode cX5_invert 28 = .ok (.ireturn, 1) := by decide +kernel
def wg_X5_invert : List Cond := .code yX5_invert cX5_invert 4 (some .int) :: ([] ++ (va_wsS RX5 15 yX5_image wg_X5_image ++ []))
theorem gg_X5_invert_0 : GoodIn wg_X5_invert (va_wsS RX5 15 yX5_image wg_X5_image) := goodIn_sub (fun _ h => List.mem_cons_of_mem _ (List.mem_append_right _ (List.mem_append_left _ h))) (by decide +kernel)
set_option maxHeartbeats 4000000 in
set_option maxRecDepth 100000 in
theorem kg_X5_invert (l : Launch) (dC : Nat → ClassId) (dI : Nat → Nat → Nat) (cI cB cJ cZ : ClassId) (a : Int32) (n : Nat) (hn9 : n < 2 ^ 31) : Met l yX5_invert wg_X5_invert (({ frames := 1, cells := 0, slots := 0, locals := 40 } : Room)) (va_Pc [.int a, .int (nI n)] (fun U => va_P (dC, dI) vwCl [] U.heap ∧ va_K (dC, dI) vwCl [(cI, .int), (cB, .byte), (cJ, .long), (cZ, .boolean)] U)) (va_Qi (fun r (_ : Unit) => r = f5_inv a n) (fun _ _ => True) (fun _ => False)) 0 0 (fun _ => False) := by
  refine Met.ofW (cc := cX5_invert) (maxL := 4) (ret := (some .int)) (by decide) rfl ?_
  intro p e s m args below meth c s₁ B hml hv
  obtain ⟨rfl, hP, hK⟩ := hv
  have hx := B.exec
  have hb := B.bytes
  have hr := B.returns
  have hts := atoms_spec (ws := wg_X5_invert) B.pre
  have hown : s.vm.findClass RX5 = some m.cls := findClass_of_methodNamed B.named
  have hlocks := B.notSynchronized
  have hS : va_S (fun _ => False) s.heap s.heap [] := va_S.rf
  have hP : va_P (dC, dI) vwCl [] s.heap := hP
  have hl := lv_entry ([.int a, .int (nI n)]) (n := 4) (Nat.le_of_ble_eq_true rfl)
  rw [lg_entry_eq]
  generalize (lg_sl ([.int a, .int (nI n)]) ++ List.replicate (4 - (lg_sl ([.int a, .int (nI n)])).length) Slot.unset).toArray = ls at hl ⊢
  have hl : lv_has ls 4 [(0, .int a), (1, .int (nI n))] := hl
  refine ow_named (fun QQ hQQ => ?_)
  have L4 : ∀ (d i : Nat), i + d = n → ∀ (H : Heap) (locs : List Loc) (ls : Array Slot), va_P (dC, dI) vwCl [] H → va_S (fun _ => False) s.heap H locs → lv_has ls 4 [(0, .int a), (1, .int (nI n)), (2, .int (f5_inv a i)), (3, .int (nI i))] → W p l e ({ frames := 1, cells := 0, slots := 0, locals := 40 } : Room) s m ([.int a, .int (nI n)] : List Value).toArray below meth c H locs 0 0 QQ (F0 m 4 ls []) := by
    intro d
    induction d with
    | zero =>
      intro i hi H locs ls hP hS hl
      have hie : i = n := by omega
      refine lv_iload_n hx hb dgX5_invert_4 rfl (lv_at hl 3 rfl) ?_
      refine lv_iload_n hx hb dgX5_invert_5 rfl (lv_at hl 1 rfl) ?_
      refine lv_icmp_ge (tgt := 27) hx hb dgX5_invert_6 (by decide) (fun _ => ?_) (fun c9 => absurd (nI_le (a := n) (b := i) (by omega) (by omega)) c9)
      refine lv_iload_n hx hb dgX5_invert_27 rfl (lv_at hl 2 rfl) ?_
      rw [hQQ]
      exact W.iret (v := (f5_inv a i)) hx hb hr (fun t ht hW => ⟨⟨(f5_inv a i), (), rfl, by rw [hie], trivial⟩, hS.F ht⟩) hS.2.2 dgX5_invert_28
    | succ d ih =>
      intro i hi H locs ls hP hS hl
      refine lv_iload_n hx hb dgX5_invert_4 rfl (lv_at hl 3 rfl) ?_
      refine lv_iload_n hx hb dgX5_invert_5 rfl (lv_at hl 1 rfl) ?_
      refine lv_icmp_ge (tgt := 27) hx hb dgX5_invert_6 (by decide) (fun c9 => absurd c9 (nI_ge (a := i) (b := n) (by omega) (by omega))) (fun _ => ?_)
      refine lv_iload_n hx hb dgX5_invert_9 rfl (lv_at hl 2 rfl) ?_
      refine lv_iload_n hx hb dgX5_invert_10 rfl (lv_at hl 3 rfl) ?_
      refine lv_iconst (v := 4) hx hb dgX5_invert_11 (by decide) ?_
      refine lv_iload_n hx hb dgX5_invert_12 rfl (lv_at hl 0 rfl) ?_
      refine lv_iload_n hx hb dgX5_invert_13 rfl (lv_at hl 3 rfl) ?_
      have hPc := hP.sub (ws' := []) [] rfl
      refine va_calli (va_runS (As := [.int a, .int (nI i)]) (rest := [.int 4, .int (nI i), .int (f5_inv a i)]) ⟨hx, hb, hml, hown, hts⟩ (kg_X5_image l dC dI cI cB cJ cZ a (nI i)) (va_cwS 2 hts gg_X5_invert_0 rfl rfl rfl (by decide +kernel) ⟨(Nat.le_of_ble_eq_true rfl), (Nat.le_of_ble_eq_true rfl)⟩) ⟨fun a U g mk q => by obtain ⟨q0, qP, qK⟩ := q; exact ⟨q0, qP, va_K.moved (u := U) (U := U.calling g mk a) (Vm.Alike.refl U.vm) qK⟩, fun U hU hW => ⟨rfl, by rw [hU]; exact hPc, va_K.moved hW.alike hK⟩⟩ rfl rfl hl.1 rfl (lv_room (Nat.le_of_ble_eq_true rfl)) dgX5_invert_14 ⟨(Nat.le_of_ble_eq_true rfl), (Nat.le_of_ble_eq_true rfl)⟩) hS (fun q _ h => h.elim) (fun q h => h.elim) (fun ri9 un t H1 locs ht hvm hw9 hB hz1 hk1 hS => ?_)
      have hP := hP.kept (fun k9 x9 h9 => hk1 x9.1 ((hP k9 x9 h9).lt) id)
      generalize H1 = H at hP hS ⊢
      obtain rfl : ri9 = f5_im a (nI i) := hw9
      refine lv_imul hx hb dgX5_invert_17 ?_
      refine lv_ishl hx hb dgX5_invert_18 ?_
      refine lv_ior hx hb dgX5_invert_19 ?_
      refine lv_istore_n (lv' := [(2, .int ((f5_inv a i) ||| ((nI i) <<< ((4 * (f5_im a (nI i))) &&& 31)))), (0, .int a), (1, .int (nI n)), (3, .int (nI i))]) hx hb dgX5_invert_20 rfl hl (by decide) rfl (fun ls hl => ?_)
      refine lv_iinc (v := nI (i + 1)) (lv' := [(3, .int (nI (i + 1))), (2, .int ((f5_inv a i) ||| ((nI i) <<< ((4 * (f5_im a (nI i))) &&& 31)))), (0, .int a), (1, .int (nI n))]) hx hb dgX5_invert_21 hl (k := 3) rfl (nI_1 i) (by decide) rfl (fun ls hl => ?_)
      refine lv_goto (tgt := 4) hx hb dgX5_invert_24 (by decide) ?_
      exact ih (i + 1) (by omega) H locs ls hP hS (lv_sub hl [2, 3, 1, 0] rfl)
  refine lv_iconst (v := 0) hx hb dgX5_invert_0 (by decide) ?_
  refine lv_istore_n (lv' := [(2, .int 0), (0, .int a), (1, .int (nI n))]) hx hb dgX5_invert_1 rfl hl (by decide) rfl (fun ls hl => ?_)
  refine lv_iconst (v := 0) hx hb dgX5_invert_2 (by decide) ?_
  refine ow_topi (y := nI 0) (by decide) ?_
  refine lv_istore_n (lv' := [(3, .int (nI 0)), (2, .int 0), (0, .int a), (1, .int (nI n))]) hx hb dgX5_invert_3 rfl hl (by decide) rfl (fun ls hl => ?_)
  exact L4 n 0 (by omega) s.heap [] ls hP hS (lv_sub hl [2, 3, 1, 0] rfl)
theorem dgX5_identityOf_0 : decode cX5_identityOf 0 = .ok (.iconst 0, 1) := by decide +kernel
theorem dgX5_identityOf_1 : decode cX5_identityOf 1 = .ok (.istore_n 1, 1) := by decide +kernel
theorem dgX5_identityOf_2 : decode cX5_identityOf 2 = .ok (.iconst 0, 1) := by decide +kernel
theorem dgX5_identityOf_3 : decode cX5_identityOf 3 = .ok (.istore_n 2, 1) := by decide +kernel
theorem dgX5_identityOf_4 : decode cX5_identityOf 4 = .ok (.iload_n 2, 1) := by decide +kernel
theorem dgX5_identityOf_5 : decode cX5_identityOf 5 = .ok (.iload_n 0, 1) := by decide +kernel
theorem dgX5_identityOf_6 : decode cX5_identityOf 6 = .ok (.if_icmp .ge 17, 3) := by decide +kernel
theorem dgX5_identityOf_9 : decode cX5_identityOf 9 = .ok (.iload_n 1, 1) := by decide +kernel
theorem dgX5_identityOf_10 : decode cX5_identityOf 10 = .ok (.iload_n 2, 1) := by decide +kernel
theorem dgX5_identityOf_11 : decode cX5_identityOf 11 = .ok (.iconst 4, 1) := by decide +kernel
theorem dgX5_identityOf_12 : decode cX5_identityOf 12 = .ok (.iload_n 2, 1) := by decide +kernel
theorem dgX5_identityOf_13 : decode cX5_identityOf 13 = .ok (.imul, 1) := by decide +kernel
theorem dgX5_identityOf_14 : decode cX5_identityOf 14 = .ok (.ishl, 1) := by decide +kernel
theorem dgX5_identityOf_15 : decode cX5_identityOf 15 = .ok (.ior, 1) := by decide +kernel
theorem dgX5_identityOf_16 : decode cX5_identityOf 16 = .ok (.istore_n 1, 1) := by decide +kernel
theorem dgX5_identityOf_17 : decode cX5_identityOf 17 = .ok (.iinc 2 1, 3) := by decide +kernel
theorem dgX5_identityOf_20 : decode cX5_identityOf 20 = .ok (.goto (-16), 3) := by decide +kernel
theorem dgX5_identityOf_23 : decode cX5_identityOf 23 = .ok (.iload_n 1, 1) := by decide +kernel
theorem dgX5_identityOf_24 : decode cX5_identityOf 24 = .ok (.ireturn, 1) := by decide +kernel
def wg_X5_identityOf : List Cond := .code yX5_identityOf cX5_identityOf 3 (some .int) :: ([] ++ [])
set_option maxHeartbeats 4000000 in
set_option maxRecDepth 100000 in
theorem kg_X5_identityOf (l : Launch) (dC : Nat → ClassId) (dI : Nat → Nat → Nat) (cI cB cJ cZ : ClassId) (n : Nat) (hn9 : n < 2 ^ 31) : Met l yX5_identityOf wg_X5_identityOf (({ frames := 0, cells := 0, slots := 0, locals := 0 } : Room)) (va_Pc [.int (nI n)] (fun U => va_P (dC, dI) vwCl [] U.heap ∧ va_K (dC, dI) vwCl [(cI, .int), (cB, .byte), (cJ, .long), (cZ, .boolean)] U)) (va_Qi (fun r (_ : Unit) => r = f5_id n) (fun _ _ => True) (fun _ => False)) 0 0 (fun _ => False) := by
  refine Met.ofW (cc := cX5_identityOf) (maxL := 3) (ret := (some .int)) (by decide) rfl ?_
  intro p e s m args below meth c s₁ B hml hv
  obtain ⟨rfl, hP, hK⟩ := hv
  have hx := B.exec
  have hb := B.bytes
  have hr := B.returns
  have hts := atoms_spec (ws := wg_X5_identityOf) B.pre
  have hown : s.vm.findClass RX5 = some m.cls := findClass_of_methodNamed B.named
  have hlocks := B.notSynchronized
  have hS : va_S (fun _ => False) s.heap s.heap [] := va_S.rf
  have hP : va_P (dC, dI) vwCl [] s.heap := hP
  have hl := lv_entry ([.int (nI n)]) (n := 3) (Nat.le_of_ble_eq_true rfl)
  rw [lg_entry_eq]
  generalize (lg_sl ([.int (nI n)]) ++ List.replicate (3 - (lg_sl ([.int (nI n)])).length) Slot.unset).toArray = ls at hl ⊢
  have hl : lv_has ls 3 [(0, .int (nI n))] := hl
  refine ow_named (fun QQ hQQ => ?_)
  have L4 : ∀ (d i : Nat), i + d = n → ∀ (H : Heap) (locs : List Loc) (ls : Array Slot), va_P (dC, dI) vwCl [] H → va_S (fun _ => False) s.heap H locs → lv_has ls 3 [(0, .int (nI n)), (1, .int (f5_id i)), (2, .int (nI i))] → W p l e ({ frames := 0, cells := 0, slots := 0, locals := 0 } : Room) s m ([.int (nI n)] : List Value).toArray below meth c H locs 0 0 QQ (F0 m 4 ls []) := by
    intro d
    induction d with
    | zero =>
      intro i hi H locs ls hP hS hl
      have hie : i = n := by omega
      refine lv_iload_n hx hb dgX5_identityOf_4 rfl (lv_at hl 2 rfl) ?_
      refine lv_iload_n hx hb dgX5_identityOf_5 rfl (lv_at hl 0 rfl) ?_
      refine lv_icmp_ge (tgt := 23) hx hb dgX5_identityOf_6 (by decide) (fun _ => ?_) (fun c9 => absurd (nI_le (a := n) (b := i) (by omega) (by omega)) c9)
      refine lv_iload_n hx hb dgX5_identityOf_23 rfl (lv_at hl 1 rfl) ?_
      rw [hQQ]
      exact W.iret (v := (f5_id i)) hx hb hr (fun t ht hW => ⟨⟨(f5_id i), (), rfl, by rw [hie], trivial⟩, hS.F ht⟩) hS.2.2 dgX5_identityOf_24
    | succ d ih =>
      intro i hi H locs ls hP hS hl
      refine lv_iload_n hx hb dgX5_identityOf_4 rfl (lv_at hl 2 rfl) ?_
      refine lv_iload_n hx hb dgX5_identityOf_5 rfl (lv_at hl 0 rfl) ?_
      refine lv_icmp_ge (tgt := 23) hx hb dgX5_identityOf_6 (by decide) (fun c9 => absurd c9 (nI_ge (a := i) (b := n) (by omega) (by omega))) (fun _ => ?_)
      refine lv_iload_n hx hb dgX5_identityOf_9 rfl (lv_at hl 1 rfl) ?_
      refine lv_iload_n hx hb dgX5_identityOf_10 rfl (lv_at hl 2 rfl) ?_
      refine lv_iconst (v := 4) hx hb dgX5_identityOf_11 (by decide) ?_
      refine lv_iload_n hx hb dgX5_identityOf_12 rfl (lv_at hl 2 rfl) ?_
      refine lv_imul hx hb dgX5_identityOf_13 ?_
      refine lv_ishl hx hb dgX5_identityOf_14 ?_
      refine lv_ior hx hb dgX5_identityOf_15 ?_
      refine lv_istore_n (lv' := [(1, .int ((f5_id i) ||| ((nI i) <<< ((4 * (nI i)) &&& 31)))), (0, .int (nI n)), (2, .int (nI i))]) hx hb dgX5_identityOf_16 rfl hl (by decide) rfl (fun ls hl => ?_)
      refine lv_iinc (v := nI (i + 1)) (lv' := [(2, .int (nI (i + 1))), (1, .int ((f5_id i) ||| ((nI i) <<< ((4 * (nI i)) &&& 31)))), (0, .int (nI n))]) hx hb dgX5_identityOf_17 hl (k := 2) rfl (nI_1 i) (by decide) rfl (fun ls hl => ?_)
      refine lv_goto (tgt := 4) hx hb dgX5_identityOf_20 (by decide) ?_
      exact ih (i + 1) (by omega) H locs ls hP hS (lv_sub hl [2, 1, 0] rfl)
  refine lv_iconst (v := 0) hx hb dgX5_identityOf_0 (by decide) ?_
  refine lv_istore_n (lv' := [(1, .int 0), (0, .int (nI n))]) hx hb dgX5_identityOf_1 rfl hl (by decide) rfl (fun ls hl => ?_)
  refine lv_iconst (v := 0) hx hb dgX5_identityOf_2 (by decide) ?_
  refine ow_topi (y := nI 0) (by decide) ?_
  refine lv_istore_n (lv' := [(2, .int (nI 0)), (1, .int 0), (0, .int (nI n))]) hx hb dgX5_identityOf_3 rfl hl (by decide) rfl (fun ls hl => ?_)
  exact L4 n 0 (by omega) s.heap [] ls hP hS (lv_sub hl [2, 1, 0] rfl)
theorem dgX5_deltaOf_0 : decode cX5_deltaOf 0 = .ok (.iconst 0, 1) := by decide +kernel
theorem dgX5_deltaOf_1 : decode cX5_deltaOf 1 = .ok (.istore_n 1, 1) := by decide +kernel
theorem dgX5_deltaOf_2 : decode cX5_deltaOf 2 = .ok (.iconst 0, 1) := by decide +kernel
theorem dgX5_deltaOf_3 : decode cX5_deltaOf 3 = .ok (.istore_n 2, 1) := by decide +kernel
theorem dgX5_deltaOf_4 : decode cX5_deltaOf 4 = .ok (.iload_n 2, 1) := by decide +kernel
theorem dgX5_deltaOf_5 : decode cX5_deltaOf 5 = .ok (.iload_n 0, 1) := by decide +kernel
theorem dgX5_deltaOf_6 : decode cX5_deltaOf 6 = .ok (.if_icmp .ge 21, 3) := by decide +kernel
theorem dgX5_deltaOf_9 : decode cX5_deltaOf 9 = .ok (.iload_n 1, 1) := by decide +kernel
theorem dgX5_deltaOf_10 : decode cX5_deltaOf 10 = .ok (.iload_n 0, 1) := by decide +kernel
theorem dgX5_deltaOf_11 : decode cX5_deltaOf 11 = .ok (.iconst 1, 1) := by decide +kernel
theorem dgX5_deltaOf_12 : decode cX5_deltaOf 12 = .ok (.isub, 1) := by decide +kernel
theorem dgX5_deltaOf_13 : decode cX5_deltaOf 13 = .ok (.iload_n 2, 1) := by decide +kernel
theorem dgX5_deltaOf_14 : decode cX5_deltaOf 14 = .ok (.isub, 1) := by decide +kernel
theorem dgX5_deltaOf_15 : decode cX5_deltaOf 15 = .ok (.iconst 4, 1) := by decide +kernel
theorem dgX5_deltaOf_16 : decode cX5_deltaOf 16 = .ok (.iload_n 2, 1) := by decide +kernel
theorem dgX5_deltaOf_17 : decode cX5_deltaOf 17 = .ok (.imul, 1) := by decide +kernel
theorem dgX5_deltaOf_18 : decode cX5_deltaOf 18 = .ok (.ishl, 1) := by decide +kernel
theorem dgX5_deltaOf_19 : decode cX5_deltaOf 19 = .ok (.ior, 1) := by decide +kernel
theorem dgX5_deltaOf_20 : decode cX5_deltaOf 20 = .ok (.istore_n 1, 1) := by decide +kernel
theorem dgX5_deltaOf_21 : decode cX5_deltaOf 21 = .ok (.iinc 2 1, 3) := by decide +kernel
theorem dgX5_deltaOf_24 : decode cX5_deltaOf 24 = .ok (.goto (-20), 3) := by decide +kernel
theorem dgX5_deltaOf_27 : decode cX5_deltaOf 27 = .ok (.iload_n 1, 1) := by decide +kernel
theorem dgX5_deltaOf_28 : decode cX5_deltaOf 28 = .ok (.ireturn, 1) := by decide +kernel
def wg_X5_deltaOf : List Cond := .code yX5_deltaOf cX5_deltaOf 3 (some .int) :: ([] ++ [])
set_option maxHeartbeats 4000000 in
set_option maxRecDepth 100000 in
theorem kg_X5_deltaOf (l : Launch) (dC : Nat → ClassId) (dI : Nat → Nat → Nat) (cI cB cJ cZ : ClassId) (n : Nat) (hn9 : n < 2 ^ 31) : Met l yX5_deltaOf wg_X5_deltaOf (({ frames := 0, cells := 0, slots := 0, locals := 0 } : Room)) (va_Pc [.int (nI n)] (fun U => va_P (dC, dI) vwCl [] U.heap ∧ va_K (dC, dI) vwCl [(cI, .int), (cB, .byte), (cJ, .long), (cZ, .boolean)] U)) (va_Qi (fun r (_ : Unit) => r = f5_de n n) (fun _ _ => True) (fun _ => False)) 0 0 (fun _ => False) := by
  refine Met.ofW (cc := cX5_deltaOf) (maxL := 3) (ret := (some .int)) (by decide) rfl ?_
  intro p e s m args below meth c s₁ B hml hv
  obtain ⟨rfl, hP, hK⟩ := hv
  have hx := B.exec
  have hb := B.bytes
  have hr := B.returns
  have hts := atoms_spec (ws := wg_X5_deltaOf) B.pre
  have hown : s.vm.findClass RX5 = some m.cls := findClass_of_methodNamed B.named
  have hlocks := B.notSynchronized
  have hS : va_S (fun _ => False) s.heap s.heap [] := va_S.rf
  have hP : va_P (dC, dI) vwCl [] s.heap := hP
  have hl := lv_entry ([.int (nI n)]) (n := 3) (Nat.le_of_ble_eq_true rfl)
  rw [lg_entry_eq]
  generalize (lg_sl ([.int (nI n)]) ++ List.replicate (3 - (lg_sl ([.int (nI n)])).length) Slot.unset).toArray = ls at hl ⊢
  have hl : lv_has ls 3 [(0, .int (nI n))] := hl
  refine ow_named (fun QQ hQQ => ?_)
  have L4 : ∀ (d i : Nat), i + d = n → ∀ (H : Heap) (locs : List Loc) (ls : Array Slot), va_P (dC, dI) vwCl [] H → va_S (fun _ => False) s.heap H locs → lv_has ls 3 [(0, .int (nI n)), (1, .int (f5_de n i)), (2, .int (nI i))] → W p l e ({ frames := 0, cells := 0, slots := 0, locals := 0 } : Room) s m ([.int (nI n)] : List Value).toArray below meth c H locs 0 0 QQ (F0 m 4 ls []) := by
    intro d
    induction d with
    | zero =>
      intro i hi H locs ls hP hS hl
      have hie : i = n := by omega
      refine lv_iload_n hx hb dgX5_deltaOf_4 rfl (lv_at hl 2 rfl) ?_
      refine lv_iload_n hx hb dgX5_deltaOf_5 rfl (lv_at hl 0 rfl) ?_
      refine lv_icmp_ge (tgt := 27) hx hb dgX5_deltaOf_6 (by decide) (fun _ => ?_) (fun c9 => absurd (nI_le (a := n) (b := i) (by omega) (by omega)) c9)
      refine lv_iload_n hx hb dgX5_deltaOf_27 rfl (lv_at hl 1 rfl) ?_
      rw [hQQ]
      exact W.iret (v := (f5_de n i)) hx hb hr (fun t ht hW => ⟨⟨(f5_de n i), (), rfl, by rw [hie], trivial⟩, hS.F ht⟩) hS.2.2 dgX5_deltaOf_28
    | succ d ih =>
      intro i hi H locs ls hP hS hl
      refine lv_iload_n hx hb dgX5_deltaOf_4 rfl (lv_at hl 2 rfl) ?_
      refine lv_iload_n hx hb dgX5_deltaOf_5 rfl (lv_at hl 0 rfl) ?_
      refine lv_icmp_ge (tgt := 27) hx hb dgX5_deltaOf_6 (by decide) (fun c9 => absurd c9 (nI_ge (a := i) (b := n) (by omega) (by omega))) (fun _ => ?_)
      refine lv_iload_n hx hb dgX5_deltaOf_9 rfl (lv_at hl 1 rfl) ?_
      refine lv_iload_n hx hb dgX5_deltaOf_10 rfl (lv_at hl 0 rfl) ?_
      refine lv_iconst (v := 1) hx hb dgX5_deltaOf_11 (by decide) ?_
      refine lv_isub hx hb dgX5_deltaOf_12 ?_
      refine lv_iload_n hx hb dgX5_deltaOf_13 rfl (lv_at hl 2 rfl) ?_
      refine lv_isub hx hb dgX5_deltaOf_14 ?_
      refine lv_iconst (v := 4) hx hb dgX5_deltaOf_15 (by decide) ?_
      refine lv_iload_n hx hb dgX5_deltaOf_16 rfl (lv_at hl 2 rfl) ?_
      refine lv_imul hx hb dgX5_deltaOf_17 ?_
      refine lv_ishl hx hb dgX5_deltaOf_18 ?_
      refine lv_ior hx hb dgX5_deltaOf_19 ?_
      refine lv_istore_n (lv' := [(1, .int ((f5_de n i) ||| ((((nI n) - 1) - (nI i)) <<< ((4 * (nI i)) &&& 31)))), (0, .int (nI n)), (2, .int (nI i))]) hx hb dgX5_deltaOf_20 rfl hl (by decide) rfl (fun ls hl => ?_)
      refine lv_iinc (v := nI (i + 1)) (lv' := [(2, .int (nI (i + 1))), (1, .int ((f5_de n i) ||| ((((nI n) - 1) - (nI i)) <<< ((4 * (nI i)) &&& 31)))), (0, .int (nI n))]) hx hb dgX5_deltaOf_21 hl (k := 2) rfl (nI_1 i) (by decide) rfl (fun ls hl => ?_)
      refine lv_goto (tgt := 4) hx hb dgX5_deltaOf_24 (by decide) ?_
      exact ih (i + 1) (by omega) H locs ls hP hS (lv_sub hl [2, 1, 0] rfl)
  refine lv_iconst (v := 0) hx hb dgX5_deltaOf_0 (by decide) ?_
  refine lv_istore_n (lv' := [(1, .int 0), (0, .int (nI n))]) hx hb dgX5_deltaOf_1 rfl hl (by decide) rfl (fun ls hl => ?_)
  refine lv_iconst (v := 0) hx hb dgX5_deltaOf_2 (by decide) ?_
  refine ow_topi (y := nI 0) (by decide) ?_
  refine lv_istore_n (lv' := [(2, .int (nI 0)), (1, .int 0), (0, .int (nI n))]) hx hb dgX5_deltaOf_3 rfl hl (by decide) rfl (fun ls hl => ?_)
  exact L4 n 0 (by omega) s.heap [] ls hP hS (lv_sub hl [2, 1, 0] rfl)
theorem dgX5_turned_0 : decode cX5_turned 0 = .ok (.iconst 0, 1) := by decide +kernel
theorem dgX5_turned_1 : decode cX5_turned 1 = .ok (.istore_n 2, 1) := by decide +kernel
theorem dgX5_turned_2 : decode cX5_turned 2 = .ok (.iconst 0, 1) := by decide +kernel
theorem dgX5_turned_3 : decode cX5_turned 3 = .ok (.istore_n 3, 1) := by decide +kernel
theorem dgX5_turned_4 : decode cX5_turned 4 = .ok (.iload_n 3, 1) := by decide +kernel
theorem dgX5_turned_5 : decode cX5_turned 5 = .ok (.iload_n 1, 1) := by decide +kernel
theorem dgX5_turned_6 : decode cX5_turned 6 = .ok (.if_icmp .ge 29, 3) := by decide +kernel
theorem dgX5_turned_9 : decode cX5_turned 9 = .ok (.iload_n 2, 1) := by decide +kernel
theorem dgX5_turned_10 : decode cX5_turned 10 = .ok (.iload_n 1, 1) := by decide +kernel
theorem dgX5_turned_11 : decode cX5_turned 11 = .ok (.iconst 1, 1) := by decide +kernel
theorem dgX5_turned_12 : decode cX5_turned 12 = .ok (.isub, 1) := by decide +kernel
theorem dgX5_turned_13 : decode cX5_turned 13 = .ok (.iload_n 0, 1) := by decide +kernel
theorem dgX5_turned_14 : decode cX5_turned 14 = .ok (.iload_n 1, 1) := by decide +kernel
theorem dgX5_turned_15 : decode cX5_turned 15 = .ok (.iconst 1, 1) := by decide +kernel
theorem dgX5_turned_16 : decode cX5_turned 16 = .ok (.isub, 1) := by decide +kernel
theorem dgX5_turned_17 : decode cX5_turned 17 = .ok (.iload_n 3, 1) := by decide +kernel
theorem dgX5_turned_18 : decode cX5_turned 18 = .ok (.isub, 1) := by decide +kernel
theorem dgX5_turned_19 : decode cX5_turned 19 = .ok (.invokestatic 15, 3) := by decide +kernel
theorem dgX5_turned_22 : decode cX5_turned 22 = .ok (.isub, 1) := by decide +kernel
theorem dgX5_turned_23 : decode cX5_turned 23 = .ok (.iconst 4, 1) := by decide +kernel
theorem dgX5_turned_24 : decode cX5_turned 24 = .ok (.iload_n 3, 1) := by decide +kernel
theorem dgX5_turned_25 : decode cX5_turned 25 = .ok (.imul, 1) := by decide +kernel
theorem dgX5_turned_26 : decode cX5_turned 26 = .ok (.ishl, 1) := by decide +kernel
theorem dgX5_turned_27 : decode cX5_turned 27 = .ok (.ior, 1) := by decide +kernel
theorem dgX5_turned_28 : decode cX5_turned 28 = .ok (.istore_n 2, 1) := by decide +kernel
theorem dgX5_turned_29 : decode cX5_turned 29 = .ok (.iinc 3 1, 3) := by decide +kernel
theorem dgX5_turned_32 : decode cX5_turned 32 = .ok (.goto (-28), 3) := by decide +kernel
theorem dgX5_turned_35 : decode cX5_turned 35 = .ok (.iload_n 2, 1) := by decide +kernel
theorem dgX5_turned_36 : decode cX5_turned 36 = .ok (.ireturn, 1) := by decide +kernel
def wg_X5_turned : List Cond := .code yX5_turned cX5_turned 4 (some .int) :: ([] ++ (va_wsS RX5 15 yX5_image wg_X5_image ++ []))
theorem gg_X5_turned_0 : GoodIn wg_X5_turned (va_wsS RX5 15 yX5_image wg_X5_image) := goodIn_sub (fun _ h => List.mem_cons_of_mem _ (List.mem_append_right _ (List.mem_append_left _ h))) (by decide +kernel)
set_option maxHeartbeats 4000000 in
set_option maxRecDepth 100000 in
theorem kg_X5_turned (l : Launch) (dC : Nat → ClassId) (dI : Nat → Nat → Nat) (cI cB cJ cZ : ClassId) (a : Int32) (n : Nat) (hn9 : n < 2 ^ 31) : Met l yX5_turned wg_X5_turned (({ frames := 1, cells := 0, slots := 0, locals := 40 } : Room)) (va_Pc [.int a, .int (nI n)] (fun U => va_P (dC, dI) vwCl [] U.heap ∧ va_K (dC, dI) vwCl [(cI, .int), (cB, .byte), (cJ, .long), (cZ, .boolean)] U)) (va_Qi (fun r (_ : Unit) => r = f5_tu a n n) (fun _ _ => True) (fun _ => False)) 0 0 (fun _ => False) := by
  refine Met.ofW (cc := cX5_turned) (maxL := 4) (ret := (some .int)) (by decide) rfl ?_
  intro p e s m args below meth c s₁ B hml hv
  obtain ⟨rfl, hP, hK⟩ := hv
  have hx := B.exec
  have hb := B.bytes
  have hr := B.returns
  have hts := atoms_spec (ws := wg_X5_turned) B.pre
  have hown : s.vm.findClass RX5 = some m.cls := findClass_of_methodNamed B.named
  have hlocks := B.notSynchronized
  have hS : va_S (fun _ => False) s.heap s.heap [] := va_S.rf
  have hP : va_P (dC, dI) vwCl [] s.heap := hP
  have hl := lv_entry ([.int a, .int (nI n)]) (n := 4) (Nat.le_of_ble_eq_true rfl)
  rw [lg_entry_eq]
  generalize (lg_sl ([.int a, .int (nI n)]) ++ List.replicate (4 - (lg_sl ([.int a, .int (nI n)])).length) Slot.unset).toArray = ls at hl ⊢
  have hl : lv_has ls 4 [(0, .int a), (1, .int (nI n))] := hl
  refine ow_named (fun QQ hQQ => ?_)
  have L4 : ∀ (d i : Nat), i + d = n → ∀ (H : Heap) (locs : List Loc) (ls : Array Slot), va_P (dC, dI) vwCl [] H → va_S (fun _ => False) s.heap H locs → lv_has ls 4 [(0, .int a), (1, .int (nI n)), (2, .int (f5_tu a n i)), (3, .int (nI i))] → W p l e ({ frames := 1, cells := 0, slots := 0, locals := 40 } : Room) s m ([.int a, .int (nI n)] : List Value).toArray below meth c H locs 0 0 QQ (F0 m 4 ls []) := by
    intro d
    induction d with
    | zero =>
      intro i hi H locs ls hP hS hl
      have hie : i = n := by omega
      refine lv_iload_n hx hb dgX5_turned_4 rfl (lv_at hl 3 rfl) ?_
      refine lv_iload_n hx hb dgX5_turned_5 rfl (lv_at hl 1 rfl) ?_
      refine lv_icmp_ge (tgt := 35) hx hb dgX5_turned_6 (by decide) (fun _ => ?_) (fun c9 => absurd (nI_le (a := n) (b := i) (by omega) (by omega)) c9)
      refine lv_iload_n hx hb dgX5_turned_35 rfl (lv_at hl 2 rfl) ?_
      rw [hQQ]
      exact W.iret (v := (f5_tu a n i)) hx hb hr (fun t ht hW => ⟨⟨(f5_tu a n i), (), rfl, by rw [hie], trivial⟩, hS.F ht⟩) hS.2.2 dgX5_turned_36
    | succ d ih =>
      intro i hi H locs ls hP hS hl
      refine lv_iload_n hx hb dgX5_turned_4 rfl (lv_at hl 3 rfl) ?_
      refine lv_iload_n hx hb dgX5_turned_5 rfl (lv_at hl 1 rfl) ?_
      refine lv_icmp_ge (tgt := 35) hx hb dgX5_turned_6 (by decide) (fun c9 => absurd c9 (nI_ge (a := i) (b := n) (by omega) (by omega))) (fun _ => ?_)
      refine lv_iload_n hx hb dgX5_turned_9 rfl (lv_at hl 2 rfl) ?_
      refine lv_iload_n hx hb dgX5_turned_10 rfl (lv_at hl 1 rfl) ?_
      refine lv_iconst (v := 1) hx hb dgX5_turned_11 (by decide) ?_
      refine lv_isub hx hb dgX5_turned_12 ?_
      refine lv_iload_n hx hb dgX5_turned_13 rfl (lv_at hl 0 rfl) ?_
      refine lv_iload_n hx hb dgX5_turned_14 rfl (lv_at hl 1 rfl) ?_
      refine lv_iconst (v := 1) hx hb dgX5_turned_15 (by decide) ?_
      refine lv_isub hx hb dgX5_turned_16 ?_
      refine lv_iload_n hx hb dgX5_turned_17 rfl (lv_at hl 3 rfl) ?_
      refine lv_isub hx hb dgX5_turned_18 ?_
      have hPc := hP.sub (ws' := []) [] rfl
      refine va_calli (va_runS (As := [.int a, .int (nI n - 1 - nI i)]) (rest := [.int ((nI n) - 1), .int (f5_tu a n i)]) ⟨hx, hb, hml, hown, hts⟩ (kg_X5_image l dC dI cI cB cJ cZ a (nI n - 1 - nI i)) (va_cwS 2 hts gg_X5_turned_0 rfl rfl rfl (by decide +kernel) ⟨(Nat.le_of_ble_eq_true rfl), (Nat.le_of_ble_eq_true rfl)⟩) ⟨fun a U g mk q => by obtain ⟨q0, qP, qK⟩ := q; exact ⟨q0, qP, va_K.moved (u := U) (U := U.calling g mk a) (Vm.Alike.refl U.vm) qK⟩, fun U hU hW => ⟨rfl, by rw [hU]; exact hPc, va_K.moved hW.alike hK⟩⟩ rfl rfl hl.1 rfl (lv_room (Nat.le_of_ble_eq_true rfl)) dgX5_turned_19 ⟨(Nat.le_of_ble_eq_true rfl), (Nat.le_of_ble_eq_true rfl)⟩) hS (fun q _ h => h.elim) (fun q h => h.elim) (fun ri9 un t H1 locs ht hvm hw9 hB hz1 hk1 hS => ?_)
      have hP := hP.kept (fun k9 x9 h9 => hk1 x9.1 ((hP k9 x9 h9).lt) id)
      generalize H1 = H at hP hS ⊢
      obtain rfl : ri9 = f5_im a (nI n - 1 - nI i) := hw9
      refine lv_isub hx hb dgX5_turned_22 ?_
      refine lv_iconst (v := 4) hx hb dgX5_turned_23 (by decide) ?_
      refine lv_iload_n hx hb dgX5_turned_24 rfl (lv_at hl 3 rfl) ?_
      refine lv_imul hx hb dgX5_turned_25 ?_
      refine lv_ishl hx hb dgX5_turned_26 ?_
      refine lv_ior hx hb dgX5_turned_27 ?_
      refine lv_istore_n (lv' := [(2, .int ((f5_tu a n i) ||| ((((nI n) - 1) - (f5_im a (nI n - 1 - nI i))) <<< ((4 * (nI i)) &&& 31)))), (0, .int a), (1, .int (nI n)), (3, .int (nI i))]) hx hb dgX5_turned_28 rfl hl (by decide) rfl (fun ls hl => ?_)
      refine lv_iinc (v := nI (i + 1)) (lv' := [(3, .int (nI (i + 1))), (2, .int ((f5_tu a n i) ||| ((((nI n) - 1) - (f5_im a (nI n - 1 - nI i))) <<< ((4 * (nI i)) &&& 31)))), (0, .int a), (1, .int (nI n))]) hx hb dgX5_turned_29 hl (k := 3) rfl (nI_1 i) (by decide) rfl (fun ls hl => ?_)
      refine lv_goto (tgt := 4) hx hb dgX5_turned_32 (by decide) ?_
      exact ih (i + 1) (by omega) H locs ls hP hS (lv_sub hl [2, 3, 1, 0] rfl)
  refine lv_iconst (v := 0) hx hb dgX5_turned_0 (by decide) ?_
  refine lv_istore_n (lv' := [(2, .int 0), (0, .int a), (1, .int (nI n))]) hx hb dgX5_turned_1 rfl hl (by decide) rfl (fun ls hl => ?_)
  refine lv_iconst (v := 0) hx hb dgX5_turned_2 (by decide) ?_
  refine ow_topi (y := nI 0) (by decide) ?_
  refine lv_istore_n (lv' := [(3, .int (nI 0)), (2, .int 0), (0, .int a), (1, .int (nI n))]) hx hb dgX5_turned_3 rfl hl (by decide) rfl (fun ls hl => ?_)
  exact L4 n 0 (by omega) s.heap [] ls hP hS (lv_sub hl [2, 3, 1, 0] rfl)
theorem dgX5_exchanged_0 : decode cX5_exchanged 0 = .ok (.iload_n 0, 1) := by decide +kernel
theorem dgX5_exchanged_1 : decode cX5_exchanged 1 = .ok (.iload_n 1, 1) := by decide +kernel
theorem dgX5_exchanged_2 : decode cX5_exchanged 2 = .ok (.invokestatic 15, 3) := by decide +kernel
theorem dgX5_exchanged_5 : decode cX5_exchanged 5 = .ok (.iload_n 0, 1) := by decide +kernel
theorem dgX5_exchanged_6 : decode cX5_exchanged 6 = .ok (.iload_n 1, 1) := by decide +kernel
theorem dgX5_exchanged_7 : decode cX5_exchanged 7 = .ok (.iconst 1, 1) := by decide +kernel
theorem dgX5_exchanged_8 : decode cX5_exchanged 8 = .ok (.iadd, 1) := by decide +kernel
theorem dgX5_exchanged_9 : decode cX5_exchanged 9 = .ok (.invokestatic 15, 3) := by decide +kernel
theorem dgX5_exchanged_12 : decode cX5_exchanged 12 = .ok (.ixor, 1) := by decide +kernel
theorem dgX5_exchanged_13 : decode cX5_exchanged 13 = .ok (.istore_n 2, 1) := by decide +kernel
theorem dgX5_exchanged_14 : decode cX5_exchanged 14 = .ok (.iload_n 0, 1) := by decide +kernel
theorem dgX5_exchanged_15 : decode cX5_exchanged 15 = .ok (.iload_n 2, 1) := by decide +kernel
theorem dgX5_exchanged_16 : decode cX5_exchanged 16 = .ok (.iconst 4, 1) := by decide +kernel
theorem dgX5_exchanged_17 : decode cX5_exchanged 17 = .ok (.iload_n 1, 1) := by decide +kernel
theorem dgX5_exchanged_18 : decode cX5_exchanged 18 = .ok (.imul, 1) := by decide +kernel
theorem dgX5_exchanged_19 : decode cX5_exchanged 19 = .ok (.ishl, 1) := by decide +kernel
theorem dgX5_exchanged_20 : decode cX5_exchanged 20 = .ok (.ixor, 1) := by decide +kernel
theorem dgX5_exchanged_21 : decode cX5_exchanged 21 = .ok (.iload_n 2, 1) := by decide +kernel
theorem dgX5_exchanged_22 : decode cX5_exchanged 22 = .ok (.iconst 4, 1) := by decide +kernel
theorem dgX5_exchanged_23 : decode cX5_exchanged 23 = .ok (.iload_n 1, 1) := by decide +kernel
theorem dgX5_exchanged_24 : decode cX5_exchanged 24 = .ok (.iconst 1, 1) := by decide +kernel
theorem dgX5_exchanged_25 : decode cX5_exchanged 25 = .ok (.iadd, 1) := by decide +kernel
theorem dgX5_exchanged_26 : decode cX5_exchanged 26 = .ok (.imul, 1) := by decide +kernel
theorem dgX5_exchanged_27 : decode cX5_exchanged 27 = .ok (.ishl, 1) := by decide +kernel
theorem dgX5_exchanged_28 : decode cX5_exchanged 28 = .ok (.ixor, 1) := by decide +kernel
theorem dgX5_exchanged_29 : decode cX5_exchanged 29 = .ok (.ireturn, 1) := by decide +kernel
def wg_X5_exchanged : List Cond := .code yX5_exchanged cX5_exchanged 3 (some .int) :: ([] ++ (va_wsS RX5 15 yX5_image wg_X5_image ++ []))
theorem gg_X5_exchanged_0 : GoodIn wg_X5_exchanged (va_wsS RX5 15 yX5_image wg_X5_image) := goodIn_sub (fun _ h => List.mem_cons_of_mem _ (List.mem_append_right _ (List.mem_append_left _ h))) (by decide +kernel)
set_option maxHeartbeats 4000000 in
set_option maxRecDepth 100000 in
theorem kg_X5_exchanged (l : Launch) (dC : Nat → ClassId) (dI : Nat → Nat → Nat) (cI cB cJ cZ : ClassId) (a q : Int32) : Met l yX5_exchanged wg_X5_exchanged (({ frames := 1, cells := 0, slots := 0, locals := 40 } : Room)) (va_Pc [.int a, .int q] (fun U => va_P (dC, dI) vwCl [] U.heap ∧ va_K (dC, dI) vwCl [(cI, .int), (cB, .byte), (cJ, .long), (cZ, .boolean)] U)) (va_Qi (fun r (_ : Unit) => r = f5_ex a q) (fun _ _ => True) (fun _ => False)) 0 0 (fun _ => False) := by
  refine Met.ofW (cc := cX5_exchanged) (maxL := 3) (ret := (some .int)) (by decide) rfl ?_
  intro p e s m args below meth c s₁ B hml hv
  obtain ⟨rfl, hP, hK⟩ := hv
  have hx := B.exec
  have hb := B.bytes
  have hr := B.returns
  have hts := atoms_spec (ws := wg_X5_exchanged) B.pre
  have hown : s.vm.findClass RX5 = some m.cls := findClass_of_methodNamed B.named
  have hlocks := B.notSynchronized
  have hS : va_S (fun _ => False) s.heap s.heap [] := va_S.rf
  have hP : va_P (dC, dI) vwCl [] s.heap := hP
  have hl := lv_entry ([.int a, .int q]) (n := 3) (Nat.le_of_ble_eq_true rfl)
  rw [lg_entry_eq]
  generalize (lg_sl ([.int a, .int q]) ++ List.replicate (3 - (lg_sl ([.int a, .int q])).length) Slot.unset).toArray = ls at hl ⊢
  have hl : lv_has ls 3 [(0, .int a), (1, .int q)] := hl
  refine ow_named (fun QQ hQQ => ?_)
  refine lv_iload_n hx hb dgX5_exchanged_0 rfl (lv_at hl 0 rfl) ?_
  refine lv_iload_n hx hb dgX5_exchanged_1 rfl (lv_at hl 1 rfl) ?_
  have hPc := hP.sub (ws' := []) [] rfl
  refine va_calli (va_runS (As := [.int a, .int q]) (rest := []) ⟨hx, hb, hml, hown, hts⟩ (kg_X5_image l dC dI cI cB cJ cZ a q) (va_cwS 2 hts gg_X5_exchanged_0 rfl rfl rfl (by decide +kernel) ⟨(Nat.le_of_ble_eq_true rfl), (Nat.le_of_ble_eq_true rfl)⟩) ⟨fun a U g mk q => by obtain ⟨q0, qP, qK⟩ := q; exact ⟨q0, qP, va_K.moved (u := U) (U := U.calling g mk a) (Vm.Alike.refl U.vm) qK⟩, fun U hU hW => ⟨rfl, by rw [hU]; exact hPc, va_K.moved hW.alike hK⟩⟩ rfl rfl hl.1 rfl (lv_room (Nat.le_of_ble_eq_true rfl)) dgX5_exchanged_2 ⟨(Nat.le_of_ble_eq_true rfl), (Nat.le_of_ble_eq_true rfl)⟩) hS (fun q _ h => h.elim) (fun q h => h.elim) (fun ri2 un t H1 locs ht hvm hw9 hB hz1 hk1 hS => ?_)
  have hP := hP.kept (fun k9 x9 h9 => hk1 x9.1 ((hP k9 x9 h9).lt) id)
  generalize H1 = H at hP hS ⊢
  obtain rfl : ri2 = f5_im a q := hw9
  refine lv_iload_n hx hb dgX5_exchanged_5 rfl (lv_at hl 0 rfl) ?_
  refine lv_iload_n hx hb dgX5_exchanged_6 rfl (lv_at hl 1 rfl) ?_
  refine lv_iconst (v := 1) hx hb dgX5_exchanged_7 (by decide) ?_
  refine lv_iadd hx hb dgX5_exchanged_8 ?_
  have hPc := hP.sub (ws' := []) [] rfl
  refine va_calli (va_runS (As := [.int a, .int (q + 1)]) (rest := [.int (f5_im a q)]) ⟨hx, hb, hml, hown, hts⟩ (kg_X5_image l dC dI cI cB cJ cZ a (q + 1)) (va_cwS 2 hts gg_X5_exchanged_0 rfl rfl rfl (by decide +kernel) ⟨(Nat.le_of_ble_eq_true rfl), (Nat.le_of_ble_eq_true rfl)⟩) ⟨fun a U g mk q => by obtain ⟨q0, qP, qK⟩ := q; exact ⟨q0, qP, va_K.moved (u := U) (U := U.calling g mk a) (Vm.Alike.refl U.vm) qK⟩, fun U hU hW => ⟨rfl, by rw [hU]; exact hPc, va_K.moved hW.alike hK⟩⟩ rfl rfl hl.1 rfl (lv_room (Nat.le_of_ble_eq_true rfl)) dgX5_exchanged_9 ⟨(Nat.le_of_ble_eq_true rfl), (Nat.le_of_ble_eq_true rfl)⟩) hS (fun q _ h => h.elim) (fun q h => h.elim) (fun ri9 un t H1 locs ht hvm hw9 hB hz1 hk1 hS => ?_)
  have hP := hP.kept (fun k9 x9 h9 => hk1 x9.1 ((hP k9 x9 h9).lt) id)
  generalize H1 = H at hP hS ⊢
  obtain rfl : ri9 = f5_im a (q + 1) := hw9
  refine lv_ixor hx hb dgX5_exchanged_12 ?_
  refine ow_topi (y := f5_bo a q) (rfl) ?_
  refine lv_istore_n (lv' := [(2, .int (f5_bo a q)), (0, .int a), (1, .int q)]) hx hb dgX5_exchanged_13 rfl hl (by decide) rfl (fun ls hl => ?_)
  refine lv_iload_n hx hb dgX5_exchanged_14 rfl (lv_at hl 1 rfl) ?_
  refine lv_iload_n hx hb dgX5_exchanged_15 rfl (lv_at hl 0 rfl) ?_
  refine lv_iconst (v := 4) hx hb dgX5_exchanged_16 (by decide) ?_
  refine lv_iload_n hx hb dgX5_exchanged_17 rfl (lv_at hl 2 rfl) ?_
  refine lv_imul hx hb dgX5_exchanged_18 ?_
  refine lv_ishl hx hb dgX5_exchanged_19 ?_
  refine lv_ixor hx hb dgX5_exchanged_20 ?_
  refine lv_iload_n hx hb dgX5_exchanged_21 rfl (lv_at hl 0 rfl) ?_
  refine lv_iconst (v := 4) hx hb dgX5_exchanged_22 (by decide) ?_
  refine lv_iload_n hx hb dgX5_exchanged_23 rfl (lv_at hl 2 rfl) ?_
  refine lv_iconst (v := 1) hx hb dgX5_exchanged_24 (by decide) ?_
  refine lv_iadd hx hb dgX5_exchanged_25 ?_
  refine lv_imul hx hb dgX5_exchanged_26 ?_
  refine lv_ishl hx hb dgX5_exchanged_27 ?_
  refine lv_ixor hx hb dgX5_exchanged_28 ?_
  rw [hQQ]
  exact W.iret (v := ((a ^^^ ((f5_bo a q) <<< ((4 * q) &&& 31))) ^^^ ((f5_bo a q) <<< ((4 * (q + 1)) &&& 31)))) hx hb hr (fun t ht hW => ⟨⟨((a ^^^ ((f5_bo a q) <<< ((4 * q) &&& 31))) ^^^ ((f5_bo a q) <<< ((4 * (q + 1)) &&& 31))), (), rfl, rfl, trivial⟩, hS.F ht⟩) hS.2.2 dgX5_exchanged_29
theorem dgX5_exchangedBehind_0 : decode cX5_exchangedBehind 0 = .ok (.iload_n 0, 1) := by decide +kernel
theorem dgX5_exchangedBehind_1 : decode cX5_exchangedBehind 1 = .ok (.iload_n 2, 1) := by decide +kernel
theorem dgX5_exchangedBehind_2 : decode cX5_exchangedBehind 2 = .ok (.invokestatic 19, 3) := by decide +kernel
theorem dgX5_exchangedBehind_5 : decode cX5_exchangedBehind 5 = .ok (.iload_n 1, 1) := by decide +kernel
theorem dgX5_exchangedBehind_6 : decode cX5_exchangedBehind 6 = .ok (.invokestatic 22, 3) := by decide +kernel
theorem dgX5_exchangedBehind_9 : decode cX5_exchangedBehind 9 = .ok (.iload_n 2, 1) := by decide +kernel
theorem dgX5_exchangedBehind_10 : decode cX5_exchangedBehind 10 = .ok (.invokestatic 19, 3) := by decide +kernel
theorem dgX5_exchangedBehind_13 : decode cX5_exchangedBehind 13 = .ok (.ireturn, 1) := by decide +kernel
def wg_X5_exchangedBehind : List Cond := .code yX5_exchangedBehind cX5_exchangedBehind 3 (some .int) :: ([] ++ (va_wsS RX5 19 yX5_invert wg_X5_invert ++ (va_wsS RX5 22 yX5_exchanged wg_X5_exchanged ++ [])))
theorem gg_X5_exchangedBehind_0 : GoodIn wg_X5_exchangedBehind (va_wsS RX5 19 yX5_invert wg_X5_invert) := goodIn_sub (fun _ h => List.mem_cons_of_mem _ (List.mem_append_right _ (List.mem_append_left _ h))) (by decide +kernel)
theorem gg_X5_exchangedBehind_1 : GoodIn wg_X5_exchangedBehind (va_wsS RX5 22 yX5_exchanged wg_X5_exchanged) := goodIn_sub (fun _ h => List.mem_cons_of_mem _ (List.mem_append_right _ (List.mem_append_right _ (List.mem_append_left _ h)))) (by decide +kernel)
set_option maxHeartbeats 4000000 in
set_option maxRecDepth 100000 in
theorem kg_X5_exchangedBehind (l : Launch) (dC : Nat → ClassId) (dI : Nat → Nat → Nat) (cI cB cJ cZ : ClassId) (a q : Int32) (n : Nat) (hn9 : n < 2 ^ 31) : Met l yX5_exchangedBehind wg_X5_exchangedBehind (({ frames := 2, cells := 0, slots := 0, locals := 80 } : Room)) (va_Pc [.int a, .int q, .int (nI n)] (fun U => va_P (dC, dI) vwCl [] U.heap ∧ va_K (dC, dI) vwCl [(cI, .int), (cB, .byte), (cJ, .long), (cZ, .boolean)] U)) (va_Qi (fun r (_ : Unit) => r = f5_eb a q n) (fun _ _ => True) (fun _ => False)) 0 0 (fun _ => False) := by
  refine Met.ofW (cc := cX5_exchangedBehind) (maxL := 3) (ret := (some .int)) (by decide) rfl ?_
  intro p e s m args below meth c s₁ B hml hv
  obtain ⟨rfl, hP, hK⟩ := hv
  have hx := B.exec
  have hb := B.bytes
  have hr := B.returns
  have hts := atoms_spec (ws := wg_X5_exchangedBehind) B.pre
  have hown : s.vm.findClass RX5 = some m.cls := findClass_of_methodNamed B.named
  have hlocks := B.notSynchronized
  have hS : va_S (fun _ => False) s.heap s.heap [] := va_S.rf
  have hP : va_P (dC, dI) vwCl [] s.heap := hP
  have hl := lv_entry ([.int a, .int q, .int (nI n)]) (n := 3) (Nat.le_of_ble_eq_true rfl)
  rw [lg_entry_eq]
  generalize (lg_sl ([.int a, .int q, .int (nI n)]) ++ List.replicate (3 - (lg_sl ([.int a, .int q, .int (nI n)])).length) Slot.unset).toArray = ls at hl ⊢
  have hl : lv_has ls 3 [(0, .int a), (1, .int q), (2, .int (nI n))] := hl
  refine ow_named (fun QQ hQQ => ?_)
  refine lv_iload_n hx hb dgX5_exchangedBehind_0 rfl (lv_at hl 0 rfl) ?_
  refine lv_iload_n hx hb dgX5_exchangedBehind_1 rfl (lv_at hl 2 rfl) ?_
  have hPc := hP.sub (ws' := []) [] rfl
  refine va_calli (va_runS (As := [.int a, .int (nI n)]) (rest := []) ⟨hx, hb, hml, hown, hts⟩ (kg_X5_invert l dC dI cI cB cJ cZ a n hn9) (va_cwS 2 hts gg_X5_exchangedBehind_0 rfl rfl rfl (by decide +kernel) ⟨(Nat.le_of_ble_eq_true rfl), (Nat.le_of_ble_eq_true rfl)⟩) ⟨fun a U g mk q => by obtain ⟨q0, qP, qK⟩ := q; exact ⟨q0, qP, va_K.moved (u := U) (U := U.calling g mk a) (Vm.Alike.refl U.vm) qK⟩, fun U hU hW => ⟨rfl, by rw [hU]; exact hPc, va_K.moved hW.alike hK⟩⟩ rfl rfl hl.1 rfl (lv_room (Nat.le_of_ble_eq_true rfl)) dgX5_exchangedBehind_2 ⟨(Nat.le_of_ble_eq_true rfl), (Nat.le_of_ble_eq_true rfl)⟩) hS (fun q _ h => h.elim) (fun q h => h.elim) (fun ra1 un t H1 locs ht hvm hw9 hB hz1 hk1 hS => ?_)
  have hP := hP.kept (fun k9 x9 h9 => hk1 x9.1 ((hP k9 x9 h9).lt) id)
  generalize H1 = H at hP hS ⊢
  obtain rfl : ra1 = f5_inv a n := hw9
  refine lv_iload_n hx hb dgX5_exchangedBehind_5 rfl (lv_at hl 1 rfl) ?_
  have hPc := hP.sub (ws' := []) [] rfl
  refine va_calli (va_runS (As := [.int (f5_inv a n), .int q]) (rest := []) ⟨hx, hb, hml, hown, hts⟩ (kg_X5_exchanged l dC dI cI cB cJ cZ (f5_inv a n) q) (va_cwS 2 hts gg_X5_exchangedBehind_1 rfl rfl rfl (by decide +kernel) ⟨(Nat.le_of_ble_eq_true rfl), (Nat.le_of_ble_eq_true rfl)⟩) ⟨fun a U g mk q => by obtain ⟨q0, qP, qK⟩ := q; exact ⟨q0, qP, va_K.moved (u := U) (U := U.calling g mk a) (Vm.Alike.refl U.vm) qK⟩, fun U hU hW => ⟨rfl, by rw [hU]; exact hPc, va_K.moved hW.alike hK⟩⟩ rfl rfl hl.1 rfl (lv_room (Nat.le_of_ble_eq_true rfl)) dgX5_exchangedBehind_6 ⟨(Nat.le_of_ble_eq_true rfl), (Nat.le_of_ble_eq_true rfl)⟩) hS (fun q _ h => h.elim) (fun q h => h.elim) (fun ra2 un t H1 locs ht hvm hw9 hB hz1 hk1 hS => ?_)
  have hP := hP.kept (fun k9 x9 h9 => hk1 x9.1 ((hP k9 x9 h9).lt) id)
  generalize H1 = H at hP hS ⊢
  obtain rfl : ra2 = f5_ex (f5_inv a n) q := hw9
  refine lv_iload_n hx hb dgX5_exchangedBehind_9 rfl (lv_at hl 2 rfl) ?_
  have hPc := hP.sub (ws' := []) [] rfl
  refine va_calli (va_runS (As := [.int (f5_ex (f5_inv a n) q), .int (nI n)]) (rest := []) ⟨hx, hb, hml, hown, hts⟩ (kg_X5_invert l dC dI cI cB cJ cZ (f5_ex (f5_inv a n) q) n hn9) (va_cwS 2 hts gg_X5_exchangedBehind_0 rfl rfl rfl (by decide +kernel) ⟨(Nat.le_of_ble_eq_true rfl), (Nat.le_of_ble_eq_true rfl)⟩) ⟨fun a U g mk q => by obtain ⟨q0, qP, qK⟩ := q; exact ⟨q0, qP, va_K.moved (u := U) (U := U.calling g mk a) (Vm.Alike.refl U.vm) qK⟩, fun U hU hW => ⟨rfl, by rw [hU]; exact hPc, va_K.moved hW.alike hK⟩⟩ rfl rfl hl.1 rfl (lv_room (Nat.le_of_ble_eq_true rfl)) dgX5_exchangedBehind_10 ⟨(Nat.le_of_ble_eq_true rfl), (Nat.le_of_ble_eq_true rfl)⟩) hS (fun q _ h => h.elim) (fun q h => h.elim) (fun ra3 un t H1 locs ht hvm hw9 hB hz1 hk1 hS => ?_)
  have hP := hP.kept (fun k9 x9 h9 => hk1 x9.1 ((hP k9 x9 h9).lt) id)
  generalize H1 = H at hP hS ⊢
  obtain rfl : ra3 = f5_eb a q n := hw9
  rw [hQQ]
  exact W.iret (v := (f5_eb a q n)) hx hb hr (fun t ht hW => ⟨⟨(f5_eb a q n), (), rfl, rfl, trivial⟩, hS.F ht⟩) hS.2.2 dgX5_exchangedBehind_13
theorem dgX5_movable_0 : decode cX5_movable 0 = .ok (.iconst 0, 1) := by decide +kernel
theorem dgX5_movable_1 : decode cX5_movable 1 = .ok (.istore_n 3, 1) := by decide +kernel
theorem dgX5_movable_2 : decode cX5_movable 2 = .ok (.iload_n 3, 1) := by decide +kernel
theorem dgX5_movable_3 : decode cX5_movable 3 = .ok (.aload_n 0, 1) := by decide +kernel
theorem dgX5_movable_4 : decode cX5_movable 4 = .ok (.getfield 25, 3) := by decide +kernel
theorem dgX5_movable_7 : decode cX5_movable 7 = .ok (.iconst 1, 1) := by decide +kernel
theorem dgX5_movable_8 : decode cX5_movable 8 = .ok (.isub, 1) := by decide +kernel
theorem dgX5_movable_9 : decode cX5_movable 9 = .ok (.if_icmp .ge 41, 3) := by decide +kernel
theorem dgX5_movable_12 : decode cX5_movable 12 = .ok (.iload_n 2, 1) := by decide +kernel
theorem dgX5_movable_13 : decode cX5_movable 13 = .ok (.iload_n 3, 1) := by decide +kernel
theorem dgX5_movable_14 : decode cX5_movable 14 = .ok (.invokestatic 15, 3) := by decide +kernel
theorem dgX5_movable_17 : decode cX5_movable 17 = .ok (.iload_n 2, 1) := by decide +kernel
theorem dgX5_movable_18 : decode cX5_movable 18 = .ok (.iload_n 3, 1) := by decide +kernel
theorem dgX5_movable_19 : decode cX5_movable 19 = .ok (.iconst 1, 1) := by decide +kernel
theorem dgX5_movable_20 : decode cX5_movable 20 = .ok (.iadd, 1) := by decide +kernel
theorem dgX5_movable_21 : decode cX5_movable 21 = .ok (.invokestatic 15, 3) := by decide +kernel
theorem dgX5_movable_24 : decode cX5_movable 24 = .ok (.if_icmp .le 20, 3) := by decide +kernel
theorem dgX5_movable_27 : decode cX5_movable 27 = .ok (.iload_n 1, 1) := by decide +kernel
theorem dgX5_movable_28 : decode cX5_movable 28 = .ok (.iload_n 3, 1) := by decide +kernel
theorem dgX5_movable_29 : decode cX5_movable 29 = .ok (.invokestatic 15, 3) := by decide +kernel
theorem dgX5_movable_32 : decode cX5_movable 32 = .ok (.iload_n 1, 1) := by decide +kernel
theorem dgX5_movable_33 : decode cX5_movable 33 = .ok (.iload_n 3, 1) := by decide +kernel
theorem dgX5_movable_34 : decode cX5_movable 34 = .ok (.iconst 1, 1) := by decide +kernel
theorem dgX5_movable_35 : decode cX5_movable 35 = .ok (.iadd, 1) := by decide +kernel
theorem dgX5_movable_36 : decode cX5_movable 36 = .ok (.invokestatic 15, 3) := by decide +kernel
theorem dgX5_movable_39 : decode cX5_movable 39 = .ok (.if_icmp .ge 5, 3) := by decide +kernel
theorem dgX5_movable_42 : decode cX5_movable 42 = .ok (.iload_n 3, 1) := by decide +kernel
theorem dgX5_movable_43 : decode cX5_movable 43 = .ok (.ireturn, 1) := by decide +kernel
theorem dgX5_movable_44 : decode cX5_movable 44 = .ok (.iinc 3 1, 3) := by decide +kernel
theorem dgX5_movable_47 : decode cX5_movable 47 = .ok (.goto (-45), 3) := by decide +kernel
theorem dgX5_movable_50 : decode cX5_movable 50 = .ok (.iconst (-1), 1) := by decide +kernel
theorem dgX5_movable_51 : decode cX5_movable 51 = .ok (.ireturn, 1) := by decide +kernel
def wg_X5_movable : List Cond := .code yX5_movable cX5_movable 4 (some .int) :: (([.fieldLink RX5 25 "KnotHouse$Form" "strands" "I"] ++ wsX50) ++ (va_wsS RX5 15 yX5_image wg_X5_image ++ []))
theorem gg_X5_movable_0 : GoodIn wg_X5_movable (va_wsS RX5 15 yX5_image wg_X5_image) := goodIn_sub (fun _ h => List.mem_cons_of_mem _ (List.mem_append_right _ (List.mem_append_left _ h))) (by decide +kernel)
set_option maxHeartbeats 4000000 in
set_option maxRecDepth 100000 in
theorem kg_X5_movable (l : Launch) (dC : Nat → ClassId) (dI : Nat → Nat → Nat) (cI cB cJ cZ : ClassId) (aO fc n : Nat) (hn1 : 1 ≤ n) (hn9 : n < 100) (idn den : Int32) (pw : Int32) (ln : Nat) (u w : Int32) : Met l yX5_movable wg_X5_movable (({ frames := 1, cells := 0, slots := 0, locals := 40 } : Room)) (va_Pc [.ref aO, .int u, .int w] (fun U => va_P (dC, dI) vwCl [(aO, .inr (8, [.int (nI n), .int pw, .int (nI ln), .ref fc, .int idn, .int den]))] U.heap ∧ va_K (dC, dI) vwCl [(cI, .int), (cB, .byte), (cJ, .long), (cZ, .boolean)] U)) (va_Qi (fun r (_ : Unit) => r = onI (f5_mv u w (n - 1) 0)) (fun _ _ => True) (fun _ => False)) 0 0 (fun _ => False) := by
  refine Met.ofW (cc := cX5_movable) (maxL := 4) (ret := (some .int)) (by decide) rfl ?_
  intro p e s m args below meth c s₁ B hml hv
  obtain ⟨rfl, hP, hK⟩ := hv
  have hx := B.exec
  have hb := B.bytes
  have hr := B.returns
  have hts := atoms_spec (ws := wg_X5_movable) B.pre
  have hown : s.vm.findClass RX5 = some m.cls := findClass_of_methodNamed B.named
  have hlocks := B.notSynchronized
  have hS : va_S (fun _ => False) s.heap s.heap [] := va_S.rf
  have hP : va_P (dC, dI) vwCl [(aO, .inr (8, [.int (nI n), .int pw, .int (nI ln), .ref fc, .int idn, .int den]))] s.heap := hP
  have hl := lv_entry ([.ref aO, .int u, .int w]) (n := 4) (Nat.le_of_ble_eq_true rfl)
  rw [lg_entry_eq]
  generalize (lg_sl ([.ref aO, .int u, .int w]) ++ List.replicate (4 - (lg_sl ([.ref aO, .int u, .int w])).length) Slot.unset).toArray = ls at hl ⊢
  have hl : lv_has ls 4 [(0, .ref aO), (1, .int u), (2, .int w)] := hl
  refine ow_named (fun QQ hQQ => ?_)
  have L2 : ∀ (d i : Nat), i + d = n - 1 → f5_mv u w (n - 1) 0 = f5_mv u w d i → ∀ (H : Heap) (locs : List Loc) (ls : Array Slot), va_P (dC, dI) vwCl [(aO, .inr (8, [.int (nI n), .int pw, .int (nI ln), .ref fc, .int idn, .int den]))] H → va_S (fun _ => False) s.heap H locs → lv_has ls 4 [(0, .ref aO), (1, .int u), (2, .int w), (3, .int (nI i))] → W p l e ({ frames := 1, cells := 0, slots := 0, locals := 40 } : Room) s m ([.ref aO, .int u, .int w] : List Value).toArray below meth c H locs 0 0 QQ (F0 m 2 ls []) := by
    intro d
    induction d with
    | zero =>
      intro i hi hq H locs ls hP hS hl
      refine lv_iload_n hx hb dgX5_movable_2 rfl (lv_at hl 3 rfl) ?_
      refine lv_aload_n hx hb dgX5_movable_3 rfl (lv_at hl 0 rfl) ?_
      refine va_get (D := (dC, dI)) (ci := 8) (v := .int (nI n)) (C := RX5) (T := TX5) (N := 6) hx hb hts (fun _ h => List.mem_cons_of_mem _ (List.mem_append_left _ (List.mem_append_right _ h))) hown hK hP 0 rfl rfl 0 (by decide) (hts (.fieldLink RX5 25 "KnotHouse$Form" "strands" "I") (by decide +kernel)) (fun _ h9 => h9) rfl dgX5_movable_4 ?_
      refine lv_iconst (v := 1) hx hb dgX5_movable_7 (by decide) ?_
      refine lv_isub hx hb dgX5_movable_8 ?_
      refine ow_topi (y := nI (n - 1)) (pk_sub (b := 1) hn1) ?_
      refine lv_icmp_ge (tgt := 50) hx hb dgX5_movable_9 (by decide) (fun _ => ?_) (fun c9 => absurd (nI_le (a := n - 1) (b := i) (by omega) (by omega)) c9)
      refine lv_iconst (v := (-1)) hx hb dgX5_movable_50 (by decide) ?_
      rw [hQQ]
      exact W.iret (v := (-1)) hx hb hr (fun t ht hW => ⟨⟨(-1), (), rfl, by rw [hq]; rfl, trivial⟩, hS.F ht⟩) hS.2.2 dgX5_movable_51
    | succ d ih =>
      intro i hi hq H locs ls hP hS hl
      have hq : f5_mv u w (n - 1) 0 = (if f5_im w (nI (i + 1)) < f5_im w (nI i) ∧ f5_im u (nI i) < f5_im u (nI (i + 1)) then some i else f5_mv u w d (i + 1)) := hq
      refine lv_iload_n hx hb dgX5_movable_2 rfl (lv_at hl 3 rfl) ?_
      refine lv_aload_n hx hb dgX5_movable_3 rfl (lv_at hl 0 rfl) ?_
      refine va_get (D := (dC, dI)) (ci := 8) (v := .int (nI n)) (C := RX5) (T := TX5) (N := 6) hx hb hts (fun _ h => List.mem_cons_of_mem _ (List.mem_append_left _ (List.mem_append_right _ h))) hown hK hP 0 rfl rfl 0 (by decide) (hts (.fieldLink RX5 25 "KnotHouse$Form" "strands" "I") (by decide +kernel)) (fun _ h9 => h9) rfl dgX5_movable_4 ?_
      refine lv_iconst (v := 1) hx hb dgX5_movable_7 (by decide) ?_
      refine lv_isub hx hb dgX5_movable_8 ?_
      refine ow_topi (y := nI (n - 1)) (pk_sub (b := 1) hn1) ?_
      refine lv_icmp_ge (tgt := 50) hx hb dgX5_movable_9 (by decide) (fun c9 => absurd c9 (nI_ge (a := i) (b := n - 1) (by omega) (by omega))) (fun _ => ?_)
      refine lv_iload_n hx hb dgX5_movable_12 rfl (lv_at hl 2 rfl) ?_
      refine lv_iload_n hx hb dgX5_movable_13 rfl (lv_at hl 3 rfl) ?_
      have hPc := hP.sub (ws' := []) [] rfl
      refine va_calli (va_runS (As := [.int w, .int (nI i)]) (rest := []) ⟨hx, hb, hml, hown, hts⟩ (kg_X5_image l dC dI cI cB cJ cZ w (nI i)) (va_cwS 2 hts gg_X5_movable_0 rfl rfl rfl (by decide +kernel) ⟨(Nat.le_of_ble_eq_true rfl), (Nat.le_of_ble_eq_true rfl)⟩) ⟨fun a U g mk q => by obtain ⟨q0, qP, qK⟩ := q; exact ⟨q0, qP, va_K.moved (u := U) (U := U.calling g mk a) (Vm.Alike.refl U.vm) qK⟩, fun U hU hW => ⟨rfl, by rw [hU]; exact hPc, va_K.moved hW.alike hK⟩⟩ rfl rfl hl.1 rfl (lv_room (Nat.le_of_ble_eq_true rfl)) dgX5_movable_14 ⟨(Nat.le_of_ble_eq_true rfl), (Nat.le_of_ble_eq_true rfl)⟩) hS (fun q _ h => h.elim) (fun q h => h.elim) (fun ra1 un t H1 locs ht hvm hw9 hB hz1 hk1 hS => ?_)
      have hP := hP.kept (fun k9 x9 h9 => hk1 x9.1 ((hP k9 x9 h9).lt) id)
      generalize H1 = H at hP hS ⊢
      obtain rfl : ra1 = f5_im w (nI i) := hw9
      refine lv_iload_n hx hb dgX5_movable_17 rfl (lv_at hl 2 rfl) ?_
      refine lv_iload_n hx hb dgX5_movable_18 rfl (lv_at hl 3 rfl) ?_
      refine lv_iconst (v := 1) hx hb dgX5_movable_19 (by decide) ?_
      refine lv_iadd hx hb dgX5_movable_20 ?_
      refine ow_topi (y := nI (i + 1)) (nI_1 (i)) ?_
      have hPc := hP.sub (ws' := []) [] rfl
      refine va_calli (va_runS (As := [.int w, .int (nI (i + 1))]) (rest := [.int (f5_im w (nI i))]) ⟨hx, hb, hml, hown, hts⟩ (kg_X5_image l dC dI cI cB cJ cZ w (nI (i + 1))) (va_cwS 2 hts gg_X5_movable_0 rfl rfl rfl (by decide +kernel) ⟨(Nat.le_of_ble_eq_true rfl), (Nat.le_of_ble_eq_true rfl)⟩) ⟨fun a U g mk q => by obtain ⟨q0, qP, qK⟩ := q; exact ⟨q0, qP, va_K.moved (u := U) (U := U.calling g mk a) (Vm.Alike.refl U.vm) qK⟩, fun U hU hW => ⟨rfl, by rw [hU]; exact hPc, va_K.moved hW.alike hK⟩⟩ rfl rfl hl.1 rfl (lv_room (Nat.le_of_ble_eq_true rfl)) dgX5_movable_21 ⟨(Nat.le_of_ble_eq_true rfl), (Nat.le_of_ble_eq_true rfl)⟩) hS (fun q _ h => h.elim) (fun q h => h.elim) (fun ra2 un t H1 locs ht hvm hw9 hB hz1 hk1 hS => ?_)
      have hP := hP.kept (fun k9 x9 h9 => hk1 x9.1 ((hP k9 x9 h9).lt) id)
      generalize H1 = H at hP hS ⊢
      obtain rfl : ra2 = f5_im w (nI (i + 1)) := hw9
      refine lv_icmp_le (tgt := 44) hx hb dgX5_movable_24 (by decide) (fun c1 => ?_) (fun c1 => ?_)
      · rw [if_neg (fun h9 => Int32.not_lt.mpr c1 h9.1)] at hq
        refine lv_iinc (v := nI (i + 1)) (lv' := [(3, .int (nI (i + 1))), (0, .ref aO), (1, .int u), (2, .int w)]) hx hb dgX5_movable_44 hl (k := 3) rfl (nI_1 i) (by decide) rfl (fun ls hl => ?_)
        refine lv_goto (tgt := 2) hx hb dgX5_movable_47 (by decide) ?_
        exact ih (i + 1) (by omega) hq H locs ls hP hS (lv_sub hl [1, 2, 3, 0] rfl)
      · refine lv_iload_n hx hb dgX5_movable_27 rfl (lv_at hl 1 rfl) ?_
        refine lv_iload_n hx hb dgX5_movable_28 rfl (lv_at hl 3 rfl) ?_
        have hPc := hP.sub (ws' := []) [] rfl
        refine va_calli (va_runS (As := [.int u, .int (nI i)]) (rest := []) ⟨hx, hb, hml, hown, hts⟩ (kg_X5_image l dC dI cI cB cJ cZ u (nI i)) (va_cwS 2 hts gg_X5_movable_0 rfl rfl rfl (by decide +kernel) ⟨(Nat.le_of_ble_eq_true rfl), (Nat.le_of_ble_eq_true rfl)⟩) ⟨fun a U g mk q => by obtain ⟨q0, qP, qK⟩ := q; exact ⟨q0, qP, va_K.moved (u := U) (U := U.calling g mk a) (Vm.Alike.refl U.vm) qK⟩, fun U hU hW => ⟨rfl, by rw [hU]; exact hPc, va_K.moved hW.alike hK⟩⟩ rfl rfl hl.1 rfl (lv_room (Nat.le_of_ble_eq_true rfl)) dgX5_movable_29 ⟨(Nat.le_of_ble_eq_true rfl), (Nat.le_of_ble_eq_true rfl)⟩) hS (fun q _ h => h.elim) (fun q h => h.elim) (fun ra3 un t H1 locs ht hvm hw9 hB hz1 hk1 hS => ?_)
        have hP := hP.kept (fun k9 x9 h9 => hk1 x9.1 ((hP k9 x9 h9).lt) id)
        generalize H1 = H at hP hS ⊢
        obtain rfl : ra3 = f5_im u (nI i) := hw9
        refine lv_iload_n hx hb dgX5_movable_32 rfl (lv_at hl 1 rfl) ?_
        refine lv_iload_n hx hb dgX5_movable_33 rfl (lv_at hl 3 rfl) ?_
        refine lv_iconst (v := 1) hx hb dgX5_movable_34 (by decide) ?_
        refine lv_iadd hx hb dgX5_movable_35 ?_
        refine ow_topi (y := nI (i + 1)) (nI_1 (i)) ?_
        have hPc := hP.sub (ws' := []) [] rfl
        refine va_calli (va_runS (As := [.int u, .int (nI (i + 1))]) (rest := [.int (f5_im u (nI i))]) ⟨hx, hb, hml, hown, hts⟩ (kg_X5_image l dC dI cI cB cJ cZ u (nI (i + 1))) (va_cwS 2 hts gg_X5_movable_0 rfl rfl rfl (by decide +kernel) ⟨(Nat.le_of_ble_eq_true rfl), (Nat.le_of_ble_eq_true rfl)⟩) ⟨fun a U g mk q => by obtain ⟨q0, qP, qK⟩ := q; exact ⟨q0, qP, va_K.moved (u := U) (U := U.calling g mk a) (Vm.Alike.refl U.vm) qK⟩, fun U hU hW => ⟨rfl, by rw [hU]; exact hPc, va_K.moved hW.alike hK⟩⟩ rfl rfl hl.1 rfl (lv_room (Nat.le_of_ble_eq_true rfl)) dgX5_movable_36 ⟨(Nat.le_of_ble_eq_true rfl), (Nat.le_of_ble_eq_true rfl)⟩) hS (fun q _ h => h.elim) (fun q h => h.elim) (fun ra4 un t H1 locs ht hvm hw9 hB hz1 hk1 hS => ?_)
        have hP := hP.kept (fun k9 x9 h9 => hk1 x9.1 ((hP k9 x9 h9).lt) id)
        generalize H1 = H at hP hS ⊢
        obtain rfl : ra4 = f5_im u (nI (i + 1)) := hw9
        refine lv_icmp_ge (tgt := 44) hx hb dgX5_movable_39 (by decide) (fun c2 => ?_) (fun c2 => ?_)
        · rw [if_neg (fun h9 => Int32.not_lt.mpr c2 h9.2)] at hq
          refine lv_iinc (v := nI (i + 1)) (lv' := [(3, .int (nI (i + 1))), (0, .ref aO), (1, .int u), (2, .int w)]) hx hb dgX5_movable_44 hl (k := 3) rfl (nI_1 i) (by decide) rfl (fun ls hl => ?_)
          refine lv_goto (tgt := 2) hx hb dgX5_movable_47 (by decide) ?_
          exact ih (i + 1) (by omega) hq H locs ls hP hS (lv_sub hl [1, 2, 3, 0] rfl)
        · rw [if_pos ⟨Int32.not_le.mp c1, Int32.not_le.mp c2⟩] at hq
          refine lv_iload_n hx hb dgX5_movable_42 rfl (lv_at hl 3 rfl) ?_
          rw [hQQ]
          exact W.iret (v := (nI i)) hx hb hr (fun t ht hW => ⟨⟨(nI i), (), rfl, by rw [hq]; rfl, trivial⟩, hS.F ht⟩) hS.2.2 dgX5_movable_43
  refine lv_iconst (v := 0) hx hb dgX5_movable_0 (by decide) ?_
  refine ow_topi (y := nI 0) (by decide) ?_
  refine lv_istore_n (lv' := [(3, .int (nI 0)), (0, .ref aO), (1, .int u), (2, .int w)]) hx hb dgX5_movable_1 rfl hl (by decide) rfl (fun ls hl => ?_)
  exact L2 (n - 1) 0 (by omega) rfl s.heap [] ls hP hS (lv_sub hl [1, 2, 3, 0] rfl)
