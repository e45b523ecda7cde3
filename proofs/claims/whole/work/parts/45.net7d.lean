/-! rows filled in part -/
def np_fill (f : Nat → Int32) (a b : Nat) (x : Int32) : Nat → Int32 := fun k => if a ≤ k ∧ k < b then x else f k
theorem np_fill_0 (f : Nat → Int32) (a : Nat) (x : Int32) : np_fill f a a x = f := by
  funext k
  exact if_neg (by omega)
theorem np_fill_s (f : Nat → Int32) {a i : Nat} (x : Int32) (h : a ≤ i) : su (np_fill f a i x) i x = np_fill f a (i + 1) x := by
  funext k
  show (if k = i then x else if a ≤ k ∧ k < i then x else f k) = if a ≤ k ∧ k < i + 1 then x else f k
  by_cases h1 : k = i
  · rw [if_pos h1, if_pos (by omega)]
  · rw [if_neg h1]
    by_cases h2 : a ≤ k ∧ k < i
    · rw [if_pos h2, if_pos (by omega)]
    · rw [if_neg h2, if_neg (by omega)]
def mr_in (N : Nat → Nat) (x : Int32) : Nat → (Nat → Int32) → Nat → (Nat → Int32)
  | 0, F, _ => F
  | n + 1, F, v => if F v = -1 then mr_in N x n (su F v x) (N v) else F
def mr_out (N : Nat → Nat) (vs : Nat) (F : Nat → Int32) : Nat → (Nat → Int32) × Nat
  | 0 => (F, 0)
  | n + 1 => if (mr_out N vs F n).1 n = -1 then (mr_in N (nI (mr_out N vs F n).2) vs (mr_out N vs F n).1 n, (mr_out N vs F n).2 + 1) else mr_out N vs F n
theorem dgJ7_rangeCheck_23922_0 : decode cJ7_rangeCheck_23922 0 = .ok (.iload_n 1, 1) := by decide +kernel
theorem dgJ7_rangeCheck_23922_1 : decode cJ7_rangeCheck_23922 1 = .ok (.iload_n 2, 1) := by decide +kernel
theorem dgJ7_rangeCheck_23922_2 : decode cJ7_rangeCheck_23922 2 = .ok (.if_icmp .le 44, 3) := by decide +kernel
theorem dgJ7_rangeCheck_23922_46 : decode cJ7_rangeCheck_23922 46 = .ok (.iload_n 1, 1) := by decide +kernel
theorem dgJ7_rangeCheck_23922_47 : decode cJ7_rangeCheck_23922 47 = .ok (.ifCond .ge 12, 3) := by decide +kernel
theorem dgJ7_rangeCheck_23922_59 : decode cJ7_rangeCheck_23922 59 = .ok (.iload_n 2, 1) := by decide +kernel
theorem dgJ7_rangeCheck_23922_60 : decode cJ7_rangeCheck_23922 60 = .ok (.iload_n 0, 1) := by decide +kernel
theorem dgJ7_rangeCheck_23922_61 : decode cJ7_rangeCheck_23922 61 = .ok (.if_icmp .le 12, 3) := by decide +kernel
theorem dgJ7_rangeCheck_23922_73 : decode cJ7_rangeCheck_23922 73 = .ok (.return_, 1) := by decide +kernel
def wg_rangeCheck : List Cond := [.code yJ7_rangeCheck_23922 cJ7_rangeCheck_23922 3 none]
set_option maxHeartbeats 4000000 in
set_option maxRecDepth 100000 in
theorem kg_J7_rangeCheck_23922 (l : Launch) (N i0 i1 : Nat) (hN : N < 2 ^ 31) (h01 : i0 ≤ i1) (h1N : i1 ≤ N) : Met l yJ7_rangeCheck_23922 wg_rangeCheck (({ frames := 0, cells := 0, slots := 0, locals := 0 } : Room)) (va_Pc [.int (nI N), .int (nI i0), .int (nI i1)] (fun _ => True)) (va_Qv (fun _ : Unit => True) (fun _ _ => True) (fun _ => False)) 0 0 (fun _ => False) := by
  refine Met.ofW (cc := cJ7_rangeCheck_23922) (maxL := 3) (ret := none) (by decide) rfl ?_
  intro p e s m args below meth c s₁ B hml hv
  obtain ⟨rfl, hpre⟩ := hv
  have hx := B.exec
  have hb := B.bytes
  have hr := B.returns
  have hts := atoms_spec (ws := wg_rangeCheck) B.pre
  have hown : s.vm.findClass RJ7 = some m.cls := findClass_of_methodNamed B.named
  have hlocks := B.notSynchronized
  have hS : va_S (fun _ => False) s.heap s.heap [] := va_S.rf
  have hl := lv_entry ([.int (nI N), .int (nI i0), .int (nI i1)]) (n := 3) (Nat.le_of_ble_eq_true rfl)
  rw [lg_entry_eq]
  generalize (lg_sl ([.int (nI N), .int (nI i0), .int (nI i1)]) ++ List.replicate (3 - (lg_sl ([.int (nI N), .int (nI i0), .int (nI i1)])).length) Slot.unset).toArray = ls at hl ⊢
  have hl : lv_has ls 3 [(0, .int (nI N)), (1, .int (nI i0)), (2, .int (nI i1))] := hl
  refine ow_named (fun QQ hQQ => ?_)
  refine lv_iload_n hx hb dgJ7_rangeCheck_23922_0 rfl (lv_at hl 1 rfl) ?_
  refine lv_iload_n hx hb dgJ7_rangeCheck_23922_1 rfl (lv_at hl 2 rfl) ?_
  refine lv_icmp_le (tgt := 46) hx hb dgJ7_rangeCheck_23922_2 (by decide) (fun _ => ?_) (fun c9 => absurd (nI_le (a := i0) (b := i1) h01 (by omega)) c9)
  refine lv_iload_n hx hb dgJ7_rangeCheck_23922_46 rfl (lv_at hl 1 rfl) ?_
  refine lv_if_ge (tgt := 59) hx hb dgJ7_rangeCheck_23922_47 (by decide) (fun _ => ?_) (fun c9 => absurd (Int32.not_lt.mp (nI_pos (n := i0) (by omega))) c9)
  refine lv_iload_n hx hb dgJ7_rangeCheck_23922_59 rfl (lv_at hl 2 rfl) ?_
  refine lv_iload_n hx hb dgJ7_rangeCheck_23922_60 rfl (lv_at hl 0 rfl) ?_
  refine lv_icmp_le (tgt := 73) hx hb dgJ7_rangeCheck_23922_61 (by decide) (fun _ => ?_) (fun c9 => absurd (nI_le (a := i1) (b := N) h1N hN) c9)
  rw [hQQ]
  exact W.vret hx hb hr (fun t ht hW => ⟨⟨(), rfl, trivial, trivial⟩, hS.F ht⟩) hS.2.2 dgJ7_rangeCheck_23922_73
theorem dgJ7_fill_fda19_0 : decode cJ7_fill_fda19 0 = .ok (.aload_n 0, 1) := by decide +kernel
theorem dgJ7_fill_fda19_1 : decode cJ7_fill_fda19 1 = .ok (.arraylength, 1) := by decide +kernel
theorem dgJ7_fill_fda19_2 : decode cJ7_fill_fda19 2 = .ok (.iload_n 1, 1) := by decide +kernel
theorem dgJ7_fill_fda19_3 : decode cJ7_fill_fda19 3 = .ok (.iload_n 2, 1) := by decide +kernel
theorem dgJ7_fill_fda19_4 : decode cJ7_fill_fda19 4 = .ok (.invokestatic 13, 3) := by decide +kernel
theorem dgJ7_fill_fda19_7 : decode cJ7_fill_fda19 7 = .ok (.iload_n 1, 1) := by decide +kernel
theorem dgJ7_fill_fda19_8 : decode cJ7_fill_fda19 8 = .ok (.istore 4, 2) := by decide +kernel
theorem dgJ7_fill_fda19_10 : decode cJ7_fill_fda19 10 = .ok (.iload 4, 2) := by decide +kernel
theorem dgJ7_fill_fda19_12 : decode cJ7_fill_fda19 12 = .ok (.iload_n 2, 1) := by decide +kernel
theorem dgJ7_fill_fda19_13 : decode cJ7_fill_fda19 13 = .ok (.if_icmp .ge 14, 3) := by decide +kernel
theorem dgJ7_fill_fda19_16 : decode cJ7_fill_fda19 16 = .ok (.aload_n 0, 1) := by decide +kernel
theorem dgJ7_fill_fda19_17 : decode cJ7_fill_fda19 17 = .ok (.iload 4, 2) := by decide +kernel
theorem dgJ7_fill_fda19_19 : decode cJ7_fill_fda19 19 = .ok (.iload_n 3, 1) := by decide +kernel
theorem dgJ7_fill_fda19_20 : decode cJ7_fill_fda19 20 = .ok (.iastore, 1) := by decide +kernel
theorem dgJ7_fill_fda19_21 : decode cJ7_fill_fda19 21 = .ok (.iinc 4 1, 3) := by decide +kernel
theorem dgJ7_fill_fda19_24 : decode cJ7_fill_fda19 24 = .ok (.goto (-14), 3) := by decide +kernel
theorem dgJ7_fill_fda19_27 : decode cJ7_fill_fda19 27 = .ok (.return_, 1) := by decide +kernel
def wg_J7_fill_fda19 : List Cond := .code yJ7_fill_fda19 cJ7_fill_fda19 5 none :: va_wsS RJ7 13 yJ7_rangeCheck_23922 wg_rangeCheck
theorem gg_J7_fill_fda19_0 : GoodIn wg_J7_fill_fda19 (va_wsS RJ7 13 yJ7_rangeCheck_23922 wg_rangeCheck) := goodIn_sub (fun _ h => List.mem_cons_of_mem _ h) (by decide +kernel)
set_option maxHeartbeats 4000000 in
set_option maxRecDepth 100000 in
theorem kg_J7_fill_fda19 (l : Launch) (dC : Nat → ClassId) (dI : Nat → Nat → Nat) (cI cB cJ cZ : ClassId) (a N i0 i1 : Nat) (hN : N < 2 ^ 31) (h01 : i0 ≤ i1) (h1N : i1 ≤ N) (f : Nat → Int32) (x : Int32) (sz : Nat) : Met l yJ7_fill_fda19 wg_J7_fill_fda19 (({ frames := 1, cells := 0, slots := 0, locals := 22 } : Room)) (va_Pc [.ref a, .int (nI i0), .int (nI i1), .int x] (fun U => U.heap.size = sz ∧ va_P (dC, dI) vwCl [(a, .inl (cI, N, .inl f))] U.heap ∧ va_K (dC, dI) vwCl [(cI, .int), (cB, .byte), (cJ, .long), (cZ, .boolean)] U ∧ va_D (fun _ => True) [(a, .inl (cI, N, .inl f))])) (va_Qv (fun (g : Unit) => True) (fun g t => va_P (dC, dI) vwCl [(a, .inl (cI, N, .inl (np_fill f i0 i1 x)))] t.heap ∧ va_D (va_A [(a, .inl (cI, N, .inl f))] sz) [(a, .inl (cI, N, .inl (np_fill f i0 i1 x)))]) (va_A [(a, .inl (cI, N, .inl f))] sz)) 0 0 (va_A [(a, .inl (cI, N, .inl f))] sz) := by
  refine Met.ofW (cc := cJ7_fill_fda19) (maxL := 5) (ret := none) (by decide) rfl ?_
  intro p e s m args below meth c s₁ B hml hv
  obtain ⟨rfl, hsz, hP, hK, hD0⟩ := hv
  have hx := B.exec
  have hb := B.bytes
  have hr := B.returns
  have hts := atoms_spec (ws := wg_J7_fill_fda19) B.pre
  have hown : s.vm.findClass RJ7 = some m.cls := findClass_of_methodNamed B.named
  have hlocks := B.notSynchronized
  subst hsz
  have hD := hD0.self (sz := s.heap.size)
  generalize hAe : va_A [(a, .inl (cI, N, .inl f))] s.heap.size = A at hD ⊢
  have hA : ∀ q : Nat, s.heap.size ≤ q → A q := fun q h => by rw [← hAe]; exact Or.inr h
  have hS : va_S A s.heap s.heap [] := va_S.rf
  have hP : va_P (dC, dI) vwCl [(a, .inl (cI, N, .inl f))] s.heap := hP
  have hl := lv_entry ([.ref a, .int (nI i0), .int (nI i1), .int x]) (n := 5) (Nat.le_of_ble_eq_true rfl)
  rw [lg_entry_eq]
  generalize (lg_sl ([.ref a, .int (nI i0), .int (nI i1), .int x]) ++ List.replicate (5 - (lg_sl ([.ref a, .int (nI i0), .int (nI i1), .int x])).length) Slot.unset).toArray = ls at hl ⊢
  have hl : lv_has ls 5 [(0, .ref a), (1, .int (nI i0)), (2, .int (nI i1)), (3, .int x)] := hl
  refine ow_named (fun QQ hQQ => ?_)
  suffices key9 : ∀ (H : Heap) (locs : List Loc), va_P (dC, dI) vwCl [(a, .inl (cI, N, .inl f))] H → va_S A s.heap H locs → W p l e ({ frames := 1, cells := 0, slots := 0, locals := 22 } : Room) s m ([.ref a, .int (nI i0), .int (nI i1), .int x] : List Value).toArray below meth c H locs 0 0 QQ (F0 m 0 ls []) from key9 s.heap [] hP hS
  intro H locs hP hS
  refine lv_aload_n hx hb dgJ7_fill_fda19_0 rfl (lv_at hl 0 rfl) ?_
  refine va_alen (v := (nI N)) hx hb hK hP 0 0 rfl rfl rfl dgJ7_fill_fda19_1 ?_
  refine lv_iload_n hx hb dgJ7_fill_fda19_2 rfl (lv_at hl 1 rfl) ?_
  refine lv_iload_n hx hb dgJ7_fill_fda19_3 rfl (lv_at hl 2 rfl) ?_
  refine va_callv (va_runS (As := [.int (nI N), .int (nI i0), .int (nI i1)]) (rest := []) ⟨hx, hb, hml, hown, hts⟩ (kg_J7_rangeCheck_23922 l N i0 i1 hN h01 h1N) (va_cwS 3 hts gg_J7_fill_fda19_0 rfl rfl rfl (by decide +kernel) ⟨(Nat.le_of_ble_eq_true rfl), (Nat.le_of_ble_eq_true rfl)⟩) ⟨fun a U g mk q => q, fun U hU hW => ⟨rfl, trivial⟩⟩ rfl rfl hl.1 rfl (lv_room (Nat.le_of_ble_eq_true rfl)) dgJ7_fill_fda19_4 ⟨(Nat.le_of_ble_eq_true rfl), (Nat.le_of_ble_eq_true rfl)⟩) hS (fun q _ h => h.elim) (fun q h => h.elim) (fun u9 t H1 locs ht hvm hw hB hz1 hk1 hS => ?_)
  have hP := hP.kept (fun k9 x9 h9 => hk1 x9.1 ((hP k9 x9 h9).lt) id)
  generalize H1 = H at hP hS ⊢
  have L10 : ∀ (d i : Nat), i0 ≤ i ∧ i + d = i1 → ∀ (H : Heap) (locs : List Loc) (ls : Array Slot), va_P (dC, dI) vwCl [(a, .inl (cI, N, .inl (np_fill f i0 i x)))] H → va_D A [(a, .inl (cI, N, .inl (np_fill f i0 i x)))] → va_S A s.heap H locs → lv_has ls 5 [(0, .ref a), (1, .int (nI i0)), (2, .int (nI i1)), (3, .int x), (4, .int (nI i))] → W p l e ({ frames := 1, cells := 0, slots := 0, locals := 22 } : Room) s m ([.ref a, .int (nI i0), .int (nI i1), .int x] : List Value).toArray below meth c H locs 0 0 QQ (F0 m 10 ls []) := by
    intro d
    induction d with
    | zero =>
      intro i hi H locs ls hP hD hS hl 
      have hie : i = i1 := by omega
      refine lv_iload hx hb dgJ7_fill_fda19_10 (lv_at hl 4 rfl) ?_
      refine lv_iload_n hx hb dgJ7_fill_fda19_12 rfl (lv_at hl 2 rfl) ?_
      refine lv_icmp_ge (tgt := 27) hx hb dgJ7_fill_fda19_13 (by decide) (fun _ => ?_) (fun c9 => absurd (nI_le (a := i1) (b := i) (by omega) (by omega)) c9)
      have hP : va_P (dC, dI) vwCl [(a, .inl (cI, N, .inl (np_fill f i0 i1 x)))] H := by rw [hie] at hP; exact hP
      have hD : va_D A [(a, .inl (cI, N, .inl (np_fill f i0 i1 x)))] := by rw [hie] at hD; exact hD
      rw [hQQ]
      exact W.vret hx hb hr (fun t ht hW => ⟨⟨(), rfl, trivial, by rw [ht]; exact hP, hD⟩, hS.F ht⟩) hS.2.2 dgJ7_fill_fda19_27
    | succ d ih =>
      intro i hi H locs ls hP hD hS hl 
      refine lv_iload hx hb dgJ7_fill_fda19_10 (lv_at hl 4 rfl) ?_
      refine lv_iload_n hx hb dgJ7_fill_fda19_12 rfl (lv_at hl 2 rfl) ?_
      refine lv_icmp_ge (tgt := 27) hx hb dgJ7_fill_fda19_13 (by decide) (fun c9 => absurd c9 (nI_ge (a := i) (b := i1) (by omega) (by omega))) (fun _ => ?_)
      refine lv_aload_n hx hb dgJ7_fill_fda19_16 rfl (lv_at hl 0 rfl) ?_
      refine lv_iload hx hb dgJ7_fill_fda19_17 (lv_at hl 4 rfl) ?_
      refine lv_iload_n hx hb dgJ7_fill_fda19_19 rfl (lv_at hl 3 rfl) ?_
      refine ow_iastF (j := i) (x := x) hx hb hK hP hD hS 0 0 rfl rfl (by omega) hN dgJ7_fill_fda19_20 (fun H locs hP hD hS => ?_)
      have hP : va_P (dC, dI) vwCl [(a, .inl (cI, N, .inl (su (np_fill f i0 i x) i x)))] H := hP
      have hD : va_D A [(a, .inl (cI, N, .inl (su (np_fill f i0 i x) i x)))] := hD
      have hP : va_P (dC, dI) vwCl [(a, .inl (cI, N, .inl (np_fill f i0 (i + 1) x)))] H := by rw [← np_fill_s f x hi.1]; exact hP
      have hD : va_D A [(a, .inl (cI, N, .inl (np_fill f i0 (i + 1) x)))] := by rw [← np_fill_s f x hi.1]; exact hD
      refine lv_iinc (v := nI (i + 1)) (lv' := [(4, .int (nI (i + 1))), (0, .ref a), (1, .int (nI i0)), (2, .int (nI i1)), (3, .int x)]) hx hb dgJ7_fill_fda19_21 hl (k := 4) rfl (nI_1 i) (by decide) rfl (fun ls hl => ?_)
      refine lv_goto (tgt := 10) hx hb dgJ7_fill_fda19_24 (by decide) ?_
      exact ih (i + 1) (by omega) H locs ls hP hD hS (lv_sub hl [1, 2, 3, 4, 0] rfl)
  refine lv_iload_n hx hb dgJ7_fill_fda19_7 rfl (lv_at hl 1 rfl) ?_
  refine lv_istore (lv' := [(4, .int (nI i0)), (0, .ref a), (1, .int (nI i0)), (2, .int (nI i1)), (3, .int x)]) hx hb dgJ7_fill_fda19_8 hl (by decide) rfl (fun ls hl => ?_)
  have hP : va_P (dC, dI) vwCl [(a, .inl (cI, N, .inl (np_fill f i0 i0 x)))] H := by rw [np_fill_0 f i0 x]; exact hP
  have hD : va_D A [(a, .inl (cI, N, .inl (np_fill f i0 i0 x)))] := by rw [np_fill_0 f i0 x]; exact hD
  exact L10 (i1 - i0) i0 (by omega) H locs ls hP hD hS (lv_sub hl [1, 2, 3, 4, 0] rfl)
theorem dgJ7_fill_53178_0 : decode cJ7_fill_53178 0 = .ok (.iconst 0, 1) := by decide +kernel
theorem dgJ7_fill_53178_1 : decode cJ7_fill_53178 1 = .ok (.istore_n 2, 1) := by decide +kernel
theorem dgJ7_fill_53178_2 : decode cJ7_fill_53178 2 = .ok (.aload_n 0, 1) := by decide +kernel
theorem dgJ7_fill_53178_3 : decode cJ7_fill_53178 3 = .ok (.arraylength, 1) := by decide +kernel
theorem dgJ7_fill_53178_4 : decode cJ7_fill_53178 4 = .ok (.istore_n 3, 1) := by decide +kernel
theorem dgJ7_fill_53178_5 : decode cJ7_fill_53178 5 = .ok (.iload_n 2, 1) := by decide +kernel
theorem dgJ7_fill_53178_6 : decode cJ7_fill_53178 6 = .ok (.iload_n 3, 1) := by decide +kernel
theorem dgJ7_fill_53178_7 : decode cJ7_fill_53178 7 = .ok (.if_icmp .ge 13, 3) := by decide +kernel
theorem dgJ7_fill_53178_10 : decode cJ7_fill_53178 10 = .ok (.aload_n 0, 1) := by decide +kernel
theorem dgJ7_fill_53178_11 : decode cJ7_fill_53178 11 = .ok (.iload_n 2, 1) := by decide +kernel
theorem dgJ7_fill_53178_12 : decode cJ7_fill_53178 12 = .ok (.iload_n 1, 1) := by decide +kernel
theorem dgJ7_fill_53178_13 : decode cJ7_fill_53178 13 = .ok (.iastore, 1) := by decide +kernel
theorem dgJ7_fill_53178_14 : decode cJ7_fill_53178 14 = .ok (.iinc 2 1, 3) := by decide +kernel
theorem dgJ7_fill_53178_17 : decode cJ7_fill_53178 17 = .ok (.goto (-12), 3) := by decide +kernel
theorem dgJ7_fill_53178_20 : decode cJ7_fill_53178 20 = .ok (.return_, 1) := by decide +kernel
def wg_J7_fill_53178 : List Cond := [.code yJ7_fill_53178 cJ7_fill_53178 4 none]
set_option maxHeartbeats 4000000 in
set_option maxRecDepth 100000 in
theorem kg_J7_fill_53178 (l : Launch) (dC : Nat → ClassId) (dI : Nat → Nat → Nat) (cI cB cJ cZ : ClassId) (a N : Nat) (hN : N < 2 ^ 31) (f : Nat → Int32) (x : Int32) (sz : Nat) : Met l yJ7_fill_53178 wg_J7_fill_53178 (({ frames := 0, cells := 0, slots := 0, locals := 0 } : Room)) (va_Pc [.ref a, .int x] (fun U => U.heap.size = sz ∧ va_P (dC, dI) vwCl [(a, .inl (cI, N, .inl f))] U.heap ∧ va_K (dC, dI) vwCl [(cI, .int), (cB, .byte), (cJ, .long), (cZ, .boolean)] U ∧ va_D (fun _ => True) [(a, .inl (cI, N, .inl f))])) (va_Qv (fun (g : Unit) => True) (fun g t => va_P (dC, dI) vwCl [(a, .inl (cI, N, .inl (np_fill f 0 N x)))] t.heap ∧ va_D (va_A [(a, .inl (cI, N, .inl f))] sz) [(a, .inl (cI, N, .inl (np_fill f 0 N x)))]) (va_A [(a, .inl (cI, N, .inl f))] sz)) 0 0 (va_A [(a, .inl (cI, N, .inl f))] sz) := by
  refine Met.ofW (cc := cJ7_fill_53178) (maxL := 4) (ret := none) (by decide) rfl ?_
  intro p e s m args below meth c s₁ B hml hv
  obtain ⟨rfl, hsz, hP, hK, hD0⟩ := hv
  have hx := B.exec
  have hb := B.bytes
  have hr := B.returns
  have hts := atoms_spec (ws := wg_J7_fill_53178) B.pre
  have hown : s.vm.findClass RJ7 = some m.cls := findClass_of_methodNamed B.named
  have hlocks := B.notSynchronized
  subst hsz
  have hD := hD0.self (sz := s.heap.size)
  generalize hAe : va_A [(a, .inl (cI, N, .inl f))] s.heap.size = A at hD ⊢
  have hA : ∀ q : Nat, s.heap.size ≤ q → A q := fun q h => by rw [← hAe]; exact Or.inr h
  have hS : va_S A s.heap s.heap [] := va_S.rf
  have hP : va_P (dC, dI) vwCl [(a, .inl (cI, N, .inl f))] s.heap := hP
  have hl := lv_entry ([.ref a, .int x]) (n := 4) (Nat.le_of_ble_eq_true rfl)
  rw [lg_entry_eq]
  generalize (lg_sl ([.ref a, .int x]) ++ List.replicate (4 - (lg_sl ([.ref a, .int x])).length) Slot.unset).toArray = ls at hl ⊢
  have hl : lv_has ls 4 [(0, .ref a), (1, .int x)] := hl
  refine ow_named (fun QQ hQQ => ?_)
  suffices key9 : ∀ (H : Heap) (locs : List Loc), va_P (dC, dI) vwCl [(a, .inl (cI, N, .inl f))] H → va_S A s.heap H locs → W p l e ({ frames := 0, cells := 0, slots := 0, locals := 0 } : Room) s m ([.ref a, .int x] : List Value).toArray below meth c H locs 0 0 QQ (F0 m 0 ls []) from key9 s.heap [] hP hS
  intro H locs hP hS
  have L5 : ∀ (d i : Nat), i + d = N → ∀ (H : Heap) (locs : List Loc) (ls : Array Slot), va_P (dC, dI) vwCl [(a, .inl (cI, N, .inl (np_fill f 0 i x)))] H → va_D A [(a, .inl (cI, N, .inl (np_fill f 0 i x)))] → va_S A s.heap H locs → lv_has ls 4 [(0, .ref a), (1, .int x), (2, .int (nI i)), (3, .int (nI N))] → W p l e ({ frames := 0, cells := 0, slots := 0, locals := 0 } : Room) s m ([.ref a, .int x] : List Value).toArray below meth c H locs 0 0 QQ (F0 m 5 ls []) := by
    intro d
    induction d with
    | zero =>
      intro i hi H locs ls hP hD hS hl 
      have hie : i = N := by omega
      refine lv_iload_n hx hb dgJ7_fill_53178_5 rfl (lv_at hl 2 rfl) ?_
      refine lv_iload_n hx hb dgJ7_fill_53178_6 rfl (lv_at hl 3 rfl) ?_
      refine lv_icmp_ge (tgt := 20) hx hb dgJ7_fill_53178_7 (by decide) (fun _ => ?_) (fun c9 => absurd (nI_le (a := N) (b := i) (by omega) (by omega)) c9)
      have hP : va_P (dC, dI) vwCl [(a, .inl (cI, N, .inl (np_fill f 0 N x)))] H := by rw [hie] at hP; exact hP
      have hD : va_D A [(a, .inl (cI, N, .inl (np_fill f 0 N x)))] := by rw [hie] at hD; exact hD
      rw [hQQ]
      exact W.vret hx hb hr (fun t ht hW => ⟨⟨(), rfl, trivial, by rw [ht]; exact hP, hD⟩, hS.F ht⟩) hS.2.2 dgJ7_fill_53178_20
    | succ d ih =>
      intro i hi H locs ls hP hD hS hl 
      refine lv_iload_n hx hb dgJ7_fill_53178_5 rfl (lv_at hl 2 rfl) ?_
      refine lv_iload_n hx hb dgJ7_fill_53178_6 rfl (lv_at hl 3 rfl) ?_
      refine lv_icmp_ge (tgt := 20) hx hb dgJ7_fill_53178_7 (by decide) (fun c9 => absurd c9 (nI_ge (a := i) (b := N) (by omega) (by omega))) (fun _ => ?_)
      refine lv_aload_n hx hb dgJ7_fill_53178_10 rfl (lv_at hl 0 rfl) ?_
      refine lv_iload_n hx hb dgJ7_fill_53178_11 rfl (lv_at hl 2 rfl) ?_
      refine lv_iload_n hx hb dgJ7_fill_53178_12 rfl (lv_at hl 1 rfl) ?_
      refine ow_iastF (j := i) (x := x) hx hb hK hP hD hS 0 0 rfl rfl (by omega) hN dgJ7_fill_53178_13 (fun H locs hP hD hS => ?_)
      have hP : va_P (dC, dI) vwCl [(a, .inl (cI, N, .inl (su (np_fill f 0 i x) i x)))] H := hP
      have hD : va_D A [(a, .inl (cI, N, .inl (su (np_fill f 0 i x) i x)))] := hD
      have hP : va_P (dC, dI) vwCl [(a, .inl (cI, N, .inl (np_fill f 0 (i + 1) x)))] H := by rw [← np_fill_s f x (Nat.zero_le i)]; exact hP
      have hD : va_D A [(a, .inl (cI, N, .inl (np_fill f 0 (i + 1) x)))] := by rw [← np_fill_s f x (Nat.zero_le i)]; exact hD
      refine lv_iinc (v := nI (i + 1)) (lv' := [(2, .int (nI (i + 1))), (0, .ref a), (1, .int x), (3, .int (nI N))]) hx hb dgJ7_fill_53178_14 hl (k := 2) rfl (nI_1 i) (by decide) rfl (fun ls hl => ?_)
      refine lv_goto (tgt := 5) hx hb dgJ7_fill_53178_17 (by decide) ?_
      exact ih (i + 1) (by omega) H locs ls hP hD hS (lv_sub hl [1, 2, 0, 3] rfl)
  refine lv_iconst (v := 0) hx hb dgJ7_fill_53178_0 (by decide) ?_
  refine ow_topi (y := nI 0) (by decide) ?_
  refine lv_istore_n (lv' := [(2, .int (nI 0)), (0, .ref a), (1, .int x)]) hx hb dgJ7_fill_53178_1 rfl hl (by decide) rfl (fun ls hl => ?_)
  refine lv_aload_n hx hb dgJ7_fill_53178_2 rfl (lv_at hl 1 rfl) ?_
  refine va_alen (v := (nI N)) hx hb hK hP 0 0 rfl rfl rfl dgJ7_fill_53178_3 ?_
  refine lv_istore_n (lv' := [(3, .int (nI N)), (2, .int (nI 0)), (0, .ref a), (1, .int x)]) hx hb dgJ7_fill_53178_4 rfl hl (by decide) rfl (fun ls hl => ?_)
  have hP : va_P (dC, dI) vwCl [(a, .inl (cI, N, .inl (np_fill f 0 0 x)))] H := by rw [np_fill_0 f 0 x]; exact hP
  have hD : va_D A [(a, .inl (cI, N, .inl (np_fill f 0 0 x)))] := by rw [np_fill_0 f 0 x]; exact hD
  exact L5 N 0 (by omega) H locs ls hP hD hS (lv_sub hl [2, 3, 1, 0] rfl)
theorem dgX7_markRings_0 : decode cX7_markRings 0 = .ok (.iconst 2, 1) := by decide +kernel
theorem dgX7_markRings_1 : decode cX7_markRings 1 = .ok (.aload_n 0, 1) := by decide +kernel
theorem dgX7_markRings_2 : decode cX7_markRings 2 = .ok (.getfield 39, 3) := by decide +kernel
theorem dgX7_markRings_5 : decode cX7_markRings 5 = .ok (.imul, 1) := by decide +kernel
theorem dgX7_markRings_6 : decode cX7_markRings 6 = .ok (.istore_n 1, 1) := by decide +kernel
theorem dgX7_markRings_7 : decode cX7_markRings 7 = .ok (.aload_n 0, 1) := by decide +kernel
theorem dgX7_markRings_8 : decode cX7_markRings 8 = .ok (.getfield 24, 3) := by decide +kernel
theorem dgX7_markRings_11 : decode cX7_markRings 11 = .ok (.iconst 0, 1) := by decide +kernel
theorem dgX7_markRings_12 : decode cX7_markRings 12 = .ok (.iload_n 1, 1) := by decide +kernel
theorem dgX7_markRings_13 : decode cX7_markRings 13 = .ok (.iconst (-1), 1) := by decide +kernel
theorem dgX7_markRings_14 : decode cX7_markRings 14 = .ok (.invokestatic 84, 3) := by decide +kernel
theorem dgX7_markRings_17 : decode cX7_markRings 17 = .ok (.aload_n 0, 1) := by decide +kernel
theorem dgX7_markRings_18 : decode cX7_markRings 18 = .ok (.iconst 0, 1) := by decide +kernel
theorem dgX7_markRings_19 : decode cX7_markRings 19 = .ok (.putfield 45, 3) := by decide +kernel
theorem dgX7_markRings_22 : decode cX7_markRings 22 = .ok (.iconst 0, 1) := by decide +kernel
theorem dgX7_markRings_23 : decode cX7_markRings 23 = .ok (.istore_n 2, 1) := by decide +kernel
theorem dgX7_markRings_24 : decode cX7_markRings 24 = .ok (.iload_n 2, 1) := by decide +kernel
theorem dgX7_markRings_25 : decode cX7_markRings 25 = .ok (.iload_n 1, 1) := by decide +kernel
theorem dgX7_markRings_26 : decode cX7_markRings 26 = .ok (.if_icmp .ge 76, 3) := by decide +kernel
theorem dgX7_markRings_29 : decode cX7_markRings 29 = .ok (.aload_n 0, 1) := by decide +kernel
theorem dgX7_markRings_30 : decode cX7_markRings 30 = .ok (.getfield 24, 3) := by decide +kernel
theorem dgX7_markRings_33 : decode cX7_markRings 33 = .ok (.iload_n 2, 1) := by decide +kernel
theorem dgX7_markRings_34 : decode cX7_markRings 34 = .ok (.iaload, 1) := by decide +kernel
theorem dgX7_markRings_35 : decode cX7_markRings 35 = .ok (.iconst (-1), 1) := by decide +kernel
theorem dgX7_markRings_36 : decode cX7_markRings 36 = .ok (.if_icmp .eq 6, 3) := by decide +kernel
theorem dgX7_markRings_39 : decode cX7_markRings 39 = .ok (.goto 57, 3) := by decide +kernel
theorem dgX7_markRings_42 : decode cX7_markRings 42 = .ok (.iload_n 2, 1) := by decide +kernel
theorem dgX7_markRings_43 : decode cX7_markRings 43 = .ok (.istore_n 3, 1) := by decide +kernel
theorem dgX7_markRings_44 : decode cX7_markRings 44 = .ok (.iconst 0, 1) := by decide +kernel
theorem dgX7_markRings_45 : decode cX7_markRings 45 = .ok (.istore 4, 2) := by decide +kernel
theorem dgX7_markRings_47 : decode cX7_markRings 47 = .ok (.iload 4, 2) := by decide +kernel
theorem dgX7_markRings_49 : decode cX7_markRings 49 = .ok (.iload_n 1, 1) := by decide +kernel
theorem dgX7_markRings_50 : decode cX7_markRings 50 = .ok (.if_icmp .ge 36, 3) := by decide +kernel
theorem dgX7_markRings_53 : decode cX7_markRings 53 = .ok (.aload_n 0, 1) := by decide +kernel
theorem dgX7_markRings_54 : decode cX7_markRings 54 = .ok (.getfield 24, 3) := by decide +kernel
theorem dgX7_markRings_57 : decode cX7_markRings 57 = .ok (.iload_n 3, 1) := by decide +kernel
theorem dgX7_markRings_58 : decode cX7_markRings 58 = .ok (.iaload, 1) := by decide +kernel
theorem dgX7_markRings_59 : decode cX7_markRings 59 = .ok (.iconst (-1), 1) := by decide +kernel
theorem dgX7_markRings_60 : decode cX7_markRings 60 = .ok (.if_icmp .ne 26, 3) := by decide +kernel
theorem dgX7_markRings_63 : decode cX7_markRings 63 = .ok (.aload_n 0, 1) := by decide +kernel
theorem dgX7_markRings_64 : decode cX7_markRings 64 = .ok (.getfield 24, 3) := by decide +kernel
theorem dgX7_markRings_67 : decode cX7_markRings 67 = .ok (.iload_n 3, 1) := by decide +kernel
theorem dgX7_markRings_68 : decode cX7_markRings 68 = .ok (.aload_n 0, 1) := by decide +kernel
theorem dgX7_markRings_69 : decode cX7_markRings 69 = .ok (.getfield 45, 3) := by decide +kernel
theorem dgX7_markRings_72 : decode cX7_markRings 72 = .ok (.iastore, 1) := by decide +kernel
theorem dgX7_markRings_73 : decode cX7_markRings 73 = .ok (.aload_n 0, 1) := by decide +kernel
theorem dgX7_markRings_74 : decode cX7_markRings 74 = .ok (.getfield 9, 3) := by decide +kernel
theorem dgX7_markRings_77 : decode cX7_markRings 77 = .ok (.iload_n 3, 1) := by decide +kernel
theorem dgX7_markRings_78 : decode cX7_markRings 78 = .ok (.iaload, 1) := by decide +kernel
theorem dgX7_markRings_79 : decode cX7_markRings 79 = .ok (.istore_n 3, 1) := by decide +kernel
theorem dgX7_markRings_80 : decode cX7_markRings 80 = .ok (.iinc 4 1, 3) := by decide +kernel
theorem dgX7_markRings_83 : decode cX7_markRings 83 = .ok (.goto (-36), 3) := by decide +kernel
theorem dgX7_markRings_86 : decode cX7_markRings 86 = .ok (.aload_n 0, 1) := by decide +kernel
theorem dgX7_markRings_87 : decode cX7_markRings 87 = .ok (.dup, 1) := by decide +kernel
theorem dgX7_markRings_88 : decode cX7_markRings 88 = .ok (.getfield 45, 3) := by decide +kernel
theorem dgX7_markRings_91 : decode cX7_markRings 91 = .ok (.iconst 1, 1) := by decide +kernel
theorem dgX7_markRings_92 : decode cX7_markRings 92 = .ok (.iadd, 1) := by decide +kernel
theorem dgX7_markRings_93 : decode cX7_markRings 93 = .ok (.putfield 45, 3) := by decide +kernel
theorem dgX7_markRings_96 : decode cX7_markRings 96 = .ok (.iinc 2 1, 3) := by decide +kernel
theorem dgX7_markRings_99 : decode cX7_markRings 99 = .ok (.goto (-75), 3) := by decide +kernel
theorem dgX7_markRings_102 : decode cX7_markRings 102 = .ok (.return_, 1) := by decide +kernel
def wg_X7_markRings : List Cond := .code yX7_markRings cX7_markRings 5 none :: (([.fieldLink RX7 39 "KnotHouse$Net" "crossings" "I", .fieldLink RX7 24 "KnotHouse$Net" "component" "[I", .fieldLink RX7 45 "KnotHouse$Net" "components" "I", .fieldLink RX7 9 "KnotHouse$Net" "next" "[I"] ++ wsX70) ++ (va_wsS RX7 84 yJ7_fill_fda19 wg_J7_fill_fda19 ++ []))
theorem gg_X7_markRings_0 : GoodIn wg_X7_markRings (va_wsS RX7 84 yJ7_fill_fda19 wg_J7_fill_fda19) := goodIn_sub (fun _ h => List.mem_cons_of_mem _ (List.mem_append_right _ (List.mem_append_left _ h))) (by decide +kernel)
set_option maxHeartbeats 4000000 in
set_option maxRecDepth 100000 in
theorem kg_X7_markRings (l : Launch) (dC : Nat → ClassId) (dI : Nat → Nat → Nat) (cI cB cJ cZ : ClassId) (aX : Nat) (nx : Nat → Nat) (x8 x9 x10 : Int32) (S : ow_NP) (hS0 : ow_b24 S) (F : Nat → Int32) (cn : Nat) (hc : cn ≤ 12) (sz : Nat) : Met l yX7_markRings wg_X7_markRings (({ frames := 2, cells := 0, slots := 0, locals := 46 } : Room)) (va_Pc [.ref aX] (fun U => U.heap.size = sz ∧ va_P (dC, dI) vwCl [(aX, .inr (10, [.ref (nx 0), .ref (nx 1), .ref (nx 2), .ref (nx 3), .ref (nx 4), .ref (nx 5), .ref (nx 6), .int (nI cn), .int x8, .int x9, .int x10])), ((nx 0), .inl (cI, 24, .inl (ow_nI S.1))), ((nx 4), .inl (cI, 24, .inl F))] U.heap ∧ va_K (dC, dI) vwCl [(cI, .int), (cB, .byte), (cJ, .long), (cZ, .boolean)] U ∧ va_D (fun _ => True) [(aX, .inr (10, [.ref (nx 0), .ref (nx 1), .ref (nx 2), .ref (nx 3), .ref (nx 4), .ref (nx 5), .ref (nx 6), .int (nI cn), .int x8, .int x9, .int x10])), ((nx 0), .inl (cI, 24, .inl (ow_nI S.1))), ((nx 4), .inl (cI, 24, .inl F))])) (va_Qv (fun (g : Unit) => True) (fun g t => va_P (dC, dI) vwCl [(aX, .inr (10, [.ref (nx 0), .ref (nx 1), .ref (nx 2), .ref (nx 3), .ref (nx 4), .ref (nx 5), .ref (nx 6), .int (nI cn), .int x8, .int (nI (mr_out S.1 (2 * cn) (np_fill F 0 (2 * cn) (-1)) (2 * cn)).2), .int x10])), ((nx 0), .inl (cI, 24, .inl (ow_nI S.1))), ((nx 4), .inl (cI, 24, .inl ((mr_out S.1 (2 * cn) (np_fill F 0 (2 * cn) (-1)) (2 * cn)).1)))] t.heap ∧ va_D (va_A [(aX, .inr (10, [.ref (nx 0), .ref (nx 1), .ref (nx 2), .ref (nx 3), .ref (nx 4), .ref (nx 5), .ref (nx 6), .int (nI cn), .int x8, .int x9, .int x10])), ((nx 0), .inl (cI, 24, .inl (ow_nI S.1))), ((nx 4), .inl (cI, 24, .inl F))] sz) [(aX, .inr (10, [.ref (nx 0), .ref (nx 1), .ref (nx 2), .ref (nx 3), .ref (nx 4), .ref (nx 5), .ref (nx 6), .int (nI cn), .int x8, .int (nI (mr_out S.1 (2 * cn) (np_fill F 0 (2 * cn) (-1)) (2 * cn)).2), .int x10])), ((nx 0), .inl (cI, 24, .inl (ow_nI S.1))), ((nx 4), .inl (cI, 24, .inl ((mr_out S.1 (2 * cn) (np_fill F 0 (2 * cn) (-1)) (2 * cn)).1)))]) (va_A [(aX, .inr (10, [.ref (nx 0), .ref (nx 1), .ref (nx 2), .ref (nx 3), .ref (nx 4), .ref (nx 5), .ref (nx 6), .int (nI cn), .int x8, .int x9, .int x10])), ((nx 0), .inl (cI, 24, .inl (ow_nI S.1))), ((nx 4), .inl (cI, 24, .inl F))] sz)) 0 0 (va_A [(aX, .inr (10, [.ref (nx 0), .ref (nx 1), .ref (nx 2), .ref (nx 3), .ref (nx 4), .ref (nx 5), .ref (nx 6), .int (nI cn), .int x8, .int x9, .int x10])), ((nx 0), .inl (cI, 24, .inl (ow_nI S.1))), ((nx 4), .inl (cI, 24, .inl F))] sz) := by
  refine Met.ofW (cc := cX7_markRings) (maxL := 5) (ret := none) (by decide) rfl ?_
  intro p e s m args below meth c s₁ B hml hv
  obtain ⟨rfl, hsz, hP, hK, hD0⟩ := hv
  have hx := B.exec
  have hb := B.bytes
  have hr := B.returns
  have hts := atoms_spec (ws := wg_X7_markRings) B.pre
  have hown : s.vm.findClass RX7 = some m.cls := findClass_of_methodNamed B.named
  have hlocks := B.notSynchronized
  subst hsz
  have hD := hD0.self (sz := s.heap.size)
  generalize hAe : va_A [(aX, .inr (10, [.ref (nx 0), .ref (nx 1), .ref (nx 2), .ref (nx 3), .ref (nx 4), .ref (nx 5), .ref (nx 6), .int (nI cn), .int x8, .int x9, .int x10])), ((nx 0), .inl (cI, 24, .inl (ow_nI S.1))), ((nx 4), .inl (cI, 24, .inl F))] s.heap.size = A at hD ⊢
  have hA : ∀ q : Nat, s.heap.size ≤ q → A q := fun q h => by rw [← hAe]; exact Or.inr h
  have hS : va_S A s.heap s.heap [] := va_S.rf
  have hP : va_P (dC, dI) vwCl [(aX, .inr (10, [.ref (nx 0), .ref (nx 1), .ref (nx 2), .ref (nx 3), .ref (nx 4), .ref (nx 5), .ref (nx 6), .int (nI cn), .int x8, .int x9, .int x10])), ((nx 0), .inl (cI, 24, .inl (ow_nI S.1))), ((nx 4), .inl (cI, 24, .inl F))] s.heap := hP
  have hl := lv_entry ([.ref aX]) (n := 5) (Nat.le_of_ble_eq_true rfl)
  rw [lg_entry_eq]
  generalize (lg_sl ([.ref aX]) ++ List.replicate (5 - (lg_sl ([.ref aX])).length) Slot.unset).toArray = ls at hl ⊢
  have hl : lv_has ls 5 [(0, .ref aX)] := hl
  refine ow_named (fun QQ hQQ => ?_)
  suffices key9 : ∀ (H : Heap) (locs : List Loc), va_P (dC, dI) vwCl [(aX, .inr (10, [.ref (nx 0), .ref (nx 1), .ref (nx 2), .ref (nx 3), .ref (nx 4), .ref (nx 5), .ref (nx 6), .int (nI cn), .int x8, .int x9, .int x10])), ((nx 0), .inl (cI, 24, .inl (ow_nI S.1))), ((nx 4), .inl (cI, 24, .inl F))] H → va_S A s.heap H locs → W p l e ({ frames := 2, cells := 0, slots := 0, locals := 46 } : Room) s m ([.ref aX] : List Value).toArray below meth c H locs 0 0 QQ (F0 m 0 ls []) from key9 s.heap [] hP hS
  intro H locs hP hS
  have L24 : ∀ (d i : Nat), i + d = 2 * cn → ∀ (H : Heap) (locs : List Loc) (ls : Array Slot), va_P (dC, dI) vwCl [(aX, .inr (10, [.ref (nx 0), .ref (nx 1), .ref (nx 2), .ref (nx 3), .ref (nx 4), .ref (nx 5), .ref (nx 6), .int (nI cn), .int x8, .int (nI (mr_out S.1 (2 * cn) (np_fill F 0 (2 * cn) (-1)) i).2), .int x10])), ((nx 0), .inl (cI, 24, .inl (ow_nI S.1))), ((nx 4), .inl (cI, 24, .inl ((mr_out S.1 (2 * cn) (np_fill F 0 (2 * cn) (-1)) i).1)))] H → va_D A [(aX, .inr (10, [.ref (nx 0), .ref (nx 1), .ref (nx 2), .ref (nx 3), .ref (nx 4), .ref (nx 5), .ref (nx 6), .int (nI cn), .int x8, .int (nI (mr_out S.1 (2 * cn) (np_fill F 0 (2 * cn) (-1)) i).2), .int x10])), ((nx 0), .inl (cI, 24, .inl (ow_nI S.1))), ((nx 4), .inl (cI, 24, .inl ((mr_out S.1 (2 * cn) (np_fill F 0 (2 * cn) (-1)) i).1)))] → va_S A s.heap H locs → lv_has ls 5 [(0, .ref aX), (1, .int (nI (2 * cn))), (2, .int (nI i))] → W p l e ({ frames := 2, cells := 0, slots := 0, locals := 46 } : Room) s m ([.ref aX] : List Value).toArray below meth c H locs 0 0 QQ (F0 m 24 ls []) := by
    intro d
    induction d with
    | zero =>
      intro i hi H locs ls hP hD hS hl 
      have hie : i = 2 * cn := by omega
      refine lv_iload_n hx hb dgX7_markRings_24 rfl (lv_at hl 2 rfl) ?_
      refine lv_iload_n hx hb dgX7_markRings_25 rfl (lv_at hl 1 rfl) ?_
      refine lv_icmp_ge (tgt := 102) hx hb dgX7_markRings_26 (by decide) (fun _ => ?_) (fun c9 => absurd (nI_le (a := 2 * cn) (b := i) (by omega) (by omega)) c9)
      have hP : va_P (dC, dI) vwCl [(aX, .inr (10, [.ref (nx 0), .ref (nx 1), .ref (nx 2), .ref (nx 3), .ref (nx 4), .ref (nx 5), .ref (nx 6), .int (nI cn), .int x8, .int (nI (mr_out S.1 (2 * cn) (np_fill F 0 (2 * cn) (-1)) (2 * cn)).2), .int x10])), ((nx 0), .inl (cI, 24, .inl (ow_nI S.1))), ((nx 4), .inl (cI, 24, .inl ((mr_out S.1 (2 * cn) (np_fill F 0 (2 * cn) (-1)) (2 * cn)).1)))] H := by rw [hie] at hP; exact hP
      have hD : va_D A [(aX, .inr (10, [.ref (nx 0), .ref (nx 1), .ref (nx 2), .ref (nx 3), .ref (nx 4), .ref (nx 5), .ref (nx 6), .int (nI cn), .int x8, .int (nI (mr_out S.1 (2 * cn) (np_fill F 0 (2 * cn) (-1)) (2 * cn)).2), .int x10])), ((nx 0), .inl (cI, 24, .inl (ow_nI S.1))), ((nx 4), .inl (cI, 24, .inl ((mr_out S.1 (2 * cn) (np_fill F 0 (2 * cn) (-1)) (2 * cn)).1)))] := by rw [hie] at hD; exact hD
      rw [hQQ]
      exact W.vret hx hb hr (fun t ht hW => ⟨⟨(), rfl, trivial, by rw [ht]; exact hP, hD⟩, hS.F ht⟩) hS.2.2 dgX7_markRings_102
    | succ d ih =>
      intro i hi H locs ls hP hD hS hl 
      refine lv_iload_n hx hb dgX7_markRings_24 rfl (lv_at hl 2 rfl) ?_
      refine lv_iload_n hx hb dgX7_markRings_25 rfl (lv_at hl 1 rfl) ?_
      refine lv_icmp_ge (tgt := 102) hx hb dgX7_markRings_26 (by decide) (fun c9 => absurd c9 (nI_ge (a := i) (b := 2 * cn) (by omega) (by omega))) (fun _ => ?_)
      refine lv_aload_n hx hb dgX7_markRings_29 rfl (lv_at hl 0 rfl) ?_
      refine va_get (D := (dC, dI)) (ci := 10) (v := .ref (nx 4)) (C := RX7) (T := TX7) (N := 11) hx hb hts (fun _ h => List.mem_cons_of_mem _ (List.mem_append_left _ (List.mem_append_right _ h))) hown hK hP 0 rfl rfl 4 (by decide) (hts (.fieldLink RX7 24 "KnotHouse$Net" "component" "[I") (by decide +kernel)) (fun _ h9 => h9) rfl dgX7_markRings_30 ?_
      refine lv_iload_n hx hb dgX7_markRings_33 rfl (lv_at hl 2 rfl) ?_
      refine va_iald hx hb hK hP 2 0 rfl rfl (vp_in_nI (n := i) (N := 24) (by omega) (by decide)) dgX7_markRings_34 ?_
      refine ow_topi (y := ((mr_out S.1 (2 * cn) (np_fill F 0 (2 * cn) (-1)) i).1) i) (congrArg ((mr_out S.1 (2 * cn) (np_fill F 0 (2 * cn) (-1)) i).1) (nI_clamp (n := i) (Nat.lt_trans (m := 24) (by omega) (by decide)))) ?_
      refine lv_iconst (v := (-1)) hx hb dgX7_markRings_35 (by decide) ?_
      refine lv_icmp_eq (tgt := 42) hx hb dgX7_markRings_36 (by decide) (fun c1 => ?_) (fun c1 => ?_)
      · have hst : mr_out S.1 (2 * cn) (np_fill F 0 (2 * cn) (-1)) (i + 1) = (mr_in S.1 (nI (mr_out S.1 (2 * cn) (np_fill F 0 (2 * cn) (-1)) i).2) (2 * cn) (mr_out S.1 (2 * cn) (np_fill F 0 (2 * cn) (-1)) i).1 i, (mr_out S.1 (2 * cn) (np_fill F 0 (2 * cn) (-1)) i).2 + 1) := if_pos c1
        generalize hE : (mr_out S.1 (2 * cn) (np_fill F 0 (2 * cn) (-1)) i) = E at hP hD hst
        have hP : va_P (dC, dI) vwCl [(aX, .inr (10, [.ref (nx 0), .ref (nx 1), .ref (nx 2), .ref (nx 3), .ref (nx 4), .ref (nx 5), .ref (nx 6), .int (nI cn), .int x8, .int (nI E.2), .int x10])), ((nx 0), .inl (cI, 24, .inl (ow_nI S.1))), ((nx 4), .inl (cI, 24, .inl E.1))] H := hP
        have hD : va_D A [(aX, .inr (10, [.ref (nx 0), .ref (nx 1), .ref (nx 2), .ref (nx 3), .ref (nx 4), .ref (nx 5), .ref (nx 6), .int (nI cn), .int x8, .int (nI E.2), .int x10])), ((nx 0), .inl (cI, 24, .inl (ow_nI S.1))), ((nx 4), .inl (cI, 24, .inl E.1))] := hD
        generalize hR : mr_in S.1 (nI E.2) (2 * cn) E.1 i = R at hst
        have K86 : ∀ (H : Heap) (locs : List Loc) (ls : Array Slot), va_P (dC, dI) vwCl [(aX, .inr (10, [.ref (nx 0), .ref (nx 1), .ref (nx 2), .ref (nx 3), .ref (nx 4), .ref (nx 5), .ref (nx 6), .int (nI cn), .int x8, .int (nI E.2), .int x10])), ((nx 0), .inl (cI, 24, .inl (ow_nI S.1))), ((nx 4), .inl (cI, 24, .inl R))] H → va_D A [(aX, .inr (10, [.ref (nx 0), .ref (nx 1), .ref (nx 2), .ref (nx 3), .ref (nx 4), .ref (nx 5), .ref (nx 6), .int (nI cn), .int x8, .int (nI E.2), .int x10])), ((nx 0), .inl (cI, 24, .inl (ow_nI S.1))), ((nx 4), .inl (cI, 24, .inl R))] → va_S A s.heap H locs → lv_has ls 5 [(0, .ref aX), (1, .int (nI (2 * cn))), (2, .int (nI i))] → W p l e ({ frames := 2, cells := 0, slots := 0, locals := 46 } : Room) s m ([.ref aX] : List Value).toArray below meth c H locs 0 0 QQ (F0 m 86 ls []) := by
          intro H locs ls hP hD hS hl
          refine lv_aload_n hx hb dgX7_markRings_86 rfl (lv_at hl 0 rfl) ?_
          refine lv_dup hx hb dgX7_markRings_87 rfl ?_
          refine va_get (D := (dC, dI)) (ci := 10) (v := .int (nI E.2)) (C := RX7) (T := TX7) (N := 11) hx hb hts (fun _ h => List.mem_cons_of_mem _ (List.mem_append_left _ (List.mem_append_right _ h))) hown hK hP 0 rfl rfl 9 (by decide) (hts (.fieldLink RX7 45 "KnotHouse$Net" "components" "I") (by decide +kernel)) (fun _ h9 => h9) rfl dgX7_markRings_88 ?_
          refine lv_iconst (v := 1) hx hb dgX7_markRings_91 (by decide) ?_
          refine lv_iadd hx hb dgX7_markRings_92 ?_
          refine ow_topi (y := nI (E.2 + 1)) (nI_1 E.2) ?_
          refine va_put (D := (dC, dI)) (ci := 10) (v := .int (nI (E.2 + 1))) (ty := .int) (C := RX7) (T := TX7) (N := 11) hx hb hts (fun _ h => List.mem_cons_of_mem _ (List.mem_append_left _ (List.mem_append_right _ h))) tyX7 tyX7_ok nmX7 hown hK hP hD hS 0 rfl rfl 9 (by decide) (hts (.fieldLink RX7 45 "KnotHouse$Net" "components" "I") (by decide +kernel)) (fun _ h9 => h9) rfl (by decide +kernel) rfl rfl (Nat.le_of_ble_eq_true rfl) dgX7_markRings_93 (fun H locs hP hD hS => ?_)
          have hP : va_P (dC, dI) vwCl [(aX, .inr (10, [.ref (nx 0), .ref (nx 1), .ref (nx 2), .ref (nx 3), .ref (nx 4), .ref (nx 5), .ref (nx 6), .int (nI cn), .int x8, .int (nI (E.2 + 1)), .int x10])), ((nx 0), .inl (cI, 24, .inl (ow_nI S.1))), ((nx 4), .inl (cI, 24, .inl R))] H := hP
          have hD : va_D A [(aX, .inr (10, [.ref (nx 0), .ref (nx 1), .ref (nx 2), .ref (nx 3), .ref (nx 4), .ref (nx 5), .ref (nx 6), .int (nI cn), .int x8, .int (nI (E.2 + 1)), .int x10])), ((nx 0), .inl (cI, 24, .inl (ow_nI S.1))), ((nx 4), .inl (cI, 24, .inl R))] := hD
          have hP : va_P (dC, dI) vwCl [(aX, .inr (10, [.ref (nx 0), .ref (nx 1), .ref (nx 2), .ref (nx 3), .ref (nx 4), .ref (nx 5), .ref (nx 6), .int (nI cn), .int x8, .int (nI (mr_out S.1 (2 * cn) (np_fill F 0 (2 * cn) (-1)) (i + 1)).2), .int x10])), ((nx 0), .inl (cI, 24, .inl (ow_nI S.1))), ((nx 4), .inl (cI, 24, .inl ((mr_out S.1 (2 * cn) (np_fill F 0 (2 * cn) (-1)) (i + 1)).1)))] H := by rw [hst]; exact hP
          have hD : va_D A [(aX, .inr (10, [.ref (nx 0), .ref (nx 1), .ref (nx 2), .ref (nx 3), .ref (nx 4), .ref (nx 5), .ref (nx 6), .int (nI cn), .int x8, .int (nI (mr_out S.1 (2 * cn) (np_fill F 0 (2 * cn) (-1)) (i + 1)).2), .int x10])), ((nx 0), .inl (cI, 24, .inl (ow_nI S.1))), ((nx 4), .inl (cI, 24, .inl ((mr_out S.1 (2 * cn) (np_fill F 0 (2 * cn) (-1)) (i + 1)).1)))] := by rw [hst]; exact hD
          refine lv_iinc (v := nI (i + 1)) (lv' := [(2, .int (nI (i + 1))), (0, .ref aX), (1, .int (nI (2 * cn)))]) hx hb dgX7_markRings_96 hl (k := 2) rfl (nI_1 i) (by decide) rfl (fun ls hl => ?_)
          refine lv_goto (tgt := 24) hx hb dgX7_markRings_99 (by decide) ?_
          exact ih (i + 1) (by omega) H locs ls hP hD hS (lv_sub hl [1, 2, 0] rfl)
        have L47 : ∀ (d j v : Nat) (f : Nat → Int32), j + d = 2 * cn → v < 24 → mr_in S.1 (nI E.2) d f v = R → ∀ (H : Heap) (locs : List Loc) (ls : Array Slot), va_P (dC, dI) vwCl [(aX, .inr (10, [.ref (nx 0), .ref (nx 1), .ref (nx 2), .ref (nx 3), .ref (nx 4), .ref (nx 5), .ref (nx 6), .int (nI cn), .int x8, .int (nI E.2), .int x10])), ((nx 0), .inl (cI, 24, .inl (ow_nI S.1))), ((nx 4), .inl (cI, 24, .inl f))] H → va_D A [(aX, .inr (10, [.ref (nx 0), .ref (nx 1), .ref (nx 2), .ref (nx 3), .ref (nx 4), .ref (nx 5), .ref (nx 6), .int (nI cn), .int x8, .int (nI E.2), .int x10])), ((nx 0), .inl (cI, 24, .inl (ow_nI S.1))), ((nx 4), .inl (cI, 24, .inl f))] → va_S A s.heap H locs → lv_has ls 5 [(0, .ref aX), (1, .int (nI (2 * cn))), (2, .int (nI i)), (3, .int (nI v)), (4, .int (nI j))] → W p l e ({ frames := 2, cells := 0, slots := 0, locals := 46 } : Room) s m ([.ref aX] : List Value).toArray below meth c H locs 0 0 QQ (F0 m 47 ls []) := by
          intro d2
          induction d2 with
          | zero =>
            intro j v f hj hv9 hf H locs ls hP hD hS hl
            refine lv_iload hx hb dgX7_markRings_47 (lv_at hl 4 rfl) ?_
            refine lv_iload_n hx hb dgX7_markRings_49 rfl (lv_at hl 1 rfl) ?_
            refine lv_icmp_ge (tgt := 86) hx hb dgX7_markRings_50 (by decide) (fun _ => ?_) (fun c9 => absurd (nI_le (a := 2 * cn) (b := j) (by omega) (by omega)) c9)
            have hP : va_P (dC, dI) vwCl [(aX, .inr (10, [.ref (nx 0), .ref (nx 1), .ref (nx 2), .ref (nx 3), .ref (nx 4), .ref (nx 5), .ref (nx 6), .int (nI cn), .int x8, .int (nI E.2), .int x10])), ((nx 0), .inl (cI, 24, .inl (ow_nI S.1))), ((nx 4), .inl (cI, 24, .inl R))] H := by rw [← hf]; exact hP
            have hD : va_D A [(aX, .inr (10, [.ref (nx 0), .ref (nx 1), .ref (nx 2), .ref (nx 3), .ref (nx 4), .ref (nx 5), .ref (nx 6), .int (nI cn), .int x8, .int (nI E.2), .int x10])), ((nx 0), .inl (cI, 24, .inl (ow_nI S.1))), ((nx 4), .inl (cI, 24, .inl R))] := by rw [← hf]; exact hD
            exact K86 H locs ls hP hD hS (lv_sub hl [0, 1, 2] rfl)
          | succ d2 ih2 =>
            intro j v f hj hv9 hf H locs ls hP hD hS hl
            refine lv_iload hx hb dgX7_markRings_47 (lv_at hl 4 rfl) ?_
            refine lv_iload_n hx hb dgX7_markRings_49 rfl (lv_at hl 1 rfl) ?_
            refine lv_icmp_ge (tgt := 86) hx hb dgX7_markRings_50 (by decide) (fun c9 => absurd c9 (nI_ge (a := j) (b := 2 * cn) (by omega) (by omega))) (fun _ => ?_)
            refine lv_aload_n hx hb dgX7_markRings_53 rfl (lv_at hl 0 rfl) ?_
            refine va_get (D := (dC, dI)) (ci := 10) (v := .ref (nx 4)) (C := RX7) (T := TX7) (N := 11) hx hb hts (fun _ h => List.mem_cons_of_mem _ (List.mem_append_left _ (List.mem_append_right _ h))) hown hK hP 0 rfl rfl 4 (by decide) (hts (.fieldLink RX7 24 "KnotHouse$Net" "component" "[I") (by decide +kernel)) (fun _ h9 => h9) rfl dgX7_markRings_54 ?_
            refine lv_iload_n hx hb dgX7_markRings_57 rfl (lv_at hl 3 rfl) ?_
            refine va_iald hx hb hK hP 2 0 rfl rfl (vp_in_nI (n := v) (N := 24) hv9 (by decide)) dgX7_markRings_58 ?_
            refine ow_topi (y := f v) (congrArg f (nI_clamp (n := v) (Nat.lt_trans (m := 24) hv9 (by decide)))) ?_
            refine lv_iconst (v := (-1)) hx hb dgX7_markRings_59 (by decide) ?_
            refine lv_icmp_ne (tgt := 86) hx hb dgX7_markRings_60 (by decide) (fun c2 => ?_) (fun c2 => ?_)
            · have hfR : f = R := by rw [← hf]; exact (if_neg c2).symm
              have hP : va_P (dC, dI) vwCl [(aX, .inr (10, [.ref (nx 0), .ref (nx 1), .ref (nx 2), .ref (nx 3), .ref (nx 4), .ref (nx 5), .ref (nx 6), .int (nI cn), .int x8, .int (nI E.2), .int x10])), ((nx 0), .inl (cI, 24, .inl (ow_nI S.1))), ((nx 4), .inl (cI, 24, .inl R))] H := by rw [← hfR]; exact hP
              have hD : va_D A [(aX, .inr (10, [.ref (nx 0), .ref (nx 1), .ref (nx 2), .ref (nx 3), .ref (nx 4), .ref (nx 5), .ref (nx 6), .int (nI cn), .int x8, .int (nI E.2), .int x10])), ((nx 0), .inl (cI, 24, .inl (ow_nI S.1))), ((nx 4), .inl (cI, 24, .inl R))] := by rw [← hfR]; exact hD
              exact K86 H locs ls hP hD hS (lv_sub hl [0, 1, 2] rfl)
            · refine lv_aload_n hx hb dgX7_markRings_63 rfl (lv_at hl 0 rfl) ?_
              refine va_get (D := (dC, dI)) (ci := 10) (v := .ref (nx 4)) (C := RX7) (T := TX7) (N := 11) hx hb hts (fun _ h => List.mem_cons_of_mem _ (List.mem_append_left _ (List.mem_append_right _ h))) hown hK hP 0 rfl rfl 4 (by decide) (hts (.fieldLink RX7 24 "KnotHouse$Net" "component" "[I") (by decide +kernel)) (fun _ h9 => h9) rfl dgX7_markRings_64 ?_
              refine lv_iload_n hx hb dgX7_markRings_67 rfl (lv_at hl 3 rfl) ?_
              refine lv_aload_n hx hb dgX7_markRings_68 rfl (lv_at hl 0 rfl) ?_
              refine va_get (D := (dC, dI)) (ci := 10) (v := .int (nI E.2)) (C := RX7) (T := TX7) (N := 11) hx hb hts (fun _ h => List.mem_cons_of_mem _ (List.mem_append_left _ (List.mem_append_right _ h))) hown hK hP 0 rfl rfl 9 (by decide) (hts (.fieldLink RX7 45 "KnotHouse$Net" "components" "I") (by decide +kernel)) (fun _ h9 => h9) rfl dgX7_markRings_69 ?_
              refine ow_iastF (j := v) (x := nI E.2) hx hb hK hP hD hS 2 0 rfl rfl hv9 (by decide) dgX7_markRings_72 (fun H locs hP hD hS => ?_)
              have hP : va_P (dC, dI) vwCl [(aX, .inr (10, [.ref (nx 0), .ref (nx 1), .ref (nx 2), .ref (nx 3), .ref (nx 4), .ref (nx 5), .ref (nx 6), .int (nI cn), .int x8, .int (nI E.2), .int x10])), ((nx 0), .inl (cI, 24, .inl (ow_nI S.1))), ((nx 4), .inl (cI, 24, .inl (su f v (nI E.2))))] H := hP
              have hD : va_D A [(aX, .inr (10, [.ref (nx 0), .ref (nx 1), .ref (nx 2), .ref (nx 3), .ref (nx 4), .ref (nx 5), .ref (nx 6), .int (nI cn), .int x8, .int (nI E.2), .int x10])), ((nx 0), .inl (cI, 24, .inl (ow_nI S.1))), ((nx 4), .inl (cI, 24, .inl (su f v (nI E.2))))] := hD
              refine lv_aload_n hx hb dgX7_markRings_73 rfl (lv_at hl 0 rfl) ?_
              refine va_get (D := (dC, dI)) (ci := 10) (v := .ref (nx 0)) (C := RX7) (T := TX7) (N := 11) hx hb hts (fun _ h => List.mem_cons_of_mem _ (List.mem_append_left _ (List.mem_append_right _ h))) hown hK hP 0 rfl rfl 0 (by decide) (hts (.fieldLink RX7 9 "KnotHouse$Net" "next" "[I") (by decide +kernel)) (fun _ h9 => h9) rfl dgX7_markRings_74 ?_
              refine lv_iload_n hx hb dgX7_markRings_77 rfl (lv_at hl 3 rfl) ?_
              refine va_iald hx hb hK hP 1 0 rfl rfl (vp_in_nI (n := v) (N := 24) hv9 (by decide)) dgX7_markRings_78 ?_
              refine ow_topi (y := nI (S.1 v)) (ow_nI_at S.1 (Nat.lt_trans (m := 24) hv9 (by decide))) ?_
              refine lv_istore_n (lv' := [(3, .int (nI (S.1 v))), (0, .ref aX), (1, .int (nI (2 * cn))), (2, .int (nI i)), (4, .int (nI j))]) hx hb dgX7_markRings_79 rfl hl (by decide) rfl (fun ls hl => ?_)
              refine lv_iinc (v := nI (j + 1)) (lv' := [(4, .int (nI (j + 1))), (3, .int (nI (S.1 v))), (0, .ref aX), (1, .int (nI (2 * cn))), (2, .int (nI i))]) hx hb dgX7_markRings_80 hl (k := 4) rfl (nI_1 j) (by decide) rfl (fun ls hl => ?_)
              refine lv_goto (tgt := 47) hx hb dgX7_markRings_83 (by decide) ?_
              exact ih2 (j + 1) (S.1 v) _ (by omega) (hS0.1 v) (by rw [← hf]; exact (if_pos c2).symm) H locs ls hP hD hS (lv_sub hl [2, 3, 4, 1, 0] rfl)
        refine lv_iload_n hx hb dgX7_markRings_42 rfl (lv_at hl 2 rfl) ?_
        refine lv_istore_n (lv' := [(3, .int (nI i)), (0, .ref aX), (1, .int (nI (2 * cn))), (2, .int (nI i))]) hx hb dgX7_markRings_43 rfl hl (by decide) rfl (fun ls hl => ?_)
        refine lv_iconst (v := 0) hx hb dgX7_markRings_44 (by decide) ?_
        refine ow_topi (y := nI 0) (by decide) ?_
        refine lv_istore (lv' := [(4, .int (nI 0)), (3, .int (nI i)), (0, .ref aX), (1, .int (nI (2 * cn))), (2, .int (nI i))]) hx hb dgX7_markRings_45 hl (by decide) rfl (fun ls hl => ?_)
        exact L47 (2 * cn) 0 i E.1 (by omega) (by omega) hR H locs ls hP hD hS (lv_sub hl [2, 3, 4, 1, 0] rfl)
      · refine lv_goto (tgt := 96) hx hb dgX7_markRings_39 (by decide) ?_
        have hP : va_P (dC, dI) vwCl [(aX, .inr (10, [.ref (nx 0), .ref (nx 1), .ref (nx 2), .ref (nx 3), .ref (nx 4), .ref (nx 5), .ref (nx 6), .int (nI cn), .int x8, .int (nI (mr_out S.1 (2 * cn) (np_fill F 0 (2 * cn) (-1)) (i + 1)).2), .int x10])), ((nx 0), .inl (cI, 24, .inl (ow_nI S.1))), ((nx 4), .inl (cI, 24, .inl ((mr_out S.1 (2 * cn) (np_fill F 0 (2 * cn) (-1)) (i + 1)).1)))] H := by rw [show mr_out S.1 (2 * cn) (np_fill F 0 (2 * cn) (-1)) (i + 1) = (mr_out S.1 (2 * cn) (np_fill F 0 (2 * cn) (-1)) i) from if_neg c1]; exact hP
        have hD : va_D A [(aX, .inr (10, [.ref (nx 0), .ref (nx 1), .ref (nx 2), .ref (nx 3), .ref (nx 4), .ref (nx 5), .ref (nx 6), .int (nI cn), .int x8, .int (nI (mr_out S.1 (2 * cn) (np_fill F 0 (2 * cn) (-1)) (i + 1)).2), .int x10])), ((nx 0), .inl (cI, 24, .inl (ow_nI S.1))), ((nx 4), .inl (cI, 24, .inl ((mr_out S.1 (2 * cn) (np_fill F 0 (2 * cn) (-1)) (i + 1)).1)))] := by rw [show mr_out S.1 (2 * cn) (np_fill F 0 (2 * cn) (-1)) (i + 1) = (mr_out S.1 (2 * cn) (np_fill F 0 (2 * cn) (-1)) i) from if_neg c1]; exact hD
        refine lv_iinc (v := nI (i + 1)) (lv' := [(2, .int (nI (i + 1))), (0, .ref aX), (1, .int (nI (2 * cn)))]) hx hb dgX7_markRings_96 hl (k := 2) rfl (nI_1 i) (by decide) rfl (fun ls hl => ?_)
        refine lv_goto (tgt := 24) hx hb dgX7_markRings_99 (by decide) ?_
        exact ih (i + 1) (by omega) H locs ls hP hD hS (lv_sub hl [1, 2, 0] rfl)
  refine lv_iconst (v := 2) hx hb dgX7_markRings_0 (by decide) ?_
  refine lv_aload_n hx hb dgX7_markRings_1 rfl (lv_at hl 0 rfl) ?_
  refine va_get (D := (dC, dI)) (ci := 10) (v := .int (nI cn)) (C := RX7) (T := TX7) (N := 11) hx hb hts (fun _ h => List.mem_cons_of_mem _ (List.mem_append_left _ (List.mem_append_right _ h))) hown hK hP 0 rfl rfl 7 (by decide) (hts (.fieldLink RX7 39 "KnotHouse$Net" "crossings" "I") (by decide +kernel)) (fun _ h9 => h9) rfl dgX7_markRings_2 ?_
  refine lv_imul hx hb dgX7_markRings_5 ?_
  refine ow_topi (y := nI (2 * cn)) (pk_mul 2 cn) ?_
  refine lv_istore_n (lv' := [(1, .int (nI (2 * cn))), (0, .ref aX)]) hx hb dgX7_markRings_6 rfl hl (by decide) rfl (fun ls hl => ?_)
  refine lv_aload_n hx hb dgX7_markRings_7 rfl (lv_at hl 1 rfl) ?_
  refine va_get (D := (dC, dI)) (ci := 10) (v := .ref (nx 4)) (C := RX7) (T := TX7) (N := 11) hx hb hts (fun _ h => List.mem_cons_of_mem _ (List.mem_append_left _ (List.mem_append_right _ h))) hown hK hP 0 rfl rfl 4 (by decide) (hts (.fieldLink RX7 24 "KnotHouse$Net" "component" "[I") (by decide +kernel)) (fun _ h9 => h9) rfl dgX7_markRings_8 ?_
  refine lv_iconst (v := 0) hx hb dgX7_markRings_11 (by decide) ?_
  refine ow_topi (y := nI 0) (by decide) ?_
  refine lv_iload_n hx hb dgX7_markRings_12 rfl (lv_at hl 0 rfl) ?_
  refine lv_iconst (v := (-1)) hx hb dgX7_markRings_13 (by decide) ?_
  have hPc := hP.sub (ws' := [((nx 4), .inl (cI, 24, .inl F))]) [2] rfl
  have hDc := hD.sub (ws' := [((nx 4), .inl (cI, 24, .inl F))]) [2] (by decide) rfl
  have hFc := va_free (wc := [((nx 4), .inl (cI, 24, .inl F))]) hD hS hA [2] rfl
  refine va_callv (va_runS (As := [.ref (nx 4), .int (nI 0), .int (nI (2 * cn)), .int (-1)]) (rest := []) ⟨hx, hb, hml, hown, hts⟩ (kg_J7_fill_fda19 l dC dI cI cB cJ cZ (nx 4) 24 0 (2 * cn) (by decide) (by omega) (by omega) F (-1) H.size) (va_cwS 4 hts gg_X7_markRings_0 rfl rfl rfl (by decide +kernel) ⟨(Nat.le_of_ble_eq_true rfl), (Nat.le_of_ble_eq_true rfl)⟩) ⟨fun a U g mk q => by obtain ⟨q0, q1, qP, qK, qD⟩ := q; exact ⟨q0, q1, qP, va_K.moved (u := U) (U := U.calling g mk a) (Vm.Alike.refl U.vm) qK, qD⟩, fun U hU hW => ⟨rfl, by rw [hU], by rw [hU]; exact hPc, va_K.moved hW.alike hK, hDc.weaken (fun _ _ _ _ => trivial)⟩⟩ rfl rfl hl.1 rfl (lv_room (Nat.le_of_ble_eq_true rfl)) dgX7_markRings_14 ⟨(Nat.le_of_ble_eq_true rfl), (Nat.le_of_ble_eq_true rfl)⟩) hS (fun q _ h => hFc q h) hFc (fun u9 t H1 locs ht hvm hw9 hB hz1 hk1 hS => ?_)
  obtain ⟨hP1, hD1⟩ := hB
  rw [ht] at hP1
  obtain ⟨hP, hD⟩ := va_join (wr := [(aX, .inr (10, [.ref (nx 0), .ref (nx 1), .ref (nx 2), .ref (nx 3), .ref (nx 4), .ref (nx 5), .ref (nx 6), .int (nI cn), .int x8, .int x9, .int x10])), ((nx 0), .inl (cI, 24, .inl (ow_nI S.1)))]) (w1 := [((nx 4), .inl (cI, 24, .inl (np_fill F 0 (2 * cn) (-1))))]) hP hD [2] [0, 1] rfl rfl (by decide) (by decide) hk1 hFc hP1 hD1
  generalize H1 = H at hP hS ⊢
  have hP : va_P (dC, dI) vwCl [(aX, .inr (10, [.ref (nx 0), .ref (nx 1), .ref (nx 2), .ref (nx 3), .ref (nx 4), .ref (nx 5), .ref (nx 6), .int (nI cn), .int x8, .int x9, .int x10])), ((nx 0), .inl (cI, 24, .inl (ow_nI S.1))), ((nx 4), .inl (cI, 24, .inl (np_fill F 0 (2 * cn) (-1))))] H := hP
  have hD : va_D A [(aX, .inr (10, [.ref (nx 0), .ref (nx 1), .ref (nx 2), .ref (nx 3), .ref (nx 4), .ref (nx 5), .ref (nx 6), .int (nI cn), .int x8, .int x9, .int x10])), ((nx 0), .inl (cI, 24, .inl (ow_nI S.1))), ((nx 4), .inl (cI, 24, .inl (np_fill F 0 (2 * cn) (-1))))] := hD
  refine lv_aload_n hx hb dgX7_markRings_17 rfl (lv_at hl 1 rfl) ?_
  refine lv_iconst (v := 0) hx hb dgX7_markRings_18 (by decide) ?_
  refine ow_topi (y := nI 0) (by decide) ?_
  refine va_put (D := (dC, dI)) (ci := 10) (v := .int (nI 0)) (ty := .int) (C := RX7) (T := TX7) (N := 11) hx hb hts (fun _ h => List.mem_cons_of_mem _ (List.mem_append_left _ (List.mem_append_right _ h))) tyX7 tyX7_ok nmX7 hown hK hP hD hS 0 rfl rfl 9 (by decide) (hts (.fieldLink RX7 45 "KnotHouse$Net" "components" "I") (by decide +kernel)) (fun _ h9 => h9) rfl (by decide +kernel) rfl rfl (Nat.le_of_ble_eq_true rfl) dgX7_markRings_19 (fun H locs hP hD hS => ?_)
  have hP : va_P (dC, dI) vwCl [(aX, .inr (10, [.ref (nx 0), .ref (nx 1), .ref (nx 2), .ref (nx 3), .ref (nx 4), .ref (nx 5), .ref (nx 6), .int (nI cn), .int x8, .int (nI 0), .int x10])), ((nx 0), .inl (cI, 24, .inl (ow_nI S.1))), ((nx 4), .inl (cI, 24, .inl (np_fill F 0 (2 * cn) (-1))))] H := hP
  have hD : va_D A [(aX, .inr (10, [.ref (nx 0), .ref (nx 1), .ref (nx 2), .ref (nx 3), .ref (nx 4), .ref (nx 5), .ref (nx 6), .int (nI cn), .int x8, .int (nI 0), .int x10])), ((nx 0), .inl (cI, 24, .inl (ow_nI S.1))), ((nx 4), .inl (cI, 24, .inl (np_fill F 0 (2 * cn) (-1))))] := hD
  refine lv_iconst (v := 0) hx hb dgX7_markRings_22 (by decide) ?_
  refine ow_topi (y := nI 0) (by decide) ?_
  refine lv_istore_n (lv' := [(2, .int (nI 0)), (1, .int (nI (2 * cn))), (0, .ref aX)]) hx hb dgX7_markRings_23 rfl hl (by decide) rfl (fun ls hl => ?_)
  exact L24 (2 * cn) 0 (by omega) H locs ls hP hD hS (lv_sub hl [2, 1, 0] rfl)
