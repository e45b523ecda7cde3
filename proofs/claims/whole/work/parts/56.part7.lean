/-! parting: the first two gaps of one ring whose exchange makes one part more -/
def po_w (P : Nat → Bool) : Nat → Nat → Option Nat
  | 0, _ => none
  | d + 1, w => if P w then some w else po_w P d (w + 1)
def po_v (P : Nat → Nat → Bool) (n : Nat) : Nat → Nat → Option (Nat × Nat)
  | 0, _ => none
  | d + 1, v => match po_w (P v) (n - (v + 1)) (v + 1) with
    | some w => some (v, w)
    | none => po_v P n d (v + 1)
def po_P (c : Nat) (S : ow_NP) (v w : Nat) : Bool := decide ((np_rings c S.1).1 v = (np_rings c S.1).1 w ∧ (np_parts c S.1).2 < (np_parts c (np_exchange S v w).1).2)
def np_once (c : Nat) (S : ow_NP) : Option (Nat × Nat) := po_v (po_P c S) (2 * c) (2 * c) 0
def np_onceS (c : Nat) (S : ow_NP) : ow_NP := match np_once c S with
  | none => S
  | some q => np_exchange S q.1 q.2
def np_onceR (c : Nat) (S : ow_NP) : Int32 := match np_once c S with
  | none => 0
  | some _ => 1
def po_in (P : Nat → Nat → Bool) (n d1 v : Nat) (q : Option Nat) : Option (Nat × Nat) := match q with
  | some w => some (v, w)
  | none => po_v P n d1 (v + 1)
theorem dgX7_partOnce_0 : decode cX7_partOnce 0 = .ok (.aload_n 0, 1) := by decide +kernel
theorem dgX7_partOnce_1 : decode cX7_partOnce 1 = .ok (.invokevirtual 97, 3) := by decide +kernel
theorem dgX7_partOnce_4 : decode cX7_partOnce 4 = .ok (.aload_n 0, 1) := by decide +kernel
theorem dgX7_partOnce_5 : decode cX7_partOnce 5 = .ok (.invokevirtual 100, 3) := by decide +kernel
theorem dgX7_partOnce_8 : decode cX7_partOnce 8 = .ok (.aload_n 0, 1) := by decide +kernel
theorem dgX7_partOnce_9 : decode cX7_partOnce 9 = .ok (.getfield 90, 3) := by decide +kernel
theorem dgX7_partOnce_12 : decode cX7_partOnce 12 = .ok (.istore_n 1, 1) := by decide +kernel
theorem dgX7_partOnce_13 : decode cX7_partOnce 13 = .ok (.iconst 0, 1) := by decide +kernel
theorem dgX7_partOnce_14 : decode cX7_partOnce 14 = .ok (.istore_n 2, 1) := by decide +kernel
theorem dgX7_partOnce_15 : decode cX7_partOnce 15 = .ok (.iload_n 2, 1) := by decide +kernel
theorem dgX7_partOnce_16 : decode cX7_partOnce 16 = .ok (.iconst 2, 1) := by decide +kernel
theorem dgX7_partOnce_17 : decode cX7_partOnce 17 = .ok (.aload_n 0, 1) := by decide +kernel
theorem dgX7_partOnce_18 : decode cX7_partOnce 18 = .ok (.getfield 39, 3) := by decide +kernel
theorem dgX7_partOnce_21 : decode cX7_partOnce 21 = .ok (.imul, 1) := by decide +kernel
theorem dgX7_partOnce_22 : decode cX7_partOnce 22 = .ok (.if_icmp .ge 73, 3) := by decide +kernel
theorem dgX7_partOnce_25 : decode cX7_partOnce 25 = .ok (.iload_n 2, 1) := by decide +kernel
theorem dgX7_partOnce_26 : decode cX7_partOnce 26 = .ok (.iconst 1, 1) := by decide +kernel
theorem dgX7_partOnce_27 : decode cX7_partOnce 27 = .ok (.iadd, 1) := by decide +kernel
theorem dgX7_partOnce_28 : decode cX7_partOnce 28 = .ok (.istore_n 3, 1) := by decide +kernel
theorem dgX7_partOnce_29 : decode cX7_partOnce 29 = .ok (.iload_n 3, 1) := by decide +kernel
theorem dgX7_partOnce_30 : decode cX7_partOnce 30 = .ok (.iconst 2, 1) := by decide +kernel
theorem dgX7_partOnce_31 : decode cX7_partOnce 31 = .ok (.aload_n 0, 1) := by decide +kernel
theorem dgX7_partOnce_32 : decode cX7_partOnce 32 = .ok (.getfield 39, 3) := by decide +kernel
theorem dgX7_partOnce_35 : decode cX7_partOnce 35 = .ok (.imul, 1) := by decide +kernel
theorem dgX7_partOnce_36 : decode cX7_partOnce 36 = .ok (.if_icmp .ge 53, 3) := by decide +kernel
theorem dgX7_partOnce_39 : decode cX7_partOnce 39 = .ok (.aload_n 0, 1) := by decide +kernel
theorem dgX7_partOnce_40 : decode cX7_partOnce 40 = .ok (.getfield 24, 3) := by decide +kernel
theorem dgX7_partOnce_43 : decode cX7_partOnce 43 = .ok (.iload_n 2, 1) := by decide +kernel
theorem dgX7_partOnce_44 : decode cX7_partOnce 44 = .ok (.iaload, 1) := by decide +kernel
theorem dgX7_partOnce_45 : decode cX7_partOnce 45 = .ok (.aload_n 0, 1) := by decide +kernel
theorem dgX7_partOnce_46 : decode cX7_partOnce 46 = .ok (.getfield 24, 3) := by decide +kernel
theorem dgX7_partOnce_49 : decode cX7_partOnce 49 = .ok (.iload_n 3, 1) := by decide +kernel
theorem dgX7_partOnce_50 : decode cX7_partOnce 50 = .ok (.iaload, 1) := by decide +kernel
theorem dgX7_partOnce_51 : decode cX7_partOnce 51 = .ok (.if_icmp .eq 6, 3) := by decide +kernel
theorem dgX7_partOnce_54 : decode cX7_partOnce 54 = .ok (.goto 29, 3) := by decide +kernel
theorem dgX7_partOnce_57 : decode cX7_partOnce 57 = .ok (.aload_n 0, 1) := by decide +kernel
theorem dgX7_partOnce_58 : decode cX7_partOnce 58 = .ok (.iload_n 2, 1) := by decide +kernel
theorem dgX7_partOnce_59 : decode cX7_partOnce 59 = .ok (.iload_n 3, 1) := by decide +kernel
theorem dgX7_partOnce_60 : decode cX7_partOnce 60 = .ok (.invokevirtual 71, 3) := by decide +kernel
theorem dgX7_partOnce_63 : decode cX7_partOnce 63 = .ok (.aload_n 0, 1) := by decide +kernel
theorem dgX7_partOnce_64 : decode cX7_partOnce 64 = .ok (.invokevirtual 100, 3) := by decide +kernel
theorem dgX7_partOnce_67 : decode cX7_partOnce 67 = .ok (.aload_n 0, 1) := by decide +kernel
theorem dgX7_partOnce_68 : decode cX7_partOnce 68 = .ok (.getfield 90, 3) := by decide +kernel
theorem dgX7_partOnce_71 : decode cX7_partOnce 71 = .ok (.iload_n 1, 1) := by decide +kernel
theorem dgX7_partOnce_72 : decode cX7_partOnce 72 = .ok (.if_icmp .le 5, 3) := by decide +kernel
theorem dgX7_partOnce_75 : decode cX7_partOnce 75 = .ok (.iconst 1, 1) := by decide +kernel
theorem dgX7_partOnce_76 : decode cX7_partOnce 76 = .ok (.ireturn, 1) := by decide +kernel
theorem dgX7_partOnce_77 : decode cX7_partOnce 77 = .ok (.aload_n 0, 1) := by decide +kernel
theorem dgX7_partOnce_78 : decode cX7_partOnce 78 = .ok (.iload_n 2, 1) := by decide +kernel
theorem dgX7_partOnce_79 : decode cX7_partOnce 79 = .ok (.iload_n 3, 1) := by decide +kernel
theorem dgX7_partOnce_80 : decode cX7_partOnce 80 = .ok (.invokevirtual 71, 3) := by decide +kernel
theorem dgX7_partOnce_83 : decode cX7_partOnce 83 = .ok (.iinc 3 1, 3) := by decide +kernel
theorem dgX7_partOnce_86 : decode cX7_partOnce 86 = .ok (.goto (-57), 3) := by decide +kernel
theorem dgX7_partOnce_89 : decode cX7_partOnce 89 = .ok (.iinc 2 1, 3) := by decide +kernel
theorem dgX7_partOnce_92 : decode cX7_partOnce 92 = .ok (.goto (-77), 3) := by decide +kernel
theorem dgX7_partOnce_95 : decode cX7_partOnce 95 = .ok (.iconst 0, 1) := by decide +kernel
theorem dgX7_partOnce_96 : decode cX7_partOnce 96 = .ok (.ireturn, 1) := by decide +kernel
def wg_X7_partOnce : List Cond := .code yX7_partOnce cX7_partOnce 4 (some .boolean) :: (([.fieldLink RX7 90 "KnotHouse$Net" "parts" "I", .fieldLink RX7 39 "KnotHouse$Net" "crossings" "I", .fieldLink RX7 24 "KnotHouse$Net" "component" "[I"] ++ wsX70) ++ (wsV RX7 97 RX7 yX7_markRings wg_X7_markRings ++ (wsV RX7 100 RX7 yX7_markParts wg_X7_markParts ++ (wsV RX7 71 RX7 yX7_exchange wg_X7_exchange ++ []))))
theorem gg_X7_partOnce_0 : GoodIn wg_X7_partOnce (wsV RX7 97 RX7 yX7_markRings wg_X7_markRings) := goodIn_sub (fun _ h => List.mem_cons_of_mem _ (List.mem_append_right _ (List.mem_append_left _ h))) (by decide +kernel)
theorem gg_X7_partOnce_1 : GoodIn wg_X7_partOnce (wsV RX7 100 RX7 yX7_markParts wg_X7_markParts) := goodIn_sub (fun _ h => List.mem_cons_of_mem _ (List.mem_append_right _ (List.mem_append_right _ (List.mem_append_left _ h)))) (by decide +kernel)
theorem gg_X7_partOnce_2 : GoodIn wg_X7_partOnce (wsV RX7 71 RX7 yX7_exchange wg_X7_exchange) := goodIn_sub (fun _ h => List.mem_cons_of_mem _ (List.mem_append_right _ (List.mem_append_right _ (List.mem_append_right _ (List.mem_append_left _ h))))) (by decide +kernel)
set_option maxHeartbeats 4000000 in
set_option maxRecDepth 100000 in
theorem kg_X7_partOnce (l : Launch) (dC : Nat → ClassId) (dI : Nat → Nat → Nat) (cI cB cJ cZ : ClassId) (aX : Nat) (nx : Nat → Nat) (x8 x9 x10 : Int32) (S : ow_NP) (hS0 : ow_b24 S) (F4 F5 Z : Nat → Int32) (cn : Nat) (hc : cn ≤ 12) (hvn : vn cn S) (sz : Nat) : Met l yX7_partOnce wg_X7_partOnce (({ frames := 3, cells := 0, slots := 0, locals := 80 } : Room)) (va_Pc [.ref aX] (fun U => U.heap.size = sz ∧ va_P (dC, dI) vwCl [(aX, .inr (10, [.ref (nx 0), .ref (nx 1), .ref (nx 2), .ref (nx 3), .ref (nx 4), .ref (nx 5), .ref (nx 6), .int (nI cn), .int x8, .int x9, .int x10])), ((nx 0), .inl (cI, 24, .inl (ow_nI S.1))), ((nx 1), .inl (cI, 24, .inl (ow_nI S.2))), ((nx 4), .inl (cI, 24, .inl F4)), ((nx 5), .inl (cI, 24, .inl F5)), ((nx 6), .inl (cI, 24, .inl Z))] U.heap ∧ va_K (dC, dI) vwCl [(cI, .int), (cB, .byte), (cJ, .long), (cZ, .boolean)] U ∧ va_D (fun _ => True) [(aX, .inr (10, [.ref (nx 0), .ref (nx 1), .ref (nx 2), .ref (nx 3), .ref (nx 4), .ref (nx 5), .ref (nx 6), .int (nI cn), .int x8, .int x9, .int x10])), ((nx 0), .inl (cI, 24, .inl (ow_nI S.1))), ((nx 1), .inl (cI, 24, .inl (ow_nI S.2))), ((nx 4), .inl (cI, 24, .inl F4)), ((nx 5), .inl (cI, 24, .inl F5)), ((nx 6), .inl (cI, 24, .inl Z))])) (va_Qi (fun r (g : Int32 × (Nat → Int32) × (Nat → Int32) × (Nat → Int32)) => r = np_onceR cn S) (fun g t => va_P (dC, dI) vwCl [(aX, .inr (10, [.ref (nx 0), .ref (nx 1), .ref (nx 2), .ref (nx 3), .ref (nx 4), .ref (nx 5), .ref (nx 6), .int (nI cn), .int x8, .int (nI (np_rings cn S.1).2), .int g.1])), ((nx 0), .inl (cI, 24, .inl (ow_nI (np_onceS cn S).1))), ((nx 1), .inl (cI, 24, .inl (ow_nI (np_onceS cn S).2))), ((nx 4), .inl (cI, 24, .inl g.2.1)), ((nx 5), .inl (cI, 24, .inl g.2.2.1)), ((nx 6), .inl (cI, 24, .inl g.2.2.2))] t.heap ∧ va_D (va_A [(aX, .inr (10, [.ref (nx 0), .ref (nx 1), .ref (nx 2), .ref (nx 3), .ref (nx 4), .ref (nx 5), .ref (nx 6), .int (nI cn), .int x8, .int x9, .int x10])), ((nx 0), .inl (cI, 24, .inl (ow_nI S.1))), ((nx 1), .inl (cI, 24, .inl (ow_nI S.2))), ((nx 4), .inl (cI, 24, .inl F4)), ((nx 5), .inl (cI, 24, .inl F5)), ((nx 6), .inl (cI, 24, .inl Z))] sz) [(aX, .inr (10, [.ref (nx 0), .ref (nx 1), .ref (nx 2), .ref (nx 3), .ref (nx 4), .ref (nx 5), .ref (nx 6), .int (nI cn), .int x8, .int (nI (np_rings cn S.1).2), .int g.1])), ((nx 0), .inl (cI, 24, .inl (ow_nI (np_onceS cn S).1))), ((nx 1), .inl (cI, 24, .inl (ow_nI (np_onceS cn S).2))), ((nx 4), .inl (cI, 24, .inl g.2.1)), ((nx 5), .inl (cI, 24, .inl g.2.2.1)), ((nx 6), .inl (cI, 24, .inl g.2.2.2))]) (va_A [(aX, .inr (10, [.ref (nx 0), .ref (nx 1), .ref (nx 2), .ref (nx 3), .ref (nx 4), .ref (nx 5), .ref (nx 6), .int (nI cn), .int x8, .int x9, .int x10])), ((nx 0), .inl (cI, 24, .inl (ow_nI S.1))), ((nx 1), .inl (cI, 24, .inl (ow_nI S.2))), ((nx 4), .inl (cI, 24, .inl F4)), ((nx 5), .inl (cI, 24, .inl F5)), ((nx 6), .inl (cI, 24, .inl Z))] sz)) 0 0 (va_A [(aX, .inr (10, [.ref (nx 0), .ref (nx 1), .ref (nx 2), .ref (nx 3), .ref (nx 4), .ref (nx 5), .ref (nx 6), .int (nI cn), .int x8, .int x9, .int x10])), ((nx 0), .inl (cI, 24, .inl (ow_nI S.1))), ((nx 1), .inl (cI, 24, .inl (ow_nI S.2))), ((nx 4), .inl (cI, 24, .inl F4)), ((nx 5), .inl (cI, 24, .inl F5)), ((nx 6), .inl (cI, 24, .inl Z))] sz) := by
  refine Met.ofW (cc := cX7_partOnce) (maxL := 4) (ret := (some .boolean)) (by decide) rfl ?_
  intro p e s m args below meth c s₁ B hml hv
  obtain ⟨rfl, hsz, hP, hK, hD0⟩ := hv
  have hx := B.exec
  have hb := B.bytes
  have hr := B.returns
  have hts := atoms_spec (ws := wg_X7_partOnce) B.pre
  have hown : s.vm.findClass RX7 = some m.cls := findClass_of_methodNamed B.named
  have hlocks := B.notSynchronized
  subst hsz
  have hD := hD0.self (sz := s.heap.size)
  generalize hAe : va_A [(aX, .inr (10, [.ref (nx 0), .ref (nx 1), .ref (nx 2), .ref (nx 3), .ref (nx 4), .ref (nx 5), .ref (nx 6), .int (nI cn), .int x8, .int x9, .int x10])), ((nx 0), .inl (cI, 24, .inl (ow_nI S.1))), ((nx 1), .inl (cI, 24, .inl (ow_nI S.2))), ((nx 4), .inl (cI, 24, .inl F4)), ((nx 5), .inl (cI, 24, .inl F5)), ((nx 6), .inl (cI, 24, .inl Z))] s.heap.size = A at hD ⊢
  have hA : ∀ q : Nat, s.heap.size ≤ q → A q := fun q h => by rw [← hAe]; exact Or.inr h
  have hS : va_S A s.heap s.heap [] := va_S.rf
  have hP : va_P (dC, dI) vwCl [(aX, .inr (10, [.ref (nx 0), .ref (nx 1), .ref (nx 2), .ref (nx 3), .ref (nx 4), .ref (nx 5), .ref (nx 6), .int (nI cn), .int x8, .int x9, .int x10])), ((nx 0), .inl (cI, 24, .inl (ow_nI S.1))), ((nx 1), .inl (cI, 24, .inl (ow_nI S.2))), ((nx 4), .inl (cI, 24, .inl F4)), ((nx 5), .inl (cI, 24, .inl F5)), ((nx 6), .inl (cI, 24, .inl Z))] s.heap := hP
  have hl := lv_entry ([.ref aX]) (n := 4) (Nat.le_of_ble_eq_true rfl)
  rw [lg_entry_eq]
  generalize (lg_sl ([.ref aX]) ++ List.replicate (4 - (lg_sl ([.ref aX])).length) Slot.unset).toArray = ls at hl ⊢
  have hl : lv_has ls 4 [(0, .ref aX)] := hl
  refine ow_named (fun QQ hQQ => ?_)
  suffices key9 : ∀ (H : Heap) (locs : List Loc), va_P (dC, dI) vwCl [(aX, .inr (10, [.ref (nx 0), .ref (nx 1), .ref (nx 2), .ref (nx 3), .ref (nx 4), .ref (nx 5), .ref (nx 6), .int (nI cn), .int x8, .int x9, .int x10])), ((nx 0), .inl (cI, 24, .inl (ow_nI S.1))), ((nx 1), .inl (cI, 24, .inl (ow_nI S.2))), ((nx 4), .inl (cI, 24, .inl F4)), ((nx 5), .inl (cI, 24, .inl F5)), ((nx 6), .inl (cI, 24, .inl Z))] H → va_S A s.heap H locs → W p l e ({ frames := 3, cells := 0, slots := 0, locals := 80 } : Room) s m ([.ref aX] : List Value).toArray below meth c H locs 0 0 QQ (F0 m 0 ls []) from key9 s.heap [] hP hS
  intro H locs hP hS
  have hN : ∀ k, k < 2 * cn → S.1 k < 2 * cn := fun k h => (hvn k h).1
  refine lv_aload_n hx hb dgX7_partOnce_0 rfl (lv_at hl 0 rfl) ?_
  have hPc := hP.sub (ws' := [(aX, .inr (10, [.ref (nx 0), .ref (nx 1), .ref (nx 2), .ref (nx 3), .ref (nx 4), .ref (nx 5), .ref (nx 6), .int (nI cn), .int x8, .int x9, .int x10])), ((nx 0), .inl (cI, 24, .inl (ow_nI S.1))), ((nx 4), .inl (cI, 24, .inl F4))]) [0, 1, 3] rfl
  have hDc := hD.sub (ws' := [(aX, .inr (10, [.ref (nx 0), .ref (nx 1), .ref (nx 2), .ref (nx 3), .ref (nx 4), .ref (nx 5), .ref (nx 6), .int (nI cn), .int x8, .int x9, .int x10])), ((nx 0), .inl (cI, 24, .inl (ow_nI S.1))), ((nx 4), .inl (cI, 24, .inl F4))]) [0, 1, 3] (by decide) rfl
  have hFc := va_free (wc := [(aX, .inr (10, [.ref (nx 0), .ref (nx 1), .ref (nx 2), .ref (nx 3), .ref (nx 4), .ref (nx 5), .ref (nx 6), .int (nI cn), .int x8, .int x9, .int x10])), ((nx 0), .inl (cI, 24, .inl (ow_nI S.1))), ((nx 4), .inl (cI, 24, .inl F4))]) hD hS hA [0, 1, 3] rfl
  refine va_callv (va_runV (As := []) (rest := []) ⟨hx, hb, hml, hown, hts⟩ (kg_X7_markRings l dC dI cI cB cJ cZ aX nx x8 x9 x10 S hS0 F4 cn hc H.size) (cwV 0 hts gg_X7_partOnce_0 rfl rfl rfl (by decide +kernel) ⟨(Nat.le_of_ble_eq_true rfl), (Nat.le_of_ble_eq_true rfl)⟩) ⟨fun a U g mk q => by obtain ⟨q0, q1, qP, qK, qD⟩ := q; exact ⟨q0, q1, qP, va_K.moved (u := U) (U := U.calling g mk a) (Vm.Alike.refl U.vm) qK, qD⟩, va_recv hK hPc (ci := 10) (q0 := 0) rfl rfl, fun U hU hW => ⟨rfl, by rw [hU], by rw [hU]; exact hPc, va_K.moved hW.alike hK, hDc.weaken (fun _ _ _ _ => trivial)⟩⟩ rfl rfl hl.1 rfl (lv_room (Nat.le_of_ble_eq_true rfl)) dgX7_partOnce_1 ⟨(Nat.le_of_ble_eq_true rfl), (Nat.le_of_ble_eq_true rfl)⟩) hS (fun q _ h => hFc q h) hFc (fun u9 t H1 locs ht hvm hw hB hz1 hk1 hS => ?_)
  obtain ⟨hP1, hD1⟩ := hB
  rw [ht] at hP1
  obtain ⟨hP, hD⟩ := va_join (wr := [((nx 1), .inl (cI, 24, .inl (ow_nI S.2))), ((nx 5), .inl (cI, 24, .inl F5)), ((nx 6), .inl (cI, 24, .inl Z))]) (w1 := [(aX, .inr (10, [.ref (nx 0), .ref (nx 1), .ref (nx 2), .ref (nx 3), .ref (nx 4), .ref (nx 5), .ref (nx 6), .int (nI cn), .int x8, .int (nI (mr_out S.1 (2 * cn) (np_fill F4 0 (2 * cn) (-1)) (2 * cn)).2), .int x10])), ((nx 0), .inl (cI, 24, .inl (ow_nI S.1))), ((nx 4), .inl (cI, 24, .inl ((mr_out S.1 (2 * cn) (np_fill F4 0 (2 * cn) (-1)) (2 * cn)).1)))]) hP hD [0, 1, 3] [2, 4, 5] rfl rfl (by decide) (by decide) hk1 hFc hP1 hD1
  generalize H1 = H at hP hS ⊢
  have hP : va_P (dC, dI) vwCl [((nx 1), .inl (cI, 24, .inl (ow_nI S.2))), ((nx 5), .inl (cI, 24, .inl F5)), ((nx 6), .inl (cI, 24, .inl Z)), (aX, .inr (10, [.ref (nx 0), .ref (nx 1), .ref (nx 2), .ref (nx 3), .ref (nx 4), .ref (nx 5), .ref (nx 6), .int (nI cn), .int x8, .int (nI (mr_out S.1 (2 * cn) (np_fill F4 0 (2 * cn) (-1)) (2 * cn)).2), .int x10])), ((nx 0), .inl (cI, 24, .inl (ow_nI S.1))), ((nx 4), .inl (cI, 24, .inl ((mr_out S.1 (2 * cn) (np_fill F4 0 (2 * cn) (-1)) (2 * cn)).1)))] H := hP
  have hD : va_D A [((nx 1), .inl (cI, 24, .inl (ow_nI S.2))), ((nx 5), .inl (cI, 24, .inl F5)), ((nx 6), .inl (cI, 24, .inl Z)), (aX, .inr (10, [.ref (nx 0), .ref (nx 1), .ref (nx 2), .ref (nx 3), .ref (nx 4), .ref (nx 5), .ref (nx 6), .int (nI cn), .int x8, .int (nI (mr_out S.1 (2 * cn) (np_fill F4 0 (2 * cn) (-1)) (2 * cn)).2), .int x10])), ((nx 0), .inl (cI, 24, .inl (ow_nI S.1))), ((nx 4), .inl (cI, 24, .inl ((mr_out S.1 (2 * cn) (np_fill F4 0 (2 * cn) (-1)) (2 * cn)).1)))] := hD
  have hP := hP.sub (ws' := [(aX, .inr (10, [.ref (nx 0), .ref (nx 1), .ref (nx 2), .ref (nx 3), .ref (nx 4), .ref (nx 5), .ref (nx 6), .int (nI cn), .int x8, .int (nI (mr_out S.1 (2 * cn) (np_fill F4 0 (2 * cn) (-1)) (2 * cn)).2), .int x10])), ((nx 0), .inl (cI, 24, .inl (ow_nI S.1))), ((nx 1), .inl (cI, 24, .inl (ow_nI S.2))), ((nx 4), .inl (cI, 24, .inl ((mr_out S.1 (2 * cn) (np_fill F4 0 (2 * cn) (-1)) (2 * cn)).1))), ((nx 5), .inl (cI, 24, .inl F5)), ((nx 6), .inl (cI, 24, .inl Z))]) [3, 4, 0, 5, 1, 2] rfl
  have hD := hD.sub (ws' := [(aX, .inr (10, [.ref (nx 0), .ref (nx 1), .ref (nx 2), .ref (nx 3), .ref (nx 4), .ref (nx 5), .ref (nx 6), .int (nI cn), .int x8, .int (nI (mr_out S.1 (2 * cn) (np_fill F4 0 (2 * cn) (-1)) (2 * cn)).2), .int x10])), ((nx 0), .inl (cI, 24, .inl (ow_nI S.1))), ((nx 1), .inl (cI, 24, .inl (ow_nI S.2))), ((nx 4), .inl (cI, 24, .inl ((mr_out S.1 (2 * cn) (np_fill F4 0 (2 * cn) (-1)) (2 * cn)).1))), ((nx 5), .inl (cI, 24, .inl F5)), ((nx 6), .inl (cI, 24, .inl Z))]) [3, 4, 0, 5, 1, 2] (by decide) rfl
  have hpr := np_rings_of hN F4
  have hg4 := hpr.1
  generalize hge4 : (mr_out S.1 (2 * cn) (np_fill F4 0 (2 * cn) (-1)) (2 * cn)).1 = g4 at hP hD hg4
  have hP : va_P (dC, dI) vwCl [(aX, .inr (10, [.ref (nx 0), .ref (nx 1), .ref (nx 2), .ref (nx 3), .ref (nx 4), .ref (nx 5), .ref (nx 6), .int (nI cn), .int x8, .int (nI (np_rings cn S.1).2), .int x10])), ((nx 0), .inl (cI, 24, .inl (ow_nI S.1))), ((nx 1), .inl (cI, 24, .inl (ow_nI S.2))), ((nx 4), .inl (cI, 24, .inl g4)), ((nx 5), .inl (cI, 24, .inl F5)), ((nx 6), .inl (cI, 24, .inl Z))] H := by rw [← hpr.2]; exact hP
  have hD : va_D A [(aX, .inr (10, [.ref (nx 0), .ref (nx 1), .ref (nx 2), .ref (nx 3), .ref (nx 4), .ref (nx 5), .ref (nx 6), .int (nI cn), .int x8, .int (nI (np_rings cn S.1).2), .int x10])), ((nx 0), .inl (cI, 24, .inl (ow_nI S.1))), ((nx 1), .inl (cI, 24, .inl (ow_nI S.2))), ((nx 4), .inl (cI, 24, .inl g4)), ((nx 5), .inl (cI, 24, .inl F5)), ((nx 6), .inl (cI, 24, .inl Z))] := by rw [← hpr.2]; exact hD
  refine lv_aload_n hx hb dgX7_partOnce_4 rfl (lv_at hl 0 rfl) ?_
  have hPc := hP.sub (ws' := [(aX, .inr (10, [.ref (nx 0), .ref (nx 1), .ref (nx 2), .ref (nx 3), .ref (nx 4), .ref (nx 5), .ref (nx 6), .int (nI cn), .int x8, .int (nI (np_rings cn S.1).2), .int x10])), ((nx 0), .inl (cI, 24, .inl (ow_nI S.1))), ((nx 5), .inl (cI, 24, .inl F5)), ((nx 6), .inl (cI, 24, .inl Z))]) [0, 1, 4, 5] rfl
  have hDc := hD.sub (ws' := [(aX, .inr (10, [.ref (nx 0), .ref (nx 1), .ref (nx 2), .ref (nx 3), .ref (nx 4), .ref (nx 5), .ref (nx 6), .int (nI cn), .int x8, .int (nI (np_rings cn S.1).2), .int x10])), ((nx 0), .inl (cI, 24, .inl (ow_nI S.1))), ((nx 5), .inl (cI, 24, .inl F5)), ((nx 6), .inl (cI, 24, .inl Z))]) [0, 1, 4, 5] (by decide) rfl
  have hFc := va_free (wc := [(aX, .inr (10, [.ref (nx 0), .ref (nx 1), .ref (nx 2), .ref (nx 3), .ref (nx 4), .ref (nx 5), .ref (nx 6), .int (nI cn), .int x8, .int (nI (np_rings cn S.1).2), .int x10])), ((nx 0), .inl (cI, 24, .inl (ow_nI S.1))), ((nx 5), .inl (cI, 24, .inl F5)), ((nx 6), .inl (cI, 24, .inl Z))]) hD hS hA [0, 1, 4, 5] rfl
  refine va_callv (va_runV (As := []) (rest := []) ⟨hx, hb, hml, hown, hts⟩ (kg_X7_markParts l dC dI cI cB cJ cZ aX nx x8 (nI (np_rings cn S.1).2) x10 S hS0 F5 Z cn hc hN H.size) (cwV 0 hts gg_X7_partOnce_1 rfl rfl rfl (by decide +kernel) ⟨(Nat.le_of_ble_eq_true rfl), (Nat.le_of_ble_eq_true rfl)⟩) ⟨fun a U g mk q => by obtain ⟨q0, q1, qP, qK, qD⟩ := q; exact ⟨q0, q1, qP, va_K.moved (u := U) (U := U.calling g mk a) (Vm.Alike.refl U.vm) qK, qD⟩, va_recv hK hPc (ci := 10) (q0 := 0) rfl rfl, fun U hU hW => ⟨rfl, by rw [hU], by rw [hU]; exact hPc, va_K.moved hW.alike hK, hDc.weaken (fun _ _ _ _ => trivial)⟩⟩ rfl rfl hl.1 rfl (lv_room (Nat.le_of_ble_eq_true rfl)) dgX7_partOnce_5 ⟨(Nat.le_of_ble_eq_true rfl), (Nat.le_of_ble_eq_true rfl)⟩) hS (fun q _ h => hFc q h) hFc (fun g6 t H1 locs ht hvm hw hB hz1 hk1 hS => ?_)
  obtain ⟨hP1, hD1⟩ := hB
  rw [ht] at hP1
  obtain ⟨hP, hD⟩ := va_join (wr := [((nx 1), .inl (cI, 24, .inl (ow_nI S.2))), ((nx 4), .inl (cI, 24, .inl g4))]) (w1 := [(aX, .inr (10, [.ref (nx 0), .ref (nx 1), .ref (nx 2), .ref (nx 3), .ref (nx 4), .ref (nx 5), .ref (nx 6), .int (nI cn), .int x8, .int (nI (np_rings cn S.1).2), .int (nI (mp_out S.1 (2 * cn) (np_fill F5 0 (2 * cn) (-1)) (2 * cn)).2)])), ((nx 0), .inl (cI, 24, .inl (ow_nI S.1))), ((nx 5), .inl (cI, 24, .inl ((mp_out S.1 (2 * cn) (np_fill F5 0 (2 * cn) (-1)) (2 * cn)).1))), ((nx 6), .inl (cI, 24, .inl g6))]) hP hD [0, 1, 4, 5] [2, 3] rfl rfl (by decide) (by decide) hk1 hFc hP1 hD1
  generalize H1 = H at hP hS ⊢
  have hP : va_P (dC, dI) vwCl [((nx 1), .inl (cI, 24, .inl (ow_nI S.2))), ((nx 4), .inl (cI, 24, .inl g4)), (aX, .inr (10, [.ref (nx 0), .ref (nx 1), .ref (nx 2), .ref (nx 3), .ref (nx 4), .ref (nx 5), .ref (nx 6), .int (nI cn), .int x8, .int (nI (np_rings cn S.1).2), .int (nI (mp_out S.1 (2 * cn) (np_fill F5 0 (2 * cn) (-1)) (2 * cn)).2)])), ((nx 0), .inl (cI, 24, .inl (ow_nI S.1))), ((nx 5), .inl (cI, 24, .inl ((mp_out S.1 (2 * cn) (np_fill F5 0 (2 * cn) (-1)) (2 * cn)).1))), ((nx 6), .inl (cI, 24, .inl g6))] H := hP
  have hD : va_D A [((nx 1), .inl (cI, 24, .inl (ow_nI S.2))), ((nx 4), .inl (cI, 24, .inl g4)), (aX, .inr (10, [.ref (nx 0), .ref (nx 1), .ref (nx 2), .ref (nx 3), .ref (nx 4), .ref (nx 5), .ref (nx 6), .int (nI cn), .int x8, .int (nI (np_rings cn S.1).2), .int (nI (mp_out S.1 (2 * cn) (np_fill F5 0 (2 * cn) (-1)) (2 * cn)).2)])), ((nx 0), .inl (cI, 24, .inl (ow_nI S.1))), ((nx 5), .inl (cI, 24, .inl ((mp_out S.1 (2 * cn) (np_fill F5 0 (2 * cn) (-1)) (2 * cn)).1))), ((nx 6), .inl (cI, 24, .inl g6))] := hD
  have hP := hP.sub (ws' := [(aX, .inr (10, [.ref (nx 0), .ref (nx 1), .ref (nx 2), .ref (nx 3), .ref (nx 4), .ref (nx 5), .ref (nx 6), .int (nI cn), .int x8, .int (nI (np_rings cn S.1).2), .int (nI (mp_out S.1 (2 * cn) (np_fill F5 0 (2 * cn) (-1)) (2 * cn)).2)])), ((nx 0), .inl (cI, 24, .inl (ow_nI S.1))), ((nx 1), .inl (cI, 24, .inl (ow_nI S.2))), ((nx 4), .inl (cI, 24, .inl g4)), ((nx 5), .inl (cI, 24, .inl ((mp_out S.1 (2 * cn) (np_fill F5 0 (2 * cn) (-1)) (2 * cn)).1))), ((nx 6), .inl (cI, 24, .inl g6))]) [2, 3, 0, 1, 4, 5] rfl
  have hD := hD.sub (ws' := [(aX, .inr (10, [.ref (nx 0), .ref (nx 1), .ref (nx 2), .ref (nx 3), .ref (nx 4), .ref (nx 5), .ref (nx 6), .int (nI cn), .int x8, .int (nI (np_rings cn S.1).2), .int (nI (mp_out S.1 (2 * cn) (np_fill F5 0 (2 * cn) (-1)) (2 * cn)).2)])), ((nx 0), .inl (cI, 24, .inl (ow_nI S.1))), ((nx 1), .inl (cI, 24, .inl (ow_nI S.2))), ((nx 4), .inl (cI, 24, .inl g4)), ((nx 5), .inl (cI, 24, .inl ((mp_out S.1 (2 * cn) (np_fill F5 0 (2 * cn) (-1)) (2 * cn)).1))), ((nx 6), .inl (cI, 24, .inl g6))]) [2, 3, 0, 1, 4, 5] (by decide) rfl
  have hpp := np_parts_of (N := S.1) hN hc F5
  generalize hge5 : (mp_out S.1 (2 * cn) (np_fill F5 0 (2 * cn) (-1)) (2 * cn)).1 = g5 at hP hD
  have hP : va_P (dC, dI) vwCl [(aX, .inr (10, [.ref (nx 0), .ref (nx 1), .ref (nx 2), .ref (nx 3), .ref (nx 4), .ref (nx 5), .ref (nx 6), .int (nI cn), .int x8, .int (nI (np_rings cn S.1).2), .int (nI (np_parts cn S.1).2)])), ((nx 0), .inl (cI, 24, .inl (ow_nI S.1))), ((nx 1), .inl (cI, 24, .inl (ow_nI S.2))), ((nx 4), .inl (cI, 24, .inl g4)), ((nx 5), .inl (cI, 24, .inl g5)), ((nx 6), .inl (cI, 24, .inl g6))] H := by rw [← hpp.2]; exact hP
  have hD : va_D A [(aX, .inr (10, [.ref (nx 0), .ref (nx 1), .ref (nx 2), .ref (nx 3), .ref (nx 4), .ref (nx 5), .ref (nx 6), .int (nI cn), .int x8, .int (nI (np_rings cn S.1).2), .int (nI (np_parts cn S.1).2)])), ((nx 0), .inl (cI, 24, .inl (ow_nI S.1))), ((nx 1), .inl (cI, 24, .inl (ow_nI S.2))), ((nx 4), .inl (cI, 24, .inl g4)), ((nx 5), .inl (cI, 24, .inl g5)), ((nx 6), .inl (cI, 24, .inl g6))] := by rw [← hpp.2]; exact hD
  have hbp := np_parts_le cn S.1
  generalize hpbe : (np_parts cn S.1).2 = pb at hP hD hbp
  have hP : va_P (dC, dI) vwCl [(aX, .inr (10, [.ref (nx 0), .ref (nx 1), .ref (nx 2), .ref (nx 3), .ref (nx 4), .ref (nx 5), .ref (nx 6), .int (nI cn), .int x8, .int (nI (np_rings cn S.1).2), .int (nI pb)])), ((nx 0), .inl (cI, 24, .inl (ow_nI S.1))), ((nx 1), .inl (cI, 24, .inl (ow_nI S.2))), ((nx 4), .inl (cI, 24, .inl g4)), ((nx 5), .inl (cI, 24, .inl g5)), ((nx 6), .inl (cI, 24, .inl g6))] H := hP
  have hD : va_D A [(aX, .inr (10, [.ref (nx 0), .ref (nx 1), .ref (nx 2), .ref (nx 3), .ref (nx 4), .ref (nx 5), .ref (nx 6), .int (nI cn), .int x8, .int (nI (np_rings cn S.1).2), .int (nI pb)])), ((nx 0), .inl (cI, 24, .inl (ow_nI S.1))), ((nx 1), .inl (cI, 24, .inl (ow_nI S.2))), ((nx 4), .inl (cI, 24, .inl g4)), ((nx 5), .inl (cI, 24, .inl g5)), ((nx 6), .inl (cI, 24, .inl g6))] := hD
  refine lv_aload_n hx hb dgX7_partOnce_8 rfl (lv_at hl 0 rfl) ?_
  refine va_get (D := (dC, dI)) (ci := 10) (v := .int (nI pb)) (C := RX7) (T := TX7) (N := 11) hx hb hts (fun _ h => List.mem_cons_of_mem _ (List.mem_append_left _ (List.mem_append_right _ h))) hown hK hP 0 rfl rfl 10 (by decide) (hts (.fieldLink RX7 90 "KnotHouse$Net" "parts" "I") (by decide +kernel)) (fun _ h9 => h9) rfl dgX7_partOnce_9 ?_
  refine lv_istore_n (lv' := [(1, .int (nI pb)), (0, .ref aX)]) hx hb dgX7_partOnce_12 rfl hl (by decide) rfl (fun ls hl => ?_)
  have L15 : ∀ (d i : Nat) (y : Int32) (g5 g6 : Nat → Int32), i + d = 2 * cn → np_once cn S = po_v (po_P cn S) (2 * cn) d i → ∀ (H : Heap) (locs : List Loc) (ls : Array Slot), va_P (dC, dI) vwCl [(aX, .inr (10, [.ref (nx 0), .ref (nx 1), .ref (nx 2), .ref (nx 3), .ref (nx 4), .ref (nx 5), .ref (nx 6), .int (nI cn), .int x8, .int (nI (np_rings cn S.1).2), .int y])), ((nx 0), .inl (cI, 24, .inl (ow_nI S.1))), ((nx 1), .inl (cI, 24, .inl (ow_nI S.2))), ((nx 4), .inl (cI, 24, .inl g4)), ((nx 5), .inl (cI, 24, .inl g5)), ((nx 6), .inl (cI, 24, .inl g6))] H → va_D A [(aX, .inr (10, [.ref (nx 0), .ref (nx 1), .ref (nx 2), .ref (nx 3), .ref (nx 4), .ref (nx 5), .ref (nx 6), .int (nI cn), .int x8, .int (nI (np_rings cn S.1).2), .int y])), ((nx 0), .inl (cI, 24, .inl (ow_nI S.1))), ((nx 1), .inl (cI, 24, .inl (ow_nI S.2))), ((nx 4), .inl (cI, 24, .inl g4)), ((nx 5), .inl (cI, 24, .inl g5)), ((nx 6), .inl (cI, 24, .inl g6))] → va_S A s.heap H locs → lv_has ls 4 [(0, .ref aX), (1, .int (nI pb)), (2, .int (nI i))] → W p l e ({ frames := 3, cells := 0, slots := 0, locals := 80 } : Room) s m ([.ref aX] : List Value).toArray below meth c H locs 0 0 QQ (F0 m 15 ls []) := by
    intro d
    induction d with
    | zero =>
      intro i y g5 g6 hi hq H locs ls hP hD hS hl
      have hq : np_once cn S = none := hq
      refine lv_iload_n hx hb dgX7_partOnce_15 rfl (lv_at hl 2 rfl) ?_
      refine lv_iconst (v := 2) hx hb dgX7_partOnce_16 (by decide) ?_
      refine lv_aload_n hx hb dgX7_partOnce_17 rfl (lv_at hl 0 rfl) ?_
      refine va_get (D := (dC, dI)) (ci := 10) (v := .int (nI cn)) (C := RX7) (T := TX7) (N := 11) hx hb hts (fun _ h => List.mem_cons_of_mem _ (List.mem_append_left _ (List.mem_append_right _ h))) hown hK hP 0 rfl rfl 7 (by decide) (hts (.fieldLink RX7 39 "KnotHouse$Net" "crossings" "I") (by decide +kernel)) (fun _ h9 => h9) rfl dgX7_partOnce_18 ?_
      refine lv_imul hx hb dgX7_partOnce_21 ?_
      refine ow_topi (y := nI (2 * cn)) (pk_mul 2 cn) ?_
      refine lv_icmp_ge (tgt := 95) hx hb dgX7_partOnce_22 (by decide) (fun _ => ?_) (fun c9 => absurd (nI_le (a := 2 * cn) (b := i) (by omega) (by omega)) c9)
      have hP : va_P (dC, dI) vwCl [(aX, .inr (10, [.ref (nx 0), .ref (nx 1), .ref (nx 2), .ref (nx 3), .ref (nx 4), .ref (nx 5), .ref (nx 6), .int (nI cn), .int x8, .int (nI (np_rings cn S.1).2), .int y])), ((nx 0), .inl (cI, 24, .inl (ow_nI (np_onceS cn S).1))), ((nx 1), .inl (cI, 24, .inl (ow_nI (np_onceS cn S).2))), ((nx 4), .inl (cI, 24, .inl g4)), ((nx 5), .inl (cI, 24, .inl g5)), ((nx 6), .inl (cI, 24, .inl g6))] H := by rw [show np_onceS cn S = S from by rw [np_onceS, hq]]; exact hP
      have hD : va_D A [(aX, .inr (10, [.ref (nx 0), .ref (nx 1), .ref (nx 2), .ref (nx 3), .ref (nx 4), .ref (nx 5), .ref (nx 6), .int (nI cn), .int x8, .int (nI (np_rings cn S.1).2), .int y])), ((nx 0), .inl (cI, 24, .inl (ow_nI (np_onceS cn S).1))), ((nx 1), .inl (cI, 24, .inl (ow_nI (np_onceS cn S).2))), ((nx 4), .inl (cI, 24, .inl g4)), ((nx 5), .inl (cI, 24, .inl g5)), ((nx 6), .inl (cI, 24, .inl g6))] := by rw [show np_onceS cn S = S from by rw [np_onceS, hq]]; exact hD
      refine lv_iconst (v := 0) hx hb dgX7_partOnce_95 (by decide) ?_
      rw [hQQ]
      exact W.zret (v := 0) (ty := .boolean) hx hb hr rfl (fun t ht hW => ⟨⟨0, (y, g4, g5, g6), rfl, by rw [np_onceR, hq], by rw [ht]; exact hP, hD⟩, hS.F ht⟩) hS.2.2 dgX7_partOnce_96
    | succ d ih =>
      intro i y g5 g6 hi hq H locs ls hP hD hS hl
      refine lv_iload_n hx hb dgX7_partOnce_15 rfl (lv_at hl 2 rfl) ?_
      refine lv_iconst (v := 2) hx hb dgX7_partOnce_16 (by decide) ?_
      refine lv_aload_n hx hb dgX7_partOnce_17 rfl (lv_at hl 0 rfl) ?_
      refine va_get (D := (dC, dI)) (ci := 10) (v := .int (nI cn)) (C := RX7) (T := TX7) (N := 11) hx hb hts (fun _ h => List.mem_cons_of_mem _ (List.mem_append_left _ (List.mem_append_right _ h))) hown hK hP 0 rfl rfl 7 (by decide) (hts (.fieldLink RX7 39 "KnotHouse$Net" "crossings" "I") (by decide +kernel)) (fun _ h9 => h9) rfl dgX7_partOnce_18 ?_
      refine lv_imul hx hb dgX7_partOnce_21 ?_
      refine ow_topi (y := nI (2 * cn)) (pk_mul 2 cn) ?_
      refine lv_icmp_ge (tgt := 95) hx hb dgX7_partOnce_22 (by decide) (fun c9 => absurd c9 (nI_ge (a := i) (b := 2 * cn) (by omega) (by omega))) (fun _ => ?_)
      refine lv_iload_n hx hb dgX7_partOnce_25 rfl (lv_at hl 2 rfl) ?_
      refine lv_iconst (v := 1) hx hb dgX7_partOnce_26 (by decide) ?_
      refine lv_iadd hx hb dgX7_partOnce_27 ?_
      refine ow_topi (y := nI (i + 1)) (nI_1 (i)) ?_
      refine lv_istore_n (lv' := [(3, .int (nI (i + 1))), (0, .ref aX), (1, .int (nI pb)), (2, .int (nI i))]) hx hb dgX7_partOnce_28 rfl hl (by decide) rfl (fun ls hl => ?_)
      have L29 : ∀ (e2 j : Nat) (y : Int32) (g5 g6 : Nat → Int32), j + e2 = 2 * cn → i < j → np_once cn S = po_in (po_P cn S) (2 * cn) d i (po_w ((po_P cn S) i) e2 j) → ∀ (H : Heap) (locs : List Loc) (ls : Array Slot), va_P (dC, dI) vwCl [(aX, .inr (10, [.ref (nx 0), .ref (nx 1), .ref (nx 2), .ref (nx 3), .ref (nx 4), .ref (nx 5), .ref (nx 6), .int (nI cn), .int x8, .int (nI (np_rings cn S.1).2), .int y])), ((nx 0), .inl (cI, 24, .inl (ow_nI S.1))), ((nx 1), .inl (cI, 24, .inl (ow_nI S.2))), ((nx 4), .inl (cI, 24, .inl g4)), ((nx 5), .inl (cI, 24, .inl g5)), ((nx 6), .inl (cI, 24, .inl g6))] H → va_D A [(aX, .inr (10, [.ref (nx 0), .ref (nx 1), .ref (nx 2), .ref (nx 3), .ref (nx 4), .ref (nx 5), .ref (nx 6), .int (nI cn), .int x8, .int (nI (np_rings cn S.1).2), .int y])), ((nx 0), .inl (cI, 24, .inl (ow_nI S.1))), ((nx 1), .inl (cI, 24, .inl (ow_nI S.2))), ((nx 4), .inl (cI, 24, .inl g4)), ((nx 5), .inl (cI, 24, .inl g5)), ((nx 6), .inl (cI, 24, .inl g6))] → va_S A s.heap H locs → lv_has ls 4 [(0, .ref aX), (1, .int (nI pb)), (2, .int (nI i)), (3, .int (nI j))] → W p l e ({ frames := 3, cells := 0, slots := 0, locals := 80 } : Room) s m ([.ref aX] : List Value).toArray below meth c H locs 0 0 QQ (F0 m 29 ls []) := by
        intro e2
        induction e2 with
        | zero =>
          intro j y g5 g6 hj hij hq H locs ls hP hD hS hl
          refine lv_iload_n hx hb dgX7_partOnce_29 rfl (lv_at hl 3 rfl) ?_
          refine lv_iconst (v := 2) hx hb dgX7_partOnce_30 (by decide) ?_
          refine lv_aload_n hx hb dgX7_partOnce_31 rfl (lv_at hl 0 rfl) ?_
          refine va_get (D := (dC, dI)) (ci := 10) (v := .int (nI cn)) (C := RX7) (T := TX7) (N := 11) hx hb hts (fun _ h => List.mem_cons_of_mem _ (List.mem_append_left _ (List.mem_append_right _ h))) hown hK hP 0 rfl rfl 7 (by decide) (hts (.fieldLink RX7 39 "KnotHouse$Net" "crossings" "I") (by decide +kernel)) (fun _ h9 => h9) rfl dgX7_partOnce_32 ?_
          refine lv_imul hx hb dgX7_partOnce_35 ?_
          refine ow_topi (y := nI (2 * cn)) (pk_mul 2 cn) ?_
          refine lv_icmp_ge (tgt := 89) hx hb dgX7_partOnce_36 (by decide) (fun _ => ?_) (fun c9 => absurd (nI_le (a := 2 * cn) (b := j) (by omega) (by omega)) c9)
          refine lv_iinc (v := nI (i + 1)) (lv' := [(2, .int (nI (i + 1))), (0, .ref aX), (1, .int (nI pb)), (3, .int (nI j))]) hx hb dgX7_partOnce_89 hl (k := 2) rfl (nI_1 i) (by decide) rfl (fun ls hl => ?_)
          refine lv_goto (tgt := 15) hx hb dgX7_partOnce_92 (by decide) ?_
          exact ih (i + 1) y g5 g6 (by omega) hq H locs ls hP hD hS (lv_sub hl [1, 2, 0] rfl)
        | succ e2 ih2 =>
          intro j y g5 g6 hj hij hq H locs ls hP hD hS hl
          have hq : np_once cn S = po_in (po_P cn S) (2 * cn) d i (if (po_P cn S) i j then some j else po_w ((po_P cn S) i) e2 (j + 1)) := hq
          have hgi : g4 i = (np_rings cn S.1).1 i := hg4 i (by omega)
          have hgj : g4 j = (np_rings cn S.1).1 j := hg4 j (by omega)
          refine lv_iload_n hx hb dgX7_partOnce_29 rfl (lv_at hl 3 rfl) ?_
          refine lv_iconst (v := 2) hx hb dgX7_partOnce_30 (by decide) ?_
          refine lv_aload_n hx hb dgX7_partOnce_31 rfl (lv_at hl 0 rfl) ?_
          refine va_get (D := (dC, dI)) (ci := 10) (v := .int (nI cn)) (C := RX7) (T := TX7) (N := 11) hx hb hts (fun _ h => List.mem_cons_of_mem _ (List.mem_append_left _ (List.mem_append_right _ h))) hown hK hP 0 rfl rfl 7 (by decide) (hts (.fieldLink RX7 39 "KnotHouse$Net" "crossings" "I") (by decide +kernel)) (fun _ h9 => h9) rfl dgX7_partOnce_32 ?_
          refine lv_imul hx hb dgX7_partOnce_35 ?_
          refine ow_topi (y := nI (2 * cn)) (pk_mul 2 cn) ?_
          refine lv_icmp_ge (tgt := 89) hx hb dgX7_partOnce_36 (by decide) (fun c9 => absurd c9 (nI_ge (a := j) (b := 2 * cn) (by omega) (by omega))) (fun _ => ?_)
          refine lv_aload_n hx hb dgX7_partOnce_39 rfl (lv_at hl 0 rfl) ?_
          refine va_get (D := (dC, dI)) (ci := 10) (v := .ref (nx 4)) (C := RX7) (T := TX7) (N := 11) hx hb hts (fun _ h => List.mem_cons_of_mem _ (List.mem_append_left _ (List.mem_append_right _ h))) hown hK hP 0 rfl rfl 4 (by decide) (hts (.fieldLink RX7 24 "KnotHouse$Net" "component" "[I") (by decide +kernel)) (fun _ h9 => h9) rfl dgX7_partOnce_40 ?_
          refine lv_iload_n hx hb dgX7_partOnce_43 rfl (lv_at hl 2 rfl) ?_
          refine va_iald hx hb hK hP 3 0 rfl rfl (vp_in_nI (n := i) (N := 24) (by omega) (by decide)) dgX7_partOnce_44 ?_
          refine ow_topi (y := g4 i) (congrArg g4 (nI_clamp (n := i) (Nat.lt_trans (m := 24) (by omega) (by decide)))) ?_
          refine lv_aload_n hx hb dgX7_partOnce_45 rfl (lv_at hl 0 rfl) ?_
          refine va_get (D := (dC, dI)) (ci := 10) (v := .ref (nx 4)) (C := RX7) (T := TX7) (N := 11) hx hb hts (fun _ h => List.mem_cons_of_mem _ (List.mem_append_left _ (List.mem_append_right _ h))) hown hK hP 0 rfl rfl 4 (by decide) (hts (.fieldLink RX7 24 "KnotHouse$Net" "component" "[I") (by decide +kernel)) (fun _ h9 => h9) rfl dgX7_partOnce_46 ?_
          refine lv_iload_n hx hb dgX7_partOnce_49 rfl (lv_at hl 3 rfl) ?_
          refine va_iald hx hb hK hP 3 0 rfl rfl (vp_in_nI (n := j) (N := 24) (by omega) (by decide)) dgX7_partOnce_50 ?_
          refine ow_topi (y := g4 j) (congrArg g4 (nI_clamp (n := j) (Nat.lt_trans (m := 24) (by omega) (by decide)))) ?_
          refine lv_icmp_eq (tgt := 57) hx hb dgX7_partOnce_51 (by decide) (fun c1 => ?_) (fun c1 => ?_)
          · have hcc : (np_rings cn S.1).1 i = (np_rings cn S.1).1 j := hgi.symm.trans (c1.trans hgj)
            refine lv_aload_n hx hb dgX7_partOnce_57 rfl (lv_at hl 0 rfl) ?_
            refine lv_iload_n hx hb dgX7_partOnce_58 rfl (lv_at hl 2 rfl) ?_
            refine lv_iload_n hx hb dgX7_partOnce_59 rfl (lv_at hl 3 rfl) ?_
            have hPc := hP.sub (ws' := [(aX, .inr (10, [.ref (nx 0), .ref (nx 1), .ref (nx 2), .ref (nx 3), .ref (nx 4), .ref (nx 5), .ref (nx 6), .int (nI cn), .int x8, .int (nI (np_rings cn S.1).2), .int y])), ((nx 0), .inl (cI, 24, .inl (ow_nI S.1))), ((nx 1), .inl (cI, 24, .inl (ow_nI S.2)))]) [0, 1, 2] rfl
            have hDc := hD.sub (ws' := [(aX, .inr (10, [.ref (nx 0), .ref (nx 1), .ref (nx 2), .ref (nx 3), .ref (nx 4), .ref (nx 5), .ref (nx 6), .int (nI cn), .int x8, .int (nI (np_rings cn S.1).2), .int y])), ((nx 0), .inl (cI, 24, .inl (ow_nI S.1))), ((nx 1), .inl (cI, 24, .inl (ow_nI S.2)))]) [0, 1, 2] (by decide) rfl
            have hFc := va_free (wc := [(aX, .inr (10, [.ref (nx 0), .ref (nx 1), .ref (nx 2), .ref (nx 3), .ref (nx 4), .ref (nx 5), .ref (nx 6), .int (nI cn), .int x8, .int (nI (np_rings cn S.1).2), .int y])), ((nx 0), .inl (cI, 24, .inl (ow_nI S.1))), ((nx 1), .inl (cI, 24, .inl (ow_nI S.2)))]) hD hS hA [0, 1, 2] rfl
            refine va_callv (va_runV (As := [.int (nI i), .int (nI j)]) (rest := []) ⟨hx, hb, hml, hown, hts⟩ (kg_X7_exchange l dC dI cI cB cJ cZ aX nx (nI cn) x8 (nI (np_rings cn S.1).2) y S hS0 i j (by omega) (by omega) H.size) (cwV 2 hts gg_X7_partOnce_2 rfl rfl rfl (by decide +kernel) ⟨(Nat.le_of_ble_eq_true rfl), (Nat.le_of_ble_eq_true rfl)⟩) ⟨fun a U g mk q => by obtain ⟨q0, q1, qP, qK, qD⟩ := q; exact ⟨q0, q1, qP, va_K.moved (u := U) (U := U.calling g mk a) (Vm.Alike.refl U.vm) qK, qD⟩, va_recv hK hPc (ci := 10) (q0 := 0) rfl rfl, fun U hU hW => ⟨rfl, by rw [hU], by rw [hU]; exact hPc, va_K.moved hW.alike hK, hDc.weaken (fun _ _ _ _ => trivial)⟩⟩ rfl rfl hl.1 rfl (lv_room (Nat.le_of_ble_eq_true rfl)) dgX7_partOnce_60 ⟨(Nat.le_of_ble_eq_true rfl), (Nat.le_of_ble_eq_true rfl)⟩) hS (fun q _ h => hFc q h) hFc (fun u9 t H1 locs ht hvm hw hB hz1 hk1 hS => ?_)
            obtain ⟨hP1, hD1⟩ := hB
            rw [ht] at hP1
            obtain ⟨hP, hD⟩ := va_join (wr := [((nx 4), .inl (cI, 24, .inl g4)), ((nx 5), .inl (cI, 24, .inl g5)), ((nx 6), .inl (cI, 24, .inl g6))]) (w1 := [(aX, .inr (10, [.ref (nx 0), .ref (nx 1), .ref (nx 2), .ref (nx 3), .ref (nx 4), .ref (nx 5), .ref (nx 6), .int (nI cn), .int x8, .int (nI (np_rings cn S.1).2), .int y])), ((nx 0), .inl (cI, 24, .inl (ow_nI (np_exchange S i j).1))), ((nx 1), .inl (cI, 24, .inl (ow_nI (np_exchange S i j).2)))]) hP hD [0, 1, 2] [3, 4, 5] rfl rfl (by decide) (by decide) hk1 hFc hP1 hD1
            generalize H1 = H at hP hS ⊢
            have hP : va_P (dC, dI) vwCl [((nx 4), .inl (cI, 24, .inl g4)), ((nx 5), .inl (cI, 24, .inl g5)), ((nx 6), .inl (cI, 24, .inl g6)), (aX, .inr (10, [.ref (nx 0), .ref (nx 1), .ref (nx 2), .ref (nx 3), .ref (nx 4), .ref (nx 5), .ref (nx 6), .int (nI cn), .int x8, .int (nI (np_rings cn S.1).2), .int y])), ((nx 0), .inl (cI, 24, .inl (ow_nI (np_exchange S i j).1))), ((nx 1), .inl (cI, 24, .inl (ow_nI (np_exchange S i j).2)))] H := hP
            have hD : va_D A [((nx 4), .inl (cI, 24, .inl g4)), ((nx 5), .inl (cI, 24, .inl g5)), ((nx 6), .inl (cI, 24, .inl g6)), (aX, .inr (10, [.ref (nx 0), .ref (nx 1), .ref (nx 2), .ref (nx 3), .ref (nx 4), .ref (nx 5), .ref (nx 6), .int (nI cn), .int x8, .int (nI (np_rings cn S.1).2), .int y])), ((nx 0), .inl (cI, 24, .inl (ow_nI (np_exchange S i j).1))), ((nx 1), .inl (cI, 24, .inl (ow_nI (np_exchange S i j).2)))] := hD
            have hP := hP.sub (ws' := [(aX, .inr (10, [.ref (nx 0), .ref (nx 1), .ref (nx 2), .ref (nx 3), .ref (nx 4), .ref (nx 5), .ref (nx 6), .int (nI cn), .int x8, .int (nI (np_rings cn S.1).2), .int y])), ((nx 0), .inl (cI, 24, .inl (ow_nI (np_exchange S i j).1))), ((nx 1), .inl (cI, 24, .inl (ow_nI (np_exchange S i j).2))), ((nx 4), .inl (cI, 24, .inl g4)), ((nx 5), .inl (cI, 24, .inl g5)), ((nx 6), .inl (cI, 24, .inl g6))]) [3, 4, 5, 0, 1, 2] rfl
            have hD := hD.sub (ws' := [(aX, .inr (10, [.ref (nx 0), .ref (nx 1), .ref (nx 2), .ref (nx 3), .ref (nx 4), .ref (nx 5), .ref (nx 6), .int (nI cn), .int x8, .int (nI (np_rings cn S.1).2), .int y])), ((nx 0), .inl (cI, 24, .inl (ow_nI (np_exchange S i j).1))), ((nx 1), .inl (cI, 24, .inl (ow_nI (np_exchange S i j).2))), ((nx 4), .inl (cI, 24, .inl g4)), ((nx 5), .inl (cI, 24, .inl g5)), ((nx 6), .inl (cI, 24, .inl g6))]) [3, 4, 5, 0, 1, 2] (by decide) rfl
            have hvE := vn_exchange hvn (v := i) (w := j) (by omega) (by omega)
            have hbE := np_exchange_b24 hS0 (v := i) (w := j) (by omega) (by omega)
            have hP : va_P (dC, dI) vwCl [(aX, .inr (10, [.ref (nx 0), .ref (nx 1), .ref (nx 2), .ref (nx 3), .ref (nx 4), .ref (nx 5), .ref (nx 6), .int (nI cn), .int x8, .int (nI (np_rings cn S.1).2), .int y])), ((nx 0), .inl (cI, 24, .inl (ow_nI (np_exchange S i j).1))), ((nx 1), .inl (cI, 24, .inl (ow_nI (np_exchange S i j).2))), ((nx 4), .inl (cI, 24, .inl g4)), ((nx 5), .inl (cI, 24, .inl g5)), ((nx 6), .inl (cI, 24, .inl g6))] H := hP
            have hD : va_D A [(aX, .inr (10, [.ref (nx 0), .ref (nx 1), .ref (nx 2), .ref (nx 3), .ref (nx 4), .ref (nx 5), .ref (nx 6), .int (nI cn), .int x8, .int (nI (np_rings cn S.1).2), .int y])), ((nx 0), .inl (cI, 24, .inl (ow_nI (np_exchange S i j).1))), ((nx 1), .inl (cI, 24, .inl (ow_nI (np_exchange S i j).2))), ((nx 4), .inl (cI, 24, .inl g4)), ((nx 5), .inl (cI, 24, .inl g5)), ((nx 6), .inl (cI, 24, .inl g6))] := hD
            refine lv_aload_n hx hb dgX7_partOnce_63 rfl (lv_at hl 0 rfl) ?_
            have hPc := hP.sub (ws' := [(aX, .inr (10, [.ref (nx 0), .ref (nx 1), .ref (nx 2), .ref (nx 3), .ref (nx 4), .ref (nx 5), .ref (nx 6), .int (nI cn), .int x8, .int (nI (np_rings cn S.1).2), .int y])), ((nx 0), .inl (cI, 24, .inl (ow_nI (np_exchange S i j).1))), ((nx 5), .inl (cI, 24, .inl g5)), ((nx 6), .inl (cI, 24, .inl g6))]) [0, 1, 4, 5] rfl
            have hDc := hD.sub (ws' := [(aX, .inr (10, [.ref (nx 0), .ref (nx 1), .ref (nx 2), .ref (nx 3), .ref (nx 4), .ref (nx 5), .ref (nx 6), .int (nI cn), .int x8, .int (nI (np_rings cn S.1).2), .int y])), ((nx 0), .inl (cI, 24, .inl (ow_nI (np_exchange S i j).1))), ((nx 5), .inl (cI, 24, .inl g5)), ((nx 6), .inl (cI, 24, .inl g6))]) [0, 1, 4, 5] (by decide) rfl
            have hFc := va_free (wc := [(aX, .inr (10, [.ref (nx 0), .ref (nx 1), .ref (nx 2), .ref (nx 3), .ref (nx 4), .ref (nx 5), .ref (nx 6), .int (nI cn), .int x8, .int (nI (np_rings cn S.1).2), .int y])), ((nx 0), .inl (cI, 24, .inl (ow_nI (np_exchange S i j).1))), ((nx 5), .inl (cI, 24, .inl g5)), ((nx 6), .inl (cI, 24, .inl g6))]) hD hS hA [0, 1, 4, 5] rfl
            refine va_callv (va_runV (As := []) (rest := []) ⟨hx, hb, hml, hown, hts⟩ (kg_X7_markParts l dC dI cI cB cJ cZ aX nx x8 (nI (np_rings cn S.1).2) y (np_exchange S i j) hbE g5 g6 cn hc (fun k h => (hvE k h).1) H.size) (cwV 0 hts gg_X7_partOnce_1 rfl rfl rfl (by decide +kernel) ⟨(Nat.le_of_ble_eq_true rfl), (Nat.le_of_ble_eq_true rfl)⟩) ⟨fun a U g mk q => by obtain ⟨q0, q1, qP, qK, qD⟩ := q; exact ⟨q0, q1, qP, va_K.moved (u := U) (U := U.calling g mk a) (Vm.Alike.refl U.vm) qK, qD⟩, va_recv hK hPc (ci := 10) (q0 := 0) rfl rfl, fun U hU hW => ⟨rfl, by rw [hU], by rw [hU]; exact hPc, va_K.moved hW.alike hK, hDc.weaken (fun _ _ _ _ => trivial)⟩⟩ rfl rfl hl.1 rfl (lv_room (Nat.le_of_ble_eq_true rfl)) dgX7_partOnce_64 ⟨(Nat.le_of_ble_eq_true rfl), (Nat.le_of_ble_eq_true rfl)⟩) hS (fun q _ h => hFc q h) hFc (fun h6 t H1 locs ht hvm hw hB hz1 hk1 hS => ?_)
            obtain ⟨hP1, hD1⟩ := hB
            rw [ht] at hP1
            obtain ⟨hP, hD⟩ := va_join (wr := [((nx 1), .inl (cI, 24, .inl (ow_nI (np_exchange S i j).2))), ((nx 4), .inl (cI, 24, .inl g4))]) (w1 := [(aX, .inr (10, [.ref (nx 0), .ref (nx 1), .ref (nx 2), .ref (nx 3), .ref (nx 4), .ref (nx 5), .ref (nx 6), .int (nI cn), .int x8, .int (nI (np_rings cn S.1).2), .int (nI (mp_out (np_exchange S i j).1 (2 * cn) (np_fill g5 0 (2 * cn) (-1)) (2 * cn)).2)])), ((nx 0), .inl (cI, 24, .inl (ow_nI (np_exchange S i j).1))), ((nx 5), .inl (cI, 24, .inl ((mp_out (np_exchange S i j).1 (2 * cn) (np_fill g5 0 (2 * cn) (-1)) (2 * cn)).1))), ((nx 6), .inl (cI, 24, .inl h6))]) hP hD [0, 1, 4, 5] [2, 3] rfl rfl (by decide) (by decide) hk1 hFc hP1 hD1
            generalize H1 = H at hP hS ⊢
            have hP : va_P (dC, dI) vwCl [((nx 1), .inl (cI, 24, .inl (ow_nI (np_exchange S i j).2))), ((nx 4), .inl (cI, 24, .inl g4)), (aX, .inr (10, [.ref (nx 0), .ref (nx 1), .ref (nx 2), .ref (nx 3), .ref (nx 4), .ref (nx 5), .ref (nx 6), .int (nI cn), .int x8, .int (nI (np_rings cn S.1).2), .int (nI (mp_out (np_exchange S i j).1 (2 * cn) (np_fill g5 0 (2 * cn) (-1)) (2 * cn)).2)])), ((nx 0), .inl (cI, 24, .inl (ow_nI (np_exchange S i j).1))), ((nx 5), .inl (cI, 24, .inl ((mp_out (np_exchange S i j).1 (2 * cn) (np_fill g5 0 (2 * cn) (-1)) (2 * cn)).1))), ((nx 6), .inl (cI, 24, .inl h6))] H := hP
            have hD : va_D A [((nx 1), .inl (cI, 24, .inl (ow_nI (np_exchange S i j).2))), ((nx 4), .inl (cI, 24, .inl g4)), (aX, .inr (10, [.ref (nx 0), .ref (nx 1), .ref (nx 2), .ref (nx 3), .ref (nx 4), .ref (nx 5), .ref (nx 6), .int (nI cn), .int x8, .int (nI (np_rings cn S.1).2), .int (nI (mp_out (np_exchange S i j).1 (2 * cn) (np_fill g5 0 (2 * cn) (-1)) (2 * cn)).2)])), ((nx 0), .inl (cI, 24, .inl (ow_nI (np_exchange S i j).1))), ((nx 5), .inl (cI, 24, .inl ((mp_out (np_exchange S i j).1 (2 * cn) (np_fill g5 0 (2 * cn) (-1)) (2 * cn)).1))), ((nx 6), .inl (cI, 24, .inl h6))] := hD
            have hP := hP.sub (ws' := [(aX, .inr (10, [.ref (nx 0), .ref (nx 1), .ref (nx 2), .ref (nx 3), .ref (nx 4), .ref (nx 5), .ref (nx 6), .int (nI cn), .int x8, .int (nI (np_rings cn S.1).2), .int (nI (mp_out (np_exchange S i j).1 (2 * cn) (np_fill g5 0 (2 * cn) (-1)) (2 * cn)).2)])), ((nx 0), .inl (cI, 24, .inl (ow_nI (np_exchange S i j).1))), ((nx 1), .inl (cI, 24, .inl (ow_nI (np_exchange S i j).2))), ((nx 4), .inl (cI, 24, .inl g4)), ((nx 5), .inl (cI, 24, .inl ((mp_out (np_exchange S i j).1 (2 * cn) (np_fill g5 0 (2 * cn) (-1)) (2 * cn)).1))), ((nx 6), .inl (cI, 24, .inl h6))]) [2, 3, 0, 1, 4, 5] rfl
            have hD := hD.sub (ws' := [(aX, .inr (10, [.ref (nx 0), .ref (nx 1), .ref (nx 2), .ref (nx 3), .ref (nx 4), .ref (nx 5), .ref (nx 6), .int (nI cn), .int x8, .int (nI (np_rings cn S.1).2), .int (nI (mp_out (np_exchange S i j).1 (2 * cn) (np_fill g5 0 (2 * cn) (-1)) (2 * cn)).2)])), ((nx 0), .inl (cI, 24, .inl (ow_nI (np_exchange S i j).1))), ((nx 1), .inl (cI, 24, .inl (ow_nI (np_exchange S i j).2))), ((nx 4), .inl (cI, 24, .inl g4)), ((nx 5), .inl (cI, 24, .inl ((mp_out (np_exchange S i j).1 (2 * cn) (np_fill g5 0 (2 * cn) (-1)) (2 * cn)).1))), ((nx 6), .inl (cI, 24, .inl h6))]) [2, 3, 0, 1, 4, 5] (by decide) rfl
            have hpp := np_parts_of (N := (np_exchange S i j).1) (fun k h => (hvE k h).1) hc g5
            generalize hge5 : (mp_out (np_exchange S i j).1 (2 * cn) (np_fill g5 0 (2 * cn) (-1)) (2 * cn)).1 = h5 at hP hD
            have hP : va_P (dC, dI) vwCl [(aX, .inr (10, [.ref (nx 0), .ref (nx 1), .ref (nx 2), .ref (nx 3), .ref (nx 4), .ref (nx 5), .ref (nx 6), .int (nI cn), .int x8, .int (nI (np_rings cn S.1).2), .int (nI (np_parts cn (np_exchange S i j).1).2)])), ((nx 0), .inl (cI, 24, .inl (ow_nI (np_exchange S i j).1))), ((nx 1), .inl (cI, 24, .inl (ow_nI (np_exchange S i j).2))), ((nx 4), .inl (cI, 24, .inl g4)), ((nx 5), .inl (cI, 24, .inl h5)), ((nx 6), .inl (cI, 24, .inl h6))] H := by rw [← hpp.2]; exact hP
            have hD : va_D A [(aX, .inr (10, [.ref (nx 0), .ref (nx 1), .ref (nx 2), .ref (nx 3), .ref (nx 4), .ref (nx 5), .ref (nx 6), .int (nI cn), .int x8, .int (nI (np_rings cn S.1).2), .int (nI (np_parts cn (np_exchange S i j).1).2)])), ((nx 0), .inl (cI, 24, .inl (ow_nI (np_exchange S i j).1))), ((nx 1), .inl (cI, 24, .inl (ow_nI (np_exchange S i j).2))), ((nx 4), .inl (cI, 24, .inl g4)), ((nx 5), .inl (cI, 24, .inl h5)), ((nx 6), .inl (cI, 24, .inl h6))] := by rw [← hpp.2]; exact hD
            have hbq := np_parts_le cn (np_exchange S i j).1
            refine lv_aload_n hx hb dgX7_partOnce_67 rfl (lv_at hl 0 rfl) ?_
            refine va_get (D := (dC, dI)) (ci := 10) (v := .int (nI (np_parts cn (np_exchange S i j).1).2)) (C := RX7) (T := TX7) (N := 11) hx hb hts (fun _ h => List.mem_cons_of_mem _ (List.mem_append_left _ (List.mem_append_right _ h))) hown hK hP 0 rfl rfl 10 (by decide) (hts (.fieldLink RX7 90 "KnotHouse$Net" "parts" "I") (by decide +kernel)) (fun _ h9 => h9) rfl dgX7_partOnce_68 ?_
            refine lv_iload_n hx hb dgX7_partOnce_71 rfl (lv_at hl 1 rfl) ?_
            refine lv_icmp_le (tgt := 77) hx hb dgX7_partOnce_72 (by decide) (fun c2 => ?_) (fun c2 => ?_)
            · have hnP : (po_P cn S) i j = false := decide_eq_false (fun h9 => absurd ((nI_leI (by omega) (by omega)).mp c2) (by rw [hpbe] at h9; omega))
              rw [hnP] at hq
              have hq : np_once cn S = po_in (po_P cn S) (2 * cn) d i (po_w ((po_P cn S) i) e2 (j + 1)) := hq
              refine lv_aload_n hx hb dgX7_partOnce_77 rfl (lv_at hl 0 rfl) ?_
              refine lv_iload_n hx hb dgX7_partOnce_78 rfl (lv_at hl 2 rfl) ?_
              refine lv_iload_n hx hb dgX7_partOnce_79 rfl (lv_at hl 3 rfl) ?_
              have hPc := hP.sub (ws' := [(aX, .inr (10, [.ref (nx 0), .ref (nx 1), .ref (nx 2), .ref (nx 3), .ref (nx 4), .ref (nx 5), .ref (nx 6), .int (nI cn), .int x8, .int (nI (np_rings cn S.1).2), .int (nI (np_parts cn (np_exchange S i j).1).2)])), ((nx 0), .inl (cI, 24, .inl (ow_nI (np_exchange S i j).1))), ((nx 1), .inl (cI, 24, .inl (ow_nI (np_exchange S i j).2)))]) [0, 1, 2] rfl
              have hDc := hD.sub (ws' := [(aX, .inr (10, [.ref (nx 0), .ref (nx 1), .ref (nx 2), .ref (nx 3), .ref (nx 4), .ref (nx 5), .ref (nx 6), .int (nI cn), .int x8, .int (nI (np_rings cn S.1).2), .int (nI (np_parts cn (np_exchange S i j).1).2)])), ((nx 0), .inl (cI, 24, .inl (ow_nI (np_exchange S i j).1))), ((nx 1), .inl (cI, 24, .inl (ow_nI (np_exchange S i j).2)))]) [0, 1, 2] (by decide) rfl
              have hFc := va_free (wc := [(aX, .inr (10, [.ref (nx 0), .ref (nx 1), .ref (nx 2), .ref (nx 3), .ref (nx 4), .ref (nx 5), .ref (nx 6), .int (nI cn), .int x8, .int (nI (np_rings cn S.1).2), .int (nI (np_parts cn (np_exchange S i j).1).2)])), ((nx 0), .inl (cI, 24, .inl (ow_nI (np_exchange S i j).1))), ((nx 1), .inl (cI, 24, .inl (ow_nI (np_exchange S i j).2)))]) hD hS hA [0, 1, 2] rfl
              refine va_callv (va_runV (As := [.int (nI i), .int (nI j)]) (rest := []) ⟨hx, hb, hml, hown, hts⟩ (kg_X7_exchange l dC dI cI cB cJ cZ aX nx (nI cn) x8 (nI (np_rings cn S.1).2) (nI (np_parts cn (np_exchange S i j).1).2) (np_exchange S i j) hbE i j (by omega) (by omega) H.size) (cwV 2 hts gg_X7_partOnce_2 rfl rfl rfl (by decide +kernel) ⟨(Nat.le_of_ble_eq_true rfl), (Nat.le_of_ble_eq_true rfl)⟩) ⟨fun a U g mk q => by obtain ⟨q0, q1, qP, qK, qD⟩ := q; exact ⟨q0, q1, qP, va_K.moved (u := U) (U := U.calling g mk a) (Vm.Alike.refl U.vm) qK, qD⟩, va_recv hK hPc (ci := 10) (q0 := 0) rfl rfl, fun U hU hW => ⟨rfl, by rw [hU], by rw [hU]; exact hPc, va_K.moved hW.alike hK, hDc.weaken (fun _ _ _ _ => trivial)⟩⟩ rfl rfl hl.1 rfl (lv_room (Nat.le_of_ble_eq_true rfl)) dgX7_partOnce_80 ⟨(Nat.le_of_ble_eq_true rfl), (Nat.le_of_ble_eq_true rfl)⟩) hS (fun q _ h => hFc q h) hFc (fun u9 t H1 locs ht hvm hw hB hz1 hk1 hS => ?_)
              obtain ⟨hP1, hD1⟩ := hB
              rw [ht] at hP1
              obtain ⟨hP, hD⟩ := va_join (wr := [((nx 4), .inl (cI, 24, .inl g4)), ((nx 5), .inl (cI, 24, .inl h5)), ((nx 6), .inl (cI, 24, .inl h6))]) (w1 := [(aX, .inr (10, [.ref (nx 0), .ref (nx 1), .ref (nx 2), .ref (nx 3), .ref (nx 4), .ref (nx 5), .ref (nx 6), .int (nI cn), .int x8, .int (nI (np_rings cn S.1).2), .int (nI (np_parts cn (np_exchange S i j).1).2)])), ((nx 0), .inl (cI, 24, .inl (ow_nI (np_exchange (np_exchange S i j) i j).1))), ((nx 1), .inl (cI, 24, .inl (ow_nI (np_exchange (np_exchange S i j) i j).2)))]) hP hD [0, 1, 2] [3, 4, 5] rfl rfl (by decide) (by decide) hk1 hFc hP1 hD1
              generalize H1 = H at hP hS ⊢
              have hP : va_P (dC, dI) vwCl [((nx 4), .inl (cI, 24, .inl g4)), ((nx 5), .inl (cI, 24, .inl h5)), ((nx 6), .inl (cI, 24, .inl h6)), (aX, .inr (10, [.ref (nx 0), .ref (nx 1), .ref (nx 2), .ref (nx 3), .ref (nx 4), .ref (nx 5), .ref (nx 6), .int (nI cn), .int x8, .int (nI (np_rings cn S.1).2), .int (nI (np_parts cn (np_exchange S i j).1).2)])), ((nx 0), .inl (cI, 24, .inl (ow_nI (np_exchange (np_exchange S i j) i j).1))), ((nx 1), .inl (cI, 24, .inl (ow_nI (np_exchange (np_exchange S i j) i j).2)))] H := hP
              have hD : va_D A [((nx 4), .inl (cI, 24, .inl g4)), ((nx 5), .inl (cI, 24, .inl h5)), ((nx 6), .inl (cI, 24, .inl h6)), (aX, .inr (10, [.ref (nx 0), .ref (nx 1), .ref (nx 2), .ref (nx 3), .ref (nx 4), .ref (nx 5), .ref (nx 6), .int (nI cn), .int x8, .int (nI (np_rings cn S.1).2), .int (nI (np_parts cn (np_exchange S i j).1).2)])), ((nx 0), .inl (cI, 24, .inl (ow_nI (np_exchange (np_exchange S i j) i j).1))), ((nx 1), .inl (cI, 24, .inl (ow_nI (np_exchange (np_exchange S i j) i j).2)))] := hD
              have hP := hP.sub (ws' := [(aX, .inr (10, [.ref (nx 0), .ref (nx 1), .ref (nx 2), .ref (nx 3), .ref (nx 4), .ref (nx 5), .ref (nx 6), .int (nI cn), .int x8, .int (nI (np_rings cn S.1).2), .int (nI (np_parts cn (np_exchange S i j).1).2)])), ((nx 0), .inl (cI, 24, .inl (ow_nI (np_exchange (np_exchange S i j) i j).1))), ((nx 1), .inl (cI, 24, .inl (ow_nI (np_exchange (np_exchange S i j) i j).2))), ((nx 4), .inl (cI, 24, .inl g4)), ((nx 5), .inl (cI, 24, .inl h5)), ((nx 6), .inl (cI, 24, .inl h6))]) [3, 4, 5, 0, 1, 2] rfl
              have hD := hD.sub (ws' := [(aX, .inr (10, [.ref (nx 0), .ref (nx 1), .ref (nx 2), .ref (nx 3), .ref (nx 4), .ref (nx 5), .ref (nx 6), .int (nI cn), .int x8, .int (nI (np_rings cn S.1).2), .int (nI (np_parts cn (np_exchange S i j).1).2)])), ((nx 0), .inl (cI, 24, .inl (ow_nI (np_exchange (np_exchange S i j) i j).1))), ((nx 1), .inl (cI, 24, .inl (ow_nI (np_exchange (np_exchange S i j) i j).2))), ((nx 4), .inl (cI, 24, .inl g4)), ((nx 5), .inl (cI, 24, .inl h5)), ((nx 6), .inl (cI, 24, .inl h6))]) [3, 4, 5, 0, 1, 2] (by decide) rfl
              rw [np_exchange_twice hvn (v := i) (w := j) (by omega) (by omega)] at hP hD
              have hP : va_P (dC, dI) vwCl [(aX, .inr (10, [.ref (nx 0), .ref (nx 1), .ref (nx 2), .ref (nx 3), .ref (nx 4), .ref (nx 5), .ref (nx 6), .int (nI cn), .int x8, .int (nI (np_rings cn S.1).2), .int (nI (np_parts cn (np_exchange S i j).1).2)])), ((nx 0), .inl (cI, 24, .inl (ow_nI S.1))), ((nx 1), .inl (cI, 24, .inl (ow_nI S.2))), ((nx 4), .inl (cI, 24, .inl g4)), ((nx 5), .inl (cI, 24, .inl h5)), ((nx 6), .inl (cI, 24, .inl h6))] H := hP
              have hD : va_D A [(aX, .inr (10, [.ref (nx 0), .ref (nx 1), .ref (nx 2), .ref (nx 3), .ref (nx 4), .ref (nx 5), .ref (nx 6), .int (nI cn), .int x8, .int (nI (np_rings cn S.1).2), .int (nI (np_parts cn (np_exchange S i j).1).2)])), ((nx 0), .inl (cI, 24, .inl (ow_nI S.1))), ((nx 1), .inl (cI, 24, .inl (ow_nI S.2))), ((nx 4), .inl (cI, 24, .inl g4)), ((nx 5), .inl (cI, 24, .inl h5)), ((nx 6), .inl (cI, 24, .inl h6))] := hD
              refine lv_iinc (v := nI (j + 1)) (lv' := [(3, .int (nI (j + 1))), (0, .ref aX), (1, .int (nI pb)), (2, .int (nI i))]) hx hb dgX7_partOnce_83 hl (k := 3) rfl (nI_1 j) (by decide) rfl (fun ls hl => ?_)
              refine lv_goto (tgt := 29) hx hb dgX7_partOnce_86 (by decide) ?_
              exact ih2 (j + 1) (nI (np_parts cn (np_exchange S i j).1).2) h5 h6 (by omega) (by omega) hq H locs ls hP hD hS (lv_sub hl [1, 2, 3, 0] rfl)
            · have hPt : (po_P cn S) i j = true := decide_eq_true ⟨hcc, by rw [hpbe]; exact Nat.lt_of_not_le (fun h9 => c2 ((nI_leI (by omega) (by omega)).mpr h9))⟩
              rw [hPt] at hq
              have hq : np_once cn S = some (i, j) := hq
              have hP : va_P (dC, dI) vwCl [(aX, .inr (10, [.ref (nx 0), .ref (nx 1), .ref (nx 2), .ref (nx 3), .ref (nx 4), .ref (nx 5), .ref (nx 6), .int (nI cn), .int x8, .int (nI (np_rings cn S.1).2), .int (nI (np_parts cn (np_exchange S i j).1).2)])), ((nx 0), .inl (cI, 24, .inl (ow_nI (np_onceS cn S).1))), ((nx 1), .inl (cI, 24, .inl (ow_nI (np_onceS cn S).2))), ((nx 4), .inl (cI, 24, .inl g4)), ((nx 5), .inl (cI, 24, .inl h5)), ((nx 6), .inl (cI, 24, .inl h6))] H := by rw [show np_onceS cn S = np_exchange S i j from by rw [np_onceS, hq]]; exact hP
              have hD : va_D A [(aX, .inr (10, [.ref (nx 0), .ref (nx 1), .ref (nx 2), .ref (nx 3), .ref (nx 4), .ref (nx 5), .ref (nx 6), .int (nI cn), .int x8, .int (nI (np_rings cn S.1).2), .int (nI (np_parts cn (np_exchange S i j).1).2)])), ((nx 0), .inl (cI, 24, .inl (ow_nI (np_onceS cn S).1))), ((nx 1), .inl (cI, 24, .inl (ow_nI (np_onceS cn S).2))), ((nx 4), .inl (cI, 24, .inl g4)), ((nx 5), .inl (cI, 24, .inl h5)), ((nx 6), .inl (cI, 24, .inl h6))] := by rw [show np_onceS cn S = np_exchange S i j from by rw [np_onceS, hq]]; exact hD
              refine lv_iconst (v := 1) hx hb dgX7_partOnce_75 (by decide) ?_
              rw [hQQ]
              exact W.zret (v := 1) (ty := .boolean) hx hb hr rfl (fun t ht hW => ⟨⟨1, ((nI (np_parts cn (np_exchange S i j).1).2), g4, h5, h6), rfl, by rw [np_onceR, hq], by rw [ht]; exact hP, hD⟩, hS.F ht⟩) hS.2.2 dgX7_partOnce_76
          · have hnP : (po_P cn S) i j = false := decide_eq_false (fun h9 => c1 (hgi.trans (h9.1.trans hgj.symm)))
            rw [hnP] at hq
            have hq : np_once cn S = po_in (po_P cn S) (2 * cn) d i (po_w ((po_P cn S) i) e2 (j + 1)) := hq
            refine lv_goto (tgt := 83) hx hb dgX7_partOnce_54 (by decide) ?_
            refine lv_iinc (v := nI (j + 1)) (lv' := [(3, .int (nI (j + 1))), (0, .ref aX), (1, .int (nI pb)), (2, .int (nI i))]) hx hb dgX7_partOnce_83 hl (k := 3) rfl (nI_1 j) (by decide) rfl (fun ls hl => ?_)
            refine lv_goto (tgt := 29) hx hb dgX7_partOnce_86 (by decide) ?_
            exact ih2 (j + 1) y g5 g6 (by omega) (by omega) hq H locs ls hP hD hS (lv_sub hl [1, 2, 3, 0] rfl)
      exact L29 (2 * cn - (i + 1)) (i + 1) y g5 g6 (by omega) (by omega) hq H locs ls hP hD hS (lv_sub hl [1, 2, 3, 0] rfl)
  refine lv_iconst (v := 0) hx hb dgX7_partOnce_13 (by decide) ?_
  refine ow_topi (y := nI 0) (by decide) ?_
  refine lv_istore_n (lv' := [(2, .int (nI 0)), (1, .int (nI pb)), (0, .ref aX)]) hx hb dgX7_partOnce_14 rfl hl (by decide) rfl (fun ls hl => ?_)
  exact L15 (2 * cn) 0 (nI pb) g5 g6 (by omega) rfl H locs ls hP hD hS (lv_sub hl [2, 1, 0] rfl)
