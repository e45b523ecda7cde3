theorem mr_out_le (N : Nat → Nat) (vs : Nat) (F : Nat → Int32) : ∀ n, (mr_out N vs F n).2 ≤ n := by
  intro n
  induction n with
  | zero => exact Nat.le_refl 0
  | succ n ih =>
    show (if (mr_out N vs F n).1 n = -1 then _ else _ : (Nat → Int32) × Nat).2 ≤ n + 1
    split
    · show (mr_out N vs F n).2 + 1 ≤ n + 1
      omega
    · omega
theorem fc_marks_le (S : ow_NP) (G : Nat → Int32) (c : Nat) (F : Nat → Int32) : (fc_marks S G c F).2 ≤ 4 * c := mr_out_le _ _ _ _
theorem np_parts_le (c : Nat) (N : Nat → Nat) : (np_parts c N).2 ≤ 2 * c := mp_out_le _ _ _ _
/-- the first cell of a code from a visit -/
def cd_first (G : Nat → Int32) (v : Nat) : Nat := 4 + 2 * (v % 2) + (if G (v / 2) < 0 then 1 else 0)
theorem cd_first_lt (G : Nat → Int32) (v : Nat) : 4 ≤ cd_first G v ∧ cd_first G v < 8 := by
  unfold cd_first
  split <;> omega
def cd_least (G F : Nat → Int32) (p : Int32) : Nat → Nat
  | 0 => 8
  | n + 1 => if F n = p then min (cd_least G F p n) (cd_first G n) else cd_least G F p n
theorem cd_least_le (G F : Nat → Int32) (p : Int32) : ∀ n, cd_least G F p n ≤ 8 := by
  intro n
  induction n with
  | zero => exact Nat.le_refl 8
  | succ n ih =>
    show (if F n = p then min (cd_least G F p n) (cd_first G n) else cd_least G F p n) ≤ 8
    split
    · exact Nat.le_trans (Nat.min_le_left _ _) ih
    · exact ih
theorem dgX4_isPlane_0 : decode cX4_isPlane 0 = .ok (.aload_n 1, 1) := by decide +kernel
theorem dgX4_isPlane_1 : decode cX4_isPlane 1 = .ok (.invokevirtual 62, 3) := by decide +kernel
theorem dgX4_isPlane_4 : decode cX4_isPlane 4 = .ok (.aload_n 0, 1) := by decide +kernel
theorem dgX4_isPlane_5 : decode cX4_isPlane 5 = .ok (.aload_n 1, 1) := by decide +kernel
theorem dgX4_isPlane_6 : decode cX4_isPlane 6 = .ok (.invokevirtual 65, 3) := by decide +kernel
theorem dgX4_isPlane_9 : decode cX4_isPlane 9 = .ok (.aload_n 0, 1) := by decide +kernel
theorem dgX4_isPlane_10 : decode cX4_isPlane 10 = .ok (.getfield 55, 3) := by decide +kernel
theorem dgX4_isPlane_13 : decode cX4_isPlane 13 = .ok (.aload_n 1, 1) := by decide +kernel
theorem dgX4_isPlane_14 : decode cX4_isPlane 14 = .ok (.getfield 45, 3) := by decide +kernel
theorem dgX4_isPlane_17 : decode cX4_isPlane 17 = .ok (.iconst 2, 1) := by decide +kernel
theorem dgX4_isPlane_18 : decode cX4_isPlane 18 = .ok (.aload_n 1, 1) := by decide +kernel
theorem dgX4_isPlane_19 : decode cX4_isPlane 19 = .ok (.getfield 69, 3) := by decide +kernel
theorem dgX4_isPlane_22 : decode cX4_isPlane 22 = .ok (.imul, 1) := by decide +kernel
theorem dgX4_isPlane_23 : decode cX4_isPlane 23 = .ok (.iadd, 1) := by decide +kernel
theorem dgX4_isPlane_24 : decode cX4_isPlane 24 = .ok (.if_icmp .ne 7, 3) := by decide +kernel
theorem dgX4_isPlane_27 : decode cX4_isPlane 27 = .ok (.iconst 1, 1) := by decide +kernel
theorem dgX4_isPlane_28 : decode cX4_isPlane 28 = .ok (.goto 4, 3) := by decide +kernel
theorem dgX4_isPlane_31 : decode cX4_isPlane 31 = .ok (.iconst 0, 1) := by decide +kernel
theorem dgX4_isPlane_32 : decode cX4_isPlane 32 = .ok (.ireturn, 1) := by decide +kernel
def wg_X4_isPlane : List Cond := .code yX4_isPlane cX4_isPlane 2 (some .boolean) :: (([.fieldLink RX4 55 "KnotHouse$Faces" "count" "I", .fieldLink RX4 45 "KnotHouse$Net" "crossings" "I", .fieldLink RX4 69 "KnotHouse$Net" "parts" "I"] ++ wsX40 ++ wsX70) ++ (wsV RX4 62 RX7 yX7_markParts wg_X7_markParts ++ (wsV RX4 65 RX4 yX4_mark wg_X4_mark ++ [])))
theorem gg_X4_isPlane_0 : GoodIn wg_X4_isPlane (wsV RX4 62 RX7 yX7_markParts wg_X7_markParts) := goodIn_sub (fun _ h => List.mem_cons_of_mem _ (List.mem_append_right _ (List.mem_append_left _ h))) (by decide +kernel)
theorem gg_X4_isPlane_1 : GoodIn wg_X4_isPlane (wsV RX4 65 RX4 yX4_mark wg_X4_mark) := goodIn_sub (fun _ h => List.mem_cons_of_mem _ (List.mem_append_right _ (List.mem_append_right _ (List.mem_append_left _ h)))) (by decide +kernel)
set_option maxHeartbeats 4000000 in
set_option maxRecDepth 100000 in
theorem kg_X4_isPlane (l : Launch) (dC : Nat → ClassId) (dI : Nat → Nat → Nat) (cI cB cJ cZ : ClassId) (aF : Nat) (ff : Nat → Nat) (z : Int32) (F : Nat → Int32) (aX : Nat) (nx : Nat → Nat) (x8 x9 x10 : Int32) (S : ow_NP) (hS0 : ow_b24 S) (G F5 Z : Nat → Int32) (cn : Nat) (hc : cn ≤ 12) (hN : ∀ k, k < 2 * cn → S.1 k < 2 * cn) (sz : Nat) : Met l yX4_isPlane wg_X4_isPlane (({ frames := 3, cells := 0, slots := 0, locals := 90 } : Room)) (va_Pc [.ref aF, .ref aX] (fun U => U.heap.size = sz ∧ va_P (dC, dI) vwCl [(aF, .inr (7, [.ref (ff 0), .int z, .ref (ff 2), .ref (ff 3), .ref (ff 4), .ref (ff 5), .ref (ff 6), .ref (ff 7)])), ((ff 0), .inl (cI, 48, .inl F)), (aX, .inr (10, [.ref (nx 0), .ref (nx 1), .ref (nx 2), .ref (nx 3), .ref (nx 4), .ref (nx 5), .ref (nx 6), .int (nI cn), .int x8, .int x9, .int x10])), ((nx 0), .inl (cI, 24, .inl (ow_nI S.1))), ((nx 1), .inl (cI, 24, .inl (ow_nI S.2))), ((nx 2), .inl (cI, 12, .inl G)), ((nx 5), .inl (cI, 24, .inl F5)), ((nx 6), .inl (cI, 24, .inl Z))] U.heap ∧ va_K (dC, dI) vwCl [(cI, .int), (cB, .byte), (cJ, .long), (cZ, .boolean)] U ∧ va_D (fun _ => True) [(aF, .inr (7, [.ref (ff 0), .int z, .ref (ff 2), .ref (ff 3), .ref (ff 4), .ref (ff 5), .ref (ff 6), .ref (ff 7)])), ((ff 0), .inl (cI, 48, .inl F)), (aX, .inr (10, [.ref (nx 0), .ref (nx 1), .ref (nx 2), .ref (nx 3), .ref (nx 4), .ref (nx 5), .ref (nx 6), .int (nI cn), .int x8, .int x9, .int x10])), ((nx 0), .inl (cI, 24, .inl (ow_nI S.1))), ((nx 1), .inl (cI, 24, .inl (ow_nI S.2))), ((nx 2), .inl (cI, 12, .inl G)), ((nx 5), .inl (cI, 24, .inl F5)), ((nx 6), .inl (cI, 24, .inl Z))])) (va_Qi (fun r (g : (Nat → Int32) × (Nat → Int32)) => r = (if (fc_marks S G cn F).2 = cn + 2 * (np_parts cn S.1).2 then 1 else 0) ∧ rl (2 * cn) g.1 (np_parts cn S.1).1) (fun g t => va_P (dC, dI) vwCl [(aF, .inr (7, [.ref (ff 0), .int (nI (fc_marks S G cn F).2), .ref (ff 2), .ref (ff 3), .ref (ff 4), .ref (ff 5), .ref (ff 6), .ref (ff 7)])), ((ff 0), .inl (cI, 48, .inl ((fc_marks S G cn F).1))), (aX, .inr (10, [.ref (nx 0), .ref (nx 1), .ref (nx 2), .ref (nx 3), .ref (nx 4), .ref (nx 5), .ref (nx 6), .int (nI cn), .int x8, .int x9, .int (nI (np_parts cn S.1).2)])), ((nx 0), .inl (cI, 24, .inl (ow_nI S.1))), ((nx 1), .inl (cI, 24, .inl (ow_nI S.2))), ((nx 2), .inl (cI, 12, .inl G)), ((nx 5), .inl (cI, 24, .inl g.1)), ((nx 6), .inl (cI, 24, .inl g.2))] t.heap ∧ va_D (va_A [(aF, .inr (7, [.ref (ff 0), .int z, .ref (ff 2), .ref (ff 3), .ref (ff 4), .ref (ff 5), .ref (ff 6), .ref (ff 7)])), ((ff 0), .inl (cI, 48, .inl F)), (aX, .inr (10, [.ref (nx 0), .ref (nx 1), .ref (nx 2), .ref (nx 3), .ref (nx 4), .ref (nx 5), .ref (nx 6), .int (nI cn), .int x8, .int x9, .int x10])), ((nx 0), .inl (cI, 24, .inl (ow_nI S.1))), ((nx 1), .inl (cI, 24, .inl (ow_nI S.2))), ((nx 2), .inl (cI, 12, .inl G)), ((nx 5), .inl (cI, 24, .inl F5)), ((nx 6), .inl (cI, 24, .inl Z))] sz) [(aF, .inr (7, [.ref (ff 0), .int (nI (fc_marks S G cn F).2), .ref (ff 2), .ref (ff 3), .ref (ff 4), .ref (ff 5), .ref (ff 6), .ref (ff 7)])), ((ff 0), .inl (cI, 48, .inl ((fc_marks S G cn F).1))), (aX, .inr (10, [.ref (nx 0), .ref (nx 1), .ref (nx 2), .ref (nx 3), .ref (nx 4), .ref (nx 5), .ref (nx 6), .int (nI cn), .int x8, .int x9, .int (nI (np_parts cn S.1).2)])), ((nx 0), .inl (cI, 24, .inl (ow_nI S.1))), ((nx 1), .inl (cI, 24, .inl (ow_nI S.2))), ((nx 2), .inl (cI, 12, .inl G)), ((nx 5), .inl (cI, 24, .inl g.1)), ((nx 6), .inl (cI, 24, .inl g.2))]) (va_A [(aF, .inr (7, [.ref (ff 0), .int z, .ref (ff 2), .ref (ff 3), .ref (ff 4), .ref (ff 5), .ref (ff 6), .ref (ff 7)])), ((ff 0), .inl (cI, 48, .inl F)), (aX, .inr (10, [.ref (nx 0), .ref (nx 1), .ref (nx 2), .ref (nx 3), .ref (nx 4), .ref (nx 5), .ref (nx 6), .int (nI cn), .int x8, .int x9, .int x10])), ((nx 0), .inl (cI, 24, .inl (ow_nI S.1))), ((nx 1), .inl (cI, 24, .inl (ow_nI S.2))), ((nx 2), .inl (cI, 12, .inl G)), ((nx 5), .inl (cI, 24, .inl F5)), ((nx 6), .inl (cI, 24, .inl Z))] sz)) 0 0 (va_A [(aF, .inr (7, [.ref (ff 0), .int z, .ref (ff 2), .ref (ff 3), .ref (ff 4), .ref (ff 5), .ref (ff 6), .ref (ff 7)])), ((ff 0), .inl (cI, 48, .inl F)), (aX, .inr (10, [.ref (nx 0), .ref (nx 1), .ref (nx 2), .ref (nx 3), .ref (nx 4), .ref (nx 5), .ref (nx 6), .int (nI cn), .int x8, .int x9, .int x10])), ((nx 0), .inl (cI, 24, .inl (ow_nI S.1))), ((nx 1), .inl (cI, 24, .inl (ow_nI S.2))), ((nx 2), .inl (cI, 12, .inl G)), ((nx 5), .inl (cI, 24, .inl F5)), ((nx 6), .inl (cI, 24, .inl Z))] sz) := by
  refine Met.ofW (cc := cX4_isPlane) (maxL := 2) (ret := (some .boolean)) (by decide) rfl ?_
  intro p e s m args below meth c s₁ B hml hv
  obtain ⟨rfl, hsz, hP, hK, hD0⟩ := hv
  have hx := B.exec
  have hb := B.bytes
  have hr := B.returns
  have hts := atoms_spec (ws := wg_X4_isPlane) B.pre
  have hown : s.vm.findClass RX4 = some m.cls := findClass_of_methodNamed B.named
  have hlocks := B.notSynchronized
  subst hsz
  have hD := hD0.self (sz := s.heap.size)
  generalize hAe : va_A [(aF, .inr (7, [.ref (ff 0), .int z, .ref (ff 2), .ref (ff 3), .ref (ff 4), .ref (ff 5), .ref (ff 6), .ref (ff 7)])), ((ff 0), .inl (cI, 48, .inl F)), (aX, .inr (10, [.ref (nx 0), .ref (nx 1), .ref (nx 2), .ref (nx 3), .ref (nx 4), .ref (nx 5), .ref (nx 6), .int (nI cn), .int x8, .int x9, .int x10])), ((nx 0), .inl (cI, 24, .inl (ow_nI S.1))), ((nx 1), .inl (cI, 24, .inl (ow_nI S.2))), ((nx 2), .inl (cI, 12, .inl G)), ((nx 5), .inl (cI, 24, .inl F5)), ((nx 6), .inl (cI, 24, .inl Z))] s.heap.size = A at hD ⊢
  have hA : ∀ q : Nat, s.heap.size ≤ q → A q := fun q h => by rw [← hAe]; exact Or.inr h
  have hS : va_S A s.heap s.heap [] := va_S.rf
  have hP : va_P (dC, dI) vwCl [(aF, .inr (7, [.ref (ff 0), .int z, .ref (ff 2), .ref (ff 3), .ref (ff 4), .ref (ff 5), .ref (ff 6), .ref (ff 7)])), ((ff 0), .inl (cI, 48, .inl F)), (aX, .inr (10, [.ref (nx 0), .ref (nx 1), .ref (nx 2), .ref (nx 3), .ref (nx 4), .ref (nx 5), .ref (nx 6), .int (nI cn), .int x8, .int x9, .int x10])), ((nx 0), .inl (cI, 24, .inl (ow_nI S.1))), ((nx 1), .inl (cI, 24, .inl (ow_nI S.2))), ((nx 2), .inl (cI, 12, .inl G)), ((nx 5), .inl (cI, 24, .inl F5)), ((nx 6), .inl (cI, 24, .inl Z))] s.heap := hP
  have hl := lv_entry ([.ref aF, .ref aX]) (n := 2) (Nat.le_of_ble_eq_true rfl)
  rw [lg_entry_eq]
  generalize (lg_sl ([.ref aF, .ref aX]) ++ List.replicate (2 - (lg_sl ([.ref aF, .ref aX])).length) Slot.unset).toArray = ls at hl ⊢
  have hl : lv_has ls 2 [(0, .ref aF), (1, .ref aX)] := hl
  refine ow_named (fun QQ hQQ => ?_)
  suffices key9 : ∀ (H : Heap) (locs : List Loc), va_P (dC, dI) vwCl [(aF, .inr (7, [.ref (ff 0), .int z, .ref (ff 2), .ref (ff 3), .ref (ff 4), .ref (ff 5), .ref (ff 6), .ref (ff 7)])), ((ff 0), .inl (cI, 48, .inl F)), (aX, .inr (10, [.ref (nx 0), .ref (nx 1), .ref (nx 2), .ref (nx 3), .ref (nx 4), .ref (nx 5), .ref (nx 6), .int (nI cn), .int x8, .int x9, .int x10])), ((nx 0), .inl (cI, 24, .inl (ow_nI S.1))), ((nx 1), .inl (cI, 24, .inl (ow_nI S.2))), ((nx 2), .inl (cI, 12, .inl G)), ((nx 5), .inl (cI, 24, .inl F5)), ((nx 6), .inl (cI, 24, .inl Z))] H → va_S A s.heap H locs → W p l e ({ frames := 3, cells := 0, slots := 0, locals := 90 } : Room) s m ([.ref aF, .ref aX] : List Value).toArray below meth c H locs 0 0 QQ (F0 m 0 ls []) from key9 s.heap [] hP hS
  intro H locs hP hS
  refine lv_aload_n hx hb dgX4_isPlane_0 rfl (lv_at hl 1 rfl) ?_
  have hPc := hP.sub (ws' := [(aX, .inr (10, [.ref (nx 0), .ref (nx 1), .ref (nx 2), .ref (nx 3), .ref (nx 4), .ref (nx 5), .ref (nx 6), .int (nI cn), .int x8, .int x9, .int x10])), ((nx 0), .inl (cI, 24, .inl (ow_nI S.1))), ((nx 5), .inl (cI, 24, .inl F5)), ((nx 6), .inl (cI, 24, .inl Z))]) [2, 3, 6, 7] rfl
  have hDc := hD.sub (ws' := [(aX, .inr (10, [.ref (nx 0), .ref (nx 1), .ref (nx 2), .ref (nx 3), .ref (nx 4), .ref (nx 5), .ref (nx 6), .int (nI cn), .int x8, .int x9, .int x10])), ((nx 0), .inl (cI, 24, .inl (ow_nI S.1))), ((nx 5), .inl (cI, 24, .inl F5)), ((nx 6), .inl (cI, 24, .inl Z))]) [2, 3, 6, 7] (by decide) rfl
  have hFc := va_free (wc := [(aX, .inr (10, [.ref (nx 0), .ref (nx 1), .ref (nx 2), .ref (nx 3), .ref (nx 4), .ref (nx 5), .ref (nx 6), .int (nI cn), .int x8, .int x9, .int x10])), ((nx 0), .inl (cI, 24, .inl (ow_nI S.1))), ((nx 5), .inl (cI, 24, .inl F5)), ((nx 6), .inl (cI, 24, .inl Z))]) hD hS hA [2, 3, 6, 7] rfl
  refine va_callv (va_runV (As := []) (rest := []) ⟨hx, hb, hml, hown, hts⟩ (kg_X7_markParts l dC dI cI cB cJ cZ aX nx x8 x9 x10 S hS0 F5 Z cn hc hN H.size) (cwV 0 hts gg_X4_isPlane_0 rfl rfl rfl (by decide +kernel) ⟨(Nat.le_of_ble_eq_true rfl), (Nat.le_of_ble_eq_true rfl)⟩) ⟨fun a U g mk q => by obtain ⟨q0, q1, qP, qK, qD⟩ := q; exact ⟨q0, q1, qP, va_K.moved (u := U) (U := U.calling g mk a) (Vm.Alike.refl U.vm) qK, qD⟩, va_recv hK hPc (ci := 10) (q0 := 0) rfl rfl, fun U hU hW => ⟨rfl, by rw [hU], by rw [hU]; exact hPc, va_K.moved hW.alike hK, hDc.weaken (fun _ _ _ _ => trivial)⟩⟩ rfl rfl hl.1 rfl (lv_room (Nat.le_of_ble_eq_true rfl)) dgX4_isPlane_1 ⟨(Nat.le_of_ble_eq_true rfl), (Nat.le_of_ble_eq_true rfl)⟩) hS (fun q _ h => hFc q h) hFc (fun g6 t H1 locs ht hvm hw hB hz1 hk1 hS => ?_)
  obtain ⟨hP1, hD1⟩ := hB
  rw [ht] at hP1
  obtain ⟨hP, hD⟩ := va_join (wr := [(aF, .inr (7, [.ref (ff 0), .int z, .ref (ff 2), .ref (ff 3), .ref (ff 4), .ref (ff 5), .ref (ff 6), .ref (ff 7)])), ((ff 0), .inl (cI, 48, .inl F)), ((nx 1), .inl (cI, 24, .inl (ow_nI S.2))), ((nx 2), .inl (cI, 12, .inl G))]) (w1 := [(aX, .inr (10, [.ref (nx 0), .ref (nx 1), .ref (nx 2), .ref (nx 3), .ref (nx 4), .ref (nx 5), .ref (nx 6), .int (nI cn), .int x8, .int x9, .int (nI (mp_out S.1 (2 * cn) (np_fill F5 0 (2 * cn) (-1)) (2 * cn)).2)])), ((nx 0), .inl (cI, 24, .inl (ow_nI S.1))), ((nx 5), .inl (cI, 24, .inl ((mp_out S.1 (2 * cn) (np_fill F5 0 (2 * cn) (-1)) (2 * cn)).1))), ((nx 6), .inl (cI, 24, .inl g6))]) hP hD [2, 3, 6, 7] [0, 1, 4, 5] rfl rfl (by decide) (by decide) hk1 hFc hP1 hD1
  generalize H1 = H at hP hS ⊢
  have hP : va_P (dC, dI) vwCl [(aF, .inr (7, [.ref (ff 0), .int z, .ref (ff 2), .ref (ff 3), .ref (ff 4), .ref (ff 5), .ref (ff 6), .ref (ff 7)])), ((ff 0), .inl (cI, 48, .inl F)), ((nx 1), .inl (cI, 24, .inl (ow_nI S.2))), ((nx 2), .inl (cI, 12, .inl G)), (aX, .inr (10, [.ref (nx 0), .ref (nx 1), .ref (nx 2), .ref (nx 3), .ref (nx 4), .ref (nx 5), .ref (nx 6), .int (nI cn), .int x8, .int x9, .int (nI (mp_out S.1 (2 * cn) (np_fill F5 0 (2 * cn) (-1)) (2 * cn)).2)])), ((nx 0), .inl (cI, 24, .inl (ow_nI S.1))), ((nx 5), .inl (cI, 24, .inl ((mp_out S.1 (2 * cn) (np_fill F5 0 (2 * cn) (-1)) (2 * cn)).1))), ((nx 6), .inl (cI, 24, .inl g6))] H := hP
  have hD : va_D A [(aF, .inr (7, [.ref (ff 0), .int z, .ref (ff 2), .ref (ff 3), .ref (ff 4), .ref (ff 5), .ref (ff 6), .ref (ff 7)])), ((ff 0), .inl (cI, 48, .inl F)), ((nx 1), .inl (cI, 24, .inl (ow_nI S.2))), ((nx 2), .inl (cI, 12, .inl G)), (aX, .inr (10, [.ref (nx 0), .ref (nx 1), .ref (nx 2), .ref (nx 3), .ref (nx 4), .ref (nx 5), .ref (nx 6), .int (nI cn), .int x8, .int x9, .int (nI (mp_out S.1 (2 * cn) (np_fill F5 0 (2 * cn) (-1)) (2 * cn)).2)])), ((nx 0), .inl (cI, 24, .inl (ow_nI S.1))), ((nx 5), .inl (cI, 24, .inl ((mp_out S.1 (2 * cn) (np_fill F5 0 (2 * cn) (-1)) (2 * cn)).1))), ((nx 6), .inl (cI, 24, .inl g6))] := hD
  have hP := hP.sub (ws' := [(aF, .inr (7, [.ref (ff 0), .int z, .ref (ff 2), .ref (ff 3), .ref (ff 4), .ref (ff 5), .ref (ff 6), .ref (ff 7)])), ((ff 0), .inl (cI, 48, .inl F)), (aX, .inr (10, [.ref (nx 0), .ref (nx 1), .ref (nx 2), .ref (nx 3), .ref (nx 4), .ref (nx 5), .ref (nx 6), .int (nI cn), .int x8, .int x9, .int (nI (mp_out S.1 (2 * cn) (np_fill F5 0 (2 * cn) (-1)) (2 * cn)).2)])), ((nx 0), .inl (cI, 24, .inl (ow_nI S.1))), ((nx 1), .inl (cI, 24, .inl (ow_nI S.2))), ((nx 2), .inl (cI, 12, .inl G)), ((nx 5), .inl (cI, 24, .inl ((mp_out S.1 (2 * cn) (np_fill F5 0 (2 * cn) (-1)) (2 * cn)).1))), ((nx 6), .inl (cI, 24, .inl g6))]) [0, 1, 4, 5, 2, 3, 6, 7] rfl
  have hD := hD.sub (ws' := [(aF, .inr (7, [.ref (ff 0), .int z, .ref (ff 2), .ref (ff 3), .ref (ff 4), .ref (ff 5), .ref (ff 6), .ref (ff 7)])), ((ff 0), .inl (cI, 48, .inl F)), (aX, .inr (10, [.ref (nx 0), .ref (nx 1), .ref (nx 2), .ref (nx 3), .ref (nx 4), .ref (nx 5), .ref (nx 6), .int (nI cn), .int x8, .int x9, .int (nI (mp_out S.1 (2 * cn) (np_fill F5 0 (2 * cn) (-1)) (2 * cn)).2)])), ((nx 0), .inl (cI, 24, .inl (ow_nI S.1))), ((nx 1), .inl (cI, 24, .inl (ow_nI S.2))), ((nx 2), .inl (cI, 12, .inl G)), ((nx 5), .inl (cI, 24, .inl ((mp_out S.1 (2 * cn) (np_fill F5 0 (2 * cn) (-1)) (2 * cn)).1))), ((nx 6), .inl (cI, 24, .inl g6))]) [0, 1, 4, 5, 2, 3, 6, 7] (by decide) rfl
  have hpp := np_parts_of hN hc F5
  have hg5 := hpp.1
  generalize hge : (mp_out S.1 (2 * cn) (np_fill F5 0 (2 * cn) (-1)) (2 * cn)).1 = g5 at hP hD hg5
  have hP : va_P (dC, dI) vwCl [(aF, .inr (7, [.ref (ff 0), .int z, .ref (ff 2), .ref (ff 3), .ref (ff 4), .ref (ff 5), .ref (ff 6), .ref (ff 7)])), ((ff 0), .inl (cI, 48, .inl F)), (aX, .inr (10, [.ref (nx 0), .ref (nx 1), .ref (nx 2), .ref (nx 3), .ref (nx 4), .ref (nx 5), .ref (nx 6), .int (nI cn), .int x8, .int x9, .int (nI (np_parts cn S.1).2)])), ((nx 0), .inl (cI, 24, .inl (ow_nI S.1))), ((nx 1), .inl (cI, 24, .inl (ow_nI S.2))), ((nx 2), .inl (cI, 12, .inl G)), ((nx 5), .inl (cI, 24, .inl g5)), ((nx 6), .inl (cI, 24, .inl g6))] H := by rw [← hpp.2]; exact hP
  have hD : va_D A [(aF, .inr (7, [.ref (ff 0), .int z, .ref (ff 2), .ref (ff 3), .ref (ff 4), .ref (ff 5), .ref (ff 6), .ref (ff 7)])), ((ff 0), .inl (cI, 48, .inl F)), (aX, .inr (10, [.ref (nx 0), .ref (nx 1), .ref (nx 2), .ref (nx 3), .ref (nx 4), .ref (nx 5), .ref (nx 6), .int (nI cn), .int x8, .int x9, .int (nI (np_parts cn S.1).2)])), ((nx 0), .inl (cI, 24, .inl (ow_nI S.1))), ((nx 1), .inl (cI, 24, .inl (ow_nI S.2))), ((nx 2), .inl (cI, 12, .inl G)), ((nx 5), .inl (cI, 24, .inl g5)), ((nx 6), .inl (cI, 24, .inl g6))] := by rw [← hpp.2]; exact hD
  refine lv_aload_n hx hb dgX4_isPlane_4 rfl (lv_at hl 0 rfl) ?_
  refine lv_aload_n hx hb dgX4_isPlane_5 rfl (lv_at hl 1 rfl) ?_
  have hPc := hP.sub (ws' := [(aF, .inr (7, [.ref (ff 0), .int z, .ref (ff 2), .ref (ff 3), .ref (ff 4), .ref (ff 5), .ref (ff 6), .ref (ff 7)])), ((ff 0), .inl (cI, 48, .inl F)), (aX, .inr (10, [.ref (nx 0), .ref (nx 1), .ref (nx 2), .ref (nx 3), .ref (nx 4), .ref (nx 5), .ref (nx 6), .int (nI cn), .int x8, .int x9, .int (nI (np_parts cn S.1).2)])), ((nx 0), .inl (cI, 24, .inl (ow_nI S.1))), ((nx 1), .inl (cI, 24, .inl (ow_nI S.2))), ((nx 2), .inl (cI, 12, .inl G))]) [0, 1, 2, 3, 4, 5] rfl
  have hDc := hD.sub (ws' := [(aF, .inr (7, [.ref (ff 0), .int z, .ref (ff 2), .ref (ff 3), .ref (ff 4), .ref (ff 5), .ref (ff 6), .ref (ff 7)])), ((ff 0), .inl (cI, 48, .inl F)), (aX, .inr (10, [.ref (nx 0), .ref (nx 1), .ref (nx 2), .ref (nx 3), .ref (nx 4), .ref (nx 5), .ref (nx 6), .int (nI cn), .int x8, .int x9, .int (nI (np_parts cn S.1).2)])), ((nx 0), .inl (cI, 24, .inl (ow_nI S.1))), ((nx 1), .inl (cI, 24, .inl (ow_nI S.2))), ((nx 2), .inl (cI, 12, .inl G))]) [0, 1, 2, 3, 4, 5] (by decide) rfl
  have hFc := va_free (wc := [(aF, .inr (7, [.ref (ff 0), .int z, .ref (ff 2), .ref (ff 3), .ref (ff 4), .ref (ff 5), .ref (ff 6), .ref (ff 7)])), ((ff 0), .inl (cI, 48, .inl F)), (aX, .inr (10, [.ref (nx 0), .ref (nx 1), .ref (nx 2), .ref (nx 3), .ref (nx 4), .ref (nx 5), .ref (nx 6), .int (nI cn), .int x8, .int x9, .int (nI (np_parts cn S.1).2)])), ((nx 0), .inl (cI, 24, .inl (ow_nI S.1))), ((nx 1), .inl (cI, 24, .inl (ow_nI S.2))), ((nx 2), .inl (cI, 12, .inl G))]) hD hS hA [0, 1, 2, 3, 4, 5] rfl
  refine va_callv (va_runV (As := [.ref aX]) (rest := []) ⟨hx, hb, hml, hown, hts⟩ (kg_X4_mark l dC dI cI cB cJ cZ aF ff z F aX nx x8 x9 (nI (np_parts cn S.1).2) S hS0 G cn hc H.size) (cwV 1 hts gg_X4_isPlane_1 rfl rfl rfl (by decide +kernel) ⟨(Nat.le_of_ble_eq_true rfl), (Nat.le_of_ble_eq_true rfl)⟩) ⟨fun a U g mk q => by obtain ⟨q0, q1, qP, qK, qD⟩ := q; exact ⟨q0, q1, qP, va_K.moved (u := U) (U := U.calling g mk a) (Vm.Alike.refl U.vm) qK, qD⟩, va_recv hK hPc (ci := 7) (q0 := 0) rfl rfl, fun U hU hW => ⟨rfl, by rw [hU], by rw [hU]; exact hPc, va_K.moved hW.alike hK, hDc.weaken (fun _ _ _ _ => trivial)⟩⟩ rfl rfl hl.1 rfl (lv_room (Nat.le_of_ble_eq_true rfl)) dgX4_isPlane_6 ⟨(Nat.le_of_ble_eq_true rfl), (Nat.le_of_ble_eq_true rfl)⟩) hS (fun q _ h => hFc q h) hFc (fun u9 t H1 locs ht hvm hw hB hz1 hk1 hS => ?_)
  obtain ⟨hP1, hD1⟩ := hB
  rw [ht] at hP1
  obtain ⟨hP, hD⟩ := va_join (wr := [((nx 5), .inl (cI, 24, .inl g5)), ((nx 6), .inl (cI, 24, .inl g6))]) (w1 := [(aF, .inr (7, [.ref (ff 0), .int (nI (fc_marks S G cn F).2), .ref (ff 2), .ref (ff 3), .ref (ff 4), .ref (ff 5), .ref (ff 6), .ref (ff 7)])), ((ff 0), .inl (cI, 48, .inl ((fc_marks S G cn F).1))), (aX, .inr (10, [.ref (nx 0), .ref (nx 1), .ref (nx 2), .ref (nx 3), .ref (nx 4), .ref (nx 5), .ref (nx 6), .int (nI cn), .int x8, .int x9, .int (nI (np_parts cn S.1).2)])), ((nx 0), .inl (cI, 24, .inl (ow_nI S.1))), ((nx 1), .inl (cI, 24, .inl (ow_nI S.2))), ((nx 2), .inl (cI, 12, .inl G))]) hP hD [0, 1, 2, 3, 4, 5] [6, 7] rfl rfl (by decide) (by decide) hk1 hFc hP1 hD1
  generalize H1 = H at hP hS ⊢
  have hP : va_P (dC, dI) vwCl [((nx 5), .inl (cI, 24, .inl g5)), ((nx 6), .inl (cI, 24, .inl g6)), (aF, .inr (7, [.ref (ff 0), .int (nI (fc_marks S G cn F).2), .ref (ff 2), .ref (ff 3), .ref (ff 4), .ref (ff 5), .ref (ff 6), .ref (ff 7)])), ((ff 0), .inl (cI, 48, .inl ((fc_marks S G cn F).1))), (aX, .inr (10, [.ref (nx 0), .ref (nx 1), .ref (nx 2), .ref (nx 3), .ref (nx 4), .ref (nx 5), .ref (nx 6), .int (nI cn), .int x8, .int x9, .int (nI (np_parts cn S.1).2)])), ((nx 0), .inl (cI, 24, .inl (ow_nI S.1))), ((nx 1), .inl (cI, 24, .inl (ow_nI S.2))), ((nx 2), .inl (cI, 12, .inl G))] H := hP
  have hD : va_D A [((nx 5), .inl (cI, 24, .inl g5)), ((nx 6), .inl (cI, 24, .inl g6)), (aF, .inr (7, [.ref (ff 0), .int (nI (fc_marks S G cn F).2), .ref (ff 2), .ref (ff 3), .ref (ff 4), .ref (ff 5), .ref (ff 6), .ref (ff 7)])), ((ff 0), .inl (cI, 48, .inl ((fc_marks S G cn F).1))), (aX, .inr (10, [.ref (nx 0), .ref (nx 1), .ref (nx 2), .ref (nx 3), .ref (nx 4), .ref (nx 5), .ref (nx 6), .int (nI cn), .int x8, .int x9, .int (nI (np_parts cn S.1).2)])), ((nx 0), .inl (cI, 24, .inl (ow_nI S.1))), ((nx 1), .inl (cI, 24, .inl (ow_nI S.2))), ((nx 2), .inl (cI, 12, .inl G))] := hD
  have hP := hP.sub (ws' := [(aF, .inr (7, [.ref (ff 0), .int (nI (fc_marks S G cn F).2), .ref (ff 2), .ref (ff 3), .ref (ff 4), .ref (ff 5), .ref (ff 6), .ref (ff 7)])), ((ff 0), .inl (cI, 48, .inl ((fc_marks S G cn F).1))), (aX, .inr (10, [.ref (nx 0), .ref (nx 1), .ref (nx 2), .ref (nx 3), .ref (nx 4), .ref (nx 5), .ref (nx 6), .int (nI cn), .int x8, .int x9, .int (nI (np_parts cn S.1).2)])), ((nx 0), .inl (cI, 24, .inl (ow_nI S.1))), ((nx 1), .inl (cI, 24, .inl (ow_nI S.2))), ((nx 2), .inl (cI, 12, .inl G)), ((nx 5), .inl (cI, 24, .inl g5)), ((nx 6), .inl (cI, 24, .inl g6))]) [2, 3, 4, 5, 6, 7, 0, 1] rfl
  have hD := hD.sub (ws' := [(aF, .inr (7, [.ref (ff 0), .int (nI (fc_marks S G cn F).2), .ref (ff 2), .ref (ff 3), .ref (ff 4), .ref (ff 5), .ref (ff 6), .ref (ff 7)])), ((ff 0), .inl (cI, 48, .inl ((fc_marks S G cn F).1))), (aX, .inr (10, [.ref (nx 0), .ref (nx 1), .ref (nx 2), .ref (nx 3), .ref (nx 4), .ref (nx 5), .ref (nx 6), .int (nI cn), .int x8, .int x9, .int (nI (np_parts cn S.1).2)])), ((nx 0), .inl (cI, 24, .inl (ow_nI S.1))), ((nx 1), .inl (cI, 24, .inl (ow_nI S.2))), ((nx 2), .inl (cI, 12, .inl G)), ((nx 5), .inl (cI, 24, .inl g5)), ((nx 6), .inl (cI, 24, .inl g6))]) [2, 3, 4, 5, 6, 7, 0, 1] (by decide) rfl
  have hl1 := fc_marks_le S G cn F
  have hl2 := np_parts_le cn S.1
  refine lv_aload_n hx hb dgX4_isPlane_9 rfl (lv_at hl 0 rfl) ?_
  refine va_get (D := (dC, dI)) (ci := 7) (v := .int (nI (fc_marks S G cn F).2)) (C := RX4) (T := TX4) (N := 8) hx hb hts (fun _ h => List.mem_cons_of_mem _ (List.mem_append_left _ (List.mem_append_left _ (List.mem_append_right _ h)))) hown hK hP 0 rfl rfl 1 (by decide) (hts (.fieldLink RX4 55 "KnotHouse$Faces" "count" "I") (by decide +kernel)) (fun _ h9 => h9) rfl dgX4_isPlane_10 ?_
  refine lv_aload_n hx hb dgX4_isPlane_13 rfl (lv_at hl 1 rfl) ?_
  refine va_get (D := (dC, dI)) (ci := 10) (v := .int (nI cn)) (C := RX7) (T := TX7) (N := 11) hx hb hts (fun _ h => List.mem_cons_of_mem _ (List.mem_append_left _ (List.mem_append_right _ h))) hown hK hP 2 rfl rfl 7 (by decide) (hts (.fieldLink RX4 45 "KnotHouse$Net" "crossings" "I") (by decide +kernel)) (fun _ h9 => h9) rfl dgX4_isPlane_14 ?_
  refine lv_iconst (v := 2) hx hb dgX4_isPlane_17 (by decide) ?_
  refine lv_aload_n hx hb dgX4_isPlane_18 rfl (lv_at hl 1 rfl) ?_
  refine va_get (D := (dC, dI)) (ci := 10) (v := .int (nI (np_parts cn S.1).2)) (C := RX7) (T := TX7) (N := 11) hx hb hts (fun _ h => List.mem_cons_of_mem _ (List.mem_append_left _ (List.mem_append_right _ h))) hown hK hP 2 rfl rfl 10 (by decide) (hts (.fieldLink RX4 69 "KnotHouse$Net" "parts" "I") (by decide +kernel)) (fun _ h9 => h9) rfl dgX4_isPlane_19 ?_
  refine lv_imul hx hb dgX4_isPlane_22 ?_
  refine ow_topi (y := nI (2 * ((np_parts cn S.1).2))) (pk_mul 2 ((np_parts cn S.1).2)) ?_
  refine lv_iadd hx hb dgX4_isPlane_23 ?_
  refine ow_topi (y := nI (cn + 2 * (np_parts cn S.1).2)) (nI_add cn (2 * (np_parts cn S.1).2)) ?_
  refine lv_icmp_ne (tgt := 31) hx hb dgX4_isPlane_24 (by decide) (fun c1 => ?_) (fun c1 => ?_)
  · have hne : ¬ (fc_marks S G cn F).2 = cn + 2 * (np_parts cn S.1).2 := fun h9 => c1 (congrArg nI h9)
    refine lv_iconst (v := 0) hx hb dgX4_isPlane_31 (by decide) ?_
    rw [hQQ]
    exact W.zret (v := 0) (ty := .boolean) hx hb hr rfl (fun t ht hW => ⟨⟨0, (g5, g6), rfl, ⟨(if_neg hne).symm, hg5⟩, by rw [ht]; exact hP, hD⟩, hS.F ht⟩) hS.2.2 dgX4_isPlane_32
  · have heq : (fc_marks S G cn F).2 = cn + 2 * (np_parts cn S.1).2 := ow_nI_inj (by omega) (by omega) c1
    refine lv_iconst (v := 1) hx hb dgX4_isPlane_27 (by decide) ?_
    refine lv_goto (tgt := 32) hx hb dgX4_isPlane_28 (by decide) ?_
    rw [hQQ]
    exact W.zret (v := 1) (ty := .boolean) hx hb hr rfl (fun t ht hW => ⟨⟨1, (g5, g6), rfl, ⟨(if_pos heq).symm, hg5⟩, by rw [ht]; exact hP, hD⟩, hS.F ht⟩) hS.2.2 dgX4_isPlane_32
theorem dgX2_firstCell_0 : decode cX2_firstCell 0 = .ok (.iconst 4, 1) := by decide +kernel
theorem dgX2_firstCell_1 : decode cX2_firstCell 1 = .ok (.iconst 2, 1) := by decide +kernel
theorem dgX2_firstCell_2 : decode cX2_firstCell 2 = .ok (.iload_n 1, 1) := by decide +kernel
theorem dgX2_firstCell_3 : decode cX2_firstCell 3 = .ok (.iconst 1, 1) := by decide +kernel
theorem dgX2_firstCell_4 : decode cX2_firstCell 4 = .ok (.iand, 1) := by decide +kernel
theorem dgX2_firstCell_5 : decode cX2_firstCell 5 = .ok (.imul, 1) := by decide +kernel
theorem dgX2_firstCell_6 : decode cX2_firstCell 6 = .ok (.iadd, 1) := by decide +kernel
theorem dgX2_firstCell_7 : decode cX2_firstCell 7 = .ok (.aload_n 0, 1) := by decide +kernel
theorem dgX2_firstCell_8 : decode cX2_firstCell 8 = .ok (.getfield 97, 3) := by decide +kernel
theorem dgX2_firstCell_11 : decode cX2_firstCell 11 = .ok (.iload_n 1, 1) := by decide +kernel
theorem dgX2_firstCell_12 : decode cX2_firstCell 12 = .ok (.iconst 1, 1) := by decide +kernel
theorem dgX2_firstCell_13 : decode cX2_firstCell 13 = .ok (.ishr, 1) := by decide +kernel
theorem dgX2_firstCell_14 : decode cX2_firstCell 14 = .ok (.iaload, 1) := by decide +kernel
theorem dgX2_firstCell_15 : decode cX2_firstCell 15 = .ok (.ifCond .ge 7, 3) := by decide +kernel
theorem dgX2_firstCell_18 : decode cX2_firstCell 18 = .ok (.iconst 1, 1) := by decide +kernel
theorem dgX2_firstCell_19 : decode cX2_firstCell 19 = .ok (.goto 4, 3) := by decide +kernel
theorem dgX2_firstCell_22 : decode cX2_firstCell 22 = .ok (.iconst 0, 1) := by decide +kernel
theorem dgX2_firstCell_23 : decode cX2_firstCell 23 = .ok (.iadd, 1) := by decide +kernel
theorem dgX2_firstCell_24 : decode cX2_firstCell 24 = .ok (.ireturn, 1) := by decide +kernel
def wg_X2_firstCell : List Cond := .code yX2_firstCell cX2_firstCell 2 (some .int) :: (([.fieldLink RX2 97 "KnotHouse$Net" "sign" "[I"] ++ wsX70) ++ [])
set_option maxHeartbeats 4000000 in
set_option maxRecDepth 100000 in
theorem kg_X2_firstCell (l : Launch) (dC : Nat → ClassId) (dI : Nat → Nat → Nat) (cI cB cJ cZ : ClassId) (aX : Nat) (nx : Nat → Nat) (x7 x8 x9 x10 : Int32) (G : Nat → Int32) (v : Nat) (hv : v < 24) : Met l yX2_firstCell wg_X2_firstCell (({ frames := 0, cells := 0, slots := 0, locals := 0 } : Room)) (va_Pc [.ref aX, .int (nI v)] (fun U => va_P (dC, dI) vwCl [(aX, .inr (10, [.ref (nx 0), .ref (nx 1), .ref (nx 2), .ref (nx 3), .ref (nx 4), .ref (nx 5), .ref (nx 6), .int x7, .int x8, .int x9, .int x10])), ((nx 2), .inl (cI, 12, .inl G))] U.heap ∧ va_K (dC, dI) vwCl [(cI, .int), (cB, .byte), (cJ, .long), (cZ, .boolean)] U)) (va_Qi (fun r (_ : Unit) => r = nI (cd_first G v)) (fun _ _ => True) (fun _ => False)) 0 0 (fun _ => False) := by
  refine Met.ofW (cc := cX2_firstCell) (maxL := 2) (ret := (some .int)) (by decide) rfl ?_
  intro p e s m args below meth c s₁ B hml hv
  obtain ⟨rfl, hP, hK⟩ := hv
  have hx := B.exec
  have hb := B.bytes
  have hr := B.returns
  have hts := atoms_spec (ws := wg_X2_firstCell) B.pre
  have hown : s.vm.findClass RX2 = some m.cls := findClass_of_methodNamed B.named
  have hlocks := B.notSynchronized
  have hS : va_S (fun _ => False) s.heap s.heap [] := va_S.rf
  have hP : va_P (dC, dI) vwCl [(aX, .inr (10, [.ref (nx 0), .ref (nx 1), .ref (nx 2), .ref (nx 3), .ref (nx 4), .ref (nx 5), .ref (nx 6), .int x7, .int x8, .int x9, .int x10])), ((nx 2), .inl (cI, 12, .inl G))] s.heap := hP
  have hl := lv_entry ([.ref aX, .int (nI v)]) (n := 2) (Nat.le_of_ble_eq_true rfl)
  rw [lg_entry_eq]
  generalize (lg_sl ([.ref aX, .int (nI v)]) ++ List.replicate (2 - (lg_sl ([.ref aX, .int (nI v)])).length) Slot.unset).toArray = ls at hl ⊢
  have hl : lv_has ls 2 [(0, .ref aX), (1, .int (nI v))] := hl
  refine ow_named (fun QQ hQQ => ?_)
  refine lv_iconst (v := 4) hx hb dgX2_firstCell_0 (by decide) ?_
  refine lv_iconst (v := 2) hx hb dgX2_firstCell_1 (by decide) ?_
  refine lv_iload_n hx hb dgX2_firstCell_2 rfl (lv_at hl 1 rfl) ?_
  refine lv_iconst (v := 1) hx hb dgX2_firstCell_3 (by decide) ?_
  refine lv_iand hx hb dgX2_firstCell_4 ?_
  refine ow_topi (y := nI (v % 2)) (ow_and1 (n := v) (by omega)) ?_
  refine lv_imul hx hb dgX2_firstCell_5 ?_
  refine ow_topi (y := nI (2 * (v % 2))) (pk_mul 2 (v % 2)) ?_
  refine lv_iadd hx hb dgX2_firstCell_6 ?_
  refine ow_topi (y := nI (4 + 2 * (v % 2))) (nI_add 4 (2 * (v % 2))) ?_
  refine lv_aload_n hx hb dgX2_firstCell_7 rfl (lv_at hl 0 rfl) ?_
  refine va_get (D := (dC, dI)) (ci := 10) (v := .ref (nx 2)) (C := RX7) (T := TX7) (N := 11) hx hb hts (fun _ h => List.mem_cons_of_mem _ (List.mem_append_left _ (List.mem_append_right _ h))) hown hK hP 0 rfl rfl 2 (by decide) (hts (.fieldLink RX2 97 "KnotHouse$Net" "sign" "[I") (by decide +kernel)) (fun _ h9 => h9) rfl dgX2_firstCell_8 ?_
  refine lv_iload_n hx hb dgX2_firstCell_11 rfl (lv_at hl 1 rfl) ?_
  refine lv_iconst (v := 1) hx hb dgX2_firstCell_12 (by decide) ?_
  refine lv_ishr hx hb dgX2_firstCell_13 ?_
  refine ow_topi (y := nI (v / 2)) (ow_shr1 (n := v) (by omega)) ?_
  refine va_iald hx hb hK hP 1 0 rfl rfl (vp_in_nI (n := v / 2) (N := 12) (by omega) (by decide)) dgX2_firstCell_14 ?_
  refine ow_topi (y := G (v / 2)) (congrArg G (nI_clamp (n := v / 2) (Nat.lt_trans (m := 12) (by omega) (by decide)))) ?_
  refine lv_if_ge (tgt := 22) hx hb dgX2_firstCell_15 (by decide) (fun c1 => ?_) (fun c1 => ?_)
  · refine lv_iconst (v := 0) hx hb dgX2_firstCell_22 (by decide) ?_
    refine lv_iadd hx hb dgX2_firstCell_23 ?_
    refine ow_topi (y := nI (4 + 2 * (v % 2) + 0)) (nI_add (4 + 2 * (v % 2)) 0) ?_
    rw [hQQ]
    exact W.iret (v := (nI (4 + 2 * (v % 2) + 0))) hx hb hr (fun t ht hW => ⟨⟨(nI (4 + 2 * (v % 2) + 0)), (), rfl, congrArg nI (by rw [cd_first, if_neg (Int32.not_lt.mpr c1)]), trivial⟩, hS.F ht⟩) hS.2.2 dgX2_firstCell_24
  · refine lv_iconst (v := 1) hx hb dgX2_firstCell_18 (by decide) ?_
    refine lv_goto (tgt := 23) hx hb dgX2_firstCell_19 (by decide) ?_
    refine lv_iadd hx hb dgX2_firstCell_23 ?_
    refine ow_topi (y := nI (4 + 2 * (v % 2) + 1)) (nI_1 (4 + 2 * (v % 2))) ?_
    rw [hQQ]
    exact W.iret (v := (nI (4 + 2 * (v % 2) + 1))) hx hb hr (fun t ht hW => ⟨⟨(nI (4 + 2 * (v % 2) + 1)), (), rfl, congrArg nI (by rw [cd_first, if_pos (Int32.not_le.mp c1)]), trivial⟩, hS.F ht⟩) hS.2.2 dgX2_firstCell_24
theorem dgX2_leastFirstCell_0 : decode cX2_leastFirstCell 0 = .ok (.bipush 8, 2) := by decide +kernel
theorem dgX2_leastFirstCell_2 : decode cX2_leastFirstCell 2 = .ok (.istore_n 2, 1) := by decide +kernel
theorem dgX2_leastFirstCell_3 : decode cX2_leastFirstCell 3 = .ok (.iconst 0, 1) := by decide +kernel
theorem dgX2_leastFirstCell_4 : decode cX2_leastFirstCell 4 = .ok (.istore_n 3, 1) := by decide +kernel
theorem dgX2_leastFirstCell_5 : decode cX2_leastFirstCell 5 = .ok (.iload_n 3, 1) := by decide +kernel
theorem dgX2_leastFirstCell_6 : decode cX2_leastFirstCell 6 = .ok (.iconst 2, 1) := by decide +kernel
theorem dgX2_leastFirstCell_7 : decode cX2_leastFirstCell 7 = .ok (.aload_n 0, 1) := by decide +kernel
theorem dgX2_leastFirstCell_8 : decode cX2_leastFirstCell 8 = .ok (.getfield 68, 3) := by decide +kernel
theorem dgX2_leastFirstCell_11 : decode cX2_leastFirstCell 11 = .ok (.imul, 1) := by decide +kernel
theorem dgX2_leastFirstCell_12 : decode cX2_leastFirstCell 12 = .ok (.if_icmp .ge 29, 3) := by decide +kernel
theorem dgX2_leastFirstCell_15 : decode cX2_leastFirstCell 15 = .ok (.aload_n 0, 1) := by decide +kernel
theorem dgX2_leastFirstCell_16 : decode cX2_leastFirstCell 16 = .ok (.getfield 88, 3) := by decide +kernel
theorem dgX2_leastFirstCell_19 : decode cX2_leastFirstCell 19 = .ok (.iload_n 3, 1) := by decide +kernel
theorem dgX2_leastFirstCell_20 : decode cX2_leastFirstCell 20 = .ok (.iaload, 1) := by decide +kernel
theorem dgX2_leastFirstCell_21 : decode cX2_leastFirstCell 21 = .ok (.iload_n 1, 1) := by decide +kernel
theorem dgX2_leastFirstCell_22 : decode cX2_leastFirstCell 22 = .ok (.if_icmp .ne 13, 3) := by decide +kernel
theorem dgX2_leastFirstCell_25 : decode cX2_leastFirstCell 25 = .ok (.iload_n 2, 1) := by decide +kernel
theorem dgX2_leastFirstCell_26 : decode cX2_leastFirstCell 26 = .ok (.aload_n 0, 1) := by decide +kernel
theorem dgX2_leastFirstCell_27 : decode cX2_leastFirstCell 27 = .ok (.iload_n 3, 1) := by decide +kernel
theorem dgX2_leastFirstCell_28 : decode cX2_leastFirstCell 28 = .ok (.invokestatic 91, 3) := by decide +kernel
theorem dgX2_leastFirstCell_31 : decode cX2_leastFirstCell 31 = .ok (.invokestatic 100, 3) := by decide +kernel
theorem dgX2_leastFirstCell_34 : decode cX2_leastFirstCell 34 = .ok (.istore_n 2, 1) := by decide +kernel
theorem dgX2_leastFirstCell_35 : decode cX2_leastFirstCell 35 = .ok (.iinc 3 1, 3) := by decide +kernel
theorem dgX2_leastFirstCell_38 : decode cX2_leastFirstCell 38 = .ok (.goto (-33), 3) := by decide +kernel
theorem dgX2_leastFirstCell_41 : decode cX2_leastFirstCell 41 = .ok (.iload_n 2, 1) := by decide +kernel
theorem dgX2_leastFirstCell_42 : decode cX2_leastFirstCell 42 = .ok (.ireturn, 1) := by decide +kernel
def wg_X2_leastFirstCell : List Cond := .code yX2_leastFirstCell cX2_leastFirstCell 4 (some .int) :: (([.fieldLink RX2 68 "KnotHouse$Net" "crossings" "I", .fieldLink RX2 88 "KnotHouse$Net" "part" "[I", .methodLink RX2 100 Lib.Math.min.name, .static Lib.Math.min.name, .initialized "java/lang/Math", .code Lib.Math.min.name Lib.Math.min.code 2 (some .int)] ++ wsX70) ++ (va_wsS RX2 91 yX2_firstCell wg_X2_firstCell ++ []))
theorem gg_X2_leastFirstCell_0 : GoodIn wg_X2_leastFirstCell (va_wsS RX2 91 yX2_firstCell wg_X2_firstCell) := goodIn_sub (fun _ h => List.mem_cons_of_mem _ (List.mem_append_right _ (List.mem_append_left _ h))) (by decide +kernel)
set_option maxHeartbeats 4000000 in
set_option maxRecDepth 100000 in
theorem kg_X2_leastFirstCell (l : Launch) (dC : Nat → ClassId) (dI : Nat → Nat → Nat) (cI cB cJ cZ : ClassId) (aX : Nat) (nx : Nat → Nat) (x8 x9 x10 : Int32) (G F : Nat → Int32) (k : Int32) (cn : Nat) (hc : cn ≤ 12) : Met l yX2_leastFirstCell wg_X2_leastFirstCell (({ frames := 1, cells := 0, slots := 0, locals := 40 } : Room)) (va_Pc [.ref aX, .int k] (fun U => va_P (dC, dI) vwCl [(aX, .inr (10, [.ref (nx 0), .ref (nx 1), .ref (nx 2), .ref (nx 3), .ref (nx 4), .ref (nx 5), .ref (nx 6), .int (nI cn), .int x8, .int x9, .int x10])), ((nx 2), .inl (cI, 12, .inl G)), ((nx 5), .inl (cI, 24, .inl F))] U.heap ∧ va_K (dC, dI) vwCl [(cI, .int), (cB, .byte), (cJ, .long), (cZ, .boolean)] U)) (va_Qi (fun r (_ : Unit) => r = nI (cd_least G F k (2 * cn))) (fun _ _ => True) (fun _ => False)) 0 0 (fun _ => False) := by
  refine Met.ofW (cc := cX2_leastFirstCell) (maxL := 4) (ret := (some .int)) (by decide) rfl ?_
  intro p e s m args below meth c s₁ B hml hv
  obtain ⟨rfl, hP, hK⟩ := hv
  have hx := B.exec
  have hb := B.bytes
  have hr := B.returns
  have hts := atoms_spec (ws := wg_X2_leastFirstCell) B.pre
  have hown : s.vm.findClass RX2 = some m.cls := findClass_of_methodNamed B.named
  have hlocks := B.notSynchronized
  have hS : va_S (fun _ => False) s.heap s.heap [] := va_S.rf
  have hP : va_P (dC, dI) vwCl [(aX, .inr (10, [.ref (nx 0), .ref (nx 1), .ref (nx 2), .ref (nx 3), .ref (nx 4), .ref (nx 5), .ref (nx 6), .int (nI cn), .int x8, .int x9, .int x10])), ((nx 2), .inl (cI, 12, .inl G)), ((nx 5), .inl (cI, 24, .inl F))] s.heap := hP
  have hl := lv_entry ([.ref aX, .int k]) (n := 4) (Nat.le_of_ble_eq_true rfl)
  rw [lg_entry_eq]
  generalize (lg_sl ([.ref aX, .int k]) ++ List.replicate (4 - (lg_sl ([.ref aX, .int k])).length) Slot.unset).toArray = ls at hl ⊢
  have hl : lv_has ls 4 [(0, .ref aX), (1, .int k)] := hl
  refine ow_named (fun QQ hQQ => ?_)
  have L5 : ∀ (d i : Nat), i + d = 2 * cn → ∀ (H : Heap) (locs : List Loc) (ls : Array Slot), va_P (dC, dI) vwCl [(aX, .inr (10, [.ref (nx 0), .ref (nx 1), .ref (nx 2), .ref (nx 3), .ref (nx 4), .ref (nx 5), .ref (nx 6), .int (nI cn), .int x8, .int x9, .int x10])), ((nx 2), .inl (cI, 12, .inl G)), ((nx 5), .inl (cI, 24, .inl F))] H → va_S (fun _ => False) s.heap H locs → lv_has ls 4 [(0, .ref aX), (1, .int k), (2, .int (nI (cd_least G F k i))), (3, .int (nI i))] → W p l e ({ frames := 1, cells := 0, slots := 0, locals := 40 } : Room) s m ([.ref aX, .int k] : List Value).toArray below meth c H locs 0 0 QQ (F0 m 5 ls []) := by
    intro d
    induction d with
    | zero =>
      intro i hi H locs ls hP hS hl
      have hie : i = 2 * cn := by omega
      refine lv_iload_n hx hb dgX2_leastFirstCell_5 rfl (lv_at hl 3 rfl) ?_
      refine lv_iconst (v := 2) hx hb dgX2_leastFirstCell_6 (by decide) ?_
      refine lv_aload_n hx hb dgX2_leastFirstCell_7 rfl (lv_at hl 0 rfl) ?_
      refine va_get (D := (dC, dI)) (ci := 10) (v := .int (nI cn)) (C := RX7) (T := TX7) (N := 11) hx hb hts (fun _ h => List.mem_cons_of_mem _ (List.mem_append_left _ (List.mem_append_right _ h))) hown hK hP 0 rfl rfl 7 (by decide) (hts (.fieldLink RX2 68 "KnotHouse$Net" "crossings" "I") (by decide +kernel)) (fun _ h9 => h9) rfl dgX2_leastFirstCell_8 ?_
      refine lv_imul hx hb dgX2_leastFirstCell_11 ?_
      refine ow_topi (y := nI (2 * cn)) (pk_mul 2 cn) ?_
      refine lv_icmp_ge (tgt := 41) hx hb dgX2_leastFirstCell_12 (by decide) (fun _ => ?_) (fun c9 => absurd (nI_le (a := 2 * cn) (b := i) (by omega) (by omega)) c9)
      refine lv_iload_n hx hb dgX2_leastFirstCell_41 rfl (lv_at hl 2 rfl) ?_
      rw [hQQ]
      exact W.iret (v := (nI (cd_least G F k i))) hx hb hr (fun t ht hW => ⟨⟨(nI (cd_least G F k i)), (), rfl, by rw [hie], trivial⟩, hS.F ht⟩) hS.2.2 dgX2_leastFirstCell_42
    | succ d ih =>
      intro i hi H locs ls hP hS hl
      have hll := cd_least_le G F k i
      have hfl := cd_first_lt G i
      refine lv_iload_n hx hb dgX2_leastFirstCell_5 rfl (lv_at hl 3 rfl) ?_
      refine lv_iconst (v := 2) hx hb dgX2_leastFirstCell_6 (by decide) ?_
      refine lv_aload_n hx hb dgX2_leastFirstCell_7 rfl (lv_at hl 0 rfl) ?_
      refine va_get (D := (dC, dI)) (ci := 10) (v := .int (nI cn)) (C := RX7) (T := TX7) (N := 11) hx hb hts (fun _ h => List.mem_cons_of_mem _ (List.mem_append_left _ (List.mem_append_right _ h))) hown hK hP 0 rfl rfl 7 (by decide) (hts (.fieldLink RX2 68 "KnotHouse$Net" "crossings" "I") (by decide +kernel)) (fun _ h9 => h9) rfl dgX2_leastFirstCell_8 ?_
      refine lv_imul hx hb dgX2_leastFirstCell_11 ?_
      refine ow_topi (y := nI (2 * cn)) (pk_mul 2 cn) ?_
      refine lv_icmp_ge (tgt := 41) hx hb dgX2_leastFirstCell_12 (by decide) (fun c9 => absurd c9 (nI_ge (a := i) (b := 2 * cn) (by omega) (by omega))) (fun _ => ?_)
      refine lv_aload_n hx hb dgX2_leastFirstCell_15 rfl (lv_at hl 0 rfl) ?_
      refine va_get (D := (dC, dI)) (ci := 10) (v := .ref (nx 5)) (C := RX7) (T := TX7) (N := 11) hx hb hts (fun _ h => List.mem_cons_of_mem _ (List.mem_append_left _ (List.mem_append_right _ h))) hown hK hP 0 rfl rfl 5 (by decide) (hts (.fieldLink RX2 88 "KnotHouse$Net" "part" "[I") (by decide +kernel)) (fun _ h9 => h9) rfl dgX2_leastFirstCell_16 ?_
      refine lv_iload_n hx hb dgX2_leastFirstCell_19 rfl (lv_at hl 3 rfl) ?_
      refine va_iald hx hb hK hP 2 0 rfl rfl (vp_in_nI (n := i) (N := 24) (by omega) (by decide)) dgX2_leastFirstCell_20 ?_
      refine ow_topi (y := F i) (congrArg F (nI_clamp (n := i) (Nat.lt_trans (m := 24) (by omega) (by decide)))) ?_
      refine lv_iload_n hx hb dgX2_leastFirstCell_21 rfl (lv_at hl 1 rfl) ?_
      refine lv_icmp_ne (tgt := 35) hx hb dgX2_leastFirstCell_22 (by decide) (fun c1 => ?_) (fun c1 => ?_)
      · refine lv_iinc (v := nI (i + 1)) (lv' := [(3, .int (nI (i + 1))), (0, .ref aX), (1, .int k), (2, .int (nI (cd_least G F k i)))]) hx hb dgX2_leastFirstCell_35 hl (k := 3) rfl (nI_1 i) (by decide) rfl (fun ls hl => ?_)
        refine lv_goto (tgt := 5) hx hb dgX2_leastFirstCell_38 (by decide) ?_
        have hst : cd_least G F k (i + 1) = cd_least G F k i := if_neg c1
        refine ih (i + 1) (by omega) H locs ls hP hS ?_
        rw [hst]
        exact (lv_sub hl [1, 2, 3, 0] rfl)
      · refine lv_iload_n hx hb dgX2_leastFirstCell_25 rfl (lv_at hl 2 rfl) ?_
        refine lv_aload_n hx hb dgX2_leastFirstCell_26 rfl (lv_at hl 0 rfl) ?_
        refine lv_iload_n hx hb dgX2_leastFirstCell_27 rfl (lv_at hl 3 rfl) ?_
        have hPc := hP.sub (ws' := [(aX, .inr (10, [.ref (nx 0), .ref (nx 1), .ref (nx 2), .ref (nx 3), .ref (nx 4), .ref (nx 5), .ref (nx 6), .int (nI cn), .int x8, .int x9, .int x10])), ((nx 2), .inl (cI, 12, .inl G))]) [0, 1] rfl
        refine va_calli (va_runS (As := [.ref aX, .int (nI i)]) (rest := [.int (nI (cd_least G F k i))]) ⟨hx, hb, hml, hown, hts⟩ (kg_X2_firstCell l dC dI cI cB cJ cZ aX nx (nI cn) x8 x9 x10 G i (by omega)) (va_cwS 2 hts gg_X2_leastFirstCell_0 rfl rfl rfl (by decide +kernel) ⟨(Nat.le_of_ble_eq_true rfl), (Nat.le_of_ble_eq_true rfl)⟩) ⟨fun a U g mk q => by obtain ⟨q0, qP, qK⟩ := q; exact ⟨q0, qP, va_K.moved (u := U) (U := U.calling g mk a) (Vm.Alike.refl U.vm) qK⟩, fun U hU hW => ⟨rfl, by rw [hU]; exact hPc, va_K.moved hW.alike hK⟩⟩ rfl rfl hl.1 rfl (lv_room (Nat.le_of_ble_eq_true rfl)) dgX2_leastFirstCell_28 ⟨(Nat.le_of_ble_eq_true rfl), (Nat.le_of_ble_eq_true rfl)⟩) hS (fun q _ h => h.elim) (fun q h => h.elim) (fun r9 un t H1 locs ht hvm hw9 hB hz1 hk1 hS => ?_)
        have hP := hP.kept (fun k9 x9 h9 => hk1 x9.1 ((hP k9 x9 h9).lt) id)
        generalize H1 = H at hP hS ⊢
        obtain rfl : r9 = nI (cd_first G i) := hw9
        refine va_mmin hx hb (by rw [hml]; exact hl.1.symm) hown (hts (.methodLink RX2 100 Lib.Math.min.name) (by decide +kernel)) (hts (.static Lib.Math.min.name) (by decide +kernel)) (hts (.initialized "java/lang/Math") (by decide +kernel)) (hts (.code Lib.Math.min.name Lib.Math.min.code 2 (some .int)) (by decide +kernel)) (Nat.le_of_ble_eq_true rfl) (by decide) (Nat.le_of_ble_eq_true rfl) (Nat.le_of_ble_eq_true rfl) dgX2_leastFirstCell_31 ?_
        refine ow_topi (y := nI (min (cd_least G F k i) (cd_first G i))) (ow_min (by omega) (by omega)) ?_
        refine lv_istore_n (lv' := [(2, .int (nI (min (cd_least G F k i) (cd_first G i)))), (0, .ref aX), (1, .int k), (3, .int (nI i))]) hx hb dgX2_leastFirstCell_34 rfl hl (by decide) rfl (fun ls hl => ?_)
        refine lv_iinc (v := nI (i + 1)) (lv' := [(3, .int (nI (i + 1))), (2, .int (nI (min (cd_least G F k i) (cd_first G i)))), (0, .ref aX), (1, .int k)]) hx hb dgX2_leastFirstCell_35 hl (k := 3) rfl (nI_1 i) (by decide) rfl (fun ls hl => ?_)
        refine lv_goto (tgt := 5) hx hb dgX2_leastFirstCell_38 (by decide) ?_
        have hst : cd_least G F k (i + 1) = min (cd_least G F k i) (cd_first G i) := if_pos c1
        refine ih (i + 1) (by omega) H locs ls hP hS ?_
        rw [hst]
        exact (lv_sub hl [2, 3, 1, 0] rfl)
  refine lv_bipush (v := 8) hx hb dgX2_leastFirstCell_0 (by decide) ?_
  refine ow_topi (y := nI 8) (by decide) ?_
  refine lv_istore_n (lv' := [(2, .int (nI 8)), (0, .ref aX), (1, .int k)]) hx hb dgX2_leastFirstCell_2 rfl hl (by decide) rfl (fun ls hl => ?_)
  refine lv_iconst (v := 0) hx hb dgX2_leastFirstCell_3 (by decide) ?_
  refine ow_topi (y := nI 0) (by decide) ?_
  refine lv_istore_n (lv' := [(3, .int (nI 0)), (2, .int (nI 8)), (0, .ref aX), (1, .int k)]) hx hb dgX2_leastFirstCell_4 rfl hl (by decide) rfl (fun ls hl => ?_)
  exact L5 (2 * cn) 0 (by omega) s.heap [] ls hP hS (lv_sub hl [2, 3, 1, 0] rfl)
