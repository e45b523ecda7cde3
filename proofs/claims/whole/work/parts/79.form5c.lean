/-! letters, cycling, conjugation -/
def f5_ta (F : Nat → Int32) (n : Nat) : Nat → Nat → Int32
  | 0 => F
  | i + 1 => su (f5_ta F n i) i (f5_tu (f5_ta F n i i) n n)
def f5_le (n : Nat) (idn den : Int32) (q : ow_FO) (w : Nat × Bool) : ow_FO := if w.2 then f5_pb n idn den q (f5_ex idn (nI w.1)) else f5_pb n idn den (q.1 - 1, q.2.1, f5_ta q.2.2 n q.2.1) (f5_eb den (nI w.1) n)
def f5_pt (q : Int32) (a : Int32) (n : Nat) : Int32 := if q &&& 1 = 0 then a else f5_tu a n n
def f5_cy (n : Nat) (idn den : Int32) (q : ow_FO) : ow_FO := if 0 < q.2.1 then f5_pb n idn den (q.1, q.2.1 - 1, va_cpy q.2.2 q.2.2 1 0 (q.2.1 - 1)) (f5_pt q.1 (q.2.2 0) n) else q
def f5_dc (n : Nat) (idn den : Int32) (q : ow_FO) : ow_FO := if 0 < q.2.1 then f5_pf n idn den (q.1, q.2.1 - 1, q.2.2) (f5_pt q.1 (q.2.2 (q.2.1 - 1)) n) else q
def f5_re (a : Int32) (n : Nat) : Nat → Int32
  | 0 => 0
  | j + 1 => f5_re a n j ||| (f5_im a (nI n - 1 - nI j) <<< ((4 * nI j) &&& 31))
def f5_co (n : Nat) (idn den : Int32) (q : ow_FO) (a : Int32) : ow_FO := f5_pb n idn den (f5_pf n idn den (q.1 - 1, q.2.1, q.2.2) (f5_pt q.1 (f5_re (f5_inv a n) n n) n)) a
theorem f5_cy_le {n : Nat} {idn den : Int32} {q : ow_FO} (h : q.2.1 ≤ 24) : (f5_cy n idn den q).2.1 ≤ 24 := by
  unfold f5_cy
  split
  · exact f5_pb_le (show q.2.1 - 1 ≤ 24 by omega)
  · exact h
theorem f5_dc_le {n : Nat} {idn den : Int32} {q : ow_FO} (h : q.2.1 ≤ 24) : (f5_dc n idn den q).2.1 ≤ 24 := by
  unfold f5_dc
  split
  · exact f5_pf_le (show q.2.1 - 1 ≤ 24 by omega)
  · exact h
theorem f5_co_le {n : Nat} {idn den : Int32} {q : ow_FO} {a : Int32} (h : q.2.1 ≤ 24) : (f5_co n idn den q a).2.1 ≤ 24 := f5_pb_le (f5_pf_le h)
theorem f5_le_le {n : Nat} {idn den : Int32} {q : ow_FO} {w : Nat × Bool} (h : q.2.1 ≤ 24) : (f5_le n idn den q w).2.1 ≤ 24 := by
  unfold f5_le
  split
  · exact f5_pb_le h
  · exact f5_pb_le h
theorem ow_m2 (k : Nat) : nI (k + 1) - 2 = nI k - 1 := by
  rw [← nI_1 k, Int32.sub_eq_add_neg, Int32.sub_eq_add_neg, Int32.add_assoc]
  congr 1
theorem dgX5_putBehind_0 : decode cX5_putBehind 0 = .ok (.aload_n 0, 1) := by decide +kernel
theorem dgX5_putBehind_1 : decode cX5_putBehind 1 = .ok (.getfield 32, 3) := by decide +kernel
theorem dgX5_putBehind_4 : decode cX5_putBehind 4 = .ok (.bipush 24, 2) := by decide +kernel
theorem dgX5_putBehind_6 : decode cX5_putBehind 6 = .ok (.if_icmp .lt 4, 3) := by decide +kernel
theorem dgX5_putBehind_9 : decode cX5_putBehind 9 = .ok (.return_, 1) := by decide +kernel
theorem dgX5_putBehind_10 : decode cX5_putBehind 10 = .ok (.aload_n 0, 1) := by decide +kernel
theorem dgX5_putBehind_11 : decode cX5_putBehind 11 = .ok (.getfield 11, 3) := by decide +kernel
theorem dgX5_putBehind_14 : decode cX5_putBehind 14 = .ok (.aload_n 0, 1) := by decide +kernel
theorem dgX5_putBehind_15 : decode cX5_putBehind 15 = .ok (.getfield 32, 3) := by decide +kernel
theorem dgX5_putBehind_18 : decode cX5_putBehind 18 = .ok (.iload_n 1, 1) := by decide +kernel
theorem dgX5_putBehind_19 : decode cX5_putBehind 19 = .ok (.iastore, 1) := by decide +kernel
theorem dgX5_putBehind_20 : decode cX5_putBehind 20 = .ok (.aload_n 0, 1) := by decide +kernel
theorem dgX5_putBehind_21 : decode cX5_putBehind 21 = .ok (.dup, 1) := by decide +kernel
theorem dgX5_putBehind_22 : decode cX5_putBehind 22 = .ok (.getfield 32, 3) := by decide +kernel
theorem dgX5_putBehind_25 : decode cX5_putBehind 25 = .ok (.iconst 1, 1) := by decide +kernel
theorem dgX5_putBehind_26 : decode cX5_putBehind 26 = .ok (.iadd, 1) := by decide +kernel
theorem dgX5_putBehind_27 : decode cX5_putBehind 27 = .ok (.putfield 32, 3) := by decide +kernel
theorem dgX5_putBehind_30 : decode cX5_putBehind 30 = .ok (.iconst 1, 1) := by decide +kernel
theorem dgX5_putBehind_31 : decode cX5_putBehind 31 = .ok (.istore_n 2, 1) := by decide +kernel
theorem dgX5_putBehind_32 : decode cX5_putBehind 32 = .ok (.aload_n 0, 1) := by decide +kernel
theorem dgX5_putBehind_33 : decode cX5_putBehind 33 = .ok (.getfield 32, 3) := by decide +kernel
theorem dgX5_putBehind_36 : decode cX5_putBehind 36 = .ok (.iconst 2, 1) := by decide +kernel
theorem dgX5_putBehind_37 : decode cX5_putBehind 37 = .ok (.isub, 1) := by decide +kernel
theorem dgX5_putBehind_38 : decode cX5_putBehind 38 = .ok (.istore_n 3, 1) := by decide +kernel
theorem dgX5_putBehind_39 : decode cX5_putBehind 39 = .ok (.iload_n 3, 1) := by decide +kernel
theorem dgX5_putBehind_40 : decode cX5_putBehind 40 = .ok (.ifCond .lt 19, 3) := by decide +kernel
theorem dgX5_putBehind_43 : decode cX5_putBehind 43 = .ok (.iload_n 2, 1) := by decide +kernel
theorem dgX5_putBehind_44 : decode cX5_putBehind 44 = .ok (.ifCond .eq 15, 3) := by decide +kernel
theorem dgX5_putBehind_47 : decode cX5_putBehind 47 = .ok (.aload_n 0, 1) := by decide +kernel
theorem dgX5_putBehind_48 : decode cX5_putBehind 48 = .ok (.iload_n 3, 1) := by decide +kernel
theorem dgX5_putBehind_49 : decode cX5_putBehind 49 = .ok (.invokevirtual 73, 3) := by decide +kernel
theorem dgX5_putBehind_52 : decode cX5_putBehind 52 = .ok (.istore_n 2, 1) := by decide +kernel
theorem dgX5_putBehind_53 : decode cX5_putBehind 53 = .ok (.iinc 3 (-1), 3) := by decide +kernel
theorem dgX5_putBehind_56 : decode cX5_putBehind 56 = .ok (.goto (-17), 3) := by decide +kernel
theorem dgX5_putBehind_59 : decode cX5_putBehind 59 = .ok (.aload_n 0, 1) := by decide +kernel
theorem dgX5_putBehind_60 : decode cX5_putBehind 60 = .ok (.invokevirtual 77, 3) := by decide +kernel
theorem dgX5_putBehind_63 : decode cX5_putBehind 63 = .ok (.return_, 1) := by decide +kernel
def wg_X5_putBehind : List Cond := .code yX5_putBehind cX5_putBehind 4 none :: (([.fieldLink RX5 32 "KnotHouse$Form" "length" "I", .fieldLink RX5 11 "KnotHouse$Form" "factors" "[I"] ++ wsX50) ++ (wsV RX5 73 RX5 yX5_weigh wg_X5_weigh ++ (wsV RX5 77 RX5 yX5_strip wg_X5_strip ++ [])))
theorem gg_X5_putBehind_0 : GoodIn wg_X5_putBehind (wsV RX5 73 RX5 yX5_weigh wg_X5_weigh) := goodIn_sub (fun _ h => List.mem_cons_of_mem _ (List.mem_append_right _ (List.mem_append_left _ h))) (by decide +kernel)
theorem gg_X5_putBehind_1 : GoodIn wg_X5_putBehind (wsV RX5 77 RX5 yX5_strip wg_X5_strip) := goodIn_sub (fun _ h => List.mem_cons_of_mem _ (List.mem_append_right _ (List.mem_append_right _ (List.mem_append_left _ h)))) (by decide +kernel)
set_option maxHeartbeats 4000000 in
set_option maxRecDepth 100000 in
theorem kg_X5_putBehind (l : Launch) (dC : Nat → ClassId) (dI : Nat → Nat → Nat) (cI cB cJ cZ : ClassId) (aO fc n : Nat) (hn1 : 1 ≤ n) (hn9 : n < 100) (idn den : Int32) (q : ow_FO) (hq : q.2.1 ≤ 24) (s9 : Int32) (sz : Nat) : Met l yX5_putBehind wg_X5_putBehind (({ frames := 3, cells := 0, slots := 0, locals := 130 } : Room)) (va_Pc [.ref aO, .int s9] (fun U => U.heap.size = sz ∧ va_P (dC, dI) vwCl [(aO, .inr (8, [.int (nI n), .int q.1, .int (nI q.2.1), .ref fc, .int idn, .int den])), (fc, .inl (cI, 24, .inl q.2.2))] U.heap ∧ va_K (dC, dI) vwCl [(cI, .int), (cB, .byte), (cJ, .long), (cZ, .boolean)] U ∧ va_D (fun _ => True) [(aO, .inr (8, [.int (nI n), .int q.1, .int (nI q.2.1), .ref fc, .int idn, .int den])), (fc, .inl (cI, 24, .inl q.2.2))])) (va_Qv (fun (g : Unit) => True) (fun g t => va_P (dC, dI) vwCl [(aO, .inr (8, [.int (nI n), .int (f5_pb n idn den q s9).1, .int (nI ((f5_pb n idn den q s9).2.1)), .ref fc, .int idn, .int den])), (fc, .inl (cI, 24, .inl ((f5_pb n idn den q s9).2.2)))] t.heap ∧ va_D (va_A [(aO, .inr (8, [.int (nI n), .int q.1, .int (nI q.2.1), .ref fc, .int idn, .int den])), (fc, .inl (cI, 24, .inl q.2.2))] sz) [(aO, .inr (8, [.int (nI n), .int (f5_pb n idn den q s9).1, .int (nI ((f5_pb n idn den q s9).2.1)), .ref fc, .int idn, .int den])), (fc, .inl (cI, 24, .inl ((f5_pb n idn den q s9).2.2)))]) (va_A [(aO, .inr (8, [.int (nI n), .int q.1, .int (nI q.2.1), .ref fc, .int idn, .int den])), (fc, .inl (cI, 24, .inl q.2.2))] sz)) 0 0 (va_A [(aO, .inr (8, [.int (nI n), .int q.1, .int (nI q.2.1), .ref fc, .int idn, .int den])), (fc, .inl (cI, 24, .inl q.2.2))] sz) := by
  refine Met.ofW (cc := cX5_putBehind) (maxL := 4) (ret := none) (by decide) rfl ?_
  intro p e s m args below meth c s₁ B hml hv
  obtain ⟨rfl, hsz, hP, hK, hD0⟩ := hv
  have hx := B.exec
  have hb := B.bytes
  have hr := B.returns
  have hts := atoms_spec (ws := wg_X5_putBehind) B.pre
  have hown : s.vm.findClass RX5 = some m.cls := findClass_of_methodNamed B.named
  have hlocks := B.notSynchronized
  subst hsz
  have hD := hD0.self (sz := s.heap.size)
  generalize hAe : va_A [(aO, .inr (8, [.int (nI n), .int q.1, .int (nI q.2.1), .ref fc, .int idn, .int den])), (fc, .inl (cI, 24, .inl q.2.2))] s.heap.size = A at hD ⊢
  have hA : ∀ q : Nat, s.heap.size ≤ q → A q := fun q h => by rw [← hAe]; exact Or.inr h
  have hS : va_S A s.heap s.heap [] := va_S.rf
  have hP : va_P (dC, dI) vwCl [(aO, .inr (8, [.int (nI n), .int q.1, .int (nI q.2.1), .ref fc, .int idn, .int den])), (fc, .inl (cI, 24, .inl q.2.2))] s.heap := hP
  have hl := lv_entry ([.ref aO, .int s9]) (n := 4) (Nat.le_of_ble_eq_true rfl)
  rw [lg_entry_eq]
  generalize (lg_sl ([.ref aO, .int s9]) ++ List.replicate (4 - (lg_sl ([.ref aO, .int s9])).length) Slot.unset).toArray = ls at hl ⊢
  have hl : lv_has ls 4 [(0, .ref aO), (1, .int s9)] := hl
  refine ow_named (fun QQ hQQ => ?_)
  suffices key9 : ∀ (H : Heap) (locs : List Loc), va_P (dC, dI) vwCl [(aO, .inr (8, [.int (nI n), .int q.1, .int (nI q.2.1), .ref fc, .int idn, .int den])), (fc, .inl (cI, 24, .inl q.2.2))] H → va_S A s.heap H locs → W p l e ({ frames := 3, cells := 0, slots := 0, locals := 130 } : Room) s m ([.ref aO, .int s9] : List Value).toArray below meth c H locs 0 0 QQ (F0 m 0 ls []) from key9 s.heap [] hP hS
  intro H locs hP hS
  refine lv_aload_n hx hb dgX5_putBehind_0 rfl (lv_at hl 0 rfl) ?_
  refine va_get (D := (dC, dI)) (ci := 8) (v := .int (nI q.2.1)) (C := RX5) (T := TX5) (N := 6) hx hb hts (fun _ h => List.mem_cons_of_mem _ (List.mem_append_left _ (List.mem_append_right _ h))) hown hK hP 0 rfl rfl 2 (by decide) (hts (.fieldLink RX5 32 "KnotHouse$Form" "length" "I") (by decide +kernel)) (fun _ h9 => h9) rfl dgX5_putBehind_1 ?_
  refine lv_bipush (v := 24) hx hb dgX5_putBehind_4 (by decide) ?_
  rcases Nat.lt_or_ge q.2.1 24 with h24 | h24
  · have hpb : (f5_pb n idn den q s9) = f5_st idn den (q.1, q.2.1 + 1, (f5_wb n q.2.1 (su q.2.2 q.2.1 s9))) := if_pos h24
    have K59 : ∀ (H : Heap) (locs : List Loc) (ls : Array Slot), va_P (dC, dI) vwCl [(aO, .inr (8, [.int (nI n), .int q.1, .int (nI (q.2.1 + 1)), .ref fc, .int idn, .int den])), (fc, .inl (cI, 24, .inl (f5_wb n q.2.1 (su q.2.2 q.2.1 s9))))] H → va_D A [(aO, .inr (8, [.int (nI n), .int q.1, .int (nI (q.2.1 + 1)), .ref fc, .int idn, .int den])), (fc, .inl (cI, 24, .inl (f5_wb n q.2.1 (su q.2.2 q.2.1 s9))))] → va_S A s.heap H locs → lv_has ls 4 [(0, .ref aO)] → W p l e ({ frames := 3, cells := 0, slots := 0, locals := 130 } : Room) s m ([.ref aO, .int s9] : List Value).toArray below meth c H locs 0 0 QQ (F0 m 59 ls []) := by
      intro H locs ls hP hD hS hl
      refine lv_aload_n hx hb dgX5_putBehind_59 rfl (lv_at hl 0 rfl) ?_
      have hPc := hP.sub (ws' := [(aO, .inr (8, [.int (nI n), .int q.1, .int (nI (q.2.1 + 1)), .ref fc, .int idn, .int den])), (fc, .inl (cI, 24, .inl (f5_wb n q.2.1 (su q.2.2 q.2.1 s9))))]) [0, 1] rfl
      have hDc := hD.sub (ws' := [(aO, .inr (8, [.int (nI n), .int q.1, .int (nI (q.2.1 + 1)), .ref fc, .int idn, .int den])), (fc, .inl (cI, 24, .inl (f5_wb n q.2.1 (su q.2.2 q.2.1 s9))))]) [0, 1] (by decide) rfl
      have hFc := va_free (wc := [(aO, .inr (8, [.int (nI n), .int q.1, .int (nI (q.2.1 + 1)), .ref fc, .int idn, .int den])), (fc, .inl (cI, 24, .inl (f5_wb n q.2.1 (su q.2.2 q.2.1 s9))))]) hD hS hA [0, 1] rfl
      refine va_callv (va_runV (As := []) (rest := []) ⟨hx, hb, hml, hown, hts⟩ (kg_X5_strip l dC dI cI cB cJ cZ aO fc n hn1 hn9 idn den (q.1, q.2.1 + 1, (f5_wb n q.2.1 (su q.2.2 q.2.1 s9))) (show q.2.1 + 1 ≤ 24 by omega) H.size) (cwV 0 hts gg_X5_putBehind_1 rfl rfl rfl (by decide +kernel) ⟨(Nat.le_of_ble_eq_true rfl), (Nat.le_of_ble_eq_true rfl)⟩) ⟨fun a U g mk q => by obtain ⟨q0, q1, qP, qK, qD⟩ := q; exact ⟨q0, q1, qP, va_K.moved (u := U) (U := U.calling g mk a) (Vm.Alike.refl U.vm) qK, qD⟩, va_recv hK hPc (ci := 8) (q0 := 0) rfl rfl, fun U hU hW => ⟨rfl, by rw [hU], by rw [hU]; exact hPc, va_K.moved hW.alike hK, hDc.weaken (fun _ _ _ _ => trivial)⟩⟩ rfl rfl hl.1 rfl (lv_room (Nat.le_of_ble_eq_true rfl)) dgX5_putBehind_60 ⟨(Nat.le_of_ble_eq_true rfl), (Nat.le_of_ble_eq_true rfl)⟩) hS (fun q _ h => hFc q h) hFc (fun u9 t H1 locs ht hvm hw hB hz1 hk1 hS => ?_)
      obtain ⟨hP1, hD1⟩ := hB
      rw [ht] at hP1
      obtain ⟨hP, hD⟩ := va_join (wr := []) (w1 := [(aO, .inr (8, [.int (nI n), .int (f5_st idn den (q.1, q.2.1 + 1, (f5_wb n q.2.1 (su q.2.2 q.2.1 s9)))).1, .int (nI ((f5_st idn den (q.1, q.2.1 + 1, (f5_wb n q.2.1 (su q.2.2 q.2.1 s9)))).2.1)), .ref fc, .int idn, .int den])), (fc, .inl (cI, 24, .inl ((f5_st idn den (q.1, q.2.1 + 1, (f5_wb n q.2.1 (su q.2.2 q.2.1 s9)))).2.2)))]) hP hD [0, 1] [] rfl rfl (by decide) (by decide) hk1 hFc hP1 hD1
      generalize H1 = H at hP hS ⊢
      have hP : va_P (dC, dI) vwCl [(aO, .inr (8, [.int (nI n), .int (f5_st idn den (q.1, q.2.1 + 1, (f5_wb n q.2.1 (su q.2.2 q.2.1 s9)))).1, .int (nI ((f5_st idn den (q.1, q.2.1 + 1, (f5_wb n q.2.1 (su q.2.2 q.2.1 s9)))).2.1)), .ref fc, .int idn, .int den])), (fc, .inl (cI, 24, .inl ((f5_st idn den (q.1, q.2.1 + 1, (f5_wb n q.2.1 (su q.2.2 q.2.1 s9)))).2.2)))] H := hP
      have hD : va_D A [(aO, .inr (8, [.int (nI n), .int (f5_st idn den (q.1, q.2.1 + 1, (f5_wb n q.2.1 (su q.2.2 q.2.1 s9)))).1, .int (nI ((f5_st idn den (q.1, q.2.1 + 1, (f5_wb n q.2.1 (su q.2.2 q.2.1 s9)))).2.1)), .ref fc, .int idn, .int den])), (fc, .inl (cI, 24, .inl ((f5_st idn den (q.1, q.2.1 + 1, (f5_wb n q.2.1 (su q.2.2 q.2.1 s9)))).2.2)))] := hD
      have hP : va_P (dC, dI) vwCl [(aO, .inr (8, [.int (nI n), .int (f5_pb n idn den q s9).1, .int (nI ((f5_pb n idn den q s9).2.1)), .ref fc, .int idn, .int den])), (fc, .inl (cI, 24, .inl ((f5_pb n idn den q s9).2.2)))] H := by rw [hpb]; exact hP
      have hD : va_D A [(aO, .inr (8, [.int (nI n), .int (f5_pb n idn den q s9).1, .int (nI ((f5_pb n idn den q s9).2.1)), .ref fc, .int idn, .int den])), (fc, .inl (cI, 24, .inl ((f5_pb n idn den q s9).2.2)))] := by rw [hpb]; exact hD
      rw [hQQ]
      exact W.vret hx hb hr (fun t ht hW => ⟨⟨(), rfl, trivial, by rw [ht]; exact hP, hD⟩, hS.F ht⟩) hS.2.2 dgX5_putBehind_63
    have L39 : ∀ (k : Nat) (F : Nat → Int32), k ≤ q.2.1 → (f5_wb n q.2.1 (su q.2.2 q.2.1 s9)) = f5_wb n k F → ∀ (H : Heap) (locs : List Loc) (ls : Array Slot), va_P (dC, dI) vwCl [(aO, .inr (8, [.int (nI n), .int q.1, .int (nI (q.2.1 + 1)), .ref fc, .int idn, .int den])), (fc, .inl (cI, 24, .inl F))] H → va_D A [(aO, .inr (8, [.int (nI n), .int q.1, .int (nI (q.2.1 + 1)), .ref fc, .int idn, .int den])), (fc, .inl (cI, 24, .inl F))] → va_S A s.heap H locs → lv_has ls 4 [(0, .ref aO), (2, .int 1), (3, .int (nI k - 1))] → W p l e ({ frames := 3, cells := 0, slots := 0, locals := 130 } : Room) s m ([.ref aO, .int s9] : List Value).toArray below meth c H locs 0 0 QQ (F0 m 39 ls []) := by
      intro k
      induction k with
      | zero =>
        intro F hk hF H locs ls hP hD hS hl
        refine lv_iload_n hx hb dgX5_putBehind_39 rfl (lv_at hl 2 rfl) ?_
        refine lv_if_lt (tgt := 59) hx hb dgX5_putBehind_40 (by decide) (fun _ => ?_) (fun c9 => absurd (by decide) c9)
        have hP : va_P (dC, dI) vwCl [(aO, .inr (8, [.int (nI n), .int q.1, .int (nI (q.2.1 + 1)), .ref fc, .int idn, .int den])), (fc, .inl (cI, 24, .inl (f5_wb n q.2.1 (su q.2.2 q.2.1 s9))))] H := by rw [show (f5_wb n q.2.1 (su q.2.2 q.2.1 s9)) = F from hF]; exact hP
        have hD : va_D A [(aO, .inr (8, [.int (nI n), .int q.1, .int (nI (q.2.1 + 1)), .ref fc, .int idn, .int den])), (fc, .inl (cI, 24, .inl (f5_wb n q.2.1 (su q.2.2 q.2.1 s9))))] := by rw [show (f5_wb n q.2.1 (su q.2.2 q.2.1 s9)) = F from hF]; exact hD
        exact K59 H locs ls hP hD hS (lv_sub hl [0] rfl)
      | succ k ih =>
        intro F hk hF H locs ls hP hD hS hl
        rw [f5_wb] at hF
        have hl : lv_has ls 4 [(0, .ref aO), (2, .int 1), (3, .int (nI k))] := by rw [ow_pred] at hl; exact hl
        refine lv_iload_n hx hb dgX5_putBehind_39 rfl (lv_at hl 2 rfl) ?_
        refine lv_if_lt (tgt := 59) hx hb dgX5_putBehind_40 (by decide) (fun c9 => absurd c9 (nI_pos (n := k) (by omega))) (fun _ => ?_)
        refine lv_iload_n hx hb dgX5_putBehind_43 rfl (lv_at hl 1 rfl) ?_
        refine lv_if_eq (tgt := 59) hx hb dgX5_putBehind_44 (by decide) (fun c9 => absurd c9 (by decide)) (fun _ => ?_)
        refine lv_aload_n hx hb dgX5_putBehind_47 rfl (lv_at hl 0 rfl) ?_
        refine lv_iload_n hx hb dgX5_putBehind_48 rfl (lv_at hl 2 rfl) ?_
        have hPc := hP.sub (ws' := [(aO, .inr (8, [.int (nI n), .int q.1, .int (nI (q.2.1 + 1)), .ref fc, .int idn, .int den])), (fc, .inl (cI, 24, .inl F))]) [0, 1] rfl
        have hDc := hD.sub (ws' := [(aO, .inr (8, [.int (nI n), .int q.1, .int (nI (q.2.1 + 1)), .ref fc, .int idn, .int den])), (fc, .inl (cI, 24, .inl F))]) [0, 1] (by decide) rfl
        have hFc := va_free (wc := [(aO, .inr (8, [.int (nI n), .int q.1, .int (nI (q.2.1 + 1)), .ref fc, .int idn, .int den])), (fc, .inl (cI, 24, .inl F))]) hD hS hA [0, 1] rfl
        refine va_calli (va_runV (As := [.int (nI k)]) (rest := []) ⟨hx, hb, hml, hown, hts⟩ (kg_X5_weigh l dC dI cI cB cJ cZ aO fc n hn1 hn9 idn den q.1 (q.2.1 + 1) F k (by omega) H.size) (cwV 1 hts gg_X5_putBehind_0 rfl rfl rfl (by decide +kernel) ⟨(Nat.le_of_ble_eq_true rfl), (Nat.le_of_ble_eq_true rfl)⟩) ⟨fun a U g mk q => by obtain ⟨q0, q1, qP, qK, qD⟩ := q; exact ⟨q0, q1, qP, va_K.moved (u := U) (U := U.calling g mk a) (Vm.Alike.refl U.vm) qK, qD⟩, va_recv hK hPc (ci := 8) (q0 := 0) rfl rfl, fun U hU hW => ⟨rfl, by rw [hU], by rw [hU]; exact hPc, va_K.moved hW.alike hK, hDc.weaken (fun _ _ _ _ => trivial)⟩⟩ rfl rfl hl.1 rfl (lv_room (Nat.le_of_ble_eq_true rfl)) dgX5_putBehind_49 ⟨(Nat.le_of_ble_eq_true rfl), (Nat.le_of_ble_eq_true rfl)⟩) hS (fun q _ h => hFc q h) hFc (fun ra9 u9 t H1 locs ht hvm hw hB hz1 hk1 hS => ?_)
        obtain ⟨hP1, hD1⟩ := hB
        rw [ht] at hP1
        obtain ⟨hP, hD⟩ := va_join (wr := []) (w1 := [(aO, .inr (8, [.int (nI n), .int q.1, .int (nI (q.2.1 + 1)), .ref fc, .int idn, .int den])), (fc, .inl (cI, 24, .inl ((f5_we n F k).1)))]) hP hD [0, 1] [] rfl rfl (by decide) (by decide) hk1 hFc hP1 hD1
        generalize H1 = H at hP hS ⊢
        have hP : va_P (dC, dI) vwCl [(aO, .inr (8, [.int (nI n), .int q.1, .int (nI (q.2.1 + 1)), .ref fc, .int idn, .int den])), (fc, .inl (cI, 24, .inl ((f5_we n F k).1)))] H := hP
        have hD : va_D A [(aO, .inr (8, [.int (nI n), .int q.1, .int (nI (q.2.1 + 1)), .ref fc, .int idn, .int den])), (fc, .inl (cI, 24, .inl ((f5_we n F k).1)))] := hD
        have hra : ra9 = bI (f5_we n F k).2 := hw
        cases hbb : (f5_we n F k).2 with
        | true =>
          rw [hbb] at hra hF
          have hra : ra9 = 1 := hra
          subst hra
          refine lv_istore_n (lv' := [(2, .int 1), (0, .ref aO), (3, .int (nI k))]) hx hb dgX5_putBehind_52 rfl hl (by decide) rfl (fun ls hl => ?_)
          refine lv_iinc (v := nI k - 1) (lv' := [(3, .int (nI k - 1)), (2, .int 1), (0, .ref aO)]) hx hb dgX5_putBehind_53 hl (k := 2) rfl (by rw [Int32.sub_eq_add_neg]; rfl) (by decide) rfl (fun ls hl => ?_)
          refine lv_goto (tgt := 39) hx hb dgX5_putBehind_56 (by decide) ?_
          exact ih (f5_we n F k).1 (by omega) hF H locs ls hP hD hS (lv_sub hl [2, 1, 0] rfl)
        | false =>
          rw [hbb] at hra hF
          have hra : ra9 = 0 := hra
          subst hra
          refine lv_istore_n (lv' := [(2, .int 0), (0, .ref aO), (3, .int (nI k))]) hx hb dgX5_putBehind_52 rfl hl (by decide) rfl (fun ls hl => ?_)
          refine lv_iinc (v := nI k - 1) (lv' := [(3, .int (nI k - 1)), (2, .int 0), (0, .ref aO)]) hx hb dgX5_putBehind_53 hl (k := 2) rfl (by rw [Int32.sub_eq_add_neg]; rfl) (by decide) rfl (fun ls hl => ?_)
          refine lv_goto (tgt := 39) hx hb dgX5_putBehind_56 (by decide) ?_
          have hF : (f5_wb n q.2.1 (su q.2.2 q.2.1 s9)) = (f5_we n F k).1 := hF
          have hP : va_P (dC, dI) vwCl [(aO, .inr (8, [.int (nI n), .int q.1, .int (nI (q.2.1 + 1)), .ref fc, .int idn, .int den])), (fc, .inl (cI, 24, .inl (f5_wb n q.2.1 (su q.2.2 q.2.1 s9))))] H := by rw [hF]; exact hP
          have hD : va_D A [(aO, .inr (8, [.int (nI n), .int q.1, .int (nI (q.2.1 + 1)), .ref fc, .int idn, .int den])), (fc, .inl (cI, 24, .inl (f5_wb n q.2.1 (su q.2.2 q.2.1 s9))))] := by rw [hF]; exact hD
          rcases Nat.eq_zero_or_pos k with hk0 | hk0
          · have hl : lv_has ls 4 [(3, .int (nI 0 - 1)), (2, .int 0), (0, .ref aO)] := by rw [hk0] at hl; exact hl
            refine lv_iload_n hx hb dgX5_putBehind_39 rfl (lv_at hl 0 rfl) ?_
            refine lv_if_lt (tgt := 59) hx hb dgX5_putBehind_40 (by decide) (fun _ => ?_) (fun c9 => absurd (by decide) c9)
            exact K59 H locs ls hP hD hS (lv_sub hl [2] rfl)
          · have hkp : nI k - 1 = nI (k - 1) := pk_sub (b := 1) hk0
            have hl : lv_has ls 4 [(3, .int (nI (k - 1))), (2, .int 0), (0, .ref aO)] := by rw [hkp] at hl; exact hl
            refine lv_iload_n hx hb dgX5_putBehind_39 rfl (lv_at hl 0 rfl) ?_
            refine lv_if_lt (tgt := 59) hx hb dgX5_putBehind_40 (by decide) (fun c9 => absurd c9 (nI_pos (n := k - 1) (by omega))) (fun _ => ?_)
            refine lv_iload_n hx hb dgX5_putBehind_43 rfl (lv_at hl 1 rfl) ?_
            refine lv_if_eq (tgt := 59) hx hb dgX5_putBehind_44 (by decide) (fun _ => ?_) (fun c9 => absurd (rfl) c9)
            exact K59 H locs ls hP hD hS (lv_sub hl [2] rfl)
    refine lv_icmp_lt (tgt := 10) hx hb dgX5_putBehind_6 (by decide) (fun _ => ?_) (fun c9 => absurd (nI_lt (a := q.2.1) (b := 24) h24 (by decide)) c9)
    refine lv_aload_n hx hb dgX5_putBehind_10 rfl (lv_at hl 0 rfl) ?_
    refine va_get (D := (dC, dI)) (ci := 8) (v := .ref fc) (C := RX5) (T := TX5) (N := 6) hx hb hts (fun _ h => List.mem_cons_of_mem _ (List.mem_append_left _ (List.mem_append_right _ h))) hown hK hP 0 rfl rfl 3 (by decide) (hts (.fieldLink RX5 11 "KnotHouse$Form" "factors" "[I") (by decide +kernel)) (fun _ h9 => h9) rfl dgX5_putBehind_11 ?_
    refine lv_aload_n hx hb dgX5_putBehind_14 rfl (lv_at hl 0 rfl) ?_
    refine va_get (D := (dC, dI)) (ci := 8) (v := .int (nI q.2.1)) (C := RX5) (T := TX5) (N := 6) hx hb hts (fun _ h => List.mem_cons_of_mem _ (List.mem_append_left _ (List.mem_append_right _ h))) hown hK hP 0 rfl rfl 2 (by decide) (hts (.fieldLink RX5 32 "KnotHouse$Form" "length" "I") (by decide +kernel)) (fun _ h9 => h9) rfl dgX5_putBehind_15 ?_
    refine lv_iload_n hx hb dgX5_putBehind_18 rfl (lv_at hl 1 rfl) ?_
    refine ow_iastF (j := q.2.1) (x := s9) hx hb hK hP hD hS 1 0 rfl rfl h24 (by decide) dgX5_putBehind_19 (fun H locs hP hD hS => ?_)
    have hP : va_P (dC, dI) vwCl [(aO, .inr (8, [.int (nI n), .int q.1, .int (nI q.2.1), .ref fc, .int idn, .int den])), (fc, .inl (cI, 24, .inl (su q.2.2 q.2.1 s9)))] H := hP
    have hD : va_D A [(aO, .inr (8, [.int (nI n), .int q.1, .int (nI q.2.1), .ref fc, .int idn, .int den])), (fc, .inl (cI, 24, .inl (su q.2.2 q.2.1 s9)))] := hD
    refine lv_aload_n hx hb dgX5_putBehind_20 rfl (lv_at hl 0 rfl) ?_
    refine lv_dup hx hb dgX5_putBehind_21 rfl ?_
    refine va_get (D := (dC, dI)) (ci := 8) (v := .int (nI q.2.1)) (C := RX5) (T := TX5) (N := 6) hx hb hts (fun _ h => List.mem_cons_of_mem _ (List.mem_append_left _ (List.mem_append_right _ h))) hown hK hP 0 rfl rfl 2 (by decide) (hts (.fieldLink RX5 32 "KnotHouse$Form" "length" "I") (by decide +kernel)) (fun _ h9 => h9) rfl dgX5_putBehind_22 ?_
    refine lv_iconst (v := 1) hx hb dgX5_putBehind_25 (by decide) ?_
    refine lv_iadd hx hb dgX5_putBehind_26 ?_
    refine ow_topi (y := nI (q.2.1 + 1)) (nI_1 (q.2.1)) ?_
    refine va_put (D := (dC, dI)) (ci := 8) (v := .int (nI (q.2.1 + 1))) (ty := .int) (C := RX5) (T := TX5) (N := 6) hx hb hts (fun _ h => List.mem_cons_of_mem _ (List.mem_append_left _ (List.mem_append_right _ h))) tyX5 tyX5_ok nmX5 hown hK hP hD hS 0 rfl rfl 2 (by decide) (hts (.fieldLink RX5 32 "KnotHouse$Form" "length" "I") (by decide +kernel)) (fun _ h9 => h9) rfl (by decide +kernel) rfl rfl (Nat.le_of_ble_eq_true rfl) dgX5_putBehind_27 (fun H locs hP hD hS => ?_)
    have hP : va_P (dC, dI) vwCl [(aO, .inr (8, [.int (nI n), .int q.1, .int (nI (q.2.1 + 1)), .ref fc, .int idn, .int den])), (fc, .inl (cI, 24, .inl (su q.2.2 q.2.1 s9)))] H := hP
    have hD : va_D A [(aO, .inr (8, [.int (nI n), .int q.1, .int (nI (q.2.1 + 1)), .ref fc, .int idn, .int den])), (fc, .inl (cI, 24, .inl (su q.2.2 q.2.1 s9)))] := hD
    refine lv_iconst (v := 1) hx hb dgX5_putBehind_30 (by decide) ?_
    refine lv_istore_n (lv' := [(2, .int 1), (0, .ref aO), (1, .int s9)]) hx hb dgX5_putBehind_31 rfl hl (by decide) rfl (fun ls hl => ?_)
    refine lv_aload_n hx hb dgX5_putBehind_32 rfl (lv_at hl 1 rfl) ?_
    refine va_get (D := (dC, dI)) (ci := 8) (v := .int (nI (q.2.1 + 1))) (C := RX5) (T := TX5) (N := 6) hx hb hts (fun _ h => List.mem_cons_of_mem _ (List.mem_append_left _ (List.mem_append_right _ h))) hown hK hP 0 rfl rfl 2 (by decide) (hts (.fieldLink RX5 32 "KnotHouse$Form" "length" "I") (by decide +kernel)) (fun _ h9 => h9) rfl dgX5_putBehind_33 ?_
    refine lv_iconst (v := 2) hx hb dgX5_putBehind_36 (by decide) ?_
    refine lv_isub hx hb dgX5_putBehind_37 ?_
    refine ow_topi (y := nI q.2.1 - 1) (ow_m2 _) ?_
    refine lv_istore_n (lv' := [(3, .int (nI q.2.1 - 1)), (2, .int 1), (0, .ref aO), (1, .int s9)]) hx hb dgX5_putBehind_38 rfl hl (by decide) rfl (fun ls hl => ?_)
    exact L39 q.2.1 (su q.2.2 q.2.1 s9) (Nat.le_refl _) rfl H locs ls hP hD hS (lv_sub hl [2, 1, 0] rfl)
  · refine lv_icmp_lt (tgt := 10) hx hb dgX5_putBehind_6 (by decide) (fun c9 => absurd c9 (nI_nlt (a := q.2.1) (b := 24) h24 (by omega))) (fun _ => ?_)
    have hP : va_P (dC, dI) vwCl [(aO, .inr (8, [.int (nI n), .int (f5_pb n idn den q s9).1, .int (nI ((f5_pb n idn den q s9).2.1)), .ref fc, .int idn, .int den])), (fc, .inl (cI, 24, .inl ((f5_pb n idn den q s9).2.2)))] H := by rw [show (f5_pb n idn den q s9) = q from if_neg (Nat.not_lt.mpr h24)]; exact hP
    have hD : va_D A [(aO, .inr (8, [.int (nI n), .int (f5_pb n idn den q s9).1, .int (nI ((f5_pb n idn den q s9).2.1)), .ref fc, .int idn, .int den])), (fc, .inl (cI, 24, .inl ((f5_pb n idn den q s9).2.2)))] := by rw [show (f5_pb n idn den q s9) = q from if_neg (Nat.not_lt.mpr h24)]; exact hD
    rw [hQQ]
    exact W.vret hx hb hr (fun t ht hW => ⟨⟨(), rfl, trivial, by rw [ht]; exact hP, hD⟩, hS.F ht⟩) hS.2.2 dgX5_putBehind_9
theorem dgX5_putBefore_0 : decode cX5_putBefore 0 = .ok (.aload_n 0, 1) := by decide +kernel
theorem dgX5_putBefore_1 : decode cX5_putBefore 1 = .ok (.getfield 32, 3) := by decide +kernel
theorem dgX5_putBefore_4 : decode cX5_putBefore 4 = .ok (.bipush 24, 2) := by decide +kernel
theorem dgX5_putBefore_6 : decode cX5_putBefore 6 = .ok (.if_icmp .lt 4, 3) := by decide +kernel
theorem dgX5_putBefore_9 : decode cX5_putBefore 9 = .ok (.return_, 1) := by decide +kernel
theorem dgX5_putBefore_10 : decode cX5_putBefore 10 = .ok (.aload_n 0, 1) := by decide +kernel
theorem dgX5_putBefore_11 : decode cX5_putBefore 11 = .ok (.getfield 11, 3) := by decide +kernel
theorem dgX5_putBefore_14 : decode cX5_putBefore 14 = .ok (.iconst 0, 1) := by decide +kernel
theorem dgX5_putBefore_15 : decode cX5_putBefore 15 = .ok (.aload_n 0, 1) := by decide +kernel
theorem dgX5_putBefore_16 : decode cX5_putBefore 16 = .ok (.getfield 11, 3) := by decide +kernel
theorem dgX5_putBefore_19 : decode cX5_putBefore 19 = .ok (.iconst 1, 1) := by decide +kernel
theorem dgX5_putBefore_20 : decode cX5_putBefore 20 = .ok (.aload_n 0, 1) := by decide +kernel
theorem dgX5_putBefore_21 : decode cX5_putBefore 21 = .ok (.getfield 32, 3) := by decide +kernel
theorem dgX5_putBefore_24 : decode cX5_putBefore 24 = .ok (.invokestatic 52, 3) := by decide +kernel
theorem dgX5_putBefore_27 : decode cX5_putBefore 27 = .ok (.aload_n 0, 1) := by decide +kernel
theorem dgX5_putBefore_28 : decode cX5_putBefore 28 = .ok (.getfield 11, 3) := by decide +kernel
theorem dgX5_putBefore_31 : decode cX5_putBefore 31 = .ok (.iconst 0, 1) := by decide +kernel
theorem dgX5_putBefore_32 : decode cX5_putBefore 32 = .ok (.iload_n 1, 1) := by decide +kernel
theorem dgX5_putBefore_33 : decode cX5_putBefore 33 = .ok (.iastore, 1) := by decide +kernel
theorem dgX5_putBefore_34 : decode cX5_putBefore 34 = .ok (.aload_n 0, 1) := by decide +kernel
theorem dgX5_putBefore_35 : decode cX5_putBefore 35 = .ok (.dup, 1) := by decide +kernel
theorem dgX5_putBefore_36 : decode cX5_putBefore 36 = .ok (.getfield 32, 3) := by decide +kernel
theorem dgX5_putBefore_39 : decode cX5_putBefore 39 = .ok (.iconst 1, 1) := by decide +kernel
theorem dgX5_putBefore_40 : decode cX5_putBefore 40 = .ok (.iadd, 1) := by decide +kernel
theorem dgX5_putBefore_41 : decode cX5_putBefore 41 = .ok (.putfield 32, 3) := by decide +kernel
theorem dgX5_putBefore_44 : decode cX5_putBefore 44 = .ok (.iconst 1, 1) := by decide +kernel
theorem dgX5_putBefore_45 : decode cX5_putBefore 45 = .ok (.istore_n 2, 1) := by decide +kernel
theorem dgX5_putBefore_46 : decode cX5_putBefore 46 = .ok (.iconst 0, 1) := by decide +kernel
theorem dgX5_putBefore_47 : decode cX5_putBefore 47 = .ok (.istore_n 3, 1) := by decide +kernel
theorem dgX5_putBefore_48 : decode cX5_putBefore 48 = .ok (.iload_n 3, 1) := by decide +kernel
theorem dgX5_putBefore_49 : decode cX5_putBefore 49 = .ok (.aload_n 0, 1) := by decide +kernel
theorem dgX5_putBefore_50 : decode cX5_putBefore 50 = .ok (.getfield 32, 3) := by decide +kernel
theorem dgX5_putBefore_53 : decode cX5_putBefore 53 = .ok (.iconst 1, 1) := by decide +kernel
theorem dgX5_putBefore_54 : decode cX5_putBefore 54 = .ok (.isub, 1) := by decide +kernel
theorem dgX5_putBefore_55 : decode cX5_putBefore 55 = .ok (.if_icmp .ge 19, 3) := by decide +kernel
theorem dgX5_putBefore_58 : decode cX5_putBefore 58 = .ok (.iload_n 2, 1) := by decide +kernel
theorem dgX5_putBefore_59 : decode cX5_putBefore 59 = .ok (.ifCond .eq 15, 3) := by decide +kernel
theorem dgX5_putBefore_62 : decode cX5_putBefore 62 = .ok (.aload_n 0, 1) := by decide +kernel
theorem dgX5_putBefore_63 : decode cX5_putBefore 63 = .ok (.iload_n 3, 1) := by decide +kernel
theorem dgX5_putBefore_64 : decode cX5_putBefore 64 = .ok (.invokevirtual 73, 3) := by decide +kernel
theorem dgX5_putBefore_67 : decode cX5_putBefore 67 = .ok (.istore_n 2, 1) := by decide +kernel
theorem dgX5_putBefore_68 : decode cX5_putBefore 68 = .ok (.iinc 3 1, 3) := by decide +kernel
theorem dgX5_putBefore_71 : decode cX5_putBefore 71 = .ok (.goto (-23), 3) := by decide +kernel
theorem dgX5_putBefore_74 : decode cX5_putBefore 74 = .ok (.aload_n 0, 1) := by decide +kernel
theorem dgX5_putBefore_75 : decode cX5_putBefore 75 = .ok (.invokevirtual 77, 3) := by decide +kernel
theorem dgX5_putBefore_78 : decode cX5_putBefore 78 = .ok (.return_, 1) := by decide +kernel
def wg_X5_putBefore : List Cond := .code yX5_putBefore cX5_putBefore 4 none :: (([.fieldLink RX5 32 "KnotHouse$Form" "length" "I", .fieldLink RX5 11 "KnotHouse$Form" "factors" "[I", .methodLink RX5 52 arraycopyName, .native arraycopyName, .static arraycopyName, .initialized "java/lang/System"] ++ wsX50) ++ (wsV RX5 73 RX5 yX5_weigh wg_X5_weigh ++ (wsV RX5 77 RX5 yX5_strip wg_X5_strip ++ [])))
theorem gg_X5_putBefore_0 : GoodIn wg_X5_putBefore (wsV RX5 73 RX5 yX5_weigh wg_X5_weigh) := goodIn_sub (fun _ h => List.mem_cons_of_mem _ (List.mem_append_right _ (List.mem_append_left _ h))) (by decide +kernel)
theorem gg_X5_putBefore_1 : GoodIn wg_X5_putBefore (wsV RX5 77 RX5 yX5_strip wg_X5_strip) := goodIn_sub (fun _ h => List.mem_cons_of_mem _ (List.mem_append_right _ (List.mem_append_right _ (List.mem_append_left _ h)))) (by decide +kernel)
set_option maxHeartbeats 4000000 in
set_option maxRecDepth 100000 in
theorem kg_X5_putBefore (l : Launch) (dC : Nat → ClassId) (dI : Nat → Nat → Nat) (cI cB cJ cZ : ClassId) (aO fc n : Nat) (hn1 : 1 ≤ n) (hn9 : n < 100) (idn den : Int32) (q : ow_FO) (hq : q.2.1 ≤ 24) (s9 : Int32) (sz : Nat) : Met l yX5_putBefore wg_X5_putBefore (({ frames := 3, cells := 0, slots := 0, locals := 130 } : Room)) (va_Pc [.ref aO, .int s9] (fun U => U.heap.size = sz ∧ va_P (dC, dI) vwCl [(aO, .inr (8, [.int (nI n), .int q.1, .int (nI q.2.1), .ref fc, .int idn, .int den])), (fc, .inl (cI, 24, .inl q.2.2))] U.heap ∧ va_K (dC, dI) vwCl [(cI, .int), (cB, .byte), (cJ, .long), (cZ, .boolean)] U ∧ va_D (fun _ => True) [(aO, .inr (8, [.int (nI n), .int q.1, .int (nI q.2.1), .ref fc, .int idn, .int den])), (fc, .inl (cI, 24, .inl q.2.2))])) (va_Qv (fun (g : Unit) => True) (fun g t => va_P (dC, dI) vwCl [(aO, .inr (8, [.int (nI n), .int (f5_pf n idn den q s9).1, .int (nI ((f5_pf n idn den q s9).2.1)), .ref fc, .int idn, .int den])), (fc, .inl (cI, 24, .inl ((f5_pf n idn den q s9).2.2)))] t.heap ∧ va_D (va_A [(aO, .inr (8, [.int (nI n), .int q.1, .int (nI q.2.1), .ref fc, .int idn, .int den])), (fc, .inl (cI, 24, .inl q.2.2))] sz) [(aO, .inr (8, [.int (nI n), .int (f5_pf n idn den q s9).1, .int (nI ((f5_pf n idn den q s9).2.1)), .ref fc, .int idn, .int den])), (fc, .inl (cI, 24, .inl ((f5_pf n idn den q s9).2.2)))]) (va_A [(aO, .inr (8, [.int (nI n), .int q.1, .int (nI q.2.1), .ref fc, .int idn, .int den])), (fc, .inl (cI, 24, .inl q.2.2))] sz)) 0 0 (va_A [(aO, .inr (8, [.int (nI n), .int q.1, .int (nI q.2.1), .ref fc, .int idn, .int den])), (fc, .inl (cI, 24, .inl q.2.2))] sz) := by
  refine Met.ofW (cc := cX5_putBefore) (maxL := 4) (ret := none) (by decide) rfl ?_
  intro p e s m args below meth c s₁ B hml hv
  obtain ⟨rfl, hsz, hP, hK, hD0⟩ := hv
  have hx := B.exec
  have hb := B.bytes
  have hr := B.returns
  have hts := atoms_spec (ws := wg_X5_putBefore) B.pre
  have hown : s.vm.findClass RX5 = some m.cls := findClass_of_methodNamed B.named
  have hlocks := B.notSynchronized
  subst hsz
  have hD := hD0.self (sz := s.heap.size)
  generalize hAe : va_A [(aO, .inr (8, [.int (nI n), .int q.1, .int (nI q.2.1), .ref fc, .int idn, .int den])), (fc, .inl (cI, 24, .inl q.2.2))] s.heap.size = A at hD ⊢
  have hA : ∀ q : Nat, s.heap.size ≤ q → A q := fun q h => by rw [← hAe]; exact Or.inr h
  have hS : va_S A s.heap s.heap [] := va_S.rf
  have hP : va_P (dC, dI) vwCl [(aO, .inr (8, [.int (nI n), .int q.1, .int (nI q.2.1), .ref fc, .int idn, .int den])), (fc, .inl (cI, 24, .inl q.2.2))] s.heap := hP
  have hl := lv_entry ([.ref aO, .int s9]) (n := 4) (Nat.le_of_ble_eq_true rfl)
  rw [lg_entry_eq]
  generalize (lg_sl ([.ref aO, .int s9]) ++ List.replicate (4 - (lg_sl ([.ref aO, .int s9])).length) Slot.unset).toArray = ls at hl ⊢
  have hl : lv_has ls 4 [(0, .ref aO), (1, .int s9)] := hl
  refine ow_named (fun QQ hQQ => ?_)
  suffices key9 : ∀ (H : Heap) (locs : List Loc), va_P (dC, dI) vwCl [(aO, .inr (8, [.int (nI n), .int q.1, .int (nI q.2.1), .ref fc, .int idn, .int den])), (fc, .inl (cI, 24, .inl q.2.2))] H → va_S A s.heap H locs → W p l e ({ frames := 3, cells := 0, slots := 0, locals := 130 } : Room) s m ([.ref aO, .int s9] : List Value).toArray below meth c H locs 0 0 QQ (F0 m 0 ls []) from key9 s.heap [] hP hS
  intro H locs hP hS
  refine lv_aload_n hx hb dgX5_putBefore_0 rfl (lv_at hl 0 rfl) ?_
  refine va_get (D := (dC, dI)) (ci := 8) (v := .int (nI q.2.1)) (C := RX5) (T := TX5) (N := 6) hx hb hts (fun _ h => List.mem_cons_of_mem _ (List.mem_append_left _ (List.mem_append_right _ h))) hown hK hP 0 rfl rfl 2 (by decide) (hts (.fieldLink RX5 32 "KnotHouse$Form" "length" "I") (by decide +kernel)) (fun _ h9 => h9) rfl dgX5_putBefore_1 ?_
  refine lv_bipush (v := 24) hx hb dgX5_putBefore_4 (by decide) ?_
  rcases Nat.lt_or_ge q.2.1 24 with h24 | h24
  · have hpb : (f5_pf n idn den q s9) = f5_st idn den (q.1, q.2.1 + 1, (f5_wu n q.2.1 0 (su (va_cpy q.2.2 q.2.2 0 1 q.2.1) 0 s9))) := if_pos h24
    have K74 : ∀ (H : Heap) (locs : List Loc) (ls : Array Slot), va_P (dC, dI) vwCl [(aO, .inr (8, [.int (nI n), .int q.1, .int (nI (q.2.1 + 1)), .ref fc, .int idn, .int den])), (fc, .inl (cI, 24, .inl (f5_wu n q.2.1 0 (su (va_cpy q.2.2 q.2.2 0 1 q.2.1) 0 s9))))] H → va_D A [(aO, .inr (8, [.int (nI n), .int q.1, .int (nI (q.2.1 + 1)), .ref fc, .int idn, .int den])), (fc, .inl (cI, 24, .inl (f5_wu n q.2.1 0 (su (va_cpy q.2.2 q.2.2 0 1 q.2.1) 0 s9))))] → va_S A s.heap H locs → lv_has ls 4 [(0, .ref aO)] → W p l e ({ frames := 3, cells := 0, slots := 0, locals := 130 } : Room) s m ([.ref aO, .int s9] : List Value).toArray below meth c H locs 0 0 QQ (F0 m 74 ls []) := by
      intro H locs ls hP hD hS hl
      refine lv_aload_n hx hb dgX5_putBefore_74 rfl (lv_at hl 0 rfl) ?_
      have hPc := hP.sub (ws' := [(aO, .inr (8, [.int (nI n), .int q.1, .int (nI (q.2.1 + 1)), .ref fc, .int idn, .int den])), (fc, .inl (cI, 24, .inl (f5_wu n q.2.1 0 (su (va_cpy q.2.2 q.2.2 0 1 q.2.1) 0 s9))))]) [0, 1] rfl
      have hDc := hD.sub (ws' := [(aO, .inr (8, [.int (nI n), .int q.1, .int (nI (q.2.1 + 1)), .ref fc, .int idn, .int den])), (fc, .inl (cI, 24, .inl (f5_wu n q.2.1 0 (su (va_cpy q.2.2 q.2.2 0 1 q.2.1) 0 s9))))]) [0, 1] (by decide) rfl
      have hFc := va_free (wc := [(aO, .inr (8, [.int (nI n), .int q.1, .int (nI (q.2.1 + 1)), .ref fc, .int idn, .int den])), (fc, .inl (cI, 24, .inl (f5_wu n q.2.1 0 (su (va_cpy q.2.2 q.2.2 0 1 q.2.1) 0 s9))))]) hD hS hA [0, 1] rfl
      refine va_callv (va_runV (As := []) (rest := []) ⟨hx, hb, hml, hown, hts⟩ (kg_X5_strip l dC dI cI cB cJ cZ aO fc n hn1 hn9 idn den (q.1, q.2.1 + 1, (f5_wu n q.2.1 0 (su (va_cpy q.2.2 q.2.2 0 1 q.2.1) 0 s9))) (show q.2.1 + 1 ≤ 24 by omega) H.size) (cwV 0 hts gg_X5_putBefore_1 rfl rfl rfl (by decide +kernel) ⟨(Nat.le_of_ble_eq_true rfl), (Nat.le_of_ble_eq_true rfl)⟩) ⟨fun a U g mk q => by obtain ⟨q0, q1, qP, qK, qD⟩ := q; exact ⟨q0, q1, qP, va_K.moved (u := U) (U := U.calling g mk a) (Vm.Alike.refl U.vm) qK, qD⟩, va_recv hK hPc (ci := 8) (q0 := 0) rfl rfl, fun U hU hW => ⟨rfl, by rw [hU], by rw [hU]; exact hPc, va_K.moved hW.alike hK, hDc.weaken (fun _ _ _ _ => trivial)⟩⟩ rfl rfl hl.1 rfl (lv_room (Nat.le_of_ble_eq_true rfl)) dgX5_putBefore_75 ⟨(Nat.le_of_ble_eq_true rfl), (Nat.le_of_ble_eq_true rfl)⟩) hS (fun q _ h => hFc q h) hFc (fun u9 t H1 locs ht hvm hw hB hz1 hk1 hS => ?_)
      obtain ⟨hP1, hD1⟩ := hB
      rw [ht] at hP1
      obtain ⟨hP, hD⟩ := va_join (wr := []) (w1 := [(aO, .inr (8, [.int (nI n), .int (f5_st idn den (q.1, q.2.1 + 1, (f5_wu n q.2.1 0 (su (va_cpy q.2.2 q.2.2 0 1 q.2.1) 0 s9)))).1, .int (nI ((f5_st idn den (q.1, q.2.1 + 1, (f5_wu n q.2.1 0 (su (va_cpy q.2.2 q.2.2 0 1 q.2.1) 0 s9)))).2.1)), .ref fc, .int idn, .int den])), (fc, .inl (cI, 24, .inl ((f5_st idn den (q.1, q.2.1 + 1, (f5_wu n q.2.1 0 (su (va_cpy q.2.2 q.2.2 0 1 q.2.1) 0 s9)))).2.2)))]) hP hD [0, 1] [] rfl rfl (by decide) (by decide) hk1 hFc hP1 hD1
      generalize H1 = H at hP hS ⊢
      have hP : va_P (dC, dI) vwCl [(aO, .inr (8, [.int (nI n), .int (f5_st idn den (q.1, q.2.1 + 1, (f5_wu n q.2.1 0 (su (va_cpy q.2.2 q.2.2 0 1 q.2.1) 0 s9)))).1, .int (nI ((f5_st idn den (q.1, q.2.1 + 1, (f5_wu n q.2.1 0 (su (va_cpy q.2.2 q.2.2 0 1 q.2.1) 0 s9)))).2.1)), .ref fc, .int idn, .int den])), (fc, .inl (cI, 24, .inl ((f5_st idn den (q.1, q.2.1 + 1, (f5_wu n q.2.1 0 (su (va_cpy q.2.2 q.2.2 0 1 q.2.1) 0 s9)))).2.2)))] H := hP
      have hD : va_D A [(aO, .inr (8, [.int (nI n), .int (f5_st idn den (q.1, q.2.1 + 1, (f5_wu n q.2.1 0 (su (va_cpy q.2.2 q.2.2 0 1 q.2.1) 0 s9)))).1, .int (nI ((f5_st idn den (q.1, q.2.1 + 1, (f5_wu n q.2.1 0 (su (va_cpy q.2.2 q.2.2 0 1 q.2.1) 0 s9)))).2.1)), .ref fc, .int idn, .int den])), (fc, .inl (cI, 24, .inl ((f5_st idn den (q.1, q.2.1 + 1, (f5_wu n q.2.1 0 (su (va_cpy q.2.2 q.2.2 0 1 q.2.1) 0 s9)))).2.2)))] := hD
      have hP : va_P (dC, dI) vwCl [(aO, .inr (8, [.int (nI n), .int (f5_pf n idn den q s9).1, .int (nI ((f5_pf n idn den q s9).2.1)), .ref fc, .int idn, .int den])), (fc, .inl (cI, 24, .inl ((f5_pf n idn den q s9).2.2)))] H := by rw [hpb]; exact hP
      have hD : va_D A [(aO, .inr (8, [.int (nI n), .int (f5_pf n idn den q s9).1, .int (nI ((f5_pf n idn den q s9).2.1)), .ref fc, .int idn, .int den])), (fc, .inl (cI, 24, .inl ((f5_pf n idn den q s9).2.2)))] := by rw [hpb]; exact hD
      rw [hQQ]
      exact W.vret hx hb hr (fun t ht hW => ⟨⟨(), rfl, trivial, by rw [ht]; exact hP, hD⟩, hS.F ht⟩) hS.2.2 dgX5_putBefore_78
    have L48 : ∀ (d i : Nat) (F : Nat → Int32), i + d = q.2.1 → (f5_wu n q.2.1 0 (su (va_cpy q.2.2 q.2.2 0 1 q.2.1) 0 s9)) = f5_wu n d i F → ∀ (H : Heap) (locs : List Loc) (ls : Array Slot), va_P (dC, dI) vwCl [(aO, .inr (8, [.int (nI n), .int q.1, .int (nI (q.2.1 + 1)), .ref fc, .int idn, .int den])), (fc, .inl (cI, 24, .inl F))] H → va_D A [(aO, .inr (8, [.int (nI n), .int q.1, .int (nI (q.2.1 + 1)), .ref fc, .int idn, .int den])), (fc, .inl (cI, 24, .inl F))] → va_S A s.heap H locs → lv_has ls 4 [(0, .ref aO), (2, .int 1), (3, .int (nI i))] → W p l e ({ frames := 3, cells := 0, slots := 0, locals := 130 } : Room) s m ([.ref aO, .int s9] : List Value).toArray below meth c H locs 0 0 QQ (F0 m 48 ls []) := by
      intro d
      induction d with
      | zero =>
        intro i F hi hF H locs ls hP hD hS hl
        refine lv_iload_n hx hb dgX5_putBefore_48 rfl (lv_at hl 2 rfl) ?_
        refine lv_aload_n hx hb dgX5_putBefore_49 rfl (lv_at hl 0 rfl) ?_
        refine va_get (D := (dC, dI)) (ci := 8) (v := .int (nI (q.2.1 + 1))) (C := RX5) (T := TX5) (N := 6) hx hb hts (fun _ h => List.mem_cons_of_mem _ (List.mem_append_left _ (List.mem_append_right _ h))) hown hK hP 0 rfl rfl 2 (by decide) (hts (.fieldLink RX5 32 "KnotHouse$Form" "length" "I") (by decide +kernel)) (fun _ h9 => h9) rfl dgX5_putBefore_50 ?_
        refine lv_iconst (v := 1) hx hb dgX5_putBefore_53 (by decide) ?_
        refine lv_isub hx hb dgX5_putBefore_54 ?_
        refine ow_topi (y := nI q.2.1) (ow_pred _) ?_
        refine lv_icmp_ge (tgt := 74) hx hb dgX5_putBefore_55 (by decide) (fun _ => ?_) (fun c9 => absurd (nI_le (a := q.2.1) (b := i) (by omega) (by omega)) c9)
        have hP : va_P (dC, dI) vwCl [(aO, .inr (8, [.int (nI n), .int q.1, .int (nI (q.2.1 + 1)), .ref fc, .int idn, .int den])), (fc, .inl (cI, 24, .inl (f5_wu n q.2.1 0 (su (va_cpy q.2.2 q.2.2 0 1 q.2.1) 0 s9))))] H := by rw [show (f5_wu n q.2.1 0 (su (va_cpy q.2.2 q.2.2 0 1 q.2.1) 0 s9)) = F from hF]; exact hP
        have hD : va_D A [(aO, .inr (8, [.int (nI n), .int q.1, .int (nI (q.2.1 + 1)), .ref fc, .int idn, .int den])), (fc, .inl (cI, 24, .inl (f5_wu n q.2.1 0 (su (va_cpy q.2.2 q.2.2 0 1 q.2.1) 0 s9))))] := by rw [show (f5_wu n q.2.1 0 (su (va_cpy q.2.2 q.2.2 0 1 q.2.1) 0 s9)) = F from hF]; exact hD
        exact K74 H locs ls hP hD hS (lv_sub hl [0] rfl)
      | succ d ih =>
        intro i F hi hF H locs ls hP hD hS hl
        rw [f5_wu] at hF
        refine lv_iload_n hx hb dgX5_putBefore_48 rfl (lv_at hl 2 rfl) ?_
        refine lv_aload_n hx hb dgX5_putBefore_49 rfl (lv_at hl 0 rfl) ?_
        refine va_get (D := (dC, dI)) (ci := 8) (v := .int (nI (q.2.1 + 1))) (C := RX5) (T := TX5) (N := 6) hx hb hts (fun _ h => List.mem_cons_of_mem _ (List.mem_append_left _ (List.mem_append_right _ h))) hown hK hP 0 rfl rfl 2 (by decide) (hts (.fieldLink RX5 32 "KnotHouse$Form" "length" "I") (by decide +kernel)) (fun _ h9 => h9) rfl dgX5_putBefore_50 ?_
        refine lv_iconst (v := 1) hx hb dgX5_putBefore_53 (by decide) ?_
        refine lv_isub hx hb dgX5_putBefore_54 ?_
        refine ow_topi (y := nI q.2.1) (ow_pred _) ?_
        refine lv_icmp_ge (tgt := 74) hx hb dgX5_putBefore_55 (by decide) (fun c9 => absurd c9 (nI_ge (a := i) (b := q.2.1) (by omega) (by omega))) (fun _ => ?_)
        refine lv_iload_n hx hb dgX5_putBefore_58 rfl (lv_at hl 1 rfl) ?_
        refine lv_if_eq (tgt := 74) hx hb dgX5_putBefore_59 (by decide) (fun c9 => absurd c9 (by decide)) (fun _ => ?_)
        refine lv_aload_n hx hb dgX5_putBefore_62 rfl (lv_at hl 0 rfl) ?_
        refine lv_iload_n hx hb dgX5_putBefore_63 rfl (lv_at hl 2 rfl) ?_
        have hPc := hP.sub (ws' := [(aO, .inr (8, [.int (nI n), .int q.1, .int (nI (q.2.1 + 1)), .ref fc, .int idn, .int den])), (fc, .inl (cI, 24, .inl F))]) [0, 1] rfl
        have hDc := hD.sub (ws' := [(aO, .inr (8, [.int (nI n), .int q.1, .int (nI (q.2.1 + 1)), .ref fc, .int idn, .int den])), (fc, .inl (cI, 24, .inl F))]) [0, 1] (by decide) rfl
        have hFc := va_free (wc := [(aO, .inr (8, [.int (nI n), .int q.1, .int (nI (q.2.1 + 1)), .ref fc, .int idn, .int den])), (fc, .inl (cI, 24, .inl F))]) hD hS hA [0, 1] rfl
        refine va_calli (va_runV (As := [.int (nI i)]) (rest := []) ⟨hx, hb, hml, hown, hts⟩ (kg_X5_weigh l dC dI cI cB cJ cZ aO fc n hn1 hn9 idn den q.1 (q.2.1 + 1) F i (by omega) H.size) (cwV 1 hts gg_X5_putBefore_0 rfl rfl rfl (by decide +kernel) ⟨(Nat.le_of_ble_eq_true rfl), (Nat.le_of_ble_eq_true rfl)⟩) ⟨fun a U g mk q => by obtain ⟨q0, q1, qP, qK, qD⟩ := q; exact ⟨q0, q1, qP, va_K.moved (u := U) (U := U.calling g mk a) (Vm.Alike.refl U.vm) qK, qD⟩, va_recv hK hPc (ci := 8) (q0 := 0) rfl rfl, fun U hU hW => ⟨rfl, by rw [hU], by rw [hU]; exact hPc, va_K.moved hW.alike hK, hDc.weaken (fun _ _ _ _ => trivial)⟩⟩ rfl rfl hl.1 rfl (lv_room (Nat.le_of_ble_eq_true rfl)) dgX5_putBefore_64 ⟨(Nat.le_of_ble_eq_true rfl), (Nat.le_of_ble_eq_true rfl)⟩) hS (fun q _ h => hFc q h) hFc (fun ra9 u9 t H1 locs ht hvm hw hB hz1 hk1 hS => ?_)
        obtain ⟨hP1, hD1⟩ := hB
        rw [ht] at hP1
        obtain ⟨hP, hD⟩ := va_join (wr := []) (w1 := [(aO, .inr (8, [.int (nI n), .int q.1, .int (nI (q.2.1 + 1)), .ref fc, .int idn, .int den])), (fc, .inl (cI, 24, .inl ((f5_we n F i).1)))]) hP hD [0, 1] [] rfl rfl (by decide) (by decide) hk1 hFc hP1 hD1
        generalize H1 = H at hP hS ⊢
        have hP : va_P (dC, dI) vwCl [(aO, .inr (8, [.int (nI n), .int q.1, .int (nI (q.2.1 + 1)), .ref fc, .int idn, .int den])), (fc, .inl (cI, 24, .inl ((f5_we n F i).1)))] H := hP
        have hD : va_D A [(aO, .inr (8, [.int (nI n), .int q.1, .int (nI (q.2.1 + 1)), .ref fc, .int idn, .int den])), (fc, .inl (cI, 24, .inl ((f5_we n F i).1)))] := hD
        have hra : ra9 = bI (f5_we n F i).2 := hw
        cases hbb : (f5_we n F i).2 with
        | true =>
          rw [hbb] at hra hF
          have hra : ra9 = 1 := hra
          subst hra
          refine lv_istore_n (lv' := [(2, .int 1), (0, .ref aO), (3, .int (nI i))]) hx hb dgX5_putBefore_67 rfl hl (by decide) rfl (fun ls hl => ?_)
          refine lv_iinc (v := nI (i + 1)) (lv' := [(3, .int (nI (i + 1))), (2, .int 1), (0, .ref aO)]) hx hb dgX5_putBefore_68 hl (k := 2) rfl (nI_1 i) (by decide) rfl (fun ls hl => ?_)
          refine lv_goto (tgt := 48) hx hb dgX5_putBefore_71 (by decide) ?_
          exact ih (i + 1) (f5_we n F i).1 (by omega) hF H locs ls hP hD hS (lv_sub hl [2, 1, 0] rfl)
        | false =>
          rw [hbb] at hra hF
          have hra : ra9 = 0 := hra
          subst hra
          refine lv_istore_n (lv' := [(2, .int 0), (0, .ref aO), (3, .int (nI i))]) hx hb dgX5_putBefore_67 rfl hl (by decide) rfl (fun ls hl => ?_)
          refine lv_iinc (v := nI (i + 1)) (lv' := [(3, .int (nI (i + 1))), (2, .int 0), (0, .ref aO)]) hx hb dgX5_putBefore_68 hl (k := 2) rfl (nI_1 i) (by decide) rfl (fun ls hl => ?_)
          refine lv_goto (tgt := 48) hx hb dgX5_putBefore_71 (by decide) ?_
          have hF : (f5_wu n q.2.1 0 (su (va_cpy q.2.2 q.2.2 0 1 q.2.1) 0 s9)) = (f5_we n F i).1 := hF
          have hP : va_P (dC, dI) vwCl [(aO, .inr (8, [.int (nI n), .int q.1, .int (nI (q.2.1 + 1)), .ref fc, .int idn, .int den])), (fc, .inl (cI, 24, .inl (f5_wu n q.2.1 0 (su (va_cpy q.2.2 q.2.2 0 1 q.2.1) 0 s9))))] H := by rw [hF]; exact hP
          have hD : va_D A [(aO, .inr (8, [.int (nI n), .int q.1, .int (nI (q.2.1 + 1)), .ref fc, .int idn, .int den])), (fc, .inl (cI, 24, .inl (f5_wu n q.2.1 0 (su (va_cpy q.2.2 q.2.2 0 1 q.2.1) 0 s9))))] := by rw [hF]; exact hD
          rcases Nat.lt_or_ge (i + 1) q.2.1 with hk0 | hk0
          · refine lv_iload_n hx hb dgX5_putBefore_48 rfl (lv_at hl 0 rfl) ?_
            refine lv_aload_n hx hb dgX5_putBefore_49 rfl (lv_at hl 2 rfl) ?_
            refine va_get (D := (dC, dI)) (ci := 8) (v := .int (nI (q.2.1 + 1))) (C := RX5) (T := TX5) (N := 6) hx hb hts (fun _ h => List.mem_cons_of_mem _ (List.mem_append_left _ (List.mem_append_right _ h))) hown hK hP 0 rfl rfl 2 (by decide) (hts (.fieldLink RX5 32 "KnotHouse$Form" "length" "I") (by decide +kernel)) (fun _ h9 => h9) rfl dgX5_putBefore_50 ?_
            refine lv_iconst (v := 1) hx hb dgX5_putBefore_53 (by decide) ?_
            refine lv_isub hx hb dgX5_putBefore_54 ?_
            refine ow_topi (y := nI q.2.1) (ow_pred _) ?_
            refine lv_icmp_ge (tgt := 74) hx hb dgX5_putBefore_55 (by decide) (fun c9 => absurd c9 (nI_ge (a := i + 1) (b := q.2.1) hk0 (by omega))) (fun _ => ?_)
            refine lv_iload_n hx hb dgX5_putBefore_58 rfl (lv_at hl 1 rfl) ?_
            refine lv_if_eq (tgt := 74) hx hb dgX5_putBefore_59 (by decide) (fun _ => ?_) (fun c9 => absurd (rfl) c9)
            exact K74 H locs ls hP hD hS (lv_sub hl [2] rfl)
          · refine lv_iload_n hx hb dgX5_putBefore_48 rfl (lv_at hl 0 rfl) ?_
            refine lv_aload_n hx hb dgX5_putBefore_49 rfl (lv_at hl 2 rfl) ?_
            refine va_get (D := (dC, dI)) (ci := 8) (v := .int (nI (q.2.1 + 1))) (C := RX5) (T := TX5) (N := 6) hx hb hts (fun _ h => List.mem_cons_of_mem _ (List.mem_append_left _ (List.mem_append_right _ h))) hown hK hP 0 rfl rfl 2 (by decide) (hts (.fieldLink RX5 32 "KnotHouse$Form" "length" "I") (by decide +kernel)) (fun _ h9 => h9) rfl dgX5_putBefore_50 ?_
            refine lv_iconst (v := 1) hx hb dgX5_putBefore_53 (by decide) ?_
            refine lv_isub hx hb dgX5_putBefore_54 ?_
            refine ow_topi (y := nI q.2.1) (ow_pred _) ?_
            refine lv_icmp_ge (tgt := 74) hx hb dgX5_putBefore_55 (by decide) (fun _ => ?_) (fun c9 => absurd (nI_le (a := q.2.1) (b := i + 1) hk0 (by omega)) c9)
            exact K74 H locs ls hP hD hS (lv_sub hl [2] rfl)
    refine lv_icmp_lt (tgt := 10) hx hb dgX5_putBefore_6 (by decide) (fun _ => ?_) (fun c9 => absurd (nI_lt (a := q.2.1) (b := 24) h24 (by decide)) c9)
    refine lv_aload_n hx hb dgX5_putBefore_10 rfl (lv_at hl 0 rfl) ?_
    refine va_get (D := (dC, dI)) (ci := 8) (v := .ref fc) (C := RX5) (T := TX5) (N := 6) hx hb hts (fun _ h => List.mem_cons_of_mem _ (List.mem_append_left _ (List.mem_append_right _ h))) hown hK hP 0 rfl rfl 3 (by decide) (hts (.fieldLink RX5 11 "KnotHouse$Form" "factors" "[I") (by decide +kernel)) (fun _ h9 => h9) rfl dgX5_putBefore_11 ?_
    refine lv_iconst (v := 0) hx hb dgX5_putBefore_14 (by decide) ?_
    refine ow_topi (y := nI 0) (by decide) ?_
    refine lv_aload_n hx hb dgX5_putBefore_15 rfl (lv_at hl 0 rfl) ?_
    refine va_get (D := (dC, dI)) (ci := 8) (v := .ref fc) (C := RX5) (T := TX5) (N := 6) hx hb hts (fun _ h => List.mem_cons_of_mem _ (List.mem_append_left _ (List.mem_append_right _ h))) hown hK hP 0 rfl rfl 3 (by decide) (hts (.fieldLink RX5 11 "KnotHouse$Form" "factors" "[I") (by decide +kernel)) (fun _ h9 => h9) rfl dgX5_putBefore_16 ?_
    refine lv_iconst (v := 1) hx hb dgX5_putBefore_19 (by decide) ?_
    refine ow_topi (y := nI 1) (by decide) ?_
    refine lv_aload_n hx hb dgX5_putBefore_20 rfl (lv_at hl 0 rfl) ?_
    refine va_get (D := (dC, dI)) (ci := 8) (v := .int (nI q.2.1)) (C := RX5) (T := TX5) (N := 6) hx hb hts (fun _ h => List.mem_cons_of_mem _ (List.mem_append_left _ (List.mem_append_right _ h))) hown hK hP 0 rfl rfl 2 (by decide) (hts (.fieldLink RX5 32 "KnotHouse$Form" "length" "I") (by decide +kernel)) (fun _ h9 => h9) rfl dgX5_putBefore_21 ?_
    refine ow_cpyi (sp := 0) (dp := 1) (n := q.2.1) hx hb (by rw [hml]; exact hl.1.symm) hown (hts (.methodLink RX5 52 arraycopyName) (by decide +kernel)) (hts (.native arraycopyName) (by decide +kernel)) (hts (.static arraycopyName) (by decide +kernel)) (hts (.initialized "java/lang/System") (by decide +kernel)) hK hP hD hS 1 1 0 0 rfl rfl rfl rfl (by omega) (by omega) (by decide) (by decide) (Nat.le_of_ble_eq_true rfl) (by decide) dgX5_putBefore_24 (fun H locs hP hD hS => ?_)
    have hP : va_P (dC, dI) vwCl [(aO, .inr (8, [.int (nI n), .int q.1, .int (nI q.2.1), .ref fc, .int idn, .int den])), (fc, .inl (cI, 24, .inl (va_cpy q.2.2 q.2.2 0 1 q.2.1)))] H := hP
    have hD : va_D A [(aO, .inr (8, [.int (nI n), .int q.1, .int (nI q.2.1), .ref fc, .int idn, .int den])), (fc, .inl (cI, 24, .inl (va_cpy q.2.2 q.2.2 0 1 q.2.1)))] := hD
    refine lv_aload_n hx hb dgX5_putBefore_27 rfl (lv_at hl 0 rfl) ?_
    refine va_get (D := (dC, dI)) (ci := 8) (v := .ref fc) (C := RX5) (T := TX5) (N := 6) hx hb hts (fun _ h => List.mem_cons_of_mem _ (List.mem_append_left _ (List.mem_append_right _ h))) hown hK hP 0 rfl rfl 3 (by decide) (hts (.fieldLink RX5 11 "KnotHouse$Form" "factors" "[I") (by decide +kernel)) (fun _ h9 => h9) rfl dgX5_putBefore_28 ?_
    refine lv_iconst (v := 0) hx hb dgX5_putBefore_31 (by decide) ?_
    refine ow_topi (y := nI 0) (by decide) ?_
    refine lv_iload_n hx hb dgX5_putBefore_32 rfl (lv_at hl 1 rfl) ?_
    refine ow_iastF (j := 0) (x := s9) hx hb hK hP hD hS 1 0 rfl rfl (by decide) (by decide) dgX5_putBefore_33 (fun H locs hP hD hS => ?_)
    have hP : va_P (dC, dI) vwCl [(aO, .inr (8, [.int (nI n), .int q.1, .int (nI q.2.1), .ref fc, .int idn, .int den])), (fc, .inl (cI, 24, .inl (su (va_cpy q.2.2 q.2.2 0 1 q.2.1) 0 s9)))] H := hP
    have hD : va_D A [(aO, .inr (8, [.int (nI n), .int q.1, .int (nI q.2.1), .ref fc, .int idn, .int den])), (fc, .inl (cI, 24, .inl (su (va_cpy q.2.2 q.2.2 0 1 q.2.1) 0 s9)))] := hD
    refine lv_aload_n hx hb dgX5_putBefore_34 rfl (lv_at hl 0 rfl) ?_
    refine lv_dup hx hb dgX5_putBefore_35 rfl ?_
    refine va_get (D := (dC, dI)) (ci := 8) (v := .int (nI q.2.1)) (C := RX5) (T := TX5) (N := 6) hx hb hts (fun _ h => List.mem_cons_of_mem _ (List.mem_append_left _ (List.mem_append_right _ h))) hown hK hP 0 rfl rfl 2 (by decide) (hts (.fieldLink RX5 32 "KnotHouse$Form" "length" "I") (by decide +kernel)) (fun _ h9 => h9) rfl dgX5_putBefore_36 ?_
    refine lv_iconst (v := 1) hx hb dgX5_putBefore_39 (by decide) ?_
    refine lv_iadd hx hb dgX5_putBefore_40 ?_
    refine ow_topi (y := nI (q.2.1 + 1)) (nI_1 (q.2.1)) ?_
    refine va_put (D := (dC, dI)) (ci := 8) (v := .int (nI (q.2.1 + 1))) (ty := .int) (C := RX5) (T := TX5) (N := 6) hx hb hts (fun _ h => List.mem_cons_of_mem _ (List.mem_append_left _ (List.mem_append_right _ h))) tyX5 tyX5_ok nmX5 hown hK hP hD hS 0 rfl rfl 2 (by decide) (hts (.fieldLink RX5 32 "KnotHouse$Form" "length" "I") (by decide +kernel)) (fun _ h9 => h9) rfl (by decide +kernel) rfl rfl (Nat.le_of_ble_eq_true rfl) dgX5_putBefore_41 (fun H locs hP hD hS => ?_)
    have hP : va_P (dC, dI) vwCl [(aO, .inr (8, [.int (nI n), .int q.1, .int (nI (q.2.1 + 1)), .ref fc, .int idn, .int den])), (fc, .inl (cI, 24, .inl (su (va_cpy q.2.2 q.2.2 0 1 q.2.1) 0 s9)))] H := hP
    have hD : va_D A [(aO, .inr (8, [.int (nI n), .int q.1, .int (nI (q.2.1 + 1)), .ref fc, .int idn, .int den])), (fc, .inl (cI, 24, .inl (su (va_cpy q.2.2 q.2.2 0 1 q.2.1) 0 s9)))] := hD
    refine lv_iconst (v := 1) hx hb dgX5_putBefore_44 (by decide) ?_
    refine lv_istore_n (lv' := [(2, .int 1), (0, .ref aO), (1, .int s9)]) hx hb dgX5_putBefore_45 rfl hl (by decide) rfl (fun ls hl => ?_)
    refine lv_iconst (v := 0) hx hb dgX5_putBefore_46 (by decide) ?_
    refine ow_topi (y := nI 0) (by decide) ?_
    refine lv_istore_n (lv' := [(3, .int (nI 0)), (2, .int 1), (0, .ref aO), (1, .int s9)]) hx hb dgX5_putBefore_47 rfl hl (by decide) rfl (fun ls hl => ?_)
    exact L48 q.2.1 0 (su (va_cpy q.2.2 q.2.2 0 1 q.2.1) 0 s9) (by omega) rfl H locs ls hP hD hS (lv_sub hl [2, 1, 0] rfl)
  · refine lv_icmp_lt (tgt := 10) hx hb dgX5_putBefore_6 (by decide) (fun c9 => absurd c9 (nI_nlt (a := q.2.1) (b := 24) h24 (by omega))) (fun _ => ?_)
    have hP : va_P (dC, dI) vwCl [(aO, .inr (8, [.int (nI n), .int (f5_pf n idn den q s9).1, .int (nI ((f5_pf n idn den q s9).2.1)), .ref fc, .int idn, .int den])), (fc, .inl (cI, 24, .inl ((f5_pf n idn den q s9).2.2)))] H := by rw [show (f5_pf n idn den q s9) = q from if_neg (Nat.not_lt.mpr h24)]; exact hP
    have hD : va_D A [(aO, .inr (8, [.int (nI n), .int (f5_pf n idn den q s9).1, .int (nI ((f5_pf n idn den q s9).2.1)), .ref fc, .int idn, .int den])), (fc, .inl (cI, 24, .inl ((f5_pf n idn den q s9).2.2)))] := by rw [show (f5_pf n idn den q s9) = q from if_neg (Nat.not_lt.mpr h24)]; exact hD
    rw [hQQ]
    exact W.vret hx hb hr (fun t ht hW => ⟨⟨(), rfl, trivial, by rw [ht]; exact hP, hD⟩, hS.F ht⟩) hS.2.2 dgX5_putBefore_9
theorem dgX5_takeLetter_0 : decode cX5_takeLetter 0 = .ok (.iload_n 1, 1) := by decide +kernel
theorem dgX5_takeLetter_1 : decode cX5_takeLetter 1 = .ok (.invokestatic 58, 3) := by decide +kernel
theorem dgX5_takeLetter_4 : decode cX5_takeLetter 4 = .ok (.iconst 1, 1) := by decide +kernel
theorem dgX5_takeLetter_5 : decode cX5_takeLetter 5 = .ok (.isub, 1) := by decide +kernel
theorem dgX5_takeLetter_6 : decode cX5_takeLetter 6 = .ok (.istore_n 2, 1) := by decide +kernel
theorem dgX5_takeLetter_7 : decode cX5_takeLetter 7 = .ok (.iload_n 1, 1) := by decide +kernel
theorem dgX5_takeLetter_8 : decode cX5_takeLetter 8 = .ok (.ifCond .le 16, 3) := by decide +kernel
theorem dgX5_takeLetter_11 : decode cX5_takeLetter 11 = .ok (.aload_n 0, 1) := by decide +kernel
theorem dgX5_takeLetter_12 : decode cX5_takeLetter 12 = .ok (.aload_n 0, 1) := by decide +kernel
theorem dgX5_takeLetter_13 : decode cX5_takeLetter 13 = .ok (.getfield 39, 3) := by decide +kernel
theorem dgX5_takeLetter_16 : decode cX5_takeLetter 16 = .ok (.iload_n 2, 1) := by decide +kernel
theorem dgX5_takeLetter_17 : decode cX5_takeLetter 17 = .ok (.invokestatic 22, 3) := by decide +kernel
theorem dgX5_takeLetter_20 : decode cX5_takeLetter 20 = .ok (.invokevirtual 63, 3) := by decide +kernel
theorem dgX5_takeLetter_23 : decode cX5_takeLetter 23 = .ok (.return_, 1) := by decide +kernel
theorem dgX5_takeLetter_24 : decode cX5_takeLetter 24 = .ok (.iconst 0, 1) := by decide +kernel
theorem dgX5_takeLetter_25 : decode cX5_takeLetter 25 = .ok (.istore_n 3, 1) := by decide +kernel
theorem dgX5_takeLetter_26 : decode cX5_takeLetter 26 = .ok (.iload_n 3, 1) := by decide +kernel
theorem dgX5_takeLetter_27 : decode cX5_takeLetter 27 = .ok (.aload_n 0, 1) := by decide +kernel
theorem dgX5_takeLetter_28 : decode cX5_takeLetter 28 = .ok (.getfield 32, 3) := by decide +kernel
theorem dgX5_takeLetter_31 : decode cX5_takeLetter 31 = .ok (.if_icmp .ge 28, 3) := by decide +kernel
theorem dgX5_takeLetter_34 : decode cX5_takeLetter 34 = .ok (.aload_n 0, 1) := by decide +kernel
theorem dgX5_takeLetter_35 : decode cX5_takeLetter 35 = .ok (.getfield 11, 3) := by decide +kernel
theorem dgX5_takeLetter_38 : decode cX5_takeLetter 38 = .ok (.iload_n 3, 1) := by decide +kernel
theorem dgX5_takeLetter_39 : decode cX5_takeLetter 39 = .ok (.aload_n 0, 1) := by decide +kernel
theorem dgX5_takeLetter_40 : decode cX5_takeLetter 40 = .ok (.getfield 11, 3) := by decide +kernel
theorem dgX5_takeLetter_43 : decode cX5_takeLetter 43 = .ok (.iload_n 3, 1) := by decide +kernel
theorem dgX5_takeLetter_44 : decode cX5_takeLetter 44 = .ok (.iaload, 1) := by decide +kernel
theorem dgX5_takeLetter_45 : decode cX5_takeLetter 45 = .ok (.aload_n 0, 1) := by decide +kernel
theorem dgX5_takeLetter_46 : decode cX5_takeLetter 46 = .ok (.getfield 25, 3) := by decide +kernel
theorem dgX5_takeLetter_49 : decode cX5_takeLetter 49 = .ok (.invokestatic 66, 3) := by decide +kernel
theorem dgX5_takeLetter_52 : decode cX5_takeLetter 52 = .ok (.iastore, 1) := by decide +kernel
theorem dgX5_takeLetter_53 : decode cX5_takeLetter 53 = .ok (.iinc 3 1, 3) := by decide +kernel
theorem dgX5_takeLetter_56 : decode cX5_takeLetter 56 = .ok (.goto (-30), 3) := by decide +kernel
theorem dgX5_takeLetter_59 : decode cX5_takeLetter 59 = .ok (.aload_n 0, 1) := by decide +kernel
theorem dgX5_takeLetter_60 : decode cX5_takeLetter 60 = .ok (.dup, 1) := by decide +kernel
theorem dgX5_takeLetter_61 : decode cX5_takeLetter 61 = .ok (.getfield 29, 3) := by decide +kernel
theorem dgX5_takeLetter_64 : decode cX5_takeLetter 64 = .ok (.iconst 1, 1) := by decide +kernel
theorem dgX5_takeLetter_65 : decode cX5_takeLetter 65 = .ok (.isub, 1) := by decide +kernel
theorem dgX5_takeLetter_66 : decode cX5_takeLetter 66 = .ok (.putfield 29, 3) := by decide +kernel
theorem dgX5_takeLetter_69 : decode cX5_takeLetter 69 = .ok (.aload_n 0, 1) := by decide +kernel
theorem dgX5_takeLetter_70 : decode cX5_takeLetter 70 = .ok (.aload_n 0, 1) := by decide +kernel
theorem dgX5_takeLetter_71 : decode cX5_takeLetter 71 = .ok (.getfield 45, 3) := by decide +kernel
theorem dgX5_takeLetter_74 : decode cX5_takeLetter 74 = .ok (.iload_n 2, 1) := by decide +kernel
theorem dgX5_takeLetter_75 : decode cX5_takeLetter 75 = .ok (.aload_n 0, 1) := by decide +kernel
theorem dgX5_takeLetter_76 : decode cX5_takeLetter 76 = .ok (.getfield 25, 3) := by decide +kernel
theorem dgX5_takeLetter_79 : decode cX5_takeLetter 79 = .ok (.invokestatic 69, 3) := by decide +kernel
theorem dgX5_takeLetter_82 : decode cX5_takeLetter 82 = .ok (.invokevirtual 63, 3) := by decide +kernel
theorem dgX5_takeLetter_85 : decode cX5_takeLetter 85 = .ok (.return_, 1) := by decide +kernel
def wg_X5_takeLetter : List Cond := .code yX5_takeLetter cX5_takeLetter 4 none :: (([.fieldLink RX5 39 "KnotHouse$Form" "identity" "I", .fieldLink RX5 32 "KnotHouse$Form" "length" "I", .fieldLink RX5 11 "KnotHouse$Form" "factors" "[I", .fieldLink RX5 25 "KnotHouse$Form" "strands" "I", .fieldLink RX5 29 "KnotHouse$Form" "power" "I", .fieldLink RX5 45 "KnotHouse$Form" "delta" "I", .methodLink RX5 58 Lib.Math.abs.name, .static Lib.Math.abs.name, .initialized "java/lang/Math", .code Lib.Math.abs.name Lib.Math.abs.code 1 (some .int)] ++ wsX50) ++ (va_wsS RX5 22 yX5_exchanged wg_X5_exchanged ++ (wsV RX5 63 RX5 yX5_putBehind wg_X5_putBehind ++ (va_wsS RX5 66 yX5_turned wg_X5_turned ++ (va_wsS RX5 69 yX5_exchangedBehind wg_X5_exchangedBehind ++ [])))))
theorem gg_X5_takeLetter_0 : GoodIn wg_X5_takeLetter (va_wsS RX5 22 yX5_exchanged wg_X5_exchanged) := goodIn_sub (fun _ h => List.mem_cons_of_mem _ (List.mem_append_right _ (List.mem_append_left _ h))) (by decide +kernel)
theorem gg_X5_takeLetter_1 : GoodIn wg_X5_takeLetter (wsV RX5 63 RX5 yX5_putBehind wg_X5_putBehind) := goodIn_sub (fun _ h => List.mem_cons_of_mem _ (List.mem_append_right _ (List.mem_append_right _ (List.mem_append_left _ h)))) (by decide +kernel)
theorem gg_X5_takeLetter_2 : GoodIn wg_X5_takeLetter (va_wsS RX5 66 yX5_turned wg_X5_turned) := goodIn_sub (fun _ h => List.mem_cons_of_mem _ (List.mem_append_right _ (List.mem_append_right _ (List.mem_append_right _ (List.mem_append_left _ h))))) (by decide +kernel)
theorem gg_X5_takeLetter_3 : GoodIn wg_X5_takeLetter (va_wsS RX5 69 yX5_exchangedBehind wg_X5_exchangedBehind) := goodIn_sub (fun _ h => List.mem_cons_of_mem _ (List.mem_append_right _ (List.mem_append_right _ (List.mem_append_right _ (List.mem_append_right _ (List.mem_append_left _ h)))))) (by decide +kernel)
set_option maxHeartbeats 4000000 in
set_option maxRecDepth 100000 in
theorem kg_X5_takeLetter (l : Launch) (dC : Nat → ClassId) (dI : Nat → Nat → Nat) (cI cB cJ cZ : ClassId) (aO fc n : Nat) (hn1 : 1 ≤ n) (hn9 : n < 100) (idn den : Int32) (q : ow_FO) (hq : q.2.1 ≤ 24) (w : Nat × Bool) (hw0 : w.1 < 99) (sz : Nat) : Met l yX5_takeLetter wg_X5_takeLetter (({ frames := 4, cells := 0, slots := 0, locals := 180 } : Room)) (va_Pc [.ref aO, .int (ltr w)] (fun U => U.heap.size = sz ∧ va_P (dC, dI) vwCl [(aO, .inr (8, [.int (nI n), .int q.1, .int (nI q.2.1), .ref fc, .int idn, .int den])), (fc, .inl (cI, 24, .inl q.2.2))] U.heap ∧ va_K (dC, dI) vwCl [(cI, .int), (cB, .byte), (cJ, .long), (cZ, .boolean)] U ∧ va_D (fun _ => True) [(aO, .inr (8, [.int (nI n), .int q.1, .int (nI q.2.1), .ref fc, .int idn, .int den])), (fc, .inl (cI, 24, .inl q.2.2))])) (va_Qv (fun (g : Unit) => True) (fun g t => va_P (dC, dI) vwCl [(aO, .inr (8, [.int (nI n), .int (f5_le n idn den q w).1, .int (nI ((f5_le n idn den q w).2.1)), .ref fc, .int idn, .int den])), (fc, .inl (cI, 24, .inl ((f5_le n idn den q w).2.2)))] t.heap ∧ va_D (va_A [(aO, .inr (8, [.int (nI n), .int q.1, .int (nI q.2.1), .ref fc, .int idn, .int den])), (fc, .inl (cI, 24, .inl q.2.2))] sz) [(aO, .inr (8, [.int (nI n), .int (f5_le n idn den q w).1, .int (nI ((f5_le n idn den q w).2.1)), .ref fc, .int idn, .int den])), (fc, .inl (cI, 24, .inl ((f5_le n idn den q w).2.2)))]) (va_A [(aO, .inr (8, [.int (nI n), .int q.1, .int (nI q.2.1), .ref fc, .int idn, .int den])), (fc, .inl (cI, 24, .inl q.2.2))] sz)) 0 0 (va_A [(aO, .inr (8, [.int (nI n), .int q.1, .int (nI q.2.1), .ref fc, .int idn, .int den])), (fc, .inl (cI, 24, .inl q.2.2))] sz) := by
  refine Met.ofW (cc := cX5_takeLetter) (maxL := 4) (ret := none) (by decide) rfl ?_
  intro p e s m args below meth c s₁ B hml hv
  obtain ⟨rfl, hsz, hP, hK, hD0⟩ := hv
  have hx := B.exec
  have hb := B.bytes
  have hr := B.returns
  have hts := atoms_spec (ws := wg_X5_takeLetter) B.pre
  have hown : s.vm.findClass RX5 = some m.cls := findClass_of_methodNamed B.named
  have hlocks := B.notSynchronized
  subst hsz
  have hD := hD0.self (sz := s.heap.size)
  generalize hAe : va_A [(aO, .inr (8, [.int (nI n), .int q.1, .int (nI q.2.1), .ref fc, .int idn, .int den])), (fc, .inl (cI, 24, .inl q.2.2))] s.heap.size = A at hD ⊢
  have hA : ∀ q : Nat, s.heap.size ≤ q → A q := fun q h => by rw [← hAe]; exact Or.inr h
  have hS : va_S A s.heap s.heap [] := va_S.rf
  have hP : va_P (dC, dI) vwCl [(aO, .inr (8, [.int (nI n), .int q.1, .int (nI q.2.1), .ref fc, .int idn, .int den])), (fc, .inl (cI, 24, .inl q.2.2))] s.heap := hP
  have hl := lv_entry ([.ref aO, .int (ltr w)]) (n := 4) (Nat.le_of_ble_eq_true rfl)
  rw [lg_entry_eq]
  generalize (lg_sl ([.ref aO, .int (ltr w)]) ++ List.replicate (4 - (lg_sl ([.ref aO, .int (ltr w)])).length) Slot.unset).toArray = ls at hl ⊢
  have hl : lv_has ls 4 [(0, .ref aO), (1, .int (ltr w))] := hl
  refine ow_named (fun QQ hQQ => ?_)
  suffices key9 : ∀ (H : Heap) (locs : List Loc), va_P (dC, dI) vwCl [(aO, .inr (8, [.int (nI n), .int q.1, .int (nI q.2.1), .ref fc, .int idn, .int den])), (fc, .inl (cI, 24, .inl q.2.2))] H → va_S A s.heap H locs → W p l e ({ frames := 4, cells := 0, slots := 0, locals := 180 } : Room) s m ([.ref aO, .int (ltr w)] : List Value).toArray below meth c H locs 0 0 QQ (F0 m 0 ls []) from key9 s.heap [] hP hS
  intro H locs hP hS
  refine lv_iload_n hx hb dgX5_takeLetter_0 rfl (lv_at hl 1 rfl) ?_
  refine va_mabs hx hb (by rw [hml]; exact hl.1.symm) hown (hts (.methodLink RX5 58 Lib.Math.abs.name) (by decide +kernel)) (hts (.static Lib.Math.abs.name) (by decide +kernel)) (hts (.initialized "java/lang/Math") (by decide +kernel)) (hts (.code Lib.Math.abs.name Lib.Math.abs.code 1 (some .int)) (by decide +kernel)) (Nat.le_of_ble_eq_true rfl) (by decide) (Nat.le_of_ble_eq_true rfl) (Nat.le_of_ble_eq_true rfl) dgX5_takeLetter_1 ?_
  refine ow_topi (y := nI (w.1 + 1)) (ltr_abs (by omega)) ?_
  refine lv_iconst (v := 1) hx hb dgX5_takeLetter_4 (by decide) ?_
  refine lv_isub hx hb dgX5_takeLetter_5 ?_
  refine ow_topi (y := nI w.1) (ow_pred _) ?_
  refine lv_istore_n (lv' := [(2, .int (nI w.1)), (0, .ref aO), (1, .int (ltr w))]) hx hb dgX5_takeLetter_6 rfl hl (by decide) rfl (fun ls hl => ?_)
  refine lv_iload_n hx hb dgX5_takeLetter_7 rfl (lv_at hl 2 rfl) ?_
  cases hup : w.2 with
  | true =>
    refine lv_if_le (tgt := 24) hx hb dgX5_takeLetter_8 (by decide) (fun c9 => absurd c9 (fun h9 => by rw [(ltr_le (by omega)).mp h9] at hup; cases hup)) (fun _ => ?_)
    refine lv_aload_n hx hb dgX5_takeLetter_11 rfl (lv_at hl 1 rfl) ?_
    refine lv_aload_n hx hb dgX5_takeLetter_12 rfl (lv_at hl 1 rfl) ?_
    refine va_get (D := (dC, dI)) (ci := 8) (v := .int idn) (C := RX5) (T := TX5) (N := 6) hx hb hts (fun _ h => List.mem_cons_of_mem _ (List.mem_append_left _ (List.mem_append_right _ h))) hown hK hP 0 rfl rfl 4 (by decide) (hts (.fieldLink RX5 39 "KnotHouse$Form" "identity" "I") (by decide +kernel)) (fun _ h9 => h9) rfl dgX5_takeLetter_13 ?_
    refine lv_iload_n hx hb dgX5_takeLetter_16 rfl (lv_at hl 0 rfl) ?_
    have hPc := hP.sub (ws' := []) [] rfl
    refine va_calli (va_runS (As := [.int idn, .int (nI w.1)]) (rest := [.ref aO]) ⟨hx, hb, hml, hown, hts⟩ (kg_X5_exchanged l dC dI cI cB cJ cZ idn (nI w.1)) (va_cwS 2 hts gg_X5_takeLetter_0 rfl rfl rfl (by decide +kernel) ⟨(Nat.le_of_ble_eq_true rfl), (Nat.le_of_ble_eq_true rfl)⟩) ⟨fun a U g mk q => by obtain ⟨q0, qP, qK⟩ := q; exact ⟨q0, qP, va_K.moved (u := U) (U := U.calling g mk a) (Vm.Alike.refl U.vm) qK⟩, fun U hU hW => ⟨rfl, by rw [hU]; exact hPc, va_K.moved hW.alike hK⟩⟩ rfl rfl hl.1 rfl (lv_room (Nat.le_of_ble_eq_true rfl)) dgX5_takeLetter_17 ⟨(Nat.le_of_ble_eq_true rfl), (Nat.le_of_ble_eq_true rfl)⟩) hS (fun q _ h => h.elim) (fun q h => h.elim) (fun ra1 un t H1 locs ht hvm hw9 hB hz1 hk1 hS => ?_)
    have hP := hP.kept (fun k9 x9 h9 => hk1 x9.1 ((hP k9 x9 h9).lt) id)
    generalize H1 = H at hP hS ⊢
    obtain rfl : ra1 = f5_ex idn (nI w.1) := hw9
    have hPc := hP.sub (ws' := [(aO, .inr (8, [.int (nI n), .int q.1, .int (nI q.2.1), .ref fc, .int idn, .int den])), (fc, .inl (cI, 24, .inl q.2.2))]) [0, 1] rfl
    have hDc := hD.sub (ws' := [(aO, .inr (8, [.int (nI n), .int q.1, .int (nI q.2.1), .ref fc, .int idn, .int den])), (fc, .inl (cI, 24, .inl q.2.2))]) [0, 1] (by decide) rfl
    have hFc := va_free (wc := [(aO, .inr (8, [.int (nI n), .int q.1, .int (nI q.2.1), .ref fc, .int idn, .int den])), (fc, .inl (cI, 24, .inl q.2.2))]) hD hS hA [0, 1] rfl
    refine va_callv (va_runV (As := [.int (f5_ex idn (nI w.1))]) (rest := []) ⟨hx, hb, hml, hown, hts⟩ (kg_X5_putBehind l dC dI cI cB cJ cZ aO fc n hn1 hn9 idn den q hq (f5_ex idn (nI w.1)) H.size) (cwV 1 hts gg_X5_takeLetter_1 rfl rfl rfl (by decide +kernel) ⟨(Nat.le_of_ble_eq_true rfl), (Nat.le_of_ble_eq_true rfl)⟩) ⟨fun a U g mk q => by obtain ⟨q0, q1, qP, qK, qD⟩ := q; exact ⟨q0, q1, qP, va_K.moved (u := U) (U := U.calling g mk a) (Vm.Alike.refl U.vm) qK, qD⟩, va_recv hK hPc (ci := 8) (q0 := 0) rfl rfl, fun U hU hW => ⟨rfl, by rw [hU], by rw [hU]; exact hPc, va_K.moved hW.alike hK, hDc.weaken (fun _ _ _ _ => trivial)⟩⟩ rfl rfl hl.1 rfl (lv_room (Nat.le_of_ble_eq_true rfl)) dgX5_takeLetter_20 ⟨(Nat.le_of_ble_eq_true rfl), (Nat.le_of_ble_eq_true rfl)⟩) hS (fun q _ h => hFc q h) hFc (fun u9 t H1 locs ht hvm hw hB hz1 hk1 hS => ?_)
    obtain ⟨hP1, hD1⟩ := hB
    rw [ht] at hP1
    obtain ⟨hP, hD⟩ := va_join (wr := []) (w1 := [(aO, .inr (8, [.int (nI n), .int (f5_pb n idn den q (f5_ex idn (nI w.1))).1, .int (nI ((f5_pb n idn den q (f5_ex idn (nI w.1))).2.1)), .ref fc, .int idn, .int den])), (fc, .inl (cI, 24, .inl ((f5_pb n idn den q (f5_ex idn (nI w.1))).2.2)))]) hP hD [0, 1] [] rfl rfl (by decide) (by decide) hk1 hFc hP1 hD1
    generalize H1 = H at hP hS ⊢
    have hP : va_P (dC, dI) vwCl [(aO, .inr (8, [.int (nI n), .int (f5_pb n idn den q (f5_ex idn (nI w.1))).1, .int (nI ((f5_pb n idn den q (f5_ex idn (nI w.1))).2.1)), .ref fc, .int idn, .int den])), (fc, .inl (cI, 24, .inl ((f5_pb n idn den q (f5_ex idn (nI w.1))).2.2)))] H := hP
    have hD : va_D A [(aO, .inr (8, [.int (nI n), .int (f5_pb n idn den q (f5_ex idn (nI w.1))).1, .int (nI ((f5_pb n idn den q (f5_ex idn (nI w.1))).2.1)), .ref fc, .int idn, .int den])), (fc, .inl (cI, 24, .inl ((f5_pb n idn den q (f5_ex idn (nI w.1))).2.2)))] := hD
    have hP : va_P (dC, dI) vwCl [(aO, .inr (8, [.int (nI n), .int (f5_le n idn den q w).1, .int (nI ((f5_le n idn den q w).2.1)), .ref fc, .int idn, .int den])), (fc, .inl (cI, 24, .inl ((f5_le n idn den q w).2.2)))] H := by rw [show (f5_le n idn den q w) = (f5_pb n idn den q (f5_ex idn (nI w.1))) from by rw [f5_le, hup]; rfl]; exact hP
    have hD : va_D A [(aO, .inr (8, [.int (nI n), .int (f5_le n idn den q w).1, .int (nI ((f5_le n idn den q w).2.1)), .ref fc, .int idn, .int den])), (fc, .inl (cI, 24, .inl ((f5_le n idn den q w).2.2)))] := by rw [show (f5_le n idn den q w) = (f5_pb n idn den q (f5_ex idn (nI w.1))) from by rw [f5_le, hup]; rfl]; exact hD
    rw [hQQ]
    exact W.vret hx hb hr (fun t ht hW => ⟨⟨(), rfl, trivial, by rw [ht]; exact hP, hD⟩, hS.F ht⟩) hS.2.2 dgX5_takeLetter_23
  | false =>
    refine lv_if_le (tgt := 24) hx hb dgX5_takeLetter_8 (by decide) (fun _ => ?_) (fun c9 => absurd ((ltr_le (by omega)).mpr hup) c9)
    refine lv_iconst (v := 0) hx hb dgX5_takeLetter_24 (by decide) ?_
    refine ow_topi (y := nI 0) (by decide) ?_
    refine lv_istore_n (lv' := [(3, .int (nI 0)), (2, .int (nI w.1)), (0, .ref aO), (1, .int (ltr w))]) hx hb dgX5_takeLetter_25 rfl hl (by decide) rfl (fun ls hl => ?_)
    have L26 : ∀ (d i : Nat), i + d = q.2.1 → ∀ (H : Heap) (locs : List Loc) (ls : Array Slot), va_P (dC, dI) vwCl [(aO, .inr (8, [.int (nI n), .int q.1, .int (nI q.2.1), .ref fc, .int idn, .int den])), (fc, .inl (cI, 24, .inl (f5_ta q.2.2 n i)))] H → va_D A [(aO, .inr (8, [.int (nI n), .int q.1, .int (nI q.2.1), .ref fc, .int idn, .int den])), (fc, .inl (cI, 24, .inl (f5_ta q.2.2 n i)))] → va_S A s.heap H locs → lv_has ls 4 [(0, .ref aO), (1, .int (ltr w)), (2, .int (nI w.1)), (3, .int (nI i))] → W p l e ({ frames := 4, cells := 0, slots := 0, locals := 180 } : Room) s m ([.ref aO, .int (ltr w)] : List Value).toArray below meth c H locs 0 0 QQ (F0 m 26 ls []) := by
      intro d
      induction d with
      | zero =>
        intro i hi H locs ls hP hD hS hl
        have hie : i = q.2.1 := by omega
        rw [hie] at hP hD
        refine lv_iload_n hx hb dgX5_takeLetter_26 rfl (lv_at hl 3 rfl) ?_
        refine lv_aload_n hx hb dgX5_takeLetter_27 rfl (lv_at hl 0 rfl) ?_
        refine va_get (D := (dC, dI)) (ci := 8) (v := .int (nI q.2.1)) (C := RX5) (T := TX5) (N := 6) hx hb hts (fun _ h => List.mem_cons_of_mem _ (List.mem_append_left _ (List.mem_append_right _ h))) hown hK hP 0 rfl rfl 2 (by decide) (hts (.fieldLink RX5 32 "KnotHouse$Form" "length" "I") (by decide +kernel)) (fun _ h9 => h9) rfl dgX5_takeLetter_28 ?_
        refine lv_icmp_ge (tgt := 59) hx hb dgX5_takeLetter_31 (by decide) (fun _ => ?_) (fun c9 => absurd (nI_le (a := q.2.1) (b := i) (by omega) (by omega)) c9)
        refine lv_aload_n hx hb dgX5_takeLetter_59 rfl (lv_at hl 0 rfl) ?_
        refine lv_dup hx hb dgX5_takeLetter_60 rfl ?_
        refine va_get (D := (dC, dI)) (ci := 8) (v := .int q.1) (C := RX5) (T := TX5) (N := 6) hx hb hts (fun _ h => List.mem_cons_of_mem _ (List.mem_append_left _ (List.mem_append_right _ h))) hown hK hP 0 rfl rfl 1 (by decide) (hts (.fieldLink RX5 29 "KnotHouse$Form" "power" "I") (by decide +kernel)) (fun _ h9 => h9) rfl dgX5_takeLetter_61 ?_
        refine lv_iconst (v := 1) hx hb dgX5_takeLetter_64 (by decide) ?_
        refine lv_isub hx hb dgX5_takeLetter_65 ?_
        refine va_put (D := (dC, dI)) (ci := 8) (v := .int (q.1 - 1)) (ty := .int) (C := RX5) (T := TX5) (N := 6) hx hb hts (fun _ h => List.mem_cons_of_mem _ (List.mem_append_left _ (List.mem_append_right _ h))) tyX5 tyX5_ok nmX5 hown hK hP hD hS 0 rfl rfl 1 (by decide) (hts (.fieldLink RX5 29 "KnotHouse$Form" "power" "I") (by decide +kernel)) (fun _ h9 => h9) rfl (by decide +kernel) rfl rfl (Nat.le_of_ble_eq_true rfl) dgX5_takeLetter_66 (fun H locs hP hD hS => ?_)
        have hP : va_P (dC, dI) vwCl [(aO, .inr (8, [.int (nI n), .int (q.1 - 1), .int (nI q.2.1), .ref fc, .int idn, .int den])), (fc, .inl (cI, 24, .inl (f5_ta q.2.2 n q.2.1)))] H := hP
        have hD : va_D A [(aO, .inr (8, [.int (nI n), .int (q.1 - 1), .int (nI q.2.1), .ref fc, .int idn, .int den])), (fc, .inl (cI, 24, .inl (f5_ta q.2.2 n q.2.1)))] := hD
        refine lv_aload_n hx hb dgX5_takeLetter_69 rfl (lv_at hl 0 rfl) ?_
        refine lv_aload_n hx hb dgX5_takeLetter_70 rfl (lv_at hl 0 rfl) ?_
        refine va_get (D := (dC, dI)) (ci := 8) (v := .int den) (C := RX5) (T := TX5) (N := 6) hx hb hts (fun _ h => List.mem_cons_of_mem _ (List.mem_append_left _ (List.mem_append_right _ h))) hown hK hP 0 rfl rfl 5 (by decide) (hts (.fieldLink RX5 45 "KnotHouse$Form" "delta" "I") (by decide +kernel)) (fun _ h9 => h9) rfl dgX5_takeLetter_71 ?_
        refine lv_iload_n hx hb dgX5_takeLetter_74 rfl (lv_at hl 2 rfl) ?_
        refine lv_aload_n hx hb dgX5_takeLetter_75 rfl (lv_at hl 0 rfl) ?_
        refine va_get (D := (dC, dI)) (ci := 8) (v := .int (nI n)) (C := RX5) (T := TX5) (N := 6) hx hb hts (fun _ h => List.mem_cons_of_mem _ (List.mem_append_left _ (List.mem_append_right _ h))) hown hK hP 0 rfl rfl 0 (by decide) (hts (.fieldLink RX5 25 "KnotHouse$Form" "strands" "I") (by decide +kernel)) (fun _ h9 => h9) rfl dgX5_takeLetter_76 ?_
        have hPc := hP.sub (ws' := []) [] rfl
        refine va_calli (va_runS (As := [.int den, .int (nI w.1), .int (nI n)]) (rest := [.ref aO]) ⟨hx, hb, hml, hown, hts⟩ (kg_X5_exchangedBehind l dC dI cI cB cJ cZ den (nI w.1) n (by omega)) (va_cwS 3 hts gg_X5_takeLetter_3 rfl rfl rfl (by decide +kernel) ⟨(Nat.le_of_ble_eq_true rfl), (Nat.le_of_ble_eq_true rfl)⟩) ⟨fun a U g mk q => by obtain ⟨q0, qP, qK⟩ := q; exact ⟨q0, qP, va_K.moved (u := U) (U := U.calling g mk a) (Vm.Alike.refl U.vm) qK⟩, fun U hU hW => ⟨rfl, by rw [hU]; exact hPc, va_K.moved hW.alike hK⟩⟩ rfl rfl hl.1 rfl (lv_room (Nat.le_of_ble_eq_true rfl)) dgX5_takeLetter_79 ⟨(Nat.le_of_ble_eq_true rfl), (Nat.le_of_ble_eq_true rfl)⟩) hS (fun q _ h => h.elim) (fun q h => h.elim) (fun ra2 un t H1 locs ht hvm hw9 hB hz1 hk1 hS => ?_)
        have hP := hP.kept (fun k9 x9 h9 => hk1 x9.1 ((hP k9 x9 h9).lt) id)
        generalize H1 = H at hP hS ⊢
        obtain rfl : ra2 = f5_eb den (nI w.1) n := hw9
        have hPc := hP.sub (ws' := [(aO, .inr (8, [.int (nI n), .int (q.1 - 1), .int (nI q.2.1), .ref fc, .int idn, .int den])), (fc, .inl (cI, 24, .inl (f5_ta q.2.2 n q.2.1)))]) [0, 1] rfl
        have hDc := hD.sub (ws' := [(aO, .inr (8, [.int (nI n), .int (q.1 - 1), .int (nI q.2.1), .ref fc, .int idn, .int den])), (fc, .inl (cI, 24, .inl (f5_ta q.2.2 n q.2.1)))]) [0, 1] (by decide) rfl
        have hFc := va_free (wc := [(aO, .inr (8, [.int (nI n), .int (q.1 - 1), .int (nI q.2.1), .ref fc, .int idn, .int den])), (fc, .inl (cI, 24, .inl (f5_ta q.2.2 n q.2.1)))]) hD hS hA [0, 1] rfl
        refine va_callv (va_runV (As := [.int (f5_eb den (nI w.1) n)]) (rest := []) ⟨hx, hb, hml, hown, hts⟩ (kg_X5_putBehind l dC dI cI cB cJ cZ aO fc n hn1 hn9 idn den (q.1 - 1, q.2.1, (f5_ta q.2.2 n q.2.1)) hq (f5_eb den (nI w.1) n) H.size) (cwV 1 hts gg_X5_takeLetter_1 rfl rfl rfl (by decide +kernel) ⟨(Nat.le_of_ble_eq_true rfl), (Nat.le_of_ble_eq_true rfl)⟩) ⟨fun a U g mk q => by obtain ⟨q0, q1, qP, qK, qD⟩ := q; exact ⟨q0, q1, qP, va_K.moved (u := U) (U := U.calling g mk a) (Vm.Alike.refl U.vm) qK, qD⟩, va_recv hK hPc (ci := 8) (q0 := 0) rfl rfl, fun U hU hW => ⟨rfl, by rw [hU], by rw [hU]; exact hPc, va_K.moved hW.alike hK, hDc.weaken (fun _ _ _ _ => trivial)⟩⟩ rfl rfl hl.1 rfl (lv_room (Nat.le_of_ble_eq_true rfl)) dgX5_takeLetter_82 ⟨(Nat.le_of_ble_eq_true rfl), (Nat.le_of_ble_eq_true rfl)⟩) hS (fun q _ h => hFc q h) hFc (fun u9 t H1 locs ht hvm hw hB hz1 hk1 hS => ?_)
        obtain ⟨hP1, hD1⟩ := hB
        rw [ht] at hP1
        obtain ⟨hP, hD⟩ := va_join (wr := []) (w1 := [(aO, .inr (8, [.int (nI n), .int (f5_pb n idn den (q.1 - 1, q.2.1, (f5_ta q.2.2 n q.2.1)) (f5_eb den (nI w.1) n)).1, .int (nI ((f5_pb n idn den (q.1 - 1, q.2.1, (f5_ta q.2.2 n q.2.1)) (f5_eb den (nI w.1) n)).2.1)), .ref fc, .int idn, .int den])), (fc, .inl (cI, 24, .inl ((f5_pb n idn den (q.1 - 1, q.2.1, (f5_ta q.2.2 n q.2.1)) (f5_eb den (nI w.1) n)).2.2)))]) hP hD [0, 1] [] rfl rfl (by decide) (by decide) hk1 hFc hP1 hD1
        generalize H1 = H at hP hS ⊢
        have hP : va_P (dC, dI) vwCl [(aO, .inr (8, [.int (nI n), .int (f5_pb n idn den (q.1 - 1, q.2.1, (f5_ta q.2.2 n q.2.1)) (f5_eb den (nI w.1) n)).1, .int (nI ((f5_pb n idn den (q.1 - 1, q.2.1, (f5_ta q.2.2 n q.2.1)) (f5_eb den (nI w.1) n)).2.1)), .ref fc, .int idn, .int den])), (fc, .inl (cI, 24, .inl ((f5_pb n idn den (q.1 - 1, q.2.1, (f5_ta q.2.2 n q.2.1)) (f5_eb den (nI w.1) n)).2.2)))] H := hP
        have hD : va_D A [(aO, .inr (8, [.int (nI n), .int (f5_pb n idn den (q.1 - 1, q.2.1, (f5_ta q.2.2 n q.2.1)) (f5_eb den (nI w.1) n)).1, .int (nI ((f5_pb n idn den (q.1 - 1, q.2.1, (f5_ta q.2.2 n q.2.1)) (f5_eb den (nI w.1) n)).2.1)), .ref fc, .int idn, .int den])), (fc, .inl (cI, 24, .inl ((f5_pb n idn den (q.1 - 1, q.2.1, (f5_ta q.2.2 n q.2.1)) (f5_eb den (nI w.1) n)).2.2)))] := hD
        have hP : va_P (dC, dI) vwCl [(aO, .inr (8, [.int (nI n), .int (f5_le n idn den q w).1, .int (nI ((f5_le n idn den q w).2.1)), .ref fc, .int idn, .int den])), (fc, .inl (cI, 24, .inl ((f5_le n idn den q w).2.2)))] H := by rw [show (f5_le n idn den q w) = (f5_pb n idn den (q.1 - 1, q.2.1, (f5_ta q.2.2 n q.2.1)) (f5_eb den (nI w.1) n)) from by rw [f5_le, hup]; rfl]; exact hP
        have hD : va_D A [(aO, .inr (8, [.int (nI n), .int (f5_le n idn den q w).1, .int (nI ((f5_le n idn den q w).2.1)), .ref fc, .int idn, .int den])), (fc, .inl (cI, 24, .inl ((f5_le n idn den q w).2.2)))] := by rw [show (f5_le n idn den q w) = (f5_pb n idn den (q.1 - 1, q.2.1, (f5_ta q.2.2 n q.2.1)) (f5_eb den (nI w.1) n)) from by rw [f5_le, hup]; rfl]; exact hD
        rw [hQQ]
        exact W.vret hx hb hr (fun t ht hW => ⟨⟨(), rfl, trivial, by rw [ht]; exact hP, hD⟩, hS.F ht⟩) hS.2.2 dgX5_takeLetter_85
      | succ d ih =>
        intro i hi H locs ls hP hD hS hl
        refine lv_iload_n hx hb dgX5_takeLetter_26 rfl (lv_at hl 3 rfl) ?_
        refine lv_aload_n hx hb dgX5_takeLetter_27 rfl (lv_at hl 0 rfl) ?_
        refine va_get (D := (dC, dI)) (ci := 8) (v := .int (nI q.2.1)) (C := RX5) (T := TX5) (N := 6) hx hb hts (fun _ h => List.mem_cons_of_mem _ (List.mem_append_left _ (List.mem_append_right _ h))) hown hK hP 0 rfl rfl 2 (by decide) (hts (.fieldLink RX5 32 "KnotHouse$Form" "length" "I") (by decide +kernel)) (fun _ h9 => h9) rfl dgX5_takeLetter_28 ?_
        refine lv_icmp_ge (tgt := 59) hx hb dgX5_takeLetter_31 (by decide) (fun c9 => absurd c9 (nI_ge (a := i) (b := q.2.1) (by omega) (by omega))) (fun _ => ?_)
        refine lv_aload_n hx hb dgX5_takeLetter_34 rfl (lv_at hl 0 rfl) ?_
        refine va_get (D := (dC, dI)) (ci := 8) (v := .ref fc) (C := RX5) (T := TX5) (N := 6) hx hb hts (fun _ h => List.mem_cons_of_mem _ (List.mem_append_left _ (List.mem_append_right _ h))) hown hK hP 0 rfl rfl 3 (by decide) (hts (.fieldLink RX5 11 "KnotHouse$Form" "factors" "[I") (by decide +kernel)) (fun _ h9 => h9) rfl dgX5_takeLetter_35 ?_
        refine lv_iload_n hx hb dgX5_takeLetter_38 rfl (lv_at hl 3 rfl) ?_
        refine lv_aload_n hx hb dgX5_takeLetter_39 rfl (lv_at hl 0 rfl) ?_
        refine va_get (D := (dC, dI)) (ci := 8) (v := .ref fc) (C := RX5) (T := TX5) (N := 6) hx hb hts (fun _ h => List.mem_cons_of_mem _ (List.mem_append_left _ (List.mem_append_right _ h))) hown hK hP 0 rfl rfl 3 (by decide) (hts (.fieldLink RX5 11 "KnotHouse$Form" "factors" "[I") (by decide +kernel)) (fun _ h9 => h9) rfl dgX5_takeLetter_40 ?_
        refine lv_iload_n hx hb dgX5_takeLetter_43 rfl (lv_at hl 3 rfl) ?_
        refine va_iald hx hb hK hP 1 0 rfl rfl (vp_in_nI (n := i) (N := 24) (by omega) (by decide)) dgX5_takeLetter_44 ?_
        refine ow_topi (y := (f5_ta q.2.2 n i) i) (congrArg (f5_ta q.2.2 n i) (nI_clamp (n := i) (Nat.lt_trans (m := 24) (by omega) (by decide)))) ?_
        refine lv_aload_n hx hb dgX5_takeLetter_45 rfl (lv_at hl 0 rfl) ?_
        refine va_get (D := (dC, dI)) (ci := 8) (v := .int (nI n)) (C := RX5) (T := TX5) (N := 6) hx hb hts (fun _ h => List.mem_cons_of_mem _ (List.mem_append_left _ (List.mem_append_right _ h))) hown hK hP 0 rfl rfl 0 (by decide) (hts (.fieldLink RX5 25 "KnotHouse$Form" "strands" "I") (by decide +kernel)) (fun _ h9 => h9) rfl dgX5_takeLetter_46 ?_
        have hPc := hP.sub (ws' := []) [] rfl
        refine va_calli (va_runS (As := [.int ((f5_ta q.2.2 n i) i), .int (nI n)]) (rest := [.int (nI i), .ref fc]) ⟨hx, hb, hml, hown, hts⟩ (kg_X5_turned l dC dI cI cB cJ cZ ((f5_ta q.2.2 n i) i) n (by omega)) (va_cwS 2 hts gg_X5_takeLetter_2 rfl rfl rfl (by decide +kernel) ⟨(Nat.le_of_ble_eq_true rfl), (Nat.le_of_ble_eq_true rfl)⟩) ⟨fun a U g mk q => by obtain ⟨q0, qP, qK⟩ := q; exact ⟨q0, qP, va_K.moved (u := U) (U := U.calling g mk a) (Vm.Alike.refl U.vm) qK⟩, fun U hU hW => ⟨rfl, by rw [hU]; exact hPc, va_K.moved hW.alike hK⟩⟩ rfl rfl hl.1 rfl (lv_room (Nat.le_of_ble_eq_true rfl)) dgX5_takeLetter_49 ⟨(Nat.le_of_ble_eq_true rfl), (Nat.le_of_ble_eq_true rfl)⟩) hS (fun q _ h => h.elim) (fun q h => h.elim) (fun ra3 un t H1 locs ht hvm hw9 hB hz1 hk1 hS => ?_)
        have hP := hP.kept (fun k9 x9 h9 => hk1 x9.1 ((hP k9 x9 h9).lt) id)
        generalize H1 = H at hP hS ⊢
        obtain rfl : ra3 = f5_tu ((f5_ta q.2.2 n i) i) n n := hw9
        refine ow_iastF (j := i) (x := f5_tu ((f5_ta q.2.2 n i) i) n n) hx hb hK hP hD hS 1 0 rfl rfl (by omega) (by decide) dgX5_takeLetter_52 (fun H locs hP hD hS => ?_)
        have hP : va_P (dC, dI) vwCl [(aO, .inr (8, [.int (nI n), .int q.1, .int (nI q.2.1), .ref fc, .int idn, .int den])), (fc, .inl (cI, 24, .inl (su (f5_ta q.2.2 n i) i (f5_tu ((f5_ta q.2.2 n i) i) n n))))] H := hP
        have hD : va_D A [(aO, .inr (8, [.int (nI n), .int q.1, .int (nI q.2.1), .ref fc, .int idn, .int den])), (fc, .inl (cI, 24, .inl (su (f5_ta q.2.2 n i) i (f5_tu ((f5_ta q.2.2 n i) i) n n))))] := hD
        have hP : va_P (dC, dI) vwCl [(aO, .inr (8, [.int (nI n), .int q.1, .int (nI q.2.1), .ref fc, .int idn, .int den])), (fc, .inl (cI, 24, .inl (f5_ta q.2.2 n (i + 1))))] H := hP
        have hD : va_D A [(aO, .inr (8, [.int (nI n), .int q.1, .int (nI q.2.1), .ref fc, .int idn, .int den])), (fc, .inl (cI, 24, .inl (f5_ta q.2.2 n (i + 1))))] := hD
        refine lv_iinc (v := nI (i + 1)) (lv' := [(3, .int (nI (i + 1))), (0, .ref aO), (1, .int (ltr w)), (2, .int (nI w.1))]) hx hb dgX5_takeLetter_53 hl (k := 3) rfl (nI_1 i) (by decide) rfl (fun ls hl => ?_)
        refine lv_goto (tgt := 26) hx hb dgX5_takeLetter_56 (by decide) ?_
        exact ih (i + 1) (by omega) H locs ls hP hD hS (lv_sub hl [1, 2, 3, 0] rfl)
    exact L26 q.2.1 0 (by omega) H locs ls hP hD hS (lv_sub hl [2, 3, 1, 0] rfl)
theorem dgX5_cycle_0 : decode cX5_cycle 0 = .ok (.aload_n 0, 1) := by decide +kernel
theorem dgX5_cycle_1 : decode cX5_cycle 1 = .ok (.getfield 32, 3) := by decide +kernel
theorem dgX5_cycle_4 : decode cX5_cycle 4 = .ok (.ifCond .le 67, 3) := by decide +kernel
theorem dgX5_cycle_7 : decode cX5_cycle 7 = .ok (.aload_n 0, 1) := by decide +kernel
theorem dgX5_cycle_8 : decode cX5_cycle 8 = .ok (.getfield 29, 3) := by decide +kernel
theorem dgX5_cycle_11 : decode cX5_cycle 11 = .ok (.iconst 1, 1) := by decide +kernel
theorem dgX5_cycle_12 : decode cX5_cycle 12 = .ok (.iand, 1) := by decide +kernel
theorem dgX5_cycle_13 : decode cX5_cycle 13 = .ok (.ifCond .ne 12, 3) := by decide +kernel
theorem dgX5_cycle_16 : decode cX5_cycle 16 = .ok (.aload_n 0, 1) := by decide +kernel
theorem dgX5_cycle_17 : decode cX5_cycle 17 = .ok (.getfield 11, 3) := by decide +kernel
theorem dgX5_cycle_20 : decode cX5_cycle 20 = .ok (.iconst 0, 1) := by decide +kernel
theorem dgX5_cycle_21 : decode cX5_cycle 21 = .ok (.iaload, 1) := by decide +kernel
theorem dgX5_cycle_22 : decode cX5_cycle 22 = .ok (.goto 16, 3) := by decide +kernel
theorem dgX5_cycle_25 : decode cX5_cycle 25 = .ok (.aload_n 0, 1) := by decide +kernel
theorem dgX5_cycle_26 : decode cX5_cycle 26 = .ok (.getfield 11, 3) := by decide +kernel
theorem dgX5_cycle_29 : decode cX5_cycle 29 = .ok (.iconst 0, 1) := by decide +kernel
theorem dgX5_cycle_30 : decode cX5_cycle 30 = .ok (.iaload, 1) := by decide +kernel
theorem dgX5_cycle_31 : decode cX5_cycle 31 = .ok (.aload_n 0, 1) := by decide +kernel
theorem dgX5_cycle_32 : decode cX5_cycle 32 = .ok (.getfield 25, 3) := by decide +kernel
theorem dgX5_cycle_35 : decode cX5_cycle 35 = .ok (.invokestatic 66, 3) := by decide +kernel
theorem dgX5_cycle_38 : decode cX5_cycle 38 = .ok (.istore_n 1, 1) := by decide +kernel
theorem dgX5_cycle_39 : decode cX5_cycle 39 = .ok (.aload_n 0, 1) := by decide +kernel
theorem dgX5_cycle_40 : decode cX5_cycle 40 = .ok (.dup, 1) := by decide +kernel
theorem dgX5_cycle_41 : decode cX5_cycle 41 = .ok (.getfield 32, 3) := by decide +kernel
theorem dgX5_cycle_44 : decode cX5_cycle 44 = .ok (.iconst 1, 1) := by decide +kernel
theorem dgX5_cycle_45 : decode cX5_cycle 45 = .ok (.isub, 1) := by decide +kernel
theorem dgX5_cycle_46 : decode cX5_cycle 46 = .ok (.putfield 32, 3) := by decide +kernel
theorem dgX5_cycle_49 : decode cX5_cycle 49 = .ok (.aload_n 0, 1) := by decide +kernel
theorem dgX5_cycle_50 : decode cX5_cycle 50 = .ok (.getfield 11, 3) := by decide +kernel
theorem dgX5_cycle_53 : decode cX5_cycle 53 = .ok (.iconst 1, 1) := by decide +kernel
theorem dgX5_cycle_54 : decode cX5_cycle 54 = .ok (.aload_n 0, 1) := by decide +kernel
theorem dgX5_cycle_55 : decode cX5_cycle 55 = .ok (.getfield 11, 3) := by decide +kernel
theorem dgX5_cycle_58 : decode cX5_cycle 58 = .ok (.iconst 0, 1) := by decide +kernel
theorem dgX5_cycle_59 : decode cX5_cycle 59 = .ok (.aload_n 0, 1) := by decide +kernel
theorem dgX5_cycle_60 : decode cX5_cycle 60 = .ok (.getfield 32, 3) := by decide +kernel
theorem dgX5_cycle_63 : decode cX5_cycle 63 = .ok (.invokestatic 52, 3) := by decide +kernel
theorem dgX5_cycle_66 : decode cX5_cycle 66 = .ok (.aload_n 0, 1) := by decide +kernel
theorem dgX5_cycle_67 : decode cX5_cycle 67 = .ok (.iload_n 1, 1) := by decide +kernel
theorem dgX5_cycle_68 : decode cX5_cycle 68 = .ok (.invokevirtual 63, 3) := by decide +kernel
theorem dgX5_cycle_71 : decode cX5_cycle 71 = .ok (.return_, 1) := by decide +kernel
def wg_X5_cycle : List Cond := .code yX5_cycle cX5_cycle 2 none :: (([.fieldLink RX5 32 "KnotHouse$Form" "length" "I", .fieldLink RX5 29 "KnotHouse$Form" "power" "I", .fieldLink RX5 11 "KnotHouse$Form" "factors" "[I", .fieldLink RX5 25 "KnotHouse$Form" "strands" "I", .methodLink RX5 52 arraycopyName, .native arraycopyName, .static arraycopyName, .initialized "java/lang/System"] ++ wsX50) ++ (va_wsS RX5 66 yX5_turned wg_X5_turned ++ (wsV RX5 63 RX5 yX5_putBehind wg_X5_putBehind ++ [])))
theorem gg_X5_cycle_0 : GoodIn wg_X5_cycle (va_wsS RX5 66 yX5_turned wg_X5_turned) := goodIn_sub (fun _ h => List.mem_cons_of_mem _ (List.mem_append_right _ (List.mem_append_left _ h))) (by decide +kernel)
theorem gg_X5_cycle_1 : GoodIn wg_X5_cycle (wsV RX5 63 RX5 yX5_putBehind wg_X5_putBehind) := goodIn_sub (fun _ h => List.mem_cons_of_mem _ (List.mem_append_right _ (List.mem_append_right _ (List.mem_append_left _ h)))) (by decide +kernel)
set_option maxHeartbeats 4000000 in
set_option maxRecDepth 100000 in
theorem kg_X5_cycle (l : Launch) (dC : Nat → ClassId) (dI : Nat → Nat → Nat) (cI cB cJ cZ : ClassId) (aO fc n : Nat) (hn1 : 1 ≤ n) (hn9 : n < 100) (idn den : Int32) (q : ow_FO) (hq : q.2.1 ≤ 24) (sz : Nat) : Met l yX5_cycle wg_X5_cycle (({ frames := 4, cells := 0, slots := 0, locals := 180 } : Room)) (va_Pc [.ref aO] (fun U => U.heap.size = sz ∧ va_P (dC, dI) vwCl [(aO, .inr (8, [.int (nI n), .int q.1, .int (nI q.2.1), .ref fc, .int idn, .int den])), (fc, .inl (cI, 24, .inl q.2.2))] U.heap ∧ va_K (dC, dI) vwCl [(cI, .int), (cB, .byte), (cJ, .long), (cZ, .boolean)] U ∧ va_D (fun _ => True) [(aO, .inr (8, [.int (nI n), .int q.1, .int (nI q.2.1), .ref fc, .int idn, .int den])), (fc, .inl (cI, 24, .inl q.2.2))])) (va_Qv (fun (g : Unit) => True) (fun g t => va_P (dC, dI) vwCl [(aO, .inr (8, [.int (nI n), .int (f5_cy n idn den q).1, .int (nI ((f5_cy n idn den q).2.1)), .ref fc, .int idn, .int den])), (fc, .inl (cI, 24, .inl ((f5_cy n idn den q).2.2)))] t.heap ∧ va_D (va_A [(aO, .inr (8, [.int (nI n), .int q.1, .int (nI q.2.1), .ref fc, .int idn, .int den])), (fc, .inl (cI, 24, .inl q.2.2))] sz) [(aO, .inr (8, [.int (nI n), .int (f5_cy n idn den q).1, .int (nI ((f5_cy n idn den q).2.1)), .ref fc, .int idn, .int den])), (fc, .inl (cI, 24, .inl ((f5_cy n idn den q).2.2)))]) (va_A [(aO, .inr (8, [.int (nI n), .int q.1, .int (nI q.2.1), .ref fc, .int idn, .int den])), (fc, .inl (cI, 24, .inl q.2.2))] sz)) 0 0 (va_A [(aO, .inr (8, [.int (nI n), .int q.1, .int (nI q.2.1), .ref fc, .int idn, .int den])), (fc, .inl (cI, 24, .inl q.2.2))] sz) := by
  refine Met.ofW (cc := cX5_cycle) (maxL := 2) (ret := none) (by decide) rfl ?_
  intro p e s m args below meth c s₁ B hml hv
  obtain ⟨rfl, hsz, hP, hK, hD0⟩ := hv
  have hx := B.exec
  have hb := B.bytes
  have hr := B.returns
  have hts := atoms_spec (ws := wg_X5_cycle) B.pre
  have hown : s.vm.findClass RX5 = some m.cls := findClass_of_methodNamed B.named
  have hlocks := B.notSynchronized
  subst hsz
  have hD := hD0.self (sz := s.heap.size)
  generalize hAe : va_A [(aO, .inr (8, [.int (nI n), .int q.1, .int (nI q.2.1), .ref fc, .int idn, .int den])), (fc, .inl (cI, 24, .inl q.2.2))] s.heap.size = A at hD ⊢
  have hA : ∀ q : Nat, s.heap.size ≤ q → A q := fun q h => by rw [← hAe]; exact Or.inr h
  have hS : va_S A s.heap s.heap [] := va_S.rf
  have hP : va_P (dC, dI) vwCl [(aO, .inr (8, [.int (nI n), .int q.1, .int (nI q.2.1), .ref fc, .int idn, .int den])), (fc, .inl (cI, 24, .inl q.2.2))] s.heap := hP
  have hl := lv_entry ([.ref aO]) (n := 2) (Nat.le_of_ble_eq_true rfl)
  rw [lg_entry_eq]
  generalize (lg_sl ([.ref aO]) ++ List.replicate (2 - (lg_sl ([.ref aO])).length) Slot.unset).toArray = ls at hl ⊢
  have hl : lv_has ls 2 [(0, .ref aO)] := hl
  refine ow_named (fun QQ hQQ => ?_)
  suffices key9 : ∀ (H : Heap) (locs : List Loc), va_P (dC, dI) vwCl [(aO, .inr (8, [.int (nI n), .int q.1, .int (nI q.2.1), .ref fc, .int idn, .int den])), (fc, .inl (cI, 24, .inl q.2.2))] H → va_S A s.heap H locs → W p l e ({ frames := 4, cells := 0, slots := 0, locals := 180 } : Room) s m ([.ref aO] : List Value).toArray below meth c H locs 0 0 QQ (F0 m 0 ls []) from key9 s.heap [] hP hS
  intro H locs hP hS
  refine lv_aload_n hx hb dgX5_cycle_0 rfl (lv_at hl 0 rfl) ?_
  refine va_get (D := (dC, dI)) (ci := 8) (v := .int (nI q.2.1)) (C := RX5) (T := TX5) (N := 6) hx hb hts (fun _ h => List.mem_cons_of_mem _ (List.mem_append_left _ (List.mem_append_right _ h))) hown hK hP 0 rfl rfl 2 (by decide) (hts (.fieldLink RX5 32 "KnotHouse$Form" "length" "I") (by decide +kernel)) (fun _ h9 => h9) rfl dgX5_cycle_1 ?_
  rcases Nat.eq_zero_or_pos q.2.1 with h0 | h0
  · refine lv_if_le (tgt := 71) hx hb dgX5_cycle_4 (by decide) (fun _ => ?_) (fun c9 => absurd (by rw [h0]; decide) c9)
    have hP : va_P (dC, dI) vwCl [(aO, .inr (8, [.int (nI n), .int (f5_cy n idn den q).1, .int (nI ((f5_cy n idn den q).2.1)), .ref fc, .int idn, .int den])), (fc, .inl (cI, 24, .inl ((f5_cy n idn den q).2.2)))] H := by rw [show (f5_cy n idn den q) = q from if_neg (by omega)]; exact hP
    have hD : va_D A [(aO, .inr (8, [.int (nI n), .int (f5_cy n idn den q).1, .int (nI ((f5_cy n idn den q).2.1)), .ref fc, .int idn, .int den])), (fc, .inl (cI, 24, .inl ((f5_cy n idn den q).2.2)))] := by rw [show (f5_cy n idn den q) = q from if_neg (by omega)]; exact hD
    rw [hQQ]
    exact W.vret hx hb hr (fun t ht hW => ⟨⟨(), rfl, trivial, by rw [ht]; exact hP, hD⟩, hS.F ht⟩) hS.2.2 dgX5_cycle_71
  · refine lv_if_le (tgt := 71) hx hb dgX5_cycle_4 (by decide) (fun c9 => absurd c9 (Int32.not_le.mpr (nI_lt (a := 0) (b := q.2.1) h0 (by omega)))) (fun _ => ?_)
    refine lv_aload_n hx hb dgX5_cycle_7 rfl (lv_at hl 0 rfl) ?_
    refine va_get (D := (dC, dI)) (ci := 8) (v := .int q.1) (C := RX5) (T := TX5) (N := 6) hx hb hts (fun _ h => List.mem_cons_of_mem _ (List.mem_append_left _ (List.mem_append_right _ h))) hown hK hP 0 rfl rfl 1 (by decide) (hts (.fieldLink RX5 29 "KnotHouse$Form" "power" "I") (by decide +kernel)) (fun _ h9 => h9) rfl dgX5_cycle_8 ?_
    refine lv_iconst (v := 1) hx hb dgX5_cycle_11 (by decide) ?_
    refine lv_iand hx hb dgX5_cycle_12 ?_
    have K38 : ∀ (H : Heap) (locs : List Loc) (ls : Array Slot), va_P (dC, dI) vwCl [(aO, .inr (8, [.int (nI n), .int q.1, .int (nI q.2.1), .ref fc, .int idn, .int den])), (fc, .inl (cI, 24, .inl q.2.2))] H → va_D A [(aO, .inr (8, [.int (nI n), .int q.1, .int (nI q.2.1), .ref fc, .int idn, .int den])), (fc, .inl (cI, 24, .inl q.2.2))] → va_S A s.heap H locs → lv_has ls 2 [(0, .ref aO)] → W p l e ({ frames := 4, cells := 0, slots := 0, locals := 180 } : Room) s m ([.ref aO] : List Value).toArray below meth c H locs 0 0 QQ (F0 m 38 ls [.int (f5_pt q.1 (q.2.2 0) n)]) := by
      intro H locs ls hP hD hS hl
      refine lv_istore_n (lv' := [(1, .int (f5_pt q.1 (q.2.2 0) n)), (0, .ref aO)]) hx hb dgX5_cycle_38 rfl hl (by decide) rfl (fun ls hl => ?_)
      refine lv_aload_n hx hb dgX5_cycle_39 rfl (lv_at hl 1 rfl) ?_
      refine lv_dup hx hb dgX5_cycle_40 rfl ?_
      refine va_get (D := (dC, dI)) (ci := 8) (v := .int (nI q.2.1)) (C := RX5) (T := TX5) (N := 6) hx hb hts (fun _ h => List.mem_cons_of_mem _ (List.mem_append_left _ (List.mem_append_right _ h))) hown hK hP 0 rfl rfl 2 (by decide) (hts (.fieldLink RX5 32 "KnotHouse$Form" "length" "I") (by decide +kernel)) (fun _ h9 => h9) rfl dgX5_cycle_41 ?_
      refine lv_iconst (v := 1) hx hb dgX5_cycle_44 (by decide) ?_
      refine lv_isub hx hb dgX5_cycle_45 ?_
      refine ow_topi (y := nI (q.2.1 - 1)) (pk_sub (b := 1) h0) ?_
      refine va_put (D := (dC, dI)) (ci := 8) (v := .int (nI (q.2.1 - 1))) (ty := .int) (C := RX5) (T := TX5) (N := 6) hx hb hts (fun _ h => List.mem_cons_of_mem _ (List.mem_append_left _ (List.mem_append_right _ h))) tyX5 tyX5_ok nmX5 hown hK hP hD hS 0 rfl rfl 2 (by decide) (hts (.fieldLink RX5 32 "KnotHouse$Form" "length" "I") (by decide +kernel)) (fun _ h9 => h9) rfl (by decide +kernel) rfl rfl (Nat.le_of_ble_eq_true rfl) dgX5_cycle_46 (fun H locs hP hD hS => ?_)
      have hP : va_P (dC, dI) vwCl [(aO, .inr (8, [.int (nI n), .int q.1, .int (nI (q.2.1 - 1)), .ref fc, .int idn, .int den])), (fc, .inl (cI, 24, .inl q.2.2))] H := hP
      have hD : va_D A [(aO, .inr (8, [.int (nI n), .int q.1, .int (nI (q.2.1 - 1)), .ref fc, .int idn, .int den])), (fc, .inl (cI, 24, .inl q.2.2))] := hD
      refine lv_aload_n hx hb dgX5_cycle_49 rfl (lv_at hl 1 rfl) ?_
      refine va_get (D := (dC, dI)) (ci := 8) (v := .ref fc) (C := RX5) (T := TX5) (N := 6) hx hb hts (fun _ h => List.mem_cons_of_mem _ (List.mem_append_left _ (List.mem_append_right _ h))) hown hK hP 0 rfl rfl 3 (by decide) (hts (.fieldLink RX5 11 "KnotHouse$Form" "factors" "[I") (by decide +kernel)) (fun _ h9 => h9) rfl dgX5_cycle_50 ?_
      refine lv_iconst (v := 1) hx hb dgX5_cycle_53 (by decide) ?_
      refine ow_topi (y := nI 1) (by decide) ?_
      refine lv_aload_n hx hb dgX5_cycle_54 rfl (lv_at hl 1 rfl) ?_
      refine va_get (D := (dC, dI)) (ci := 8) (v := .ref fc) (C := RX5) (T := TX5) (N := 6) hx hb hts (fun _ h => List.mem_cons_of_mem _ (List.mem_append_left _ (List.mem_append_right _ h))) hown hK hP 0 rfl rfl 3 (by decide) (hts (.fieldLink RX5 11 "KnotHouse$Form" "factors" "[I") (by decide +kernel)) (fun _ h9 => h9) rfl dgX5_cycle_55 ?_
      refine lv_iconst (v := 0) hx hb dgX5_cycle_58 (by decide) ?_
      refine ow_topi (y := nI 0) (by decide) ?_
      refine lv_aload_n hx hb dgX5_cycle_59 rfl (lv_at hl 1 rfl) ?_
      refine va_get (D := (dC, dI)) (ci := 8) (v := .int (nI (q.2.1 - 1))) (C := RX5) (T := TX5) (N := 6) hx hb hts (fun _ h => List.mem_cons_of_mem _ (List.mem_append_left _ (List.mem_append_right _ h))) hown hK hP 0 rfl rfl 2 (by decide) (hts (.fieldLink RX5 32 "KnotHouse$Form" "length" "I") (by decide +kernel)) (fun _ h9 => h9) rfl dgX5_cycle_60 ?_
      refine ow_cpyi (sp := 1) (dp := 0) (n := q.2.1 - 1) hx hb (by rw [hml]; exact hl.1.symm) hown (hts (.methodLink RX5 52 arraycopyName) (by decide +kernel)) (hts (.native arraycopyName) (by decide +kernel)) (hts (.static arraycopyName) (by decide +kernel)) (hts (.initialized "java/lang/System") (by decide +kernel)) hK hP hD hS 1 1 0 0 rfl rfl rfl rfl (by omega) (by omega) (by decide) (by decide) (Nat.le_of_ble_eq_true rfl) (by decide) dgX5_cycle_63 (fun H locs hP hD hS => ?_)
      have hP : va_P (dC, dI) vwCl [(aO, .inr (8, [.int (nI n), .int q.1, .int (nI (q.2.1 - 1)), .ref fc, .int idn, .int den])), (fc, .inl (cI, 24, .inl (va_cpy q.2.2 q.2.2 1 0 (q.2.1 - 1))))] H := hP
      have hD : va_D A [(aO, .inr (8, [.int (nI n), .int q.1, .int (nI (q.2.1 - 1)), .ref fc, .int idn, .int den])), (fc, .inl (cI, 24, .inl (va_cpy q.2.2 q.2.2 1 0 (q.2.1 - 1))))] := hD
      refine lv_aload_n hx hb dgX5_cycle_66 rfl (lv_at hl 1 rfl) ?_
      refine lv_iload_n hx hb dgX5_cycle_67 rfl (lv_at hl 0 rfl) ?_
      have hPc := hP.sub (ws' := [(aO, .inr (8, [.int (nI n), .int q.1, .int (nI (q.2.1 - 1)), .ref fc, .int idn, .int den])), (fc, .inl (cI, 24, .inl (va_cpy q.2.2 q.2.2 1 0 (q.2.1 - 1))))]) [0, 1] rfl
      have hDc := hD.sub (ws' := [(aO, .inr (8, [.int (nI n), .int q.1, .int (nI (q.2.1 - 1)), .ref fc, .int idn, .int den])), (fc, .inl (cI, 24, .inl (va_cpy q.2.2 q.2.2 1 0 (q.2.1 - 1))))]) [0, 1] (by decide) rfl
      have hFc := va_free (wc := [(aO, .inr (8, [.int (nI n), .int q.1, .int (nI (q.2.1 - 1)), .ref fc, .int idn, .int den])), (fc, .inl (cI, 24, .inl (va_cpy q.2.2 q.2.2 1 0 (q.2.1 - 1))))]) hD hS hA [0, 1] rfl
      refine va_callv (va_runV (As := [.int (f5_pt q.1 (q.2.2 0) n)]) (rest := []) ⟨hx, hb, hml, hown, hts⟩ (kg_X5_putBehind l dC dI cI cB cJ cZ aO fc n hn1 hn9 idn den (q.1, q.2.1 - 1, va_cpy q.2.2 q.2.2 1 0 (q.2.1 - 1)) (show q.2.1 - 1 ≤ 24 by omega) (f5_pt q.1 (q.2.2 0) n) H.size) (cwV 1 hts gg_X5_cycle_1 rfl rfl rfl (by decide +kernel) ⟨(Nat.le_of_ble_eq_true rfl), (Nat.le_of_ble_eq_true rfl)⟩) ⟨fun a U g mk q => by obtain ⟨q0, q1, qP, qK, qD⟩ := q; exact ⟨q0, q1, qP, va_K.moved (u := U) (U := U.calling g mk a) (Vm.Alike.refl U.vm) qK, qD⟩, va_recv hK hPc (ci := 8) (q0 := 0) rfl rfl, fun U hU hW => ⟨rfl, by rw [hU], by rw [hU]; exact hPc, va_K.moved hW.alike hK, hDc.weaken (fun _ _ _ _ => trivial)⟩⟩ rfl rfl hl.1 rfl (lv_room (Nat.le_of_ble_eq_true rfl)) dgX5_cycle_68 ⟨(Nat.le_of_ble_eq_true rfl), (Nat.le_of_ble_eq_true rfl)⟩) hS (fun q _ h => hFc q h) hFc (fun u9 t H1 locs ht hvm hw hB hz1 hk1 hS => ?_)
      obtain ⟨hP1, hD1⟩ := hB
      rw [ht] at hP1
      obtain ⟨hP, hD⟩ := va_join (wr := []) (w1 := [(aO, .inr (8, [.int (nI n), .int (f5_pb n idn den (q.1, q.2.1 - 1, va_cpy q.2.2 q.2.2 1 0 (q.2.1 - 1)) (f5_pt q.1 (q.2.2 0) n)).1, .int (nI ((f5_pb n idn den (q.1, q.2.1 - 1, va_cpy q.2.2 q.2.2 1 0 (q.2.1 - 1)) (f5_pt q.1 (q.2.2 0) n)).2.1)), .ref fc, .int idn, .int den])), (fc, .inl (cI, 24, .inl ((f5_pb n idn den (q.1, q.2.1 - 1, va_cpy q.2.2 q.2.2 1 0 (q.2.1 - 1)) (f5_pt q.1 (q.2.2 0) n)).2.2)))]) hP hD [0, 1] [] rfl rfl (by decide) (by decide) hk1 hFc hP1 hD1
      generalize H1 = H at hP hS ⊢
      have hP : va_P (dC, dI) vwCl [(aO, .inr (8, [.int (nI n), .int (f5_pb n idn den (q.1, q.2.1 - 1, va_cpy q.2.2 q.2.2 1 0 (q.2.1 - 1)) (f5_pt q.1 (q.2.2 0) n)).1, .int (nI ((f5_pb n idn den (q.1, q.2.1 - 1, va_cpy q.2.2 q.2.2 1 0 (q.2.1 - 1)) (f5_pt q.1 (q.2.2 0) n)).2.1)), .ref fc, .int idn, .int den])), (fc, .inl (cI, 24, .inl ((f5_pb n idn den (q.1, q.2.1 - 1, va_cpy q.2.2 q.2.2 1 0 (q.2.1 - 1)) (f5_pt q.1 (q.2.2 0) n)).2.2)))] H := hP
      have hD : va_D A [(aO, .inr (8, [.int (nI n), .int (f5_pb n idn den (q.1, q.2.1 - 1, va_cpy q.2.2 q.2.2 1 0 (q.2.1 - 1)) (f5_pt q.1 (q.2.2 0) n)).1, .int (nI ((f5_pb n idn den (q.1, q.2.1 - 1, va_cpy q.2.2 q.2.2 1 0 (q.2.1 - 1)) (f5_pt q.1 (q.2.2 0) n)).2.1)), .ref fc, .int idn, .int den])), (fc, .inl (cI, 24, .inl ((f5_pb n idn den (q.1, q.2.1 - 1, va_cpy q.2.2 q.2.2 1 0 (q.2.1 - 1)) (f5_pt q.1 (q.2.2 0) n)).2.2)))] := hD
      have hP : va_P (dC, dI) vwCl [(aO, .inr (8, [.int (nI n), .int (f5_cy n idn den q).1, .int (nI ((f5_cy n idn den q).2.1)), .ref fc, .int idn, .int den])), (fc, .inl (cI, 24, .inl ((f5_cy n idn den q).2.2)))] H := by rw [show (f5_cy n idn den q) = (f5_pb n idn den (q.1, q.2.1 - 1, va_cpy q.2.2 q.2.2 1 0 (q.2.1 - 1)) (f5_pt q.1 (q.2.2 0) n)) from if_pos h0]; exact hP
      have hD : va_D A [(aO, .inr (8, [.int (nI n), .int (f5_cy n idn den q).1, .int (nI ((f5_cy n idn den q).2.1)), .ref fc, .int idn, .int den])), (fc, .inl (cI, 24, .inl ((f5_cy n idn den q).2.2)))] := by rw [show (f5_cy n idn den q) = (f5_pb n idn den (q.1, q.2.1 - 1, va_cpy q.2.2 q.2.2 1 0 (q.2.1 - 1)) (f5_pt q.1 (q.2.2 0) n)) from if_pos h0]; exact hD
      rw [hQQ]
      exact W.vret hx hb hr (fun t ht hW => ⟨⟨(), rfl, trivial, by rw [ht]; exact hP, hD⟩, hS.F ht⟩) hS.2.2 dgX5_cycle_71
    refine lv_if_ne (tgt := 25) hx hb dgX5_cycle_13 (by decide) (fun c1 => ?_) (fun c1 => ?_)
    · refine lv_aload_n hx hb dgX5_cycle_25 rfl (lv_at hl 0 rfl) ?_
      refine va_get (D := (dC, dI)) (ci := 8) (v := .ref fc) (C := RX5) (T := TX5) (N := 6) hx hb hts (fun _ h => List.mem_cons_of_mem _ (List.mem_append_left _ (List.mem_append_right _ h))) hown hK hP 0 rfl rfl 3 (by decide) (hts (.fieldLink RX5 11 "KnotHouse$Form" "factors" "[I") (by decide +kernel)) (fun _ h9 => h9) rfl dgX5_cycle_26 ?_
      refine lv_iconst (v := 0) hx hb dgX5_cycle_29 (by decide) ?_
      refine ow_topi (y := nI 0) (by decide) ?_
      refine va_iald hx hb hK hP 1 0 rfl rfl (vp_in_nI (n := 0) (N := 24) (by decide) (by decide)) dgX5_cycle_30 ?_
      refine ow_topi (y := q.2.2 0) (congrArg q.2.2 (nI_clamp (n := 0) (Nat.lt_trans (m := 24) (by decide) (by decide)))) ?_
      refine lv_aload_n hx hb dgX5_cycle_31 rfl (lv_at hl 0 rfl) ?_
      refine va_get (D := (dC, dI)) (ci := 8) (v := .int (nI n)) (C := RX5) (T := TX5) (N := 6) hx hb hts (fun _ h => List.mem_cons_of_mem _ (List.mem_append_left _ (List.mem_append_right _ h))) hown hK hP 0 rfl rfl 0 (by decide) (hts (.fieldLink RX5 25 "KnotHouse$Form" "strands" "I") (by decide +kernel)) (fun _ h9 => h9) rfl dgX5_cycle_32 ?_
      have hPc := hP.sub (ws' := []) [] rfl
      refine va_calli (va_runS (As := [.int (q.2.2 0), .int (nI n)]) (rest := []) ⟨hx, hb, hml, hown, hts⟩ (kg_X5_turned l dC dI cI cB cJ cZ (q.2.2 0) n (by omega)) (va_cwS 2 hts gg_X5_cycle_0 rfl rfl rfl (by decide +kernel) ⟨(Nat.le_of_ble_eq_true rfl), (Nat.le_of_ble_eq_true rfl)⟩) ⟨fun a U g mk q => by obtain ⟨q0, qP, qK⟩ := q; exact ⟨q0, qP, va_K.moved (u := U) (U := U.calling g mk a) (Vm.Alike.refl U.vm) qK⟩, fun U hU hW => ⟨rfl, by rw [hU]; exact hPc, va_K.moved hW.alike hK⟩⟩ rfl rfl hl.1 rfl (lv_room (Nat.le_of_ble_eq_true rfl)) dgX5_cycle_35 ⟨(Nat.le_of_ble_eq_true rfl), (Nat.le_of_ble_eq_true rfl)⟩) hS (fun q _ h => h.elim) (fun q h => h.elim) (fun ra1 un t H1 locs ht hvm hw9 hB hz1 hk1 hS => ?_)
      have hP := hP.kept (fun k9 x9 h9 => hk1 x9.1 ((hP k9 x9 h9).lt) id)
      generalize H1 = H at hP hS ⊢
      obtain rfl : ra1 = f5_tu (q.2.2 0) n n := hw9
      refine ow_topi (y := (f5_pt q.1 (q.2.2 0) n)) (by rw [f5_pt, if_neg c1]) ?_
      exact K38 H locs ls hP hD hS (lv_sub hl [0] rfl)
    · refine lv_aload_n hx hb dgX5_cycle_16 rfl (lv_at hl 0 rfl) ?_
      refine va_get (D := (dC, dI)) (ci := 8) (v := .ref fc) (C := RX5) (T := TX5) (N := 6) hx hb hts (fun _ h => List.mem_cons_of_mem _ (List.mem_append_left _ (List.mem_append_right _ h))) hown hK hP 0 rfl rfl 3 (by decide) (hts (.fieldLink RX5 11 "KnotHouse$Form" "factors" "[I") (by decide +kernel)) (fun _ h9 => h9) rfl dgX5_cycle_17 ?_
      refine lv_iconst (v := 0) hx hb dgX5_cycle_20 (by decide) ?_
      refine ow_topi (y := nI 0) (by decide) ?_
      refine va_iald hx hb hK hP 1 0 rfl rfl (vp_in_nI (n := 0) (N := 24) (by decide) (by decide)) dgX5_cycle_21 ?_
      refine ow_topi (y := q.2.2 0) (congrArg q.2.2 (nI_clamp (n := 0) (Nat.lt_trans (m := 24) (by decide) (by decide)))) ?_
      refine lv_goto (tgt := 38) hx hb dgX5_cycle_22 (by decide) ?_
      refine ow_topi (y := (f5_pt q.1 (q.2.2 0) n)) (by rw [f5_pt, if_pos c1]) ?_
      exact K38 H locs ls hP hD hS (lv_sub hl [0] rfl)
theorem dgX5_decycle_0 : decode cX5_decycle 0 = .ok (.aload_n 0, 1) := by decide +kernel
theorem dgX5_decycle_1 : decode cX5_decycle 1 = .ok (.getfield 32, 3) := by decide +kernel
theorem dgX5_decycle_4 : decode cX5_decycle 4 = .ok (.ifCond .le 50, 3) := by decide +kernel
theorem dgX5_decycle_7 : decode cX5_decycle 7 = .ok (.aload_n 0, 1) := by decide +kernel
theorem dgX5_decycle_8 : decode cX5_decycle 8 = .ok (.getfield 11, 3) := by decide +kernel
theorem dgX5_decycle_11 : decode cX5_decycle 11 = .ok (.aload_n 0, 1) := by decide +kernel
theorem dgX5_decycle_12 : decode cX5_decycle 12 = .ok (.getfield 32, 3) := by decide +kernel
theorem dgX5_decycle_15 : decode cX5_decycle 15 = .ok (.iconst 1, 1) := by decide +kernel
theorem dgX5_decycle_16 : decode cX5_decycle 16 = .ok (.isub, 1) := by decide +kernel
theorem dgX5_decycle_17 : decode cX5_decycle 17 = .ok (.iaload, 1) := by decide +kernel
theorem dgX5_decycle_18 : decode cX5_decycle 18 = .ok (.istore_n 1, 1) := by decide +kernel
theorem dgX5_decycle_19 : decode cX5_decycle 19 = .ok (.aload_n 0, 1) := by decide +kernel
theorem dgX5_decycle_20 : decode cX5_decycle 20 = .ok (.dup, 1) := by decide +kernel
theorem dgX5_decycle_21 : decode cX5_decycle 21 = .ok (.getfield 32, 3) := by decide +kernel
theorem dgX5_decycle_24 : decode cX5_decycle 24 = .ok (.iconst 1, 1) := by decide +kernel
theorem dgX5_decycle_25 : decode cX5_decycle 25 = .ok (.isub, 1) := by decide +kernel
theorem dgX5_decycle_26 : decode cX5_decycle 26 = .ok (.putfield 32, 3) := by decide +kernel
theorem dgX5_decycle_29 : decode cX5_decycle 29 = .ok (.aload_n 0, 1) := by decide +kernel
theorem dgX5_decycle_30 : decode cX5_decycle 30 = .ok (.aload_n 0, 1) := by decide +kernel
theorem dgX5_decycle_31 : decode cX5_decycle 31 = .ok (.getfield 29, 3) := by decide +kernel
theorem dgX5_decycle_34 : decode cX5_decycle 34 = .ok (.iconst 1, 1) := by decide +kernel
theorem dgX5_decycle_35 : decode cX5_decycle 35 = .ok (.iand, 1) := by decide +kernel
theorem dgX5_decycle_36 : decode cX5_decycle 36 = .ok (.ifCond .ne 7, 3) := by decide +kernel
theorem dgX5_decycle_39 : decode cX5_decycle 39 = .ok (.iload_n 1, 1) := by decide +kernel
theorem dgX5_decycle_40 : decode cX5_decycle 40 = .ok (.goto 11, 3) := by decide +kernel
theorem dgX5_decycle_43 : decode cX5_decycle 43 = .ok (.iload_n 1, 1) := by decide +kernel
theorem dgX5_decycle_44 : decode cX5_decycle 44 = .ok (.aload_n 0, 1) := by decide +kernel
theorem dgX5_decycle_45 : decode cX5_decycle 45 = .ok (.getfield 25, 3) := by decide +kernel
theorem dgX5_decycle_48 : decode cX5_decycle 48 = .ok (.invokestatic 66, 3) := by decide +kernel
theorem dgX5_decycle_51 : decode cX5_decycle 51 = .ok (.invokevirtual 83, 3) := by decide +kernel
theorem dgX5_decycle_54 : decode cX5_decycle 54 = .ok (.return_, 1) := by decide +kernel
def wg_X5_decycle : List Cond := .code yX5_decycle cX5_decycle 2 none :: (([.fieldLink RX5 32 "KnotHouse$Form" "length" "I", .fieldLink RX5 29 "KnotHouse$Form" "power" "I", .fieldLink RX5 11 "KnotHouse$Form" "factors" "[I", .fieldLink RX5 25 "KnotHouse$Form" "strands" "I"] ++ wsX50) ++ (va_wsS RX5 66 yX5_turned wg_X5_turned ++ (wsV RX5 83 RX5 yX5_putBefore wg_X5_putBefore ++ [])))
theorem gg_X5_decycle_0 : GoodIn wg_X5_decycle (va_wsS RX5 66 yX5_turned wg_X5_turned) := goodIn_sub (fun _ h => List.mem_cons_of_mem _ (List.mem_append_right _ (List.mem_append_left _ h))) (by decide +kernel)
theorem gg_X5_decycle_1 : GoodIn wg_X5_decycle (wsV RX5 83 RX5 yX5_putBefore wg_X5_putBefore) := goodIn_sub (fun _ h => List.mem_cons_of_mem _ (List.mem_append_right _ (List.mem_append_right _ (List.mem_append_left _ h)))) (by decide +kernel)
set_option maxHeartbeats 4000000 in
set_option maxRecDepth 100000 in
theorem kg_X5_decycle (l : Launch) (dC : Nat → ClassId) (dI : Nat → Nat → Nat) (cI cB cJ cZ : ClassId) (aO fc n : Nat) (hn1 : 1 ≤ n) (hn9 : n < 100) (idn den : Int32) (q : ow_FO) (hq : q.2.1 ≤ 24) (sz : Nat) : Met l yX5_decycle wg_X5_decycle (({ frames := 4, cells := 0, slots := 0, locals := 180 } : Room)) (va_Pc [.ref aO] (fun U => U.heap.size = sz ∧ va_P (dC, dI) vwCl [(aO, .inr (8, [.int (nI n), .int q.1, .int (nI q.2.1), .ref fc, .int idn, .int den])), (fc, .inl (cI, 24, .inl q.2.2))] U.heap ∧ va_K (dC, dI) vwCl [(cI, .int), (cB, .byte), (cJ, .long), (cZ, .boolean)] U ∧ va_D (fun _ => True) [(aO, .inr (8, [.int (nI n), .int q.1, .int (nI q.2.1), .ref fc, .int idn, .int den])), (fc, .inl (cI, 24, .inl q.2.2))])) (va_Qv (fun (g : Unit) => True) (fun g t => va_P (dC, dI) vwCl [(aO, .inr (8, [.int (nI n), .int (f5_dc n idn den q).1, .int (nI ((f5_dc n idn den q).2.1)), .ref fc, .int idn, .int den])), (fc, .inl (cI, 24, .inl ((f5_dc n idn den q).2.2)))] t.heap ∧ va_D (va_A [(aO, .inr (8, [.int (nI n), .int q.1, .int (nI q.2.1), .ref fc, .int idn, .int den])), (fc, .inl (cI, 24, .inl q.2.2))] sz) [(aO, .inr (8, [.int (nI n), .int (f5_dc n idn den q).1, .int (nI ((f5_dc n idn den q).2.1)), .ref fc, .int idn, .int den])), (fc, .inl (cI, 24, .inl ((f5_dc n idn den q).2.2)))]) (va_A [(aO, .inr (8, [.int (nI n), .int q.1, .int (nI q.2.1), .ref fc, .int idn, .int den])), (fc, .inl (cI, 24, .inl q.2.2))] sz)) 0 0 (va_A [(aO, .inr (8, [.int (nI n), .int q.1, .int (nI q.2.1), .ref fc, .int idn, .int den])), (fc, .inl (cI, 24, .inl q.2.2))] sz) := by
  refine Met.ofW (cc := cX5_decycle) (maxL := 2) (ret := none) (by decide) rfl ?_
  intro p e s m args below meth c s₁ B hml hv
  obtain ⟨rfl, hsz, hP, hK, hD0⟩ := hv
  have hx := B.exec
  have hb := B.bytes
  have hr := B.returns
  have hts := atoms_spec (ws := wg_X5_decycle) B.pre
  have hown : s.vm.findClass RX5 = some m.cls := findClass_of_methodNamed B.named
  have hlocks := B.notSynchronized
  subst hsz
  have hD := hD0.self (sz := s.heap.size)
  generalize hAe : va_A [(aO, .inr (8, [.int (nI n), .int q.1, .int (nI q.2.1), .ref fc, .int idn, .int den])), (fc, .inl (cI, 24, .inl q.2.2))] s.heap.size = A at hD ⊢
  have hA : ∀ q : Nat, s.heap.size ≤ q → A q := fun q h => by rw [← hAe]; exact Or.inr h
  have hS : va_S A s.heap s.heap [] := va_S.rf
  have hP : va_P (dC, dI) vwCl [(aO, .inr (8, [.int (nI n), .int q.1, .int (nI q.2.1), .ref fc, .int idn, .int den])), (fc, .inl (cI, 24, .inl q.2.2))] s.heap := hP
  have hl := lv_entry ([.ref aO]) (n := 2) (Nat.le_of_ble_eq_true rfl)
  rw [lg_entry_eq]
  generalize (lg_sl ([.ref aO]) ++ List.replicate (2 - (lg_sl ([.ref aO])).length) Slot.unset).toArray = ls at hl ⊢
  have hl : lv_has ls 2 [(0, .ref aO)] := hl
  refine ow_named (fun QQ hQQ => ?_)
  suffices key9 : ∀ (H : Heap) (locs : List Loc), va_P (dC, dI) vwCl [(aO, .inr (8, [.int (nI n), .int q.1, .int (nI q.2.1), .ref fc, .int idn, .int den])), (fc, .inl (cI, 24, .inl q.2.2))] H → va_S A s.heap H locs → W p l e ({ frames := 4, cells := 0, slots := 0, locals := 180 } : Room) s m ([.ref aO] : List Value).toArray below meth c H locs 0 0 QQ (F0 m 0 ls []) from key9 s.heap [] hP hS
  intro H locs hP hS
  refine lv_aload_n hx hb dgX5_decycle_0 rfl (lv_at hl 0 rfl) ?_
  refine va_get (D := (dC, dI)) (ci := 8) (v := .int (nI q.2.1)) (C := RX5) (T := TX5) (N := 6) hx hb hts (fun _ h => List.mem_cons_of_mem _ (List.mem_append_left _ (List.mem_append_right _ h))) hown hK hP 0 rfl rfl 2 (by decide) (hts (.fieldLink RX5 32 "KnotHouse$Form" "length" "I") (by decide +kernel)) (fun _ h9 => h9) rfl dgX5_decycle_1 ?_
  rcases Nat.eq_zero_or_pos q.2.1 with h0 | h0
  · refine lv_if_le (tgt := 54) hx hb dgX5_decycle_4 (by decide) (fun _ => ?_) (fun c9 => absurd (by rw [h0]; decide) c9)
    have hP : va_P (dC, dI) vwCl [(aO, .inr (8, [.int (nI n), .int (f5_dc n idn den q).1, .int (nI ((f5_dc n idn den q).2.1)), .ref fc, .int idn, .int den])), (fc, .inl (cI, 24, .inl ((f5_dc n idn den q).2.2)))] H := by rw [show (f5_dc n idn den q) = q from if_neg (by omega)]; exact hP
    have hD : va_D A [(aO, .inr (8, [.int (nI n), .int (f5_dc n idn den q).1, .int (nI ((f5_dc n idn den q).2.1)), .ref fc, .int idn, .int den])), (fc, .inl (cI, 24, .inl ((f5_dc n idn den q).2.2)))] := by rw [show (f5_dc n idn den q) = q from if_neg (by omega)]; exact hD
    rw [hQQ]
    exact W.vret hx hb hr (fun t ht hW => ⟨⟨(), rfl, trivial, by rw [ht]; exact hP, hD⟩, hS.F ht⟩) hS.2.2 dgX5_decycle_54
  · refine lv_if_le (tgt := 54) hx hb dgX5_decycle_4 (by decide) (fun c9 => absurd c9 (Int32.not_le.mpr (nI_lt (a := 0) (b := q.2.1) h0 (by omega)))) (fun _ => ?_)
    refine lv_aload_n hx hb dgX5_decycle_7 rfl (lv_at hl 0 rfl) ?_
    refine va_get (D := (dC, dI)) (ci := 8) (v := .ref fc) (C := RX5) (T := TX5) (N := 6) hx hb hts (fun _ h => List.mem_cons_of_mem _ (List.mem_append_left _ (List.mem_append_right _ h))) hown hK hP 0 rfl rfl 3 (by decide) (hts (.fieldLink RX5 11 "KnotHouse$Form" "factors" "[I") (by decide +kernel)) (fun _ h9 => h9) rfl dgX5_decycle_8 ?_
    refine lv_aload_n hx hb dgX5_decycle_11 rfl (lv_at hl 0 rfl) ?_
    refine va_get (D := (dC, dI)) (ci := 8) (v := .int (nI q.2.1)) (C := RX5) (T := TX5) (N := 6) hx hb hts (fun _ h => List.mem_cons_of_mem _ (List.mem_append_left _ (List.mem_append_right _ h))) hown hK hP 0 rfl rfl 2 (by decide) (hts (.fieldLink RX5 32 "KnotHouse$Form" "length" "I") (by decide +kernel)) (fun _ h9 => h9) rfl dgX5_decycle_12 ?_
    refine lv_iconst (v := 1) hx hb dgX5_decycle_15 (by decide) ?_
    refine lv_isub hx hb dgX5_decycle_16 ?_
    refine ow_topi (y := nI (q.2.1 - 1)) (pk_sub (b := 1) h0) ?_
    refine va_iald hx hb hK hP 1 0 rfl rfl (vp_in_nI (n := q.2.1 - 1) (N := 24) (by omega) (by decide)) dgX5_decycle_17 ?_
    refine ow_topi (y := q.2.2 (q.2.1 - 1)) (congrArg q.2.2 (nI_clamp (n := q.2.1 - 1) (Nat.lt_trans (m := 24) (by omega) (by decide)))) ?_
    refine lv_istore_n (lv' := [(1, .int (q.2.2 (q.2.1 - 1))), (0, .ref aO)]) hx hb dgX5_decycle_18 rfl hl (by decide) rfl (fun ls hl => ?_)
    refine lv_aload_n hx hb dgX5_decycle_19 rfl (lv_at hl 1 rfl) ?_
    refine lv_dup hx hb dgX5_decycle_20 rfl ?_
    refine va_get (D := (dC, dI)) (ci := 8) (v := .int (nI q.2.1)) (C := RX5) (T := TX5) (N := 6) hx hb hts (fun _ h => List.mem_cons_of_mem _ (List.mem_append_left _ (List.mem_append_right _ h))) hown hK hP 0 rfl rfl 2 (by decide) (hts (.fieldLink RX5 32 "KnotHouse$Form" "length" "I") (by decide +kernel)) (fun _ h9 => h9) rfl dgX5_decycle_21 ?_
    refine lv_iconst (v := 1) hx hb dgX5_decycle_24 (by decide) ?_
    refine lv_isub hx hb dgX5_decycle_25 ?_
    refine ow_topi (y := nI (q.2.1 - 1)) (pk_sub (b := 1) h0) ?_
    refine va_put (D := (dC, dI)) (ci := 8) (v := .int (nI (q.2.1 - 1))) (ty := .int) (C := RX5) (T := TX5) (N := 6) hx hb hts (fun _ h => List.mem_cons_of_mem _ (List.mem_append_left _ (List.mem_append_right _ h))) tyX5 tyX5_ok nmX5 hown hK hP hD hS 0 rfl rfl 2 (by decide) (hts (.fieldLink RX5 32 "KnotHouse$Form" "length" "I") (by decide +kernel)) (fun _ h9 => h9) rfl (by decide +kernel) rfl rfl (Nat.le_of_ble_eq_true rfl) dgX5_decycle_26 (fun H locs hP hD hS => ?_)
    have hP : va_P (dC, dI) vwCl [(aO, .inr (8, [.int (nI n), .int q.1, .int (nI (q.2.1 - 1)), .ref fc, .int idn, .int den])), (fc, .inl (cI, 24, .inl q.2.2))] H := hP
    have hD : va_D A [(aO, .inr (8, [.int (nI n), .int q.1, .int (nI (q.2.1 - 1)), .ref fc, .int idn, .int den])), (fc, .inl (cI, 24, .inl q.2.2))] := hD
    refine lv_aload_n hx hb dgX5_decycle_29 rfl (lv_at hl 1 rfl) ?_
    refine lv_aload_n hx hb dgX5_decycle_30 rfl (lv_at hl 1 rfl) ?_
    refine va_get (D := (dC, dI)) (ci := 8) (v := .int q.1) (C := RX5) (T := TX5) (N := 6) hx hb hts (fun _ h => List.mem_cons_of_mem _ (List.mem_append_left _ (List.mem_append_right _ h))) hown hK hP 0 rfl rfl 1 (by decide) (hts (.fieldLink RX5 29 "KnotHouse$Form" "power" "I") (by decide +kernel)) (fun _ h9 => h9) rfl dgX5_decycle_31 ?_
    refine lv_iconst (v := 1) hx hb dgX5_decycle_34 (by decide) ?_
    refine lv_iand hx hb dgX5_decycle_35 ?_
    have K51 : ∀ (H : Heap) (locs : List Loc) (ls : Array Slot), va_P (dC, dI) vwCl [(aO, .inr (8, [.int (nI n), .int q.1, .int (nI (q.2.1 - 1)), .ref fc, .int idn, .int den])), (fc, .inl (cI, 24, .inl q.2.2))] H → va_D A [(aO, .inr (8, [.int (nI n), .int q.1, .int (nI (q.2.1 - 1)), .ref fc, .int idn, .int den])), (fc, .inl (cI, 24, .inl q.2.2))] → va_S A s.heap H locs → lv_has ls 2 [(0, .ref aO)] → W p l e ({ frames := 4, cells := 0, slots := 0, locals := 180 } : Room) s m ([.ref aO] : List Value).toArray below meth c H locs 0 0 QQ (F0 m 51 ls [.int (f5_pt q.1 (q.2.2 (q.2.1 - 1)) n), .ref aO]) := by
      intro H locs ls hP hD hS hl
      have hPc := hP.sub (ws' := [(aO, .inr (8, [.int (nI n), .int q.1, .int (nI (q.2.1 - 1)), .ref fc, .int idn, .int den])), (fc, .inl (cI, 24, .inl q.2.2))]) [0, 1] rfl
      have hDc := hD.sub (ws' := [(aO, .inr (8, [.int (nI n), .int q.1, .int (nI (q.2.1 - 1)), .ref fc, .int idn, .int den])), (fc, .inl (cI, 24, .inl q.2.2))]) [0, 1] (by decide) rfl
      have hFc := va_free (wc := [(aO, .inr (8, [.int (nI n), .int q.1, .int (nI (q.2.1 - 1)), .ref fc, .int idn, .int den])), (fc, .inl (cI, 24, .inl q.2.2))]) hD hS hA [0, 1] rfl
      refine va_callv (va_runV (As := [.int (f5_pt q.1 (q.2.2 (q.2.1 - 1)) n)]) (rest := []) ⟨hx, hb, hml, hown, hts⟩ (kg_X5_putBefore l dC dI cI cB cJ cZ aO fc n hn1 hn9 idn den (q.1, q.2.1 - 1, q.2.2) (show q.2.1 - 1 ≤ 24 by omega) (f5_pt q.1 (q.2.2 (q.2.1 - 1)) n) H.size) (cwV 1 hts gg_X5_decycle_1 rfl rfl rfl (by decide +kernel) ⟨(Nat.le_of_ble_eq_true rfl), (Nat.le_of_ble_eq_true rfl)⟩) ⟨fun a U g mk q => by obtain ⟨q0, q1, qP, qK, qD⟩ := q; exact ⟨q0, q1, qP, va_K.moved (u := U) (U := U.calling g mk a) (Vm.Alike.refl U.vm) qK, qD⟩, va_recv hK hPc (ci := 8) (q0 := 0) rfl rfl, fun U hU hW => ⟨rfl, by rw [hU], by rw [hU]; exact hPc, va_K.moved hW.alike hK, hDc.weaken (fun _ _ _ _ => trivial)⟩⟩ rfl rfl hl.1 rfl (lv_room (Nat.le_of_ble_eq_true rfl)) dgX5_decycle_51 ⟨(Nat.le_of_ble_eq_true rfl), (Nat.le_of_ble_eq_true rfl)⟩) hS (fun q _ h => hFc q h) hFc (fun u9 t H1 locs ht hvm hw hB hz1 hk1 hS => ?_)
      obtain ⟨hP1, hD1⟩ := hB
      rw [ht] at hP1
      obtain ⟨hP, hD⟩ := va_join (wr := []) (w1 := [(aO, .inr (8, [.int (nI n), .int (f5_pf n idn den (q.1, q.2.1 - 1, q.2.2) (f5_pt q.1 (q.2.2 (q.2.1 - 1)) n)).1, .int (nI ((f5_pf n idn den (q.1, q.2.1 - 1, q.2.2) (f5_pt q.1 (q.2.2 (q.2.1 - 1)) n)).2.1)), .ref fc, .int idn, .int den])), (fc, .inl (cI, 24, .inl ((f5_pf n idn den (q.1, q.2.1 - 1, q.2.2) (f5_pt q.1 (q.2.2 (q.2.1 - 1)) n)).2.2)))]) hP hD [0, 1] [] rfl rfl (by decide) (by decide) hk1 hFc hP1 hD1
      generalize H1 = H at hP hS ⊢
      have hP : va_P (dC, dI) vwCl [(aO, .inr (8, [.int (nI n), .int (f5_pf n idn den (q.1, q.2.1 - 1, q.2.2) (f5_pt q.1 (q.2.2 (q.2.1 - 1)) n)).1, .int (nI ((f5_pf n idn den (q.1, q.2.1 - 1, q.2.2) (f5_pt q.1 (q.2.2 (q.2.1 - 1)) n)).2.1)), .ref fc, .int idn, .int den])), (fc, .inl (cI, 24, .inl ((f5_pf n idn den (q.1, q.2.1 - 1, q.2.2) (f5_pt q.1 (q.2.2 (q.2.1 - 1)) n)).2.2)))] H := hP
      have hD : va_D A [(aO, .inr (8, [.int (nI n), .int (f5_pf n idn den (q.1, q.2.1 - 1, q.2.2) (f5_pt q.1 (q.2.2 (q.2.1 - 1)) n)).1, .int (nI ((f5_pf n idn den (q.1, q.2.1 - 1, q.2.2) (f5_pt q.1 (q.2.2 (q.2.1 - 1)) n)).2.1)), .ref fc, .int idn, .int den])), (fc, .inl (cI, 24, .inl ((f5_pf n idn den (q.1, q.2.1 - 1, q.2.2) (f5_pt q.1 (q.2.2 (q.2.1 - 1)) n)).2.2)))] := hD
      have hP : va_P (dC, dI) vwCl [(aO, .inr (8, [.int (nI n), .int (f5_dc n idn den q).1, .int (nI ((f5_dc n idn den q).2.1)), .ref fc, .int idn, .int den])), (fc, .inl (cI, 24, .inl ((f5_dc n idn den q).2.2)))] H := by rw [show (f5_dc n idn den q) = (f5_pf n idn den (q.1, q.2.1 - 1, q.2.2) (f5_pt q.1 (q.2.2 (q.2.1 - 1)) n)) from if_pos h0]; exact hP
      have hD : va_D A [(aO, .inr (8, [.int (nI n), .int (f5_dc n idn den q).1, .int (nI ((f5_dc n idn den q).2.1)), .ref fc, .int idn, .int den])), (fc, .inl (cI, 24, .inl ((f5_dc n idn den q).2.2)))] := by rw [show (f5_dc n idn den q) = (f5_pf n idn den (q.1, q.2.1 - 1, q.2.2) (f5_pt q.1 (q.2.2 (q.2.1 - 1)) n)) from if_pos h0]; exact hD
      rw [hQQ]
      exact W.vret hx hb hr (fun t ht hW => ⟨⟨(), rfl, trivial, by rw [ht]; exact hP, hD⟩, hS.F ht⟩) hS.2.2 dgX5_decycle_54
    refine lv_if_ne (tgt := 43) hx hb dgX5_decycle_36 (by decide) (fun c1 => ?_) (fun c1 => ?_)
    · refine lv_iload_n hx hb dgX5_decycle_43 rfl (lv_at hl 0 rfl) ?_
      refine lv_aload_n hx hb dgX5_decycle_44 rfl (lv_at hl 1 rfl) ?_
      refine va_get (D := (dC, dI)) (ci := 8) (v := .int (nI n)) (C := RX5) (T := TX5) (N := 6) hx hb hts (fun _ h => List.mem_cons_of_mem _ (List.mem_append_left _ (List.mem_append_right _ h))) hown hK hP 0 rfl rfl 0 (by decide) (hts (.fieldLink RX5 25 "KnotHouse$Form" "strands" "I") (by decide +kernel)) (fun _ h9 => h9) rfl dgX5_decycle_45 ?_
      have hPc := hP.sub (ws' := []) [] rfl
      refine va_calli (va_runS (As := [.int (q.2.2 (q.2.1 - 1)), .int (nI n)]) (rest := [.ref aO]) ⟨hx, hb, hml, hown, hts⟩ (kg_X5_turned l dC dI cI cB cJ cZ (q.2.2 (q.2.1 - 1)) n (by omega)) (va_cwS 2 hts gg_X5_decycle_0 rfl rfl rfl (by decide +kernel) ⟨(Nat.le_of_ble_eq_true rfl), (Nat.le_of_ble_eq_true rfl)⟩) ⟨fun a U g mk q => by obtain ⟨q0, qP, qK⟩ := q; exact ⟨q0, qP, va_K.moved (u := U) (U := U.calling g mk a) (Vm.Alike.refl U.vm) qK⟩, fun U hU hW => ⟨rfl, by rw [hU]; exact hPc, va_K.moved hW.alike hK⟩⟩ rfl rfl hl.1 rfl (lv_room (Nat.le_of_ble_eq_true rfl)) dgX5_decycle_48 ⟨(Nat.le_of_ble_eq_true rfl), (Nat.le_of_ble_eq_true rfl)⟩) hS (fun q _ h => h.elim) (fun q h => h.elim) (fun ra1 un t H1 locs ht hvm hw9 hB hz1 hk1 hS => ?_)
      have hP := hP.kept (fun k9 x9 h9 => hk1 x9.1 ((hP k9 x9 h9).lt) id)
      generalize H1 = H at hP hS ⊢
      obtain rfl : ra1 = f5_tu (q.2.2 (q.2.1 - 1)) n n := hw9
      refine ow_topi (y := (f5_pt q.1 (q.2.2 (q.2.1 - 1)) n)) (by rw [f5_pt, if_neg c1]) ?_
      exact K51 H locs ls hP hD hS (lv_sub hl [1] rfl)
    · refine lv_iload_n hx hb dgX5_decycle_39 rfl (lv_at hl 0 rfl) ?_
      refine lv_goto (tgt := 51) hx hb dgX5_decycle_40 (by decide) ?_
      refine ow_topi (y := (f5_pt q.1 (q.2.2 (q.2.1 - 1)) n)) (by rw [f5_pt, if_pos c1]) ?_
      exact K51 H locs ls hP hD hS (lv_sub hl [1] rfl)
theorem dgX5_conjugateBy_0 : decode cX5_conjugateBy 0 = .ok (.iload_n 1, 1) := by decide +kernel
theorem dgX5_conjugateBy_1 : decode cX5_conjugateBy 1 = .ok (.aload_n 0, 1) := by decide +kernel
theorem dgX5_conjugateBy_2 : decode cX5_conjugateBy 2 = .ok (.getfield 25, 3) := by decide +kernel
theorem dgX5_conjugateBy_5 : decode cX5_conjugateBy 5 = .ok (.invokestatic 19, 3) := by decide +kernel
theorem dgX5_conjugateBy_8 : decode cX5_conjugateBy 8 = .ok (.istore_n 2, 1) := by decide +kernel
theorem dgX5_conjugateBy_9 : decode cX5_conjugateBy 9 = .ok (.iconst 0, 1) := by decide +kernel
theorem dgX5_conjugateBy_10 : decode cX5_conjugateBy 10 = .ok (.istore_n 3, 1) := by decide +kernel
theorem dgX5_conjugateBy_11 : decode cX5_conjugateBy 11 = .ok (.iconst 0, 1) := by decide +kernel
theorem dgX5_conjugateBy_12 : decode cX5_conjugateBy 12 = .ok (.istore 4, 2) := by decide +kernel
theorem dgX5_conjugateBy_14 : decode cX5_conjugateBy 14 = .ok (.iload 4, 2) := by decide +kernel
theorem dgX5_conjugateBy_16 : decode cX5_conjugateBy 16 = .ok (.aload_n 0, 1) := by decide +kernel
theorem dgX5_conjugateBy_17 : decode cX5_conjugateBy 17 = .ok (.getfield 25, 3) := by decide +kernel
theorem dgX5_conjugateBy_20 : decode cX5_conjugateBy 20 = .ok (.if_icmp .ge 30, 3) := by decide +kernel
theorem dgX5_conjugateBy_23 : decode cX5_conjugateBy 23 = .ok (.iload_n 3, 1) := by decide +kernel
theorem dgX5_conjugateBy_24 : decode cX5_conjugateBy 24 = .ok (.iload_n 2, 1) := by decide +kernel
theorem dgX5_conjugateBy_25 : decode cX5_conjugateBy 25 = .ok (.aload_n 0, 1) := by decide +kernel
theorem dgX5_conjugateBy_26 : decode cX5_conjugateBy 26 = .ok (.getfield 25, 3) := by decide +kernel
theorem dgX5_conjugateBy_29 : decode cX5_conjugateBy 29 = .ok (.iconst 1, 1) := by decide +kernel
theorem dgX5_conjugateBy_30 : decode cX5_conjugateBy 30 = .ok (.isub, 1) := by decide +kernel
theorem dgX5_conjugateBy_31 : decode cX5_conjugateBy 31 = .ok (.iload 4, 2) := by decide +kernel
theorem dgX5_conjugateBy_33 : decode cX5_conjugateBy 33 = .ok (.isub, 1) := by decide +kernel
theorem dgX5_conjugateBy_34 : decode cX5_conjugateBy 34 = .ok (.invokestatic 15, 3) := by decide +kernel
theorem dgX5_conjugateBy_37 : decode cX5_conjugateBy 37 = .ok (.iconst 4, 1) := by decide +kernel
theorem dgX5_conjugateBy_38 : decode cX5_conjugateBy 38 = .ok (.iload 4, 2) := by decide +kernel
theorem dgX5_conjugateBy_40 : decode cX5_conjugateBy 40 = .ok (.imul, 1) := by decide +kernel
theorem dgX5_conjugateBy_41 : decode cX5_conjugateBy 41 = .ok (.ishl, 1) := by decide +kernel
theorem dgX5_conjugateBy_42 : decode cX5_conjugateBy 42 = .ok (.ior, 1) := by decide +kernel
theorem dgX5_conjugateBy_43 : decode cX5_conjugateBy 43 = .ok (.istore_n 3, 1) := by decide +kernel
theorem dgX5_conjugateBy_44 : decode cX5_conjugateBy 44 = .ok (.iinc 4 1, 3) := by decide +kernel
theorem dgX5_conjugateBy_47 : decode cX5_conjugateBy 47 = .ok (.goto (-33), 3) := by decide +kernel
theorem dgX5_conjugateBy_50 : decode cX5_conjugateBy 50 = .ok (.aload_n 0, 1) := by decide +kernel
theorem dgX5_conjugateBy_51 : decode cX5_conjugateBy 51 = .ok (.getfield 29, 3) := by decide +kernel
theorem dgX5_conjugateBy_54 : decode cX5_conjugateBy 54 = .ok (.iconst 1, 1) := by decide +kernel
theorem dgX5_conjugateBy_55 : decode cX5_conjugateBy 55 = .ok (.iand, 1) := by decide +kernel
theorem dgX5_conjugateBy_56 : decode cX5_conjugateBy 56 = .ok (.ifCond .ne 7, 3) := by decide +kernel
theorem dgX5_conjugateBy_59 : decode cX5_conjugateBy 59 = .ok (.iload_n 3, 1) := by decide +kernel
theorem dgX5_conjugateBy_60 : decode cX5_conjugateBy 60 = .ok (.goto 11, 3) := by decide +kernel
theorem dgX5_conjugateBy_63 : decode cX5_conjugateBy 63 = .ok (.iload_n 3, 1) := by decide +kernel
theorem dgX5_conjugateBy_64 : decode cX5_conjugateBy 64 = .ok (.aload_n 0, 1) := by decide +kernel
theorem dgX5_conjugateBy_65 : decode cX5_conjugateBy 65 = .ok (.getfield 25, 3) := by decide +kernel
theorem dgX5_conjugateBy_68 : decode cX5_conjugateBy 68 = .ok (.invokestatic 66, 3) := by decide +kernel
theorem dgX5_conjugateBy_71 : decode cX5_conjugateBy 71 = .ok (.istore 4, 2) := by decide +kernel
theorem dgX5_conjugateBy_73 : decode cX5_conjugateBy 73 = .ok (.aload_n 0, 1) := by decide +kernel
theorem dgX5_conjugateBy_74 : decode cX5_conjugateBy 74 = .ok (.dup, 1) := by decide +kernel
theorem dgX5_conjugateBy_75 : decode cX5_conjugateBy 75 = .ok (.getfield 29, 3) := by decide +kernel
theorem dgX5_conjugateBy_78 : decode cX5_conjugateBy 78 = .ok (.iconst 1, 1) := by decide +kernel
theorem dgX5_conjugateBy_79 : decode cX5_conjugateBy 79 = .ok (.isub, 1) := by decide +kernel
theorem dgX5_conjugateBy_80 : decode cX5_conjugateBy 80 = .ok (.putfield 29, 3) := by decide +kernel
theorem dgX5_conjugateBy_83 : decode cX5_conjugateBy 83 = .ok (.aload_n 0, 1) := by decide +kernel
theorem dgX5_conjugateBy_84 : decode cX5_conjugateBy 84 = .ok (.iload 4, 2) := by decide +kernel
theorem dgX5_conjugateBy_86 : decode cX5_conjugateBy 86 = .ok (.invokevirtual 83, 3) := by decide +kernel
theorem dgX5_conjugateBy_89 : decode cX5_conjugateBy 89 = .ok (.aload_n 0, 1) := by decide +kernel
theorem dgX5_conjugateBy_90 : decode cX5_conjugateBy 90 = .ok (.iload_n 1, 1) := by decide +kernel
theorem dgX5_conjugateBy_91 : decode cX5_conjugateBy 91 = .ok (.invokevirtual 63, 3) := by decide +kernel
theorem dgX5_conjugateBy_94 : decode cX5_conjugateBy 94 = .ok (.return_, 1) := by decide +kernel
def wg_X5_conjugateBy : List Cond := .code yX5_conjugateBy cX5_conjugateBy 5 none :: (([.fieldLink RX5 25 "KnotHouse$Form" "strands" "I", .fieldLink RX5 29 "KnotHouse$Form" "power" "I"] ++ wsX50) ++ (va_wsS RX5 19 yX5_invert wg_X5_invert ++ (va_wsS RX5 15 yX5_image wg_X5_image ++ (va_wsS RX5 66 yX5_turned wg_X5_turned ++ (wsV RX5 83 RX5 yX5_putBefore wg_X5_putBefore ++ (wsV RX5 63 RX5 yX5_putBehind wg_X5_putBehind ++ []))))))
theorem gg_X5_conjugateBy_0 : GoodIn wg_X5_conjugateBy (va_wsS RX5 19 yX5_invert wg_X5_invert) := goodIn_sub (fun _ h => List.mem_cons_of_mem _ (List.mem_append_right _ (List.mem_append_left _ h))) (by decide +kernel)
theorem gg_X5_conjugateBy_1 : GoodIn wg_X5_conjugateBy (va_wsS RX5 15 yX5_image wg_X5_image) := goodIn_sub (fun _ h => List.mem_cons_of_mem _ (List.mem_append_right _ (List.mem_append_right _ (List.mem_append_left _ h)))) (by decide +kernel)
theorem gg_X5_conjugateBy_2 : GoodIn wg_X5_conjugateBy (va_wsS RX5 66 yX5_turned wg_X5_turned) := goodIn_sub (fun _ h => List.mem_cons_of_mem _ (List.mem_append_right _ (List.mem_append_right _ (List.mem_append_right _ (List.mem_append_left _ h))))) (by decide +kernel)
theorem gg_X5_conjugateBy_3 : GoodIn wg_X5_conjugateBy (wsV RX5 83 RX5 yX5_putBefore wg_X5_putBefore) := goodIn_sub (fun _ h => List.mem_cons_of_mem _ (List.mem_append_right _ (List.mem_append_right _ (List.mem_append_right _ (List.mem_append_right _ (List.mem_append_left _ h)))))) (by decide +kernel)
theorem gg_X5_conjugateBy_4 : GoodIn wg_X5_conjugateBy (wsV RX5 63 RX5 yX5_putBehind wg_X5_putBehind) := goodIn_sub (fun _ h => List.mem_cons_of_mem _ (List.mem_append_right _ (List.mem_append_right _ (List.mem_append_right _ (List.mem_append_right _ (List.mem_append_right _ (List.mem_append_left _ h))))))) (by decide +kernel)
set_option maxHeartbeats 4000000 in
set_option maxRecDepth 100000 in
theorem kg_X5_conjugateBy (l : Launch) (dC : Nat → ClassId) (dI : Nat → Nat → Nat) (cI cB cJ cZ : ClassId) (aO fc n : Nat) (hn1 : 1 ≤ n) (hn9 : n < 100) (idn den : Int32) (q : ow_FO) (hq : q.2.1 ≤ 24) (a : Int32) (sz : Nat) : Met l yX5_conjugateBy wg_X5_conjugateBy (({ frames := 4, cells := 0, slots := 0, locals := 180 } : Room)) (va_Pc [.ref aO, .int a] (fun U => U.heap.size = sz ∧ va_P (dC, dI) vwCl [(aO, .inr (8, [.int (nI n), .int q.1, .int (nI q.2.1), .ref fc, .int idn, .int den])), (fc, .inl (cI, 24, .inl q.2.2))] U.heap ∧ va_K (dC, dI) vwCl [(cI, .int), (cB, .byte), (cJ, .long), (cZ, .boolean)] U ∧ va_D (fun _ => True) [(aO, .inr (8, [.int (nI n), .int q.1, .int (nI q.2.1), .ref fc, .int idn, .int den])), (fc, .inl (cI, 24, .inl q.2.2))])) (va_Qv (fun (g : Unit) => True) (fun g t => va_P (dC, dI) vwCl [(aO, .inr (8, [.int (nI n), .int (f5_co n idn den q a).1, .int (nI ((f5_co n idn den q a).2.1)), .ref fc, .int idn, .int den])), (fc, .inl (cI, 24, .inl ((f5_co n idn den q a).2.2)))] t.heap ∧ va_D (va_A [(aO, .inr (8, [.int (nI n), .int q.1, .int (nI q.2.1), .ref fc, .int idn, .int den])), (fc, .inl (cI, 24, .inl q.2.2))] sz) [(aO, .inr (8, [.int (nI n), .int (f5_co n idn den q a).1, .int (nI ((f5_co n idn den q a).2.1)), .ref fc, .int idn, .int den])), (fc, .inl (cI, 24, .inl ((f5_co n idn den q a).2.2)))]) (va_A [(aO, .inr (8, [.int (nI n), .int q.1, .int (nI q.2.1), .ref fc, .int idn, .int den])), (fc, .inl (cI, 24, .inl q.2.2))] sz)) 0 0 (va_A [(aO, .inr (8, [.int (nI n), .int q.1, .int (nI q.2.1), .ref fc, .int idn, .int den])), (fc, .inl (cI, 24, .inl q.2.2))] sz) := by
  refine Met.ofW (cc := cX5_conjugateBy) (maxL := 5) (ret := none) (by decide) rfl ?_
  intro p e s m args below meth c s₁ B hml hv
  obtain ⟨rfl, hsz, hP, hK, hD0⟩ := hv
  have hx := B.exec
  have hb := B.bytes
  have hr := B.returns
  have hts := atoms_spec (ws := wg_X5_conjugateBy) B.pre
  have hown : s.vm.findClass RX5 = some m.cls := findClass_of_methodNamed B.named
  have hlocks := B.notSynchronized
  subst hsz
  have hD := hD0.self (sz := s.heap.size)
  generalize hAe : va_A [(aO, .inr (8, [.int (nI n), .int q.1, .int (nI q.2.1), .ref fc, .int idn, .int den])), (fc, .inl (cI, 24, .inl q.2.2))] s.heap.size = A at hD ⊢
  have hA : ∀ q : Nat, s.heap.size ≤ q → A q := fun q h => by rw [← hAe]; exact Or.inr h
  have hS : va_S A s.heap s.heap [] := va_S.rf
  have hP : va_P (dC, dI) vwCl [(aO, .inr (8, [.int (nI n), .int q.1, .int (nI q.2.1), .ref fc, .int idn, .int den])), (fc, .inl (cI, 24, .inl q.2.2))] s.heap := hP
  have hl := lv_entry ([.ref aO, .int a]) (n := 5) (Nat.le_of_ble_eq_true rfl)
  rw [lg_entry_eq]
  generalize (lg_sl ([.ref aO, .int a]) ++ List.replicate (5 - (lg_sl ([.ref aO, .int a])).length) Slot.unset).toArray = ls at hl ⊢
  have hl : lv_has ls 5 [(0, .ref aO), (1, .int a)] := hl
  refine ow_named (fun QQ hQQ => ?_)
  suffices key9 : ∀ (H : Heap) (locs : List Loc), va_P (dC, dI) vwCl [(aO, .inr (8, [.int (nI n), .int q.1, .int (nI q.2.1), .ref fc, .int idn, .int den])), (fc, .inl (cI, 24, .inl q.2.2))] H → va_S A s.heap H locs → W p l e ({ frames := 4, cells := 0, slots := 0, locals := 180 } : Room) s m ([.ref aO, .int a] : List Value).toArray below meth c H locs 0 0 QQ (F0 m 0 ls []) from key9 s.heap [] hP hS
  intro H locs hP hS
  refine lv_iload_n hx hb dgX5_conjugateBy_0 rfl (lv_at hl 1 rfl) ?_
  refine lv_aload_n hx hb dgX5_conjugateBy_1 rfl (lv_at hl 0 rfl) ?_
  refine va_get (D := (dC, dI)) (ci := 8) (v := .int (nI n)) (C := RX5) (T := TX5) (N := 6) hx hb hts (fun _ h => List.mem_cons_of_mem _ (List.mem_append_left _ (List.mem_append_right _ h))) hown hK hP 0 rfl rfl 0 (by decide) (hts (.fieldLink RX5 25 "KnotHouse$Form" "strands" "I") (by decide +kernel)) (fun _ h9 => h9) rfl dgX5_conjugateBy_2 ?_
  have hPc := hP.sub (ws' := []) [] rfl
  refine va_calli (va_runS (As := [.int a, .int (nI n)]) (rest := []) ⟨hx, hb, hml, hown, hts⟩ (kg_X5_invert l dC dI cI cB cJ cZ a n (by omega)) (va_cwS 2 hts gg_X5_conjugateBy_0 rfl rfl rfl (by decide +kernel) ⟨(Nat.le_of_ble_eq_true rfl), (Nat.le_of_ble_eq_true rfl)⟩) ⟨fun a U g mk q => by obtain ⟨q0, qP, qK⟩ := q; exact ⟨q0, qP, va_K.moved (u := U) (U := U.calling g mk a) (Vm.Alike.refl U.vm) qK⟩, fun U hU hW => ⟨rfl, by rw [hU]; exact hPc, va_K.moved hW.alike hK⟩⟩ rfl rfl hl.1 rfl (lv_room (Nat.le_of_ble_eq_true rfl)) dgX5_conjugateBy_5 ⟨(Nat.le_of_ble_eq_true rfl), (Nat.le_of_ble_eq_true rfl)⟩) hS (fun q _ h => h.elim) (fun q h => h.elim) (fun ra0 un t H1 locs ht hvm hw9 hB hz1 hk1 hS => ?_)
  have hP := hP.kept (fun k9 x9 h9 => hk1 x9.1 ((hP k9 x9 h9).lt) id)
  generalize H1 = H at hP hS ⊢
  obtain rfl : ra0 = f5_inv a n := hw9
  refine lv_istore_n (lv' := [(2, .int (f5_inv a n)), (0, .ref aO), (1, .int a)]) hx hb dgX5_conjugateBy_8 rfl hl (by decide) rfl (fun ls hl => ?_)
  refine lv_iconst (v := 0) hx hb dgX5_conjugateBy_9 (by decide) ?_
  refine lv_istore_n (lv' := [(3, .int 0), (2, .int (f5_inv a n)), (0, .ref aO), (1, .int a)]) hx hb dgX5_conjugateBy_10 rfl hl (by decide) rfl (fun ls hl => ?_)
  refine lv_iconst (v := 0) hx hb dgX5_conjugateBy_11 (by decide) ?_
  refine ow_topi (y := nI 0) (by decide) ?_
  refine lv_istore (lv' := [(4, .int (nI 0)), (3, .int 0), (2, .int (f5_inv a n)), (0, .ref aO), (1, .int a)]) hx hb dgX5_conjugateBy_12 hl (by decide) rfl (fun ls hl => ?_)
  have K71 : ∀ (H : Heap) (locs : List Loc) (ls : Array Slot), va_P (dC, dI) vwCl [(aO, .inr (8, [.int (nI n), .int q.1, .int (nI q.2.1), .ref fc, .int idn, .int den])), (fc, .inl (cI, 24, .inl q.2.2))] H → va_D A [(aO, .inr (8, [.int (nI n), .int q.1, .int (nI q.2.1), .ref fc, .int idn, .int den])), (fc, .inl (cI, 24, .inl q.2.2))] → va_S A s.heap H locs → lv_has ls 5 [(0, .ref aO), (1, .int a)] → W p l e ({ frames := 4, cells := 0, slots := 0, locals := 180 } : Room) s m ([.ref aO, .int a] : List Value).toArray below meth c H locs 0 0 QQ (F0 m 71 ls [.int (f5_pt q.1 (f5_re (f5_inv a n) n n) n)]) := by
    intro H locs ls hP hD hS hl
    refine lv_istore (lv' := [(4, .int (f5_pt q.1 (f5_re (f5_inv a n) n n) n)), (0, .ref aO), (1, .int a)]) hx hb dgX5_conjugateBy_71 hl (by decide) rfl (fun ls hl => ?_)
    refine lv_aload_n hx hb dgX5_conjugateBy_73 rfl (lv_at hl 1 rfl) ?_
    refine lv_dup hx hb dgX5_conjugateBy_74 rfl ?_
    refine va_get (D := (dC, dI)) (ci := 8) (v := .int q.1) (C := RX5) (T := TX5) (N := 6) hx hb hts (fun _ h => List.mem_cons_of_mem _ (List.mem_append_left _ (List.mem_append_right _ h))) hown hK hP 0 rfl rfl 1 (by decide) (hts (.fieldLink RX5 29 "KnotHouse$Form" "power" "I") (by decide +kernel)) (fun _ h9 => h9) rfl dgX5_conjugateBy_75 ?_
    refine lv_iconst (v := 1) hx hb dgX5_conjugateBy_78 (by decide) ?_
    refine lv_isub hx hb dgX5_conjugateBy_79 ?_
    refine va_put (D := (dC, dI)) (ci := 8) (v := .int (q.1 - 1)) (ty := .int) (C := RX5) (T := TX5) (N := 6) hx hb hts (fun _ h => List.mem_cons_of_mem _ (List.mem_append_left _ (List.mem_append_right _ h))) tyX5 tyX5_ok nmX5 hown hK hP hD hS 0 rfl rfl 1 (by decide) (hts (.fieldLink RX5 29 "KnotHouse$Form" "power" "I") (by decide +kernel)) (fun _ h9 => h9) rfl (by decide +kernel) rfl rfl (Nat.le_of_ble_eq_true rfl) dgX5_conjugateBy_80 (fun H locs hP hD hS => ?_)
    have hP : va_P (dC, dI) vwCl [(aO, .inr (8, [.int (nI n), .int (q.1 - 1), .int (nI q.2.1), .ref fc, .int idn, .int den])), (fc, .inl (cI, 24, .inl q.2.2))] H := hP
    have hD : va_D A [(aO, .inr (8, [.int (nI n), .int (q.1 - 1), .int (nI q.2.1), .ref fc, .int idn, .int den])), (fc, .inl (cI, 24, .inl q.2.2))] := hD
    refine lv_aload_n hx hb dgX5_conjugateBy_83 rfl (lv_at hl 1 rfl) ?_
    refine lv_iload hx hb dgX5_conjugateBy_84 (lv_at hl 0 rfl) ?_
    have hPc := hP.sub (ws' := [(aO, .inr (8, [.int (nI n), .int (q.1 - 1), .int (nI q.2.1), .ref fc, .int idn, .int den])), (fc, .inl (cI, 24, .inl q.2.2))]) [0, 1] rfl
    have hDc := hD.sub (ws' := [(aO, .inr (8, [.int (nI n), .int (q.1 - 1), .int (nI q.2.1), .ref fc, .int idn, .int den])), (fc, .inl (cI, 24, .inl q.2.2))]) [0, 1] (by decide) rfl
    have hFc := va_free (wc := [(aO, .inr (8, [.int (nI n), .int (q.1 - 1), .int (nI q.2.1), .ref fc, .int idn, .int den])), (fc, .inl (cI, 24, .inl q.2.2))]) hD hS hA [0, 1] rfl
    refine va_callv (va_runV (As := [.int (f5_pt q.1 (f5_re (f5_inv a n) n n) n)]) (rest := []) ⟨hx, hb, hml, hown, hts⟩ (kg_X5_putBefore l dC dI cI cB cJ cZ aO fc n hn1 hn9 idn den (q.1 - 1, q.2.1, q.2.2) hq (f5_pt q.1 (f5_re (f5_inv a n) n n) n) H.size) (cwV 1 hts gg_X5_conjugateBy_3 rfl rfl rfl (by decide +kernel) ⟨(Nat.le_of_ble_eq_true rfl), (Nat.le_of_ble_eq_true rfl)⟩) ⟨fun a U g mk q => by obtain ⟨q0, q1, qP, qK, qD⟩ := q; exact ⟨q0, q1, qP, va_K.moved (u := U) (U := U.calling g mk a) (Vm.Alike.refl U.vm) qK, qD⟩, va_recv hK hPc (ci := 8) (q0 := 0) rfl rfl, fun U hU hW => ⟨rfl, by rw [hU], by rw [hU]; exact hPc, va_K.moved hW.alike hK, hDc.weaken (fun _ _ _ _ => trivial)⟩⟩ rfl rfl hl.1 rfl (lv_room (Nat.le_of_ble_eq_true rfl)) dgX5_conjugateBy_86 ⟨(Nat.le_of_ble_eq_true rfl), (Nat.le_of_ble_eq_true rfl)⟩) hS (fun q _ h => hFc q h) hFc (fun u9 t H1 locs ht hvm hw hB hz1 hk1 hS => ?_)
    obtain ⟨hP1, hD1⟩ := hB
    rw [ht] at hP1
    obtain ⟨hP, hD⟩ := va_join (wr := []) (w1 := [(aO, .inr (8, [.int (nI n), .int (f5_pf n idn den (q.1 - 1, q.2.1, q.2.2) (f5_pt q.1 (f5_re (f5_inv a n) n n) n)).1, .int (nI ((f5_pf n idn den (q.1 - 1, q.2.1, q.2.2) (f5_pt q.1 (f5_re (f5_inv a n) n n) n)).2.1)), .ref fc, .int idn, .int den])), (fc, .inl (cI, 24, .inl ((f5_pf n idn den (q.1 - 1, q.2.1, q.2.2) (f5_pt q.1 (f5_re (f5_inv a n) n n) n)).2.2)))]) hP hD [0, 1] [] rfl rfl (by decide) (by decide) hk1 hFc hP1 hD1
    generalize H1 = H at hP hS ⊢
    have hP : va_P (dC, dI) vwCl [(aO, .inr (8, [.int (nI n), .int (f5_pf n idn den (q.1 - 1, q.2.1, q.2.2) (f5_pt q.1 (f5_re (f5_inv a n) n n) n)).1, .int (nI ((f5_pf n idn den (q.1 - 1, q.2.1, q.2.2) (f5_pt q.1 (f5_re (f5_inv a n) n n) n)).2.1)), .ref fc, .int idn, .int den])), (fc, .inl (cI, 24, .inl ((f5_pf n idn den (q.1 - 1, q.2.1, q.2.2) (f5_pt q.1 (f5_re (f5_inv a n) n n) n)).2.2)))] H := hP
    have hD : va_D A [(aO, .inr (8, [.int (nI n), .int (f5_pf n idn den (q.1 - 1, q.2.1, q.2.2) (f5_pt q.1 (f5_re (f5_inv a n) n n) n)).1, .int (nI ((f5_pf n idn den (q.1 - 1, q.2.1, q.2.2) (f5_pt q.1 (f5_re (f5_inv a n) n n) n)).2.1)), .ref fc, .int idn, .int den])), (fc, .inl (cI, 24, .inl ((f5_pf n idn den (q.1 - 1, q.2.1, q.2.2) (f5_pt q.1 (f5_re (f5_inv a n) n n) n)).2.2)))] := hD
    refine lv_aload_n hx hb dgX5_conjugateBy_89 rfl (lv_at hl 1 rfl) ?_
    refine lv_iload_n hx hb dgX5_conjugateBy_90 rfl (lv_at hl 2 rfl) ?_
    have hPc := hP.sub (ws' := [(aO, .inr (8, [.int (nI n), .int (f5_pf n idn den (q.1 - 1, q.2.1, q.2.2) (f5_pt q.1 (f5_re (f5_inv a n) n n) n)).1, .int (nI ((f5_pf n idn den (q.1 - 1, q.2.1, q.2.2) (f5_pt q.1 (f5_re (f5_inv a n) n n) n)).2.1)), .ref fc, .int idn, .int den])), (fc, .inl (cI, 24, .inl ((f5_pf n idn den (q.1 - 1, q.2.1, q.2.2) (f5_pt q.1 (f5_re (f5_inv a n) n n) n)).2.2)))]) [0, 1] rfl
    have hDc := hD.sub (ws' := [(aO, .inr (8, [.int (nI n), .int (f5_pf n idn den (q.1 - 1, q.2.1, q.2.2) (f5_pt q.1 (f5_re (f5_inv a n) n n) n)).1, .int (nI ((f5_pf n idn den (q.1 - 1, q.2.1, q.2.2) (f5_pt q.1 (f5_re (f5_inv a n) n n) n)).2.1)), .ref fc, .int idn, .int den])), (fc, .inl (cI, 24, .inl ((f5_pf n idn den (q.1 - 1, q.2.1, q.2.2) (f5_pt q.1 (f5_re (f5_inv a n) n n) n)).2.2)))]) [0, 1] (by decide) rfl
    have hFc := va_free (wc := [(aO, .inr (8, [.int (nI n), .int (f5_pf n idn den (q.1 - 1, q.2.1, q.2.2) (f5_pt q.1 (f5_re (f5_inv a n) n n) n)).1, .int (nI ((f5_pf n idn den (q.1 - 1, q.2.1, q.2.2) (f5_pt q.1 (f5_re (f5_inv a n) n n) n)).2.1)), .ref fc, .int idn, .int den])), (fc, .inl (cI, 24, .inl ((f5_pf n idn den (q.1 - 1, q.2.1, q.2.2) (f5_pt q.1 (f5_re (f5_inv a n) n n) n)).2.2)))]) hD hS hA [0, 1] rfl
    refine va_callv (va_runV (As := [.int a]) (rest := []) ⟨hx, hb, hml, hown, hts⟩ (kg_X5_putBehind l dC dI cI cB cJ cZ aO fc n hn1 hn9 idn den (f5_pf n idn den (q.1 - 1, q.2.1, q.2.2) (f5_pt q.1 (f5_re (f5_inv a n) n n) n)) (f5_pf_le hq) a H.size) (cwV 1 hts gg_X5_conjugateBy_4 rfl rfl rfl (by decide +kernel) ⟨(Nat.le_of_ble_eq_true rfl), (Nat.le_of_ble_eq_true rfl)⟩) ⟨fun a U g mk q => by obtain ⟨q0, q1, qP, qK, qD⟩ := q; exact ⟨q0, q1, qP, va_K.moved (u := U) (U := U.calling g mk a) (Vm.Alike.refl U.vm) qK, qD⟩, va_recv hK hPc (ci := 8) (q0 := 0) rfl rfl, fun U hU hW => ⟨rfl, by rw [hU], by rw [hU]; exact hPc, va_K.moved hW.alike hK, hDc.weaken (fun _ _ _ _ => trivial)⟩⟩ rfl rfl hl.1 rfl (lv_room (Nat.le_of_ble_eq_true rfl)) dgX5_conjugateBy_91 ⟨(Nat.le_of_ble_eq_true rfl), (Nat.le_of_ble_eq_true rfl)⟩) hS (fun q _ h => hFc q h) hFc (fun u9 t H1 locs ht hvm hw hB hz1 hk1 hS => ?_)
    obtain ⟨hP1, hD1⟩ := hB
    rw [ht] at hP1
    obtain ⟨hP, hD⟩ := va_join (wr := []) (w1 := [(aO, .inr (8, [.int (nI n), .int (f5_pb n idn den (f5_pf n idn den (q.1 - 1, q.2.1, q.2.2) (f5_pt q.1 (f5_re (f5_inv a n) n n) n)) a).1, .int (nI ((f5_pb n idn den (f5_pf n idn den (q.1 - 1, q.2.1, q.2.2) (f5_pt q.1 (f5_re (f5_inv a n) n n) n)) a).2.1)), .ref fc, .int idn, .int den])), (fc, .inl (cI, 24, .inl ((f5_pb n idn den (f5_pf n idn den (q.1 - 1, q.2.1, q.2.2) (f5_pt q.1 (f5_re (f5_inv a n) n n) n)) a).2.2)))]) hP hD [0, 1] [] rfl rfl (by decide) (by decide) hk1 hFc hP1 hD1
    generalize H1 = H at hP hS ⊢
    have hP : va_P (dC, dI) vwCl [(aO, .inr (8, [.int (nI n), .int (f5_pb n idn den (f5_pf n idn den (q.1 - 1, q.2.1, q.2.2) (f5_pt q.1 (f5_re (f5_inv a n) n n) n)) a).1, .int (nI ((f5_pb n idn den (f5_pf n idn den (q.1 - 1, q.2.1, q.2.2) (f5_pt q.1 (f5_re (f5_inv a n) n n) n)) a).2.1)), .ref fc, .int idn, .int den])), (fc, .inl (cI, 24, .inl ((f5_pb n idn den (f5_pf n idn den (q.1 - 1, q.2.1, q.2.2) (f5_pt q.1 (f5_re (f5_inv a n) n n) n)) a).2.2)))] H := hP
    have hD : va_D A [(aO, .inr (8, [.int (nI n), .int (f5_pb n idn den (f5_pf n idn den (q.1 - 1, q.2.1, q.2.2) (f5_pt q.1 (f5_re (f5_inv a n) n n) n)) a).1, .int (nI ((f5_pb n idn den (f5_pf n idn den (q.1 - 1, q.2.1, q.2.2) (f5_pt q.1 (f5_re (f5_inv a n) n n) n)) a).2.1)), .ref fc, .int idn, .int den])), (fc, .inl (cI, 24, .inl ((f5_pb n idn den (f5_pf n idn den (q.1 - 1, q.2.1, q.2.2) (f5_pt q.1 (f5_re (f5_inv a n) n n) n)) a).2.2)))] := hD
    have hP : va_P (dC, dI) vwCl [(aO, .inr (8, [.int (nI n), .int (f5_co n idn den q a).1, .int (nI ((f5_co n idn den q a).2.1)), .ref fc, .int idn, .int den])), (fc, .inl (cI, 24, .inl ((f5_co n idn den q a).2.2)))] H := hP
    have hD : va_D A [(aO, .inr (8, [.int (nI n), .int (f5_co n idn den q a).1, .int (nI ((f5_co n idn den q a).2.1)), .ref fc, .int idn, .int den])), (fc, .inl (cI, 24, .inl ((f5_co n idn den q a).2.2)))] := hD
    rw [hQQ]
    exact W.vret hx hb hr (fun t ht hW => ⟨⟨(), rfl, trivial, by rw [ht]; exact hP, hD⟩, hS.F ht⟩) hS.2.2 dgX5_conjugateBy_94
  have L14 : ∀ (d i : Nat), i + d = n → ∀ (H : Heap) (locs : List Loc) (ls : Array Slot), va_P (dC, dI) vwCl [(aO, .inr (8, [.int (nI n), .int q.1, .int (nI q.2.1), .ref fc, .int idn, .int den])), (fc, .inl (cI, 24, .inl q.2.2))] H → va_D A [(aO, .inr (8, [.int (nI n), .int q.1, .int (nI q.2.1), .ref fc, .int idn, .int den])), (fc, .inl (cI, 24, .inl q.2.2))] → va_S A s.heap H locs → lv_has ls 5 [(0, .ref aO), (1, .int a), (2, .int (f5_inv a n)), (3, .int (f5_re (f5_inv a n) n i)), (4, .int (nI i))] → W p l e ({ frames := 4, cells := 0, slots := 0, locals := 180 } : Room) s m ([.ref aO, .int a] : List Value).toArray below meth c H locs 0 0 QQ (F0 m 14 ls []) := by
    intro d
    induction d with
    | zero =>
      intro i hi H locs ls hP hD hS hl
      have hie : i = n := by omega
      rw [hie] at hl
      refine lv_iload hx hb dgX5_conjugateBy_14 (lv_at hl 4 rfl) ?_
      refine lv_aload_n hx hb dgX5_conjugateBy_16 rfl (lv_at hl 0 rfl) ?_
      refine va_get (D := (dC, dI)) (ci := 8) (v := .int (nI n)) (C := RX5) (T := TX5) (N := 6) hx hb hts (fun _ h => List.mem_cons_of_mem _ (List.mem_append_left _ (List.mem_append_right _ h))) hown hK hP 0 rfl rfl 0 (by decide) (hts (.fieldLink RX5 25 "KnotHouse$Form" "strands" "I") (by decide +kernel)) (fun _ h9 => h9) rfl dgX5_conjugateBy_17 ?_
      refine lv_icmp_ge (tgt := 50) hx hb dgX5_conjugateBy_20 (by decide) (fun _ => ?_) (fun c9 => absurd (nI_le (a := n) (b := n) (by omega) (by omega)) c9)
      refine lv_aload_n hx hb dgX5_conjugateBy_50 rfl (lv_at hl 0 rfl) ?_
      refine va_get (D := (dC, dI)) (ci := 8) (v := .int q.1) (C := RX5) (T := TX5) (N := 6) hx hb hts (fun _ h => List.mem_cons_of_mem _ (List.mem_append_left _ (List.mem_append_right _ h))) hown hK hP 0 rfl rfl 1 (by decide) (hts (.fieldLink RX5 29 "KnotHouse$Form" "power" "I") (by decide +kernel)) (fun _ h9 => h9) rfl dgX5_conjugateBy_51 ?_
      refine lv_iconst (v := 1) hx hb dgX5_conjugateBy_54 (by decide) ?_
      refine lv_iand hx hb dgX5_conjugateBy_55 ?_
      refine lv_if_ne (tgt := 63) hx hb dgX5_conjugateBy_56 (by decide) (fun c1 => ?_) (fun c1 => ?_)
      · refine lv_iload_n hx hb dgX5_conjugateBy_63 rfl (lv_at hl 3 rfl) ?_
        refine lv_aload_n hx hb dgX5_conjugateBy_64 rfl (lv_at hl 0 rfl) ?_
        refine va_get (D := (dC, dI)) (ci := 8) (v := .int (nI n)) (C := RX5) (T := TX5) (N := 6) hx hb hts (fun _ h => List.mem_cons_of_mem _ (List.mem_append_left _ (List.mem_append_right _ h))) hown hK hP 0 rfl rfl 0 (by decide) (hts (.fieldLink RX5 25 "KnotHouse$Form" "strands" "I") (by decide +kernel)) (fun _ h9 => h9) rfl dgX5_conjugateBy_65 ?_
        have hPc := hP.sub (ws' := []) [] rfl
        refine va_calli (va_runS (As := [.int (f5_re (f5_inv a n) n n), .int (nI n)]) (rest := []) ⟨hx, hb, hml, hown, hts⟩ (kg_X5_turned l dC dI cI cB cJ cZ (f5_re (f5_inv a n) n n) n (by omega)) (va_cwS 2 hts gg_X5_conjugateBy_2 rfl rfl rfl (by decide +kernel) ⟨(Nat.le_of_ble_eq_true rfl), (Nat.le_of_ble_eq_true rfl)⟩) ⟨fun a U g mk q => by obtain ⟨q0, qP, qK⟩ := q; exact ⟨q0, qP, va_K.moved (u := U) (U := U.calling g mk a) (Vm.Alike.refl U.vm) qK⟩, fun U hU hW => ⟨rfl, by rw [hU]; exact hPc, va_K.moved hW.alike hK⟩⟩ rfl rfl hl.1 rfl (lv_room (Nat.le_of_ble_eq_true rfl)) dgX5_conjugateBy_68 ⟨(Nat.le_of_ble_eq_true rfl), (Nat.le_of_ble_eq_true rfl)⟩) hS (fun q _ h => h.elim) (fun q h => h.elim) (fun ra1 un t H1 locs ht hvm hw9 hB hz1 hk1 hS => ?_)
        have hP := hP.kept (fun k9 x9 h9 => hk1 x9.1 ((hP k9 x9 h9).lt) id)
        generalize H1 = H at hP hS ⊢
        obtain rfl : ra1 = f5_tu (f5_re (f5_inv a n) n n) n n := hw9
        refine ow_topi (y := (f5_pt q.1 (f5_re (f5_inv a n) n n) n)) (by rw [f5_pt, if_neg c1]) ?_
        exact K71 H locs ls hP hD hS (lv_sub hl [0, 1] rfl)
      · refine lv_iload_n hx hb dgX5_conjugateBy_59 rfl (lv_at hl 3 rfl) ?_
        refine lv_goto (tgt := 71) hx hb dgX5_conjugateBy_60 (by decide) ?_
        refine ow_topi (y := (f5_pt q.1 (f5_re (f5_inv a n) n n) n)) (by rw [f5_pt, if_pos c1]) ?_
        exact K71 H locs ls hP hD hS (lv_sub hl [0, 1] rfl)
    | succ d ih =>
      intro i hi H locs ls hP hD hS hl
      refine lv_iload hx hb dgX5_conjugateBy_14 (lv_at hl 4 rfl) ?_
      refine lv_aload_n hx hb dgX5_conjugateBy_16 rfl (lv_at hl 0 rfl) ?_
      refine va_get (D := (dC, dI)) (ci := 8) (v := .int (nI n)) (C := RX5) (T := TX5) (N := 6) hx hb hts (fun _ h => List.mem_cons_of_mem _ (List.mem_append_left _ (List.mem_append_right _ h))) hown hK hP 0 rfl rfl 0 (by decide) (hts (.fieldLink RX5 25 "KnotHouse$Form" "strands" "I") (by decide +kernel)) (fun _ h9 => h9) rfl dgX5_conjugateBy_17 ?_
      refine lv_icmp_ge (tgt := 50) hx hb dgX5_conjugateBy_20 (by decide) (fun c9 => absurd c9 (nI_ge (a := i) (b := n) (by omega) (by omega))) (fun _ => ?_)
      refine lv_iload_n hx hb dgX5_conjugateBy_23 rfl (lv_at hl 3 rfl) ?_
      refine lv_iload_n hx hb dgX5_conjugateBy_24 rfl (lv_at hl 2 rfl) ?_
      refine lv_aload_n hx hb dgX5_conjugateBy_25 rfl (lv_at hl 0 rfl) ?_
      refine va_get (D := (dC, dI)) (ci := 8) (v := .int (nI n)) (C := RX5) (T := TX5) (N := 6) hx hb hts (fun _ h => List.mem_cons_of_mem _ (List.mem_append_left _ (List.mem_append_right _ h))) hown hK hP 0 rfl rfl 0 (by decide) (hts (.fieldLink RX5 25 "KnotHouse$Form" "strands" "I") (by decide +kernel)) (fun _ h9 => h9) rfl dgX5_conjugateBy_26 ?_
      refine lv_iconst (v := 1) hx hb dgX5_conjugateBy_29 (by decide) ?_
      refine lv_isub hx hb dgX5_conjugateBy_30 ?_
      refine lv_iload hx hb dgX5_conjugateBy_31 (lv_at hl 4 rfl) ?_
      refine lv_isub hx hb dgX5_conjugateBy_33 ?_
      have hPc := hP.sub (ws' := []) [] rfl
      refine va_calli (va_runS (As := [.int (f5_inv a n), .int (nI n - 1 - nI i)]) (rest := [.int (f5_re (f5_inv a n) n i)]) ⟨hx, hb, hml, hown, hts⟩ (kg_X5_image l dC dI cI cB cJ cZ (f5_inv a n) (nI n - 1 - nI i)) (va_cwS 2 hts gg_X5_conjugateBy_1 rfl rfl rfl (by decide +kernel) ⟨(Nat.le_of_ble_eq_true rfl), (Nat.le_of_ble_eq_true rfl)⟩) ⟨fun a U g mk q => by obtain ⟨q0, qP, qK⟩ := q; exact ⟨q0, qP, va_K.moved (u := U) (U := U.calling g mk a) (Vm.Alike.refl U.vm) qK⟩, fun U hU hW => ⟨rfl, by rw [hU]; exact hPc, va_K.moved hW.alike hK⟩⟩ rfl rfl hl.1 rfl (lv_room (Nat.le_of_ble_eq_true rfl)) dgX5_conjugateBy_34 ⟨(Nat.le_of_ble_eq_true rfl), (Nat.le_of_ble_eq_true rfl)⟩) hS (fun q _ h => h.elim) (fun q h => h.elim) (fun ra2 un t H1 locs ht hvm hw9 hB hz1 hk1 hS => ?_)
      have hP := hP.kept (fun k9 x9 h9 => hk1 x9.1 ((hP k9 x9 h9).lt) id)
      generalize H1 = H at hP hS ⊢
      obtain rfl : ra2 = f5_im (f5_inv a n) (nI n - 1 - nI i) := hw9
      refine lv_iconst (v := 4) hx hb dgX5_conjugateBy_37 (by decide) ?_
      refine lv_iload hx hb dgX5_conjugateBy_38 (lv_at hl 4 rfl) ?_
      refine lv_imul hx hb dgX5_conjugateBy_40 ?_
      refine lv_ishl hx hb dgX5_conjugateBy_41 ?_
      refine lv_ior hx hb dgX5_conjugateBy_42 ?_
      refine lv_istore_n (lv' := [(3, .int ((f5_re (f5_inv a n) n i) ||| ((f5_im (f5_inv a n) (nI n - 1 - nI i)) <<< ((4 * (nI i)) &&& 31)))), (0, .ref aO), (1, .int a), (2, .int (f5_inv a n)), (4, .int (nI i))]) hx hb dgX5_conjugateBy_43 rfl hl (by decide) rfl (fun ls hl => ?_)
      refine lv_iinc (v := nI (i + 1)) (lv' := [(4, .int (nI (i + 1))), (3, .int ((f5_re (f5_inv a n) n i) ||| ((f5_im (f5_inv a n) (nI n - 1 - nI i)) <<< ((4 * (nI i)) &&& 31)))), (0, .ref aO), (1, .int a), (2, .int (f5_inv a n))]) hx hb dgX5_conjugateBy_44 hl (k := 4) rfl (nI_1 i) (by decide) rfl (fun ls hl => ?_)
      refine lv_goto (tgt := 14) hx hb dgX5_conjugateBy_47 (by decide) ?_
      exact ih (i + 1) (by omega) H locs ls hP hD hS (lv_sub hl [2, 3, 4, 1, 0] rfl)
  exact L14 n 0 (by omega) H locs ls hP hD hS (lv_sub hl [3, 4, 2, 1, 0] rfl)
