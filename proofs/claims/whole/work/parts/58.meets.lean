theorem cd_ans_neg {q : Bool × Nat} (h : q.2 < 2 ^ 31) : (cd_ans q < 0 ∧ q.1 = false) ∨ (¬ cd_ans q < 0 ∧ q.1 = true) := by
  obtain ⟨f, k⟩ := q
  cases f with
  | true => exact Or.inr ⟨nI_pos h, rfl⟩
  | false => exact Or.inl ⟨ow_mm1lt h, rfl⟩
theorem dgX3_meets_0 : decode cX3_meets 0 = .ok (.iconst 0, 1) := by decide +kernel
theorem dgX3_meets_1 : decode cX3_meets 1 = .ok (.istore_n 2, 1) := by decide +kernel
theorem dgX3_meets_2 : decode cX3_meets 2 = .ok (.iload_n 2, 1) := by decide +kernel
theorem dgX3_meets_3 : decode cX3_meets 3 = .ok (.aload_n 0, 1) := by decide +kernel
theorem dgX3_meets_4 : decode cX3_meets 4 = .ok (.getfield 37, 3) := by decide +kernel
theorem dgX3_meets_7 : decode cX3_meets 7 = .ok (.if_icmp .ge 20, 3) := by decide +kernel
theorem dgX3_meets_10 : decode cX3_meets 10 = .ok (.aload_n 1, 1) := by decide +kernel
theorem dgX3_meets_11 : decode cX3_meets 11 = .ok (.aload_n 0, 1) := by decide +kernel
theorem dgX3_meets_12 : decode cX3_meets 12 = .ok (.iload_n 2, 1) := by decide +kernel
theorem dgX3_meets_13 : decode cX3_meets 13 = .ok (.invokevirtual 45, 3) := by decide +kernel
theorem dgX3_meets_16 : decode cX3_meets 16 = .ok (.ifCond .lt 5, 3) := by decide +kernel
theorem dgX3_meets_19 : decode cX3_meets 19 = .ok (.iconst 1, 1) := by decide +kernel
theorem dgX3_meets_20 : decode cX3_meets 20 = .ok (.ireturn, 1) := by decide +kernel
theorem dgX3_meets_21 : decode cX3_meets 21 = .ok (.iinc 2 1, 3) := by decide +kernel
theorem dgX3_meets_24 : decode cX3_meets 24 = .ok (.goto (-22), 3) := by decide +kernel
theorem dgX3_meets_27 : decode cX3_meets 27 = .ok (.iconst 0, 1) := by decide +kernel
theorem dgX3_meets_28 : decode cX3_meets 28 = .ok (.ireturn, 1) := by decide +kernel
def wg_X3_meets : List Cond := .code yX3_meets cX3_meets 3 (some .boolean) :: (([.fieldLink RX3 37 "KnotHouse$Codes" "size" "I"] ++ wsX30) ++ (wsV RX3 45 RX3 yX3_find wg_X3_find ++ []))
theorem gg_X3_meets_0 : GoodIn wg_X3_meets (wsV RX3 45 RX3 yX3_find wg_X3_find) := goodIn_sub (fun _ h => List.mem_cons_of_mem _ (List.mem_append_right _ (List.mem_append_left _ h))) (by decide +kernel)
set_option maxHeartbeats 4000000 in
set_option maxRecDepth 100000 in
theorem kg_X3_meets (l : Launch) (dC : Nat → ClassId) (dI : Nat → Nat → Nat) (cI cB cJ cZ : ClassId) (aX aY : Nat) (fx fy : Nat → Nat) (n k : Nat) (hn : n < 2 ^ 24) (hk : k < 2 ^ 24) (T Y9 : ow_CS) (hT : cs_ok n T) (hU : cs_ok k Y9) : Met l yX3_meets wg_X3_meets (({ frames := 3, cells := 0, slots := 0, locals := 100 } : Room)) (va_Pc [.ref aX, .ref aY] (fun U => va_P (dC, dI) vwCl [(aX, .inr (6, [.ref (fx 0), .ref (fx 1), .ref (fx 2), .ref (fx 3), .int (nI T.2.2.2.2)])), ((fx 0), .inl (cB, (30 * n), .inl (ow_nI T.1))), ((fx 1), .inl (cB, n, .inl (ow_nI T.2.1))), ((fx 2), .inl (cB, n, .inl (ow_nI T.2.2.1))), ((fx 3), .inl (cI, n, .inl (ow_nI T.2.2.2.1))), (aY, .inr (6, [.ref (fy 0), .ref (fy 1), .ref (fy 2), .ref (fy 3), .int (nI Y9.2.2.2.2)])), ((fy 0), .inl (cB, (30 * k), .inl (ow_nI Y9.1))), ((fy 1), .inl (cB, k, .inl (ow_nI Y9.2.1))), ((fy 2), .inl (cB, k, .inl (ow_nI Y9.2.2.1))), ((fy 3), .inl (cI, k, .inl (ow_nI Y9.2.2.2.1)))] U.heap ∧ va_K (dC, dI) vwCl [(cI, .int), (cB, .byte), (cJ, .long), (cZ, .boolean)] U)) (va_Qi (fun r (_ : Unit) => (r = 1 ∧ ∃ i, i < T.2.2.2.2 ∧ (cs_srch Y9 T.1 (T.2.1 i) (T.2.2.1 i) i).1 = true) ∨ (r = 0 ∧ ∀ i, i < T.2.2.2.2 → (cs_srch Y9 T.1 (T.2.1 i) (T.2.2.1 i) i).1 = false)) (fun _ _ => True) (fun _ => False)) 0 0 (fun _ => False) := by
  refine Met.ofW (cc := cX3_meets) (maxL := 3) (ret := (some .boolean)) (by decide) rfl ?_
  intro p e s m args below meth c s₁ B hml hv
  obtain ⟨rfl, hP, hK⟩ := hv
  have hx := B.exec
  have hb := B.bytes
  have hr := B.returns
  have hts := atoms_spec (ws := wg_X3_meets) B.pre
  have hown : s.vm.findClass RX3 = some m.cls := findClass_of_methodNamed B.named
  have hlocks := B.notSynchronized
  have hS : va_S (fun _ => False) s.heap s.heap [] := va_S.rf
  have hP : va_P (dC, dI) vwCl [(aX, .inr (6, [.ref (fx 0), .ref (fx 1), .ref (fx 2), .ref (fx 3), .int (nI T.2.2.2.2)])), ((fx 0), .inl (cB, (30 * n), .inl (ow_nI T.1))), ((fx 1), .inl (cB, n, .inl (ow_nI T.2.1))), ((fx 2), .inl (cB, n, .inl (ow_nI T.2.2.1))), ((fx 3), .inl (cI, n, .inl (ow_nI T.2.2.2.1))), (aY, .inr (6, [.ref (fy 0), .ref (fy 1), .ref (fy 2), .ref (fy 3), .int (nI Y9.2.2.2.2)])), ((fy 0), .inl (cB, (30 * k), .inl (ow_nI Y9.1))), ((fy 1), .inl (cB, k, .inl (ow_nI Y9.2.1))), ((fy 2), .inl (cB, k, .inl (ow_nI Y9.2.2.1))), ((fy 3), .inl (cI, k, .inl (ow_nI Y9.2.2.2.1)))] s.heap := hP
  have hl := lv_entry ([.ref aX, .ref aY]) (n := 3) (Nat.le_of_ble_eq_true rfl)
  rw [lg_entry_eq]
  generalize (lg_sl ([.ref aX, .ref aY]) ++ List.replicate (3 - (lg_sl ([.ref aX, .ref aY])).length) Slot.unset).toArray = ls at hl ⊢
  have hl : lv_has ls 3 [(0, .ref aX), (1, .ref aY)] := hl
  refine ow_named (fun QQ hQQ => ?_)
  have hTn := hT.2.2.2.2
  have hUk := hU.2.2.2.2
  have L2 : ∀ (d i : Nat), i + d = T.2.2.2.2 → (∀ j, j < i → (cs_srch Y9 T.1 (T.2.1 j) (T.2.2.1 j) j).1 = false) → ∀ (H : Heap) (locs : List Loc) (ls : Array Slot), va_P (dC, dI) vwCl [(aX, .inr (6, [.ref (fx 0), .ref (fx 1), .ref (fx 2), .ref (fx 3), .int (nI T.2.2.2.2)])), ((fx 0), .inl (cB, (30 * n), .inl (ow_nI T.1))), ((fx 1), .inl (cB, n, .inl (ow_nI T.2.1))), ((fx 2), .inl (cB, n, .inl (ow_nI T.2.2.1))), ((fx 3), .inl (cI, n, .inl (ow_nI T.2.2.2.1))), (aY, .inr (6, [.ref (fy 0), .ref (fy 1), .ref (fy 2), .ref (fy 3), .int (nI Y9.2.2.2.2)])), ((fy 0), .inl (cB, (30 * k), .inl (ow_nI Y9.1))), ((fy 1), .inl (cB, k, .inl (ow_nI Y9.2.1))), ((fy 2), .inl (cB, k, .inl (ow_nI Y9.2.2.1))), ((fy 3), .inl (cI, k, .inl (ow_nI Y9.2.2.2.1)))] H → va_S (fun _ => False) s.heap H locs → lv_has ls 3 [(0, .ref aX), (1, .ref aY), (2, .int (nI i))] → W p l e ({ frames := 3, cells := 0, slots := 0, locals := 100 } : Room) s m ([.ref aX, .ref aY] : List Value).toArray below meth c H locs 0 0 QQ (F0 m 2 ls []) := by
    intro d
    induction d with
    | zero =>
      intro i hi hno H locs ls hP hS hl
      refine lv_iload_n hx hb dgX3_meets_2 rfl (lv_at hl 2 rfl) ?_
      refine lv_aload_n hx hb dgX3_meets_3 rfl (lv_at hl 0 rfl) ?_
      refine va_get (D := (dC, dI)) (ci := 6) (v := .int (nI T.2.2.2.2)) (C := RX3) (T := TX3) (N := 5) hx hb hts (fun _ h => List.mem_cons_of_mem _ (List.mem_append_left _ (List.mem_append_right _ h))) hown hK hP 0 rfl rfl 4 (by decide) (hts (.fieldLink RX3 37 "KnotHouse$Codes" "size" "I") (by decide +kernel)) (fun _ h9 => h9) rfl dgX3_meets_4 ?_
      refine lv_icmp_ge (tgt := 27) hx hb dgX3_meets_7 (by decide) (fun _ => ?_) (fun c9 => absurd (nI_le (a := T.2.2.2.2) (b := i) (by omega) (by omega)) c9)
      refine lv_iconst (v := 0) hx hb dgX3_meets_27 (by decide) ?_
      rw [hQQ]
      exact W.zret (v := 0) (ty := .boolean) hx hb hr rfl (fun t ht hW => ⟨⟨0, (), rfl, Or.inr ⟨rfl, fun j hj => hno j (by omega)⟩, trivial⟩, hS.F ht⟩) hS.2.2 dgX3_meets_28
    | succ d ih =>
      intro i hi hno H locs ls hP hS hl
      refine lv_iload_n hx hb dgX3_meets_2 rfl (lv_at hl 2 rfl) ?_
      refine lv_aload_n hx hb dgX3_meets_3 rfl (lv_at hl 0 rfl) ?_
      refine va_get (D := (dC, dI)) (ci := 6) (v := .int (nI T.2.2.2.2)) (C := RX3) (T := TX3) (N := 5) hx hb hts (fun _ h => List.mem_cons_of_mem _ (List.mem_append_left _ (List.mem_append_right _ h))) hown hK hP 0 rfl rfl 4 (by decide) (hts (.fieldLink RX3 37 "KnotHouse$Codes" "size" "I") (by decide +kernel)) (fun _ h9 => h9) rfl dgX3_meets_4 ?_
      refine lv_icmp_ge (tgt := 27) hx hb dgX3_meets_7 (by decide) (fun c9 => absurd c9 (nI_ge (a := i) (b := T.2.2.2.2) (by omega) (by omega))) (fun _ => ?_)
      refine lv_aload_n hx hb dgX3_meets_10 rfl (lv_at hl 1 rfl) ?_
      refine lv_aload_n hx hb dgX3_meets_11 rfl (lv_at hl 0 rfl) ?_
      refine lv_iload_n hx hb dgX3_meets_12 rfl (lv_at hl 2 rfl) ?_
      have hPc := hP.sub (ws' := [(aY, .inr (6, [.ref (fy 0), .ref (fy 1), .ref (fy 2), .ref (fy 3), .int (nI Y9.2.2.2.2)])), ((fy 0), .inl (cB, (30 * k), .inl (ow_nI Y9.1))), ((fy 1), .inl (cB, k, .inl (ow_nI Y9.2.1))), ((fy 2), .inl (cB, k, .inl (ow_nI Y9.2.2.1))), ((fy 3), .inl (cI, k, .inl (ow_nI Y9.2.2.2.1))), (aX, .inr (6, [.ref (fx 0), .ref (fx 1), .ref (fx 2), .ref (fx 3), .int (nI T.2.2.2.2)])), ((fx 0), .inl (cB, (30 * n), .inl (ow_nI T.1))), ((fx 1), .inl (cB, n, .inl (ow_nI T.2.1))), ((fx 2), .inl (cB, n, .inl (ow_nI T.2.2.1)))]) [5, 6, 7, 8, 9, 0, 1, 2, 3] rfl
      refine va_calli (va_runV (As := [.ref aX, .int (nI i)]) (rest := []) ⟨hx, hb, hml, hown, hts⟩ (kg_X3_find l dC dI cI cB cJ cZ aY aX fy fx k n hk hn Y9.1 Y9.2.1 Y9.2.2.1 Y9.2.2.2.1 T.1 T.2.1 T.2.2.1 Y9.2.2.2.2 (nI T.2.2.2.2) hU.2.2.2.2 i (by omega) (fun i h => Nat.lt_of_lt_of_le (hU.2.2.2.1 i h) hU.2.2.2.2) hU.2.1 (hT.2.1 i) hU.1 hU.2.2.1 hT.1 hT.2.2.1) (cwV 2 hts gg_X3_meets_0 rfl rfl rfl (by decide +kernel) ⟨(Nat.le_of_ble_eq_true rfl), (Nat.le_of_ble_eq_true rfl)⟩) ⟨fun a U g mk q => by obtain ⟨q0, qP, qK⟩ := q; exact ⟨q0, qP, va_K.moved (u := U) (U := U.calling g mk a) (Vm.Alike.refl U.vm) qK⟩, va_recv hK hPc (ci := 6) (q0 := 0) rfl rfl, fun U hU hW => ⟨rfl, by rw [hU]; exact hPc, va_K.moved hW.alike hK⟩⟩ rfl rfl hl.1 rfl (lv_room (Nat.le_of_ble_eq_true rfl)) dgX3_meets_13 ⟨(Nat.le_of_ble_eq_true rfl), (Nat.le_of_ble_eq_true rfl)⟩) hS (fun q _ h => h.elim) (fun q h => h.elim) (fun r9 un t H1 locs ht hvm hw9 hB hz1 hk1 hS => ?_)
      have hP := hP.kept (fun k9 x9 h9 => hk1 x9.1 ((hP k9 x9 h9).lt) id)
      generalize H1 = H at hP hS ⊢
      have hr9 : r9 = cd_ans (cs_srch Y9 T.1 (T.2.1 i) (T.2.2.1 i) i) := hw9
      have hsl := cs_srch_le Y9 T.1 (T.2.1 i) (T.2.2.1 i) i
      rcases cd_ans_neg (q := cs_srch Y9 T.1 (T.2.1 i) (T.2.2.1 i) i) (by omega) with ⟨ha, hb9⟩ | ⟨ha, hb9⟩
      · rw [← hr9] at ha
        refine lv_if_lt (tgt := 21) hx hb dgX3_meets_16 (by decide) (fun _ => ?_) (fun c9 => absurd (ha) c9)
        refine lv_iinc (v := nI (i + 1)) (lv' := [(2, .int (nI (i + 1))), (0, .ref aX), (1, .ref aY)]) hx hb dgX3_meets_21 hl (k := 2) rfl (nI_1 i) (by decide) rfl (fun ls hl => ?_)
        refine lv_goto (tgt := 2) hx hb dgX3_meets_24 (by decide) ?_
        refine ih (i + 1) (by omega) (fun j hj => ?_) H locs ls hP hS (lv_sub hl [1, 2, 0] rfl)
        rcases Nat.lt_or_ge j i with q | q
        · exact hno j q
        · have e9 : j = i := by omega
          rw [e9]; exact hb9
      · rw [← hr9] at ha
        refine lv_if_lt (tgt := 21) hx hb dgX3_meets_16 (by decide) (fun c9 => absurd c9 (ha)) (fun _ => ?_)
        refine lv_iconst (v := 1) hx hb dgX3_meets_19 (by decide) ?_
        rw [hQQ]
        exact W.zret (v := 1) (ty := .boolean) hx hb hr rfl (fun t ht hW => ⟨⟨1, (), rfl, Or.inl ⟨rfl, i, by omega, hb9⟩, trivial⟩, hS.F ht⟩) hS.2.2 dgX3_meets_20
  refine lv_iconst (v := 0) hx hb dgX3_meets_0 (by decide) ?_
  refine ow_topi (y := nI 0) (by decide) ?_
  refine lv_istore_n (lv' := [(2, .int (nI 0)), (0, .ref aX), (1, .ref aY)]) hx hb dgX3_meets_1 rfl hl (by decide) rfl (fun ls hl => ?_)
  exact L2 T.2.2.2.2 0 (by omega) (fun j hj => absurd hj (Nat.not_lt_zero j)) s.heap [] ls hP hS (lv_sub hl [1, 2, 0] rfl)
