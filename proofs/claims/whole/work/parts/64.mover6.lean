/-! yes and no -/
def bI (b : Bool) : Int32 := if b then 1 else 0
theorem bI_t {b : Bool} (h : b = true) : bI b = 1 := by rw [h]; rfl
theorem bI_f {b : Bool} (h : b = false) : bI b = 0 := by rw [h]; rfl
theorem bI_ne {b : Bool} (h : ¬ bI b = 0) : b = true := by
  cases b with
  | true => rfl
  | false => exact absurd rfl h
theorem bI_eq {b : Bool} (h : bI b = 0) : b = false := by
  cases b with
  | false => rfl
  | true => exact absurd h (by decide)
def mv_bs (N : Nat → Nat) (v w : Nat) : Bool := decide (N v = w) || decide (N w = v)
def mv_pair (N : Nat → Nat) (G : Nat → Int32) (x y : Nat) : Bool := (decide (G x ≠ G y) && mv_bs N (2 * x) (2 * y)) && mv_bs N (2 * x + 1) (2 * y + 1)
def mv_ov (N : Nat → Nat) (sd : Nat) : Bool := decide (sd / 2 % 2 = 0) && decide (N (sd / 2) % 2 = 0)
def mv_cnt (c kd : Nat) : Nat := match kd with
  | 0 => c
  | 1 => if c + 1 ≤ 12 then (2 * c + 1) * 4 else 0
  | 2 => c * c
  | 3 => if c + 2 ≤ 12 then (2 * c + 1) * (2 * c + 2) * 4 else 0
  | _ => 2 * (2 * c)
def mv_meet (F P : Nat → Int32) (v w : Nat) : Bool := decide (P v ≠ P w) || (decide (F (2 * v) = F (2 * w)) || (decide (F (2 * v) = F (2 * w + 1)) || (decide (F (2 * v + 1) = F (2 * w)) || decide (F (2 * v + 1) = F (2 * w + 1)))))
def mv_pass (N : Nat → Nat) (a b d : Nat) : Bool := decide (fc_end N a / 2 ≠ fc_end N b / 2) && (decide (fc_end N b / 2 ≠ fc_end N d / 2) && (decide (fc_end N a / 2 ≠ fc_end N d / 2) && (mv_ov N a || (mv_ov N b || mv_ov N d))))
theorem dgX6_isBeside_0 : decode cX6_isBeside 0 = .ok (.aload_n 0, 1) := by decide +kernel
theorem dgX6_isBeside_1 : decode cX6_isBeside 1 = .ok (.getfield 116, 3) := by decide +kernel
theorem dgX6_isBeside_4 : decode cX6_isBeside 4 = .ok (.iload_n 1, 1) := by decide +kernel
theorem dgX6_isBeside_5 : decode cX6_isBeside 5 = .ok (.iaload, 1) := by decide +kernel
theorem dgX6_isBeside_6 : decode cX6_isBeside 6 = .ok (.iload_n 2, 1) := by decide +kernel
theorem dgX6_isBeside_7 : decode cX6_isBeside 7 = .ok (.if_icmp .eq 13, 3) := by decide +kernel
theorem dgX6_isBeside_10 : decode cX6_isBeside 10 = .ok (.aload_n 0, 1) := by decide +kernel
theorem dgX6_isBeside_11 : decode cX6_isBeside 11 = .ok (.getfield 116, 3) := by decide +kernel
theorem dgX6_isBeside_14 : decode cX6_isBeside 14 = .ok (.iload_n 2, 1) := by decide +kernel
theorem dgX6_isBeside_15 : decode cX6_isBeside 15 = .ok (.iaload, 1) := by decide +kernel
theorem dgX6_isBeside_16 : decode cX6_isBeside 16 = .ok (.iload_n 1, 1) := by decide +kernel
theorem dgX6_isBeside_17 : decode cX6_isBeside 17 = .ok (.if_icmp .ne 7, 3) := by decide +kernel
theorem dgX6_isBeside_20 : decode cX6_isBeside 20 = .ok (.iconst 1, 1) := by decide +kernel
theorem dgX6_isBeside_21 : decode cX6_isBeside 21 = .ok (.goto 4, 3) := by decide +kernel
theorem dgX6_isBeside_24 : decode cX6_isBeside 24 = .ok (.iconst 0, 1) := by decide +kernel
theorem dgX6_isBeside_25 : decode cX6_isBeside 25 = .ok (.ireturn, 1) := by decide +kernel
def wg_X6_isBeside : List Cond := .code yX6_isBeside cX6_isBeside 3 (some .boolean) :: (([.fieldLink RX6 116 "KnotHouse$Net" "next" "[I"] ++ wsX70) ++ [])
set_option maxHeartbeats 4000000 in
set_option maxRecDepth 100000 in
theorem kg_X6_isBeside (l : Launch) (dC : Nat → ClassId) (dI : Nat → Nat → Nat) (cI cB cJ cZ : ClassId) (aX : Nat) (nx : Nat → Nat) (x7 x8 x9 x10 : Int32) (N : Nat → Nat) (hN : ∀ k, N k < 24) (v w : Nat) (hv : v < 24) (hw0 : w < 24) : Met l yX6_isBeside wg_X6_isBeside (({ frames := 0, cells := 0, slots := 0, locals := 0 } : Room)) (va_Pc [.ref aX, .int (nI v), .int (nI w)] (fun U => va_P (dC, dI) vwCl [(aX, .inr (10, [.ref (nx 0), .ref (nx 1), .ref (nx 2), .ref (nx 3), .ref (nx 4), .ref (nx 5), .ref (nx 6), .int x7, .int x8, .int x9, .int x10])), ((nx 0), .inl (cI, 24, .inl (ow_nI N)))] U.heap ∧ va_K (dC, dI) vwCl [(cI, .int), (cB, .byte), (cJ, .long), (cZ, .boolean)] U)) (va_Qi (fun r (_ : Unit) => r = bI (mv_bs N v w)) (fun _ _ => True) (fun _ => False)) 0 0 (fun _ => False) := by
  refine Met.ofW (cc := cX6_isBeside) (maxL := 3) (ret := (some .boolean)) (by decide) rfl ?_
  intro p e s m args below meth c s₁ B hml hv
  obtain ⟨rfl, hP, hK⟩ := hv
  have hx := B.exec
  have hb := B.bytes
  have hr := B.returns
  have hts := atoms_spec (ws := wg_X6_isBeside) B.pre
  have hown : s.vm.findClass RX6 = some m.cls := findClass_of_methodNamed B.named
  have hlocks := B.notSynchronized
  have hS : va_S (fun _ => False) s.heap s.heap [] := va_S.rf
  have hP : va_P (dC, dI) vwCl [(aX, .inr (10, [.ref (nx 0), .ref (nx 1), .ref (nx 2), .ref (nx 3), .ref (nx 4), .ref (nx 5), .ref (nx 6), .int x7, .int x8, .int x9, .int x10])), ((nx 0), .inl (cI, 24, .inl (ow_nI N)))] s.heap := hP
  have hl := lv_entry ([.ref aX, .int (nI v), .int (nI w)]) (n := 3) (Nat.le_of_ble_eq_true rfl)
  rw [lg_entry_eq]
  generalize (lg_sl ([.ref aX, .int (nI v), .int (nI w)]) ++ List.replicate (3 - (lg_sl ([.ref aX, .int (nI v), .int (nI w)])).length) Slot.unset).toArray = ls at hl ⊢
  have hl : lv_has ls 3 [(0, .ref aX), (1, .int (nI v)), (2, .int (nI w))] := hl
  refine ow_named (fun QQ hQQ => ?_)
  refine lv_aload_n hx hb dgX6_isBeside_0 rfl (lv_at hl 0 rfl) ?_
  refine va_get (D := (dC, dI)) (ci := 10) (v := .ref (nx 0)) (C := RX7) (T := TX7) (N := 11) hx hb hts (fun _ h => List.mem_cons_of_mem _ (List.mem_append_left _ (List.mem_append_right _ h))) hown hK hP 0 rfl rfl 0 (by decide) (hts (.fieldLink RX6 116 "KnotHouse$Net" "next" "[I") (by decide +kernel)) (fun _ h9 => h9) rfl dgX6_isBeside_1 ?_
  refine lv_iload_n hx hb dgX6_isBeside_4 rfl (lv_at hl 1 rfl) ?_
  refine va_iald hx hb hK hP 1 0 rfl rfl (vp_in_nI (n := v) (N := 24) hv (by decide)) dgX6_isBeside_5 ?_
  refine ow_topi (y := nI (N v)) (ow_nI_at N (Nat.lt_trans (m := 24) hv (by decide))) ?_
  refine lv_iload_n hx hb dgX6_isBeside_6 rfl (lv_at hl 2 rfl) ?_
  refine lv_icmp_eq (tgt := 20) hx hb dgX6_isBeside_7 (by decide) (fun c1 => ?_) (fun c1 => ?_)
  · have hf2 : N v = w := ow_nI_inj (Nat.lt_trans (hN _) (by decide)) (by omega) c1
    refine lv_iconst (v := 1) hx hb dgX6_isBeside_20 (by decide) ?_
    refine lv_goto (tgt := 25) hx hb dgX6_isBeside_21 (by decide) ?_
    rw [hQQ]
    exact W.zret (v := 1) (ty := .boolean) hx hb hr rfl (fun t ht hW => ⟨⟨1, (), rfl, by simp [bI, mv_bs, hf2], trivial⟩, hS.F ht⟩) hS.2.2 dgX6_isBeside_25
  · have hf3 : ¬ N v = w := fun h9 => c1 (congrArg nI h9)
    refine lv_aload_n hx hb dgX6_isBeside_10 rfl (lv_at hl 0 rfl) ?_
    refine va_get (D := (dC, dI)) (ci := 10) (v := .ref (nx 0)) (C := RX7) (T := TX7) (N := 11) hx hb hts (fun _ h => List.mem_cons_of_mem _ (List.mem_append_left _ (List.mem_append_right _ h))) hown hK hP 0 rfl rfl 0 (by decide) (hts (.fieldLink RX6 116 "KnotHouse$Net" "next" "[I") (by decide +kernel)) (fun _ h9 => h9) rfl dgX6_isBeside_11 ?_
    refine lv_iload_n hx hb dgX6_isBeside_14 rfl (lv_at hl 2 rfl) ?_
    refine va_iald hx hb hK hP 1 0 rfl rfl (vp_in_nI (n := w) (N := 24) hw0 (by decide)) dgX6_isBeside_15 ?_
    refine ow_topi (y := nI (N w)) (ow_nI_at N (Nat.lt_trans (m := 24) hw0 (by decide))) ?_
    refine lv_iload_n hx hb dgX6_isBeside_16 rfl (lv_at hl 1 rfl) ?_
    refine lv_icmp_ne (tgt := 24) hx hb dgX6_isBeside_17 (by decide) (fun c4 => ?_) (fun c4 => ?_)
    · have hf5 : ¬ N w = v := fun h9 => c4 (congrArg nI h9)
      refine lv_iconst (v := 0) hx hb dgX6_isBeside_24 (by decide) ?_
      rw [hQQ]
      exact W.zret (v := 0) (ty := .boolean) hx hb hr rfl (fun t ht hW => ⟨⟨0, (), rfl, by simp [bI, mv_bs, hf3, hf5], trivial⟩, hS.F ht⟩) hS.2.2 dgX6_isBeside_25
    · have hf6 : N w = v := ow_nI_inj (Nat.lt_trans (hN _) (by decide)) (by omega) c4
      refine lv_iconst (v := 1) hx hb dgX6_isBeside_20 (by decide) ?_
      refine lv_goto (tgt := 25) hx hb dgX6_isBeside_21 (by decide) ?_
      rw [hQQ]
      exact W.zret (v := 1) (ty := .boolean) hx hb hr rfl (fun t ht hW => ⟨⟨1, (), rfl, by simp [bI, mv_bs, hf3, hf6], trivial⟩, hS.F ht⟩) hS.2.2 dgX6_isBeside_25
theorem dgX6_isLoop_0 : decode cX6_isLoop 0 = .ok (.aload_n 0, 1) := by decide +kernel
theorem dgX6_isLoop_1 : decode cX6_isLoop 1 = .ok (.iconst 2, 1) := by decide +kernel
theorem dgX6_isLoop_2 : decode cX6_isLoop 2 = .ok (.iload_n 1, 1) := by decide +kernel
theorem dgX6_isLoop_3 : decode cX6_isLoop 3 = .ok (.imul, 1) := by decide +kernel
theorem dgX6_isLoop_4 : decode cX6_isLoop 4 = .ok (.iconst 2, 1) := by decide +kernel
theorem dgX6_isLoop_5 : decode cX6_isLoop 5 = .ok (.iload_n 1, 1) := by decide +kernel
theorem dgX6_isLoop_6 : decode cX6_isLoop 6 = .ok (.imul, 1) := by decide +kernel
theorem dgX6_isLoop_7 : decode cX6_isLoop 7 = .ok (.iconst 1, 1) := by decide +kernel
theorem dgX6_isLoop_8 : decode cX6_isLoop 8 = .ok (.iadd, 1) := by decide +kernel
theorem dgX6_isLoop_9 : decode cX6_isLoop 9 = .ok (.invokestatic 112, 3) := by decide +kernel
theorem dgX6_isLoop_12 : decode cX6_isLoop 12 = .ok (.ireturn, 1) := by decide +kernel
def wg_X6_isLoop : List Cond := .code yX6_isLoop cX6_isLoop 2 (some .boolean) :: (([] ++ wsX70) ++ (va_wsS RX6 112 yX6_isBeside wg_X6_isBeside ++ []))
theorem gg_X6_isLoop_0 : GoodIn wg_X6_isLoop (va_wsS RX6 112 yX6_isBeside wg_X6_isBeside) := goodIn_sub (fun _ h => List.mem_cons_of_mem _ (List.mem_append_right _ (List.mem_append_left _ h))) (by decide +kernel)
set_option maxHeartbeats 4000000 in
set_option maxRecDepth 100000 in
theorem kg_X6_isLoop (l : Launch) (dC : Nat → ClassId) (dI : Nat → Nat → Nat) (cI cB cJ cZ : ClassId) (aX : Nat) (nx : Nat → Nat) (x7 x8 x9 x10 : Int32) (N : Nat → Nat) (hN : ∀ k, N k < 24) (x : Nat) (hx0 : x < 12) : Met l yX6_isLoop wg_X6_isLoop (({ frames := 1, cells := 0, slots := 0, locals := 30 } : Room)) (va_Pc [.ref aX, .int (nI x)] (fun U => va_P (dC, dI) vwCl [(aX, .inr (10, [.ref (nx 0), .ref (nx 1), .ref (nx 2), .ref (nx 3), .ref (nx 4), .ref (nx 5), .ref (nx 6), .int x7, .int x8, .int x9, .int x10])), ((nx 0), .inl (cI, 24, .inl (ow_nI N)))] U.heap ∧ va_K (dC, dI) vwCl [(cI, .int), (cB, .byte), (cJ, .long), (cZ, .boolean)] U)) (va_Qi (fun r (_ : Unit) => r = bI (mv_bs N (2 * x) (2 * x + 1))) (fun _ _ => True) (fun _ => False)) 0 0 (fun _ => False) := by
  refine Met.ofW (cc := cX6_isLoop) (maxL := 2) (ret := (some .boolean)) (by decide) rfl ?_
  intro p e s m args below meth c s₁ B hml hv
  obtain ⟨rfl, hP, hK⟩ := hv
  have hx := B.exec
  have hb := B.bytes
  have hr := B.returns
  have hts := atoms_spec (ws := wg_X6_isLoop) B.pre
  have hown : s.vm.findClass RX6 = some m.cls := findClass_of_methodNamed B.named
  have hlocks := B.notSynchronized
  have hS : va_S (fun _ => False) s.heap s.heap [] := va_S.rf
  have hP : va_P (dC, dI) vwCl [(aX, .inr (10, [.ref (nx 0), .ref (nx 1), .ref (nx 2), .ref (nx 3), .ref (nx 4), .ref (nx 5), .ref (nx 6), .int x7, .int x8, .int x9, .int x10])), ((nx 0), .inl (cI, 24, .inl (ow_nI N)))] s.heap := hP
  have hl := lv_entry ([.ref aX, .int (nI x)]) (n := 2) (Nat.le_of_ble_eq_true rfl)
  rw [lg_entry_eq]
  generalize (lg_sl ([.ref aX, .int (nI x)]) ++ List.replicate (2 - (lg_sl ([.ref aX, .int (nI x)])).length) Slot.unset).toArray = ls at hl ⊢
  have hl : lv_has ls 2 [(0, .ref aX), (1, .int (nI x))] := hl
  refine ow_named (fun QQ hQQ => ?_)
  refine lv_aload_n hx hb dgX6_isLoop_0 rfl (lv_at hl 0 rfl) ?_
  refine lv_iconst (v := 2) hx hb dgX6_isLoop_1 (by decide) ?_
  refine lv_iload_n hx hb dgX6_isLoop_2 rfl (lv_at hl 1 rfl) ?_
  refine lv_imul hx hb dgX6_isLoop_3 ?_
  refine ow_topi (y := nI (2 * x)) (pk_mul 2 x) ?_
  refine lv_iconst (v := 2) hx hb dgX6_isLoop_4 (by decide) ?_
  refine lv_iload_n hx hb dgX6_isLoop_5 rfl (lv_at hl 1 rfl) ?_
  refine lv_imul hx hb dgX6_isLoop_6 ?_
  refine ow_topi (y := nI (2 * x)) (pk_mul 2 x) ?_
  refine lv_iconst (v := 1) hx hb dgX6_isLoop_7 (by decide) ?_
  refine lv_iadd hx hb dgX6_isLoop_8 ?_
  refine ow_topi (y := nI (2 * x + 1)) (nI_1 (2 * x)) ?_
  have hPc := hP.sub (ws' := [(aX, .inr (10, [.ref (nx 0), .ref (nx 1), .ref (nx 2), .ref (nx 3), .ref (nx 4), .ref (nx 5), .ref (nx 6), .int x7, .int x8, .int x9, .int x10])), ((nx 0), .inl (cI, 24, .inl (ow_nI N)))]) [0, 1] rfl
  refine va_calli (va_runS (As := [.ref aX, .int (nI (2 * x)), .int (nI (2 * x + 1))]) (rest := []) ⟨hx, hb, hml, hown, hts⟩ (kg_X6_isBeside l dC dI cI cB cJ cZ aX nx x7 x8 x9 x10 N hN (2 * x) (2 * x + 1) (by omega) (by omega)) (va_cwS 3 hts gg_X6_isLoop_0 rfl rfl rfl (by decide +kernel) ⟨(Nat.le_of_ble_eq_true rfl), (Nat.le_of_ble_eq_true rfl)⟩) ⟨fun a U g mk q => by obtain ⟨q0, qP, qK⟩ := q; exact ⟨q0, qP, va_K.moved (u := U) (U := U.calling g mk a) (Vm.Alike.refl U.vm) qK⟩, fun U hU hW => ⟨rfl, by rw [hU]; exact hPc, va_K.moved hW.alike hK⟩⟩ rfl rfl hl.1 rfl (lv_room (Nat.le_of_ble_eq_true rfl)) dgX6_isLoop_9 ⟨(Nat.le_of_ble_eq_true rfl), (Nat.le_of_ble_eq_true rfl)⟩) hS (fun q _ h => h.elim) (fun q h => h.elim) (fun r9 un t H1 locs ht hvm hw9 hB hz1 hk1 hS => ?_)
  have hP := hP.kept (fun k9 x9 h9 => hk1 x9.1 ((hP k9 x9 h9).lt) id)
  generalize H1 = H at hP hS ⊢
  have hr9 : r9 = bI (mv_bs N (2 * x) (2 * x + 1)) := hw9
  obtain rfl := hr9
  cases hbb : mv_bs N (2 * x) (2 * x + 1) with
  | true =>
    rw [hQQ]
    exact W.zret (v := 1) (ty := .boolean) hx hb hr rfl (fun t ht hW => ⟨⟨1, (), rfl, (bI_t hbb).symm, trivial⟩, hS.F ht⟩) hS.2.2 dgX6_isLoop_12
  | false =>
    rw [hQQ]
    exact W.zret (v := 0) (ty := .boolean) hx hb hr rfl (fun t ht hW => ⟨⟨0, (), rfl, (bI_f hbb).symm, trivial⟩, hS.F ht⟩) hS.2.2 dgX6_isLoop_12
theorem dgX6_isPair_0 : decode cX6_isPair 0 = .ok (.aload_n 0, 1) := by decide +kernel
theorem dgX6_isPair_1 : decode cX6_isPair 1 = .ok (.getfield 123, 3) := by decide +kernel
theorem dgX6_isPair_4 : decode cX6_isPair 4 = .ok (.iload_n 1, 1) := by decide +kernel
theorem dgX6_isPair_5 : decode cX6_isPair 5 = .ok (.iaload, 1) := by decide +kernel
theorem dgX6_isPair_6 : decode cX6_isPair 6 = .ok (.aload_n 0, 1) := by decide +kernel
theorem dgX6_isPair_7 : decode cX6_isPair 7 = .ok (.getfield 123, 3) := by decide +kernel
theorem dgX6_isPair_10 : decode cX6_isPair 10 = .ok (.iload_n 2, 1) := by decide +kernel
theorem dgX6_isPair_11 : decode cX6_isPair 11 = .ok (.iaload, 1) := by decide +kernel
theorem dgX6_isPair_12 : decode cX6_isPair 12 = .ok (.if_icmp .eq 37, 3) := by decide +kernel
theorem dgX6_isPair_15 : decode cX6_isPair 15 = .ok (.aload_n 0, 1) := by decide +kernel
theorem dgX6_isPair_16 : decode cX6_isPair 16 = .ok (.iconst 2, 1) := by decide +kernel
theorem dgX6_isPair_17 : decode cX6_isPair 17 = .ok (.iload_n 1, 1) := by decide +kernel
theorem dgX6_isPair_18 : decode cX6_isPair 18 = .ok (.imul, 1) := by decide +kernel
theorem dgX6_isPair_19 : decode cX6_isPair 19 = .ok (.iconst 2, 1) := by decide +kernel
theorem dgX6_isPair_20 : decode cX6_isPair 20 = .ok (.iload_n 2, 1) := by decide +kernel
theorem dgX6_isPair_21 : decode cX6_isPair 21 = .ok (.imul, 1) := by decide +kernel
theorem dgX6_isPair_22 : decode cX6_isPair 22 = .ok (.invokestatic 112, 3) := by decide +kernel
theorem dgX6_isPair_25 : decode cX6_isPair 25 = .ok (.ifCond .eq 24, 3) := by decide +kernel
theorem dgX6_isPair_28 : decode cX6_isPair 28 = .ok (.aload_n 0, 1) := by decide +kernel
theorem dgX6_isPair_29 : decode cX6_isPair 29 = .ok (.iconst 2, 1) := by decide +kernel
theorem dgX6_isPair_30 : decode cX6_isPair 30 = .ok (.iload_n 1, 1) := by decide +kernel
theorem dgX6_isPair_31 : decode cX6_isPair 31 = .ok (.imul, 1) := by decide +kernel
theorem dgX6_isPair_32 : decode cX6_isPair 32 = .ok (.iconst 1, 1) := by decide +kernel
theorem dgX6_isPair_33 : decode cX6_isPair 33 = .ok (.iadd, 1) := by decide +kernel
theorem dgX6_isPair_34 : decode cX6_isPair 34 = .ok (.iconst 2, 1) := by decide +kernel
theorem dgX6_isPair_35 : decode cX6_isPair 35 = .ok (.iload_n 2, 1) := by decide +kernel
theorem dgX6_isPair_36 : decode cX6_isPair 36 = .ok (.imul, 1) := by decide +kernel
theorem dgX6_isPair_37 : decode cX6_isPair 37 = .ok (.iconst 1, 1) := by decide +kernel
theorem dgX6_isPair_38 : decode cX6_isPair 38 = .ok (.iadd, 1) := by decide +kernel
theorem dgX6_isPair_39 : decode cX6_isPair 39 = .ok (.invokestatic 112, 3) := by decide +kernel
theorem dgX6_isPair_42 : decode cX6_isPair 42 = .ok (.ifCond .eq 7, 3) := by decide +kernel
theorem dgX6_isPair_45 : decode cX6_isPair 45 = .ok (.iconst 1, 1) := by decide +kernel
theorem dgX6_isPair_46 : decode cX6_isPair 46 = .ok (.goto 4, 3) := by decide +kernel
theorem dgX6_isPair_49 : decode cX6_isPair 49 = .ok (.iconst 0, 1) := by decide +kernel
theorem dgX6_isPair_50 : decode cX6_isPair 50 = .ok (.ireturn, 1) := by decide +kernel
def wg_X6_isPair : List Cond := .code yX6_isPair cX6_isPair 3 (some .boolean) :: (([.fieldLink RX6 123 "KnotHouse$Net" "sign" "[I"] ++ wsX70) ++ (va_wsS RX6 112 yX6_isBeside wg_X6_isBeside ++ []))
theorem gg_X6_isPair_0 : GoodIn wg_X6_isPair (va_wsS RX6 112 yX6_isBeside wg_X6_isBeside) := goodIn_sub (fun _ h => List.mem_cons_of_mem _ (List.mem_append_right _ (List.mem_append_left _ h))) (by decide +kernel)
set_option maxHeartbeats 4000000 in
set_option maxRecDepth 100000 in
theorem kg_X6_isPair (l : Launch) (dC : Nat → ClassId) (dI : Nat → Nat → Nat) (cI cB cJ cZ : ClassId) (aX : Nat) (nx : Nat → Nat) (x7 x8 x9 x10 : Int32) (N : Nat → Nat) (hN : ∀ k, N k < 24) (G : Nat → Int32) (x y : Nat) (hx0 : x < 12) (hy0 : y < 12) : Met l yX6_isPair wg_X6_isPair (({ frames := 1, cells := 0, slots := 0, locals := 40 } : Room)) (va_Pc [.ref aX, .int (nI x), .int (nI y)] (fun U => va_P (dC, dI) vwCl [(aX, .inr (10, [.ref (nx 0), .ref (nx 1), .ref (nx 2), .ref (nx 3), .ref (nx 4), .ref (nx 5), .ref (nx 6), .int x7, .int x8, .int x9, .int x10])), ((nx 0), .inl (cI, 24, .inl (ow_nI N))), ((nx 2), .inl (cI, 12, .inl G))] U.heap ∧ va_K (dC, dI) vwCl [(cI, .int), (cB, .byte), (cJ, .long), (cZ, .boolean)] U)) (va_Qi (fun r (_ : Unit) => r = bI (mv_pair N G x y)) (fun _ _ => True) (fun _ => False)) 0 0 (fun _ => False) := by
  refine Met.ofW (cc := cX6_isPair) (maxL := 3) (ret := (some .boolean)) (by decide) rfl ?_
  intro p e s m args below meth c s₁ B hml hv
  obtain ⟨rfl, hP, hK⟩ := hv
  have hx := B.exec
  have hb := B.bytes
  have hr := B.returns
  have hts := atoms_spec (ws := wg_X6_isPair) B.pre
  have hown : s.vm.findClass RX6 = some m.cls := findClass_of_methodNamed B.named
  have hlocks := B.notSynchronized
  have hS : va_S (fun _ => False) s.heap s.heap [] := va_S.rf
  have hP : va_P (dC, dI) vwCl [(aX, .inr (10, [.ref (nx 0), .ref (nx 1), .ref (nx 2), .ref (nx 3), .ref (nx 4), .ref (nx 5), .ref (nx 6), .int x7, .int x8, .int x9, .int x10])), ((nx 0), .inl (cI, 24, .inl (ow_nI N))), ((nx 2), .inl (cI, 12, .inl G))] s.heap := hP
  have hl := lv_entry ([.ref aX, .int (nI x), .int (nI y)]) (n := 3) (Nat.le_of_ble_eq_true rfl)
  rw [lg_entry_eq]
  generalize (lg_sl ([.ref aX, .int (nI x), .int (nI y)]) ++ List.replicate (3 - (lg_sl ([.ref aX, .int (nI x), .int (nI y)])).length) Slot.unset).toArray = ls at hl ⊢
  have hl : lv_has ls 3 [(0, .ref aX), (1, .int (nI x)), (2, .int (nI y))] := hl
  refine ow_named (fun QQ hQQ => ?_)
  refine lv_aload_n hx hb dgX6_isPair_0 rfl (lv_at hl 0 rfl) ?_
  refine va_get (D := (dC, dI)) (ci := 10) (v := .ref (nx 2)) (C := RX7) (T := TX7) (N := 11) hx hb hts (fun _ h => List.mem_cons_of_mem _ (List.mem_append_left _ (List.mem_append_right _ h))) hown hK hP 0 rfl rfl 2 (by decide) (hts (.fieldLink RX6 123 "KnotHouse$Net" "sign" "[I") (by decide +kernel)) (fun _ h9 => h9) rfl dgX6_isPair_1 ?_
  refine lv_iload_n hx hb dgX6_isPair_4 rfl (lv_at hl 1 rfl) ?_
  refine va_iald hx hb hK hP 2 0 rfl rfl (vp_in_nI (n := x) (N := 12) hx0 (by decide)) dgX6_isPair_5 ?_
  refine ow_topi (y := G x) (congrArg G (nI_clamp (n := x) (Nat.lt_trans (m := 12) hx0 (by decide)))) ?_
  refine lv_aload_n hx hb dgX6_isPair_6 rfl (lv_at hl 0 rfl) ?_
  refine va_get (D := (dC, dI)) (ci := 10) (v := .ref (nx 2)) (C := RX7) (T := TX7) (N := 11) hx hb hts (fun _ h => List.mem_cons_of_mem _ (List.mem_append_left _ (List.mem_append_right _ h))) hown hK hP 0 rfl rfl 2 (by decide) (hts (.fieldLink RX6 123 "KnotHouse$Net" "sign" "[I") (by decide +kernel)) (fun _ h9 => h9) rfl dgX6_isPair_7 ?_
  refine lv_iload_n hx hb dgX6_isPair_10 rfl (lv_at hl 2 rfl) ?_
  refine va_iald hx hb hK hP 2 0 rfl rfl (vp_in_nI (n := y) (N := 12) hy0 (by decide)) dgX6_isPair_11 ?_
  refine ow_topi (y := G y) (congrArg G (nI_clamp (n := y) (Nat.lt_trans (m := 12) hy0 (by decide)))) ?_
  refine lv_icmp_eq (tgt := 49) hx hb dgX6_isPair_12 (by decide) (fun c1 => ?_) (fun c1 => ?_)
  · have hf2 : G x = G y := c1
    refine lv_iconst (v := 0) hx hb dgX6_isPair_49 (by decide) ?_
    rw [hQQ]
    exact W.zret (v := 0) (ty := .boolean) hx hb hr rfl (fun t ht hW => ⟨⟨0, (), rfl, by simp [bI, mv_pair, hf2], trivial⟩, hS.F ht⟩) hS.2.2 dgX6_isPair_50
  · have hf3 : ¬ G x = G y := c1
    refine lv_aload_n hx hb dgX6_isPair_15 rfl (lv_at hl 0 rfl) ?_
    refine lv_iconst (v := 2) hx hb dgX6_isPair_16 (by decide) ?_
    refine lv_iload_n hx hb dgX6_isPair_17 rfl (lv_at hl 1 rfl) ?_
    refine lv_imul hx hb dgX6_isPair_18 ?_
    refine ow_topi (y := nI (2 * x)) (pk_mul 2 x) ?_
    refine lv_iconst (v := 2) hx hb dgX6_isPair_19 (by decide) ?_
    refine lv_iload_n hx hb dgX6_isPair_20 rfl (lv_at hl 2 rfl) ?_
    refine lv_imul hx hb dgX6_isPair_21 ?_
    refine ow_topi (y := nI (2 * y)) (pk_mul 2 y) ?_
    have hPc := hP.sub (ws' := [(aX, .inr (10, [.ref (nx 0), .ref (nx 1), .ref (nx 2), .ref (nx 3), .ref (nx 4), .ref (nx 5), .ref (nx 6), .int x7, .int x8, .int x9, .int x10])), ((nx 0), .inl (cI, 24, .inl (ow_nI N)))]) [0, 1] rfl
    refine va_calli (va_runS (As := [.ref aX, .int (nI (2 * x)), .int (nI (2 * y))]) (rest := []) ⟨hx, hb, hml, hown, hts⟩ (kg_X6_isBeside l dC dI cI cB cJ cZ aX nx x7 x8 x9 x10 N hN (2 * x) (2 * y) (by omega) (by omega)) (va_cwS 3 hts gg_X6_isPair_0 rfl rfl rfl (by decide +kernel) ⟨(Nat.le_of_ble_eq_true rfl), (Nat.le_of_ble_eq_true rfl)⟩) ⟨fun a U g mk q => by obtain ⟨q0, qP, qK⟩ := q; exact ⟨q0, qP, va_K.moved (u := U) (U := U.calling g mk a) (Vm.Alike.refl U.vm) qK⟩, fun U hU hW => ⟨rfl, by rw [hU]; exact hPc, va_K.moved hW.alike hK⟩⟩ rfl rfl hl.1 rfl (lv_room (Nat.le_of_ble_eq_true rfl)) dgX6_isPair_22 ⟨(Nat.le_of_ble_eq_true rfl), (Nat.le_of_ble_eq_true rfl)⟩) hS (fun q _ h => h.elim) (fun q h => h.elim) (fun r1 un t H1 locs ht hvm hw9 hB hz1 hk1 hS => ?_)
    have hP := hP.kept (fun k9 x9 h9 => hk1 x9.1 ((hP k9 x9 h9).lt) id)
    generalize H1 = H at hP hS ⊢
    have hr1 : r1 = bI (mv_bs N (2 * x) (2 * y)) := hw9
    refine lv_if_eq (tgt := 49) hx hb dgX6_isPair_25 (by decide) (fun c4 => ?_) (fun c4 => ?_)
    · have hf5 : mv_bs N (2 * x) (2 * y) = false := bI_eq (hr1 ▸ c4)
      refine lv_iconst (v := 0) hx hb dgX6_isPair_49 (by decide) ?_
      rw [hQQ]
      exact W.zret (v := 0) (ty := .boolean) hx hb hr rfl (fun t ht hW => ⟨⟨0, (), rfl, by simp [bI, mv_pair, hf3, hf5], trivial⟩, hS.F ht⟩) hS.2.2 dgX6_isPair_50
    · have hf6 : mv_bs N (2 * x) (2 * y) = true := bI_ne (hr1 ▸ c4)
      refine lv_aload_n hx hb dgX6_isPair_28 rfl (lv_at hl 0 rfl) ?_
      refine lv_iconst (v := 2) hx hb dgX6_isPair_29 (by decide) ?_
      refine lv_iload_n hx hb dgX6_isPair_30 rfl (lv_at hl 1 rfl) ?_
      refine lv_imul hx hb dgX6_isPair_31 ?_
      refine ow_topi (y := nI (2 * x)) (pk_mul 2 x) ?_
      refine lv_iconst (v := 1) hx hb dgX6_isPair_32 (by decide) ?_
      refine lv_iadd hx hb dgX6_isPair_33 ?_
      refine ow_topi (y := nI (2 * x + 1)) (nI_1 (2 * x)) ?_
      refine lv_iconst (v := 2) hx hb dgX6_isPair_34 (by decide) ?_
      refine lv_iload_n hx hb dgX6_isPair_35 rfl (lv_at hl 2 rfl) ?_
      refine lv_imul hx hb dgX6_isPair_36 ?_
      refine ow_topi (y := nI (2 * y)) (pk_mul 2 y) ?_
      refine lv_iconst (v := 1) hx hb dgX6_isPair_37 (by decide) ?_
      refine lv_iadd hx hb dgX6_isPair_38 ?_
      refine ow_topi (y := nI (2 * y + 1)) (nI_1 (2 * y)) ?_
      have hPc := hP.sub (ws' := [(aX, .inr (10, [.ref (nx 0), .ref (nx 1), .ref (nx 2), .ref (nx 3), .ref (nx 4), .ref (nx 5), .ref (nx 6), .int x7, .int x8, .int x9, .int x10])), ((nx 0), .inl (cI, 24, .inl (ow_nI N)))]) [0, 1] rfl
      refine va_calli (va_runS (As := [.ref aX, .int (nI (2 * x + 1)), .int (nI (2 * y + 1))]) (rest := []) ⟨hx, hb, hml, hown, hts⟩ (kg_X6_isBeside l dC dI cI cB cJ cZ aX nx x7 x8 x9 x10 N hN (2 * x + 1) (2 * y + 1) (by omega) (by omega)) (va_cwS 3 hts gg_X6_isPair_0 rfl rfl rfl (by decide +kernel) ⟨(Nat.le_of_ble_eq_true rfl), (Nat.le_of_ble_eq_true rfl)⟩) ⟨fun a U g mk q => by obtain ⟨q0, qP, qK⟩ := q; exact ⟨q0, qP, va_K.moved (u := U) (U := U.calling g mk a) (Vm.Alike.refl U.vm) qK⟩, fun U hU hW => ⟨rfl, by rw [hU]; exact hPc, va_K.moved hW.alike hK⟩⟩ rfl rfl hl.1 rfl (lv_room (Nat.le_of_ble_eq_true rfl)) dgX6_isPair_39 ⟨(Nat.le_of_ble_eq_true rfl), (Nat.le_of_ble_eq_true rfl)⟩) hS (fun q _ h => h.elim) (fun q h => h.elim) (fun r2 un t H1 locs ht hvm hw9 hB hz1 hk1 hS => ?_)
      have hP := hP.kept (fun k9 x9 h9 => hk1 x9.1 ((hP k9 x9 h9).lt) id)
      generalize H1 = H at hP hS ⊢
      have hr2 : r2 = bI (mv_bs N (2 * x + 1) (2 * y + 1)) := hw9
      refine lv_if_eq (tgt := 49) hx hb dgX6_isPair_42 (by decide) (fun c7 => ?_) (fun c7 => ?_)
      · have hf8 : mv_bs N (2 * x + 1) (2 * y + 1) = false := bI_eq (hr2 ▸ c7)
        refine lv_iconst (v := 0) hx hb dgX6_isPair_49 (by decide) ?_
        rw [hQQ]
        exact W.zret (v := 0) (ty := .boolean) hx hb hr rfl (fun t ht hW => ⟨⟨0, (), rfl, by simp [bI, mv_pair, hf3, hf6, hf8], trivial⟩, hS.F ht⟩) hS.2.2 dgX6_isPair_50
      · have hf9 : mv_bs N (2 * x + 1) (2 * y + 1) = true := bI_ne (hr2 ▸ c7)
        refine lv_iconst (v := 1) hx hb dgX6_isPair_45 (by decide) ?_
        refine lv_goto (tgt := 50) hx hb dgX6_isPair_46 (by decide) ?_
        rw [hQQ]
        exact W.zret (v := 1) (ty := .boolean) hx hb hr rfl (fun t ht hW => ⟨⟨1, (), rfl, by simp [bI, mv_pair, hf3, hf6, hf9], trivial⟩, hS.F ht⟩) hS.2.2 dgX6_isPair_50
theorem dgX6_isOver_0 : decode cX6_isOver 0 = .ok (.iload_n 1, 1) := by decide +kernel
theorem dgX6_isOver_1 : decode cX6_isOver 1 = .ok (.iconst 1, 1) := by decide +kernel
theorem dgX6_isOver_2 : decode cX6_isOver 2 = .ok (.ishr, 1) := by decide +kernel
theorem dgX6_isOver_3 : decode cX6_isOver 3 = .ok (.istore_n 2, 1) := by decide +kernel
theorem dgX6_isOver_4 : decode cX6_isOver 4 = .ok (.iload_n 2, 1) := by decide +kernel
theorem dgX6_isOver_5 : decode cX6_isOver 5 = .ok (.iconst 1, 1) := by decide +kernel
theorem dgX6_isOver_6 : decode cX6_isOver 6 = .ok (.iand, 1) := by decide +kernel
theorem dgX6_isOver_7 : decode cX6_isOver 7 = .ok (.ifCond .ne 21, 3) := by decide +kernel
theorem dgX6_isOver_10 : decode cX6_isOver 10 = .ok (.aload_n 0, 1) := by decide +kernel
theorem dgX6_isOver_11 : decode cX6_isOver 11 = .ok (.getfield 29, 3) := by decide +kernel
theorem dgX6_isOver_14 : decode cX6_isOver 14 = .ok (.getfield 116, 3) := by decide +kernel
theorem dgX6_isOver_17 : decode cX6_isOver 17 = .ok (.iload_n 2, 1) := by decide +kernel
theorem dgX6_isOver_18 : decode cX6_isOver 18 = .ok (.iaload, 1) := by decide +kernel
theorem dgX6_isOver_19 : decode cX6_isOver 19 = .ok (.iconst 1, 1) := by decide +kernel
theorem dgX6_isOver_20 : decode cX6_isOver 20 = .ok (.iand, 1) := by decide +kernel
theorem dgX6_isOver_21 : decode cX6_isOver 21 = .ok (.ifCond .ne 7, 3) := by decide +kernel
theorem dgX6_isOver_24 : decode cX6_isOver 24 = .ok (.iconst 1, 1) := by decide +kernel
theorem dgX6_isOver_25 : decode cX6_isOver 25 = .ok (.goto 4, 3) := by decide +kernel
theorem dgX6_isOver_28 : decode cX6_isOver 28 = .ok (.iconst 0, 1) := by decide +kernel
theorem dgX6_isOver_29 : decode cX6_isOver 29 = .ok (.ireturn, 1) := by decide +kernel
def wg_X6_isOver : List Cond := .code yX6_isOver cX6_isOver 3 (some .boolean) :: (([.fieldLink RX6 29 "KnotHouse$Mover" "net" "LKnotHouse$Net;", .fieldLink RX6 116 "KnotHouse$Net" "next" "[I"] ++ wsX60 ++ wsX70) ++ [])
set_option maxHeartbeats 4000000 in
set_option maxRecDepth 100000 in
theorem kg_X6_isOver (l : Launch) (dC : Nat → ClassId) (dI : Nat → Nat → Nat) (cI cB cJ cZ : ClassId) (aM : Nat) (mx : Nat → Nat) (nx : Nat → Nat) (x7 x8 x9 x10 : Int32) (N : Nat → Nat) (sd : Nat) (hNb : N (sd / 2) < 2 ^ 31) (hsd : sd < 48) : Met l yX6_isOver wg_X6_isOver (({ frames := 0, cells := 0, slots := 0, locals := 0 } : Room)) (va_Pc [.ref aM, .int (nI sd)] (fun U => va_P (dC, dI) vwCl [(aM, .inr (9, [.ref (mx 0), .ref (mx 1), .ref (mx 2), .ref (mx 3), .ref (mx 4), .ref (mx 5), .ref (mx 6), .ref (mx 7)])), ((mx 3), .inr (10, [.ref (nx 0), .ref (nx 1), .ref (nx 2), .ref (nx 3), .ref (nx 4), .ref (nx 5), .ref (nx 6), .int x7, .int x8, .int x9, .int x10])), ((nx 0), .inl (cI, 24, .inl (ow_nI N)))] U.heap ∧ va_K (dC, dI) vwCl [(cI, .int), (cB, .byte), (cJ, .long), (cZ, .boolean)] U)) (va_Qi (fun r (_ : Unit) => r = bI (mv_ov N sd)) (fun _ _ => True) (fun _ => False)) 0 0 (fun _ => False) := by
  refine Met.ofW (cc := cX6_isOver) (maxL := 3) (ret := (some .boolean)) (by decide) rfl ?_
  intro p e s m args below meth c s₁ B hml hv
  obtain ⟨rfl, hP, hK⟩ := hv
  have hx := B.exec
  have hb := B.bytes
  have hr := B.returns
  have hts := atoms_spec (ws := wg_X6_isOver) B.pre
  have hown : s.vm.findClass RX6 = some m.cls := findClass_of_methodNamed B.named
  have hlocks := B.notSynchronized
  have hS : va_S (fun _ => False) s.heap s.heap [] := va_S.rf
  have hP : va_P (dC, dI) vwCl [(aM, .inr (9, [.ref (mx 0), .ref (mx 1), .ref (mx 2), .ref (mx 3), .ref (mx 4), .ref (mx 5), .ref (mx 6), .ref (mx 7)])), ((mx 3), .inr (10, [.ref (nx 0), .ref (nx 1), .ref (nx 2), .ref (nx 3), .ref (nx 4), .ref (nx 5), .ref (nx 6), .int x7, .int x8, .int x9, .int x10])), ((nx 0), .inl (cI, 24, .inl (ow_nI N)))] s.heap := hP
  have hl := lv_entry ([.ref aM, .int (nI sd)]) (n := 3) (Nat.le_of_ble_eq_true rfl)
  rw [lg_entry_eq]
  generalize (lg_sl ([.ref aM, .int (nI sd)]) ++ List.replicate (3 - (lg_sl ([.ref aM, .int (nI sd)])).length) Slot.unset).toArray = ls at hl ⊢
  have hl : lv_has ls 3 [(0, .ref aM), (1, .int (nI sd))] := hl
  refine ow_named (fun QQ hQQ => ?_)
  refine lv_iload_n hx hb dgX6_isOver_0 rfl (lv_at hl 1 rfl) ?_
  refine lv_iconst (v := 1) hx hb dgX6_isOver_1 (by decide) ?_
  refine lv_ishr hx hb dgX6_isOver_2 ?_
  refine ow_topi (y := nI (sd / 2)) (ow_shr1 (n := sd) (by omega)) ?_
  refine lv_istore_n (lv' := [(2, .int (nI (sd / 2))), (0, .ref aM), (1, .int (nI sd))]) hx hb dgX6_isOver_3 rfl hl (by decide) rfl (fun ls hl => ?_)
  refine lv_iload_n hx hb dgX6_isOver_4 rfl (lv_at hl 0 rfl) ?_
  refine lv_iconst (v := 1) hx hb dgX6_isOver_5 (by decide) ?_
  refine lv_iand hx hb dgX6_isOver_6 ?_
  refine ow_topi (y := nI ((sd / 2) % 2)) (ow_and1 (n := sd / 2) (by omega)) ?_
  refine lv_if_ne (tgt := 28) hx hb dgX6_isOver_7 (by decide) (fun c1 => ?_) (fun c1 => ?_)
  · have hf2 : ¬ sd / 2 % 2 = 0 := fun h9 => c1 (by rw [h9]; rfl)
    refine lv_iconst (v := 0) hx hb dgX6_isOver_28 (by decide) ?_
    rw [hQQ]
    exact W.zret (v := 0) (ty := .boolean) hx hb hr rfl (fun t ht hW => ⟨⟨0, (), rfl, by simp [bI, mv_ov, hf2], trivial⟩, hS.F ht⟩) hS.2.2 dgX6_isOver_29
  · have hf3 : sd / 2 % 2 = 0 := ow_nI_inj (b := 0) (by omega) (by decide) c1
    refine lv_aload_n hx hb dgX6_isOver_10 rfl (lv_at hl 1 rfl) ?_
    refine va_get (D := (dC, dI)) (ci := 9) (v := .ref (mx 3)) (C := RX6) (T := TX6) (N := 8) hx hb hts (fun _ h => List.mem_cons_of_mem _ (List.mem_append_left _ (List.mem_append_left _ (List.mem_append_right _ h)))) hown hK hP 0 rfl rfl 3 (by decide) (hts (.fieldLink RX6 29 "KnotHouse$Mover" "net" "LKnotHouse$Net;") (by decide +kernel)) (fun _ h9 => h9) rfl dgX6_isOver_11 ?_
    refine va_get (D := (dC, dI)) (ci := 10) (v := .ref (nx 0)) (C := RX7) (T := TX7) (N := 11) hx hb hts (fun _ h => List.mem_cons_of_mem _ (List.mem_append_left _ (List.mem_append_right _ h))) hown hK hP 1 rfl rfl 0 (by decide) (hts (.fieldLink RX6 116 "KnotHouse$Net" "next" "[I") (by decide +kernel)) (fun _ h9 => h9) rfl dgX6_isOver_14 ?_
    refine lv_iload_n hx hb dgX6_isOver_17 rfl (lv_at hl 0 rfl) ?_
    refine va_iald hx hb hK hP 2 0 rfl rfl (vp_in_nI (n := sd / 2) (N := 24) (by omega) (by decide)) dgX6_isOver_18 ?_
    refine ow_topi (y := nI (N (sd / 2))) (ow_nI_at N (Nat.lt_trans (m := 24) (by omega) (by decide))) ?_
    refine lv_iconst (v := 1) hx hb dgX6_isOver_19 (by decide) ?_
    refine lv_iand hx hb dgX6_isOver_20 ?_
    refine ow_topi (y := nI ((N (sd / 2)) % 2)) (ow_and1 (n := N (sd / 2)) hNb) ?_
    refine lv_if_ne (tgt := 28) hx hb dgX6_isOver_21 (by decide) (fun c4 => ?_) (fun c4 => ?_)
    · have hf5 : ¬ N (sd / 2) % 2 = 0 := fun h9 => c4 (by rw [h9]; rfl)
      refine lv_iconst (v := 0) hx hb dgX6_isOver_28 (by decide) ?_
      rw [hQQ]
      exact W.zret (v := 0) (ty := .boolean) hx hb hr rfl (fun t ht hW => ⟨⟨0, (), rfl, by simp [bI, mv_ov, hf3, hf5], trivial⟩, hS.F ht⟩) hS.2.2 dgX6_isOver_29
    · have hf6 : N (sd / 2) % 2 = 0 := ow_nI_inj (b := 0) (by omega) (by decide) c4
      refine lv_iconst (v := 1) hx hb dgX6_isOver_24 (by decide) ?_
      refine lv_goto (tgt := 29) hx hb dgX6_isOver_25 (by decide) ?_
      rw [hQQ]
      exact W.zret (v := 1) (ty := .boolean) hx hb hr rfl (fun t ht hW => ⟨⟨1, (), rfl, by simp [bI, mv_ov, hf3, hf6], trivial⟩, hS.F ht⟩) hS.2.2 dgX6_isOver_29
theorem dgX6_countNumbers_0 : decode cX6_countNumbers 0 = .ok (.iconst 2, 1) := by decide +kernel
theorem dgX6_countNumbers_1 : decode cX6_countNumbers 1 = .ok (.aload_n 0, 1) := by decide +kernel
theorem dgX6_countNumbers_2 : decode cX6_countNumbers 2 = .ok (.getfield 29, 3) := by decide +kernel
theorem dgX6_countNumbers_5 : decode cX6_countNumbers 5 = .ok (.getfield 81, 3) := by decide +kernel
theorem dgX6_countNumbers_8 : decode cX6_countNumbers 8 = .ok (.imul, 1) := by decide +kernel
theorem dgX6_countNumbers_9 : decode cX6_countNumbers 9 = .ok (.istore_n 2, 1) := by decide +kernel
theorem dgX6_countNumbers_10 : decode cX6_countNumbers 10 = .ok (.iload_n 1, 1) := by decide +kernel
theorem dgX6_countNumbers_11 : decode cX6_countNumbers 11 = .ok (.tableswitch 105 0 3 #[29, 37, 61, 77], 29) := by decide +kernel
theorem dgX6_countNumbers_40 : decode cX6_countNumbers 40 = .ok (.aload_n 0, 1) := by decide +kernel
theorem dgX6_countNumbers_41 : decode cX6_countNumbers 41 = .ok (.getfield 29, 3) := by decide +kernel
theorem dgX6_countNumbers_44 : decode cX6_countNumbers 44 = .ok (.getfield 81, 3) := by decide +kernel
theorem dgX6_countNumbers_47 : decode cX6_countNumbers 47 = .ok (.ireturn, 1) := by decide +kernel
theorem dgX6_countNumbers_48 : decode cX6_countNumbers 48 = .ok (.aload_n 0, 1) := by decide +kernel
theorem dgX6_countNumbers_49 : decode cX6_countNumbers 49 = .ok (.getfield 29, 3) := by decide +kernel
theorem dgX6_countNumbers_52 : decode cX6_countNumbers 52 = .ok (.getfield 81, 3) := by decide +kernel
theorem dgX6_countNumbers_55 : decode cX6_countNumbers 55 = .ok (.iconst 1, 1) := by decide +kernel
theorem dgX6_countNumbers_56 : decode cX6_countNumbers 56 = .ok (.iadd, 1) := by decide +kernel
theorem dgX6_countNumbers_57 : decode cX6_countNumbers 57 = .ok (.bipush 12, 2) := by decide +kernel
theorem dgX6_countNumbers_59 : decode cX6_countNumbers 59 = .ok (.if_icmp .le 7, 3) := by decide +kernel
theorem dgX6_countNumbers_62 : decode cX6_countNumbers 62 = .ok (.iconst 0, 1) := by decide +kernel
theorem dgX6_countNumbers_63 : decode cX6_countNumbers 63 = .ok (.goto 8, 3) := by decide +kernel
theorem dgX6_countNumbers_66 : decode cX6_countNumbers 66 = .ok (.iload_n 2, 1) := by decide +kernel
theorem dgX6_countNumbers_67 : decode cX6_countNumbers 67 = .ok (.iconst 1, 1) := by decide +kernel
theorem dgX6_countNumbers_68 : decode cX6_countNumbers 68 = .ok (.iadd, 1) := by decide +kernel
theorem dgX6_countNumbers_69 : decode cX6_countNumbers 69 = .ok (.iconst 4, 1) := by decide +kernel
theorem dgX6_countNumbers_70 : decode cX6_countNumbers 70 = .ok (.imul, 1) := by decide +kernel
theorem dgX6_countNumbers_71 : decode cX6_countNumbers 71 = .ok (.ireturn, 1) := by decide +kernel
theorem dgX6_countNumbers_72 : decode cX6_countNumbers 72 = .ok (.aload_n 0, 1) := by decide +kernel
theorem dgX6_countNumbers_73 : decode cX6_countNumbers 73 = .ok (.getfield 29, 3) := by decide +kernel
theorem dgX6_countNumbers_76 : decode cX6_countNumbers 76 = .ok (.getfield 81, 3) := by decide +kernel
theorem dgX6_countNumbers_79 : decode cX6_countNumbers 79 = .ok (.aload_n 0, 1) := by decide +kernel
theorem dgX6_countNumbers_80 : decode cX6_countNumbers 80 = .ok (.getfield 29, 3) := by decide +kernel
theorem dgX6_countNumbers_83 : decode cX6_countNumbers 83 = .ok (.getfield 81, 3) := by decide +kernel
theorem dgX6_countNumbers_86 : decode cX6_countNumbers 86 = .ok (.imul, 1) := by decide +kernel
theorem dgX6_countNumbers_87 : decode cX6_countNumbers 87 = .ok (.ireturn, 1) := by decide +kernel
theorem dgX6_countNumbers_88 : decode cX6_countNumbers 88 = .ok (.aload_n 0, 1) := by decide +kernel
theorem dgX6_countNumbers_89 : decode cX6_countNumbers 89 = .ok (.getfield 29, 3) := by decide +kernel
theorem dgX6_countNumbers_92 : decode cX6_countNumbers 92 = .ok (.getfield 81, 3) := by decide +kernel
theorem dgX6_countNumbers_95 : decode cX6_countNumbers 95 = .ok (.iconst 2, 1) := by decide +kernel
theorem dgX6_countNumbers_96 : decode cX6_countNumbers 96 = .ok (.iadd, 1) := by decide +kernel
theorem dgX6_countNumbers_97 : decode cX6_countNumbers 97 = .ok (.bipush 12, 2) := by decide +kernel
theorem dgX6_countNumbers_99 : decode cX6_countNumbers 99 = .ok (.if_icmp .le 7, 3) := by decide +kernel
theorem dgX6_countNumbers_102 : decode cX6_countNumbers 102 = .ok (.iconst 0, 1) := by decide +kernel
theorem dgX6_countNumbers_103 : decode cX6_countNumbers 103 = .ok (.goto 12, 3) := by decide +kernel
theorem dgX6_countNumbers_106 : decode cX6_countNumbers 106 = .ok (.iload_n 2, 1) := by decide +kernel
theorem dgX6_countNumbers_107 : decode cX6_countNumbers 107 = .ok (.iconst 1, 1) := by decide +kernel
theorem dgX6_countNumbers_108 : decode cX6_countNumbers 108 = .ok (.iadd, 1) := by decide +kernel
theorem dgX6_countNumbers_109 : decode cX6_countNumbers 109 = .ok (.iload_n 2, 1) := by decide +kernel
theorem dgX6_countNumbers_110 : decode cX6_countNumbers 110 = .ok (.iconst 2, 1) := by decide +kernel
theorem dgX6_countNumbers_111 : decode cX6_countNumbers 111 = .ok (.iadd, 1) := by decide +kernel
theorem dgX6_countNumbers_112 : decode cX6_countNumbers 112 = .ok (.imul, 1) := by decide +kernel
theorem dgX6_countNumbers_113 : decode cX6_countNumbers 113 = .ok (.iconst 4, 1) := by decide +kernel
theorem dgX6_countNumbers_114 : decode cX6_countNumbers 114 = .ok (.imul, 1) := by decide +kernel
theorem dgX6_countNumbers_115 : decode cX6_countNumbers 115 = .ok (.ireturn, 1) := by decide +kernel
theorem dgX6_countNumbers_116 : decode cX6_countNumbers 116 = .ok (.iconst 2, 1) := by decide +kernel
theorem dgX6_countNumbers_117 : decode cX6_countNumbers 117 = .ok (.iload_n 2, 1) := by decide +kernel
theorem dgX6_countNumbers_118 : decode cX6_countNumbers 118 = .ok (.imul, 1) := by decide +kernel
theorem dgX6_countNumbers_119 : decode cX6_countNumbers 119 = .ok (.ireturn, 1) := by decide +kernel
def wg_X6_countNumbers : List Cond := .code yX6_countNumbers cX6_countNumbers 3 (some .int) :: (([.fieldLink RX6 29 "KnotHouse$Mover" "net" "LKnotHouse$Net;", .fieldLink RX6 81 "KnotHouse$Net" "crossings" "I"] ++ wsX60 ++ wsX70) ++ [])
set_option maxHeartbeats 4000000 in
set_option maxRecDepth 100000 in
theorem kg_X6_countNumbers (l : Launch) (dC : Nat → ClassId) (dI : Nat → Nat → Nat) (cI cB cJ cZ : ClassId) (aM : Nat) (mx : Nat → Nat) (nx : Nat → Nat) (x8 x9 x10 : Int32) (cn kd : Nat) (hc : cn ≤ 12) (hkd : kd < 5) : Met l yX6_countNumbers wg_X6_countNumbers (({ frames := 0, cells := 0, slots := 0, locals := 0 } : Room)) (va_Pc [.ref aM, .int (nI kd)] (fun U => va_P (dC, dI) vwCl [(aM, .inr (9, [.ref (mx 0), .ref (mx 1), .ref (mx 2), .ref (mx 3), .ref (mx 4), .ref (mx 5), .ref (mx 6), .ref (mx 7)])), ((mx 3), .inr (10, [.ref (nx 0), .ref (nx 1), .ref (nx 2), .ref (nx 3), .ref (nx 4), .ref (nx 5), .ref (nx 6), .int (nI cn), .int x8, .int x9, .int x10]))] U.heap ∧ va_K (dC, dI) vwCl [(cI, .int), (cB, .byte), (cJ, .long), (cZ, .boolean)] U)) (va_Qi (fun r (_ : Unit) => r = nI (mv_cnt cn kd)) (fun _ _ => True) (fun _ => False)) 0 0 (fun _ => False) := by
  refine Met.ofW (cc := cX6_countNumbers) (maxL := 3) (ret := (some .int)) (by decide) rfl ?_
  intro p e s m args below meth c s₁ B hml hv
  obtain ⟨rfl, hP, hK⟩ := hv
  have hx := B.exec
  have hb := B.bytes
  have hr := B.returns
  have hts := atoms_spec (ws := wg_X6_countNumbers) B.pre
  have hown : s.vm.findClass RX6 = some m.cls := findClass_of_methodNamed B.named
  have hlocks := B.notSynchronized
  have hS : va_S (fun _ => False) s.heap s.heap [] := va_S.rf
  have hP : va_P (dC, dI) vwCl [(aM, .inr (9, [.ref (mx 0), .ref (mx 1), .ref (mx 2), .ref (mx 3), .ref (mx 4), .ref (mx 5), .ref (mx 6), .ref (mx 7)])), ((mx 3), .inr (10, [.ref (nx 0), .ref (nx 1), .ref (nx 2), .ref (nx 3), .ref (nx 4), .ref (nx 5), .ref (nx 6), .int (nI cn), .int x8, .int x9, .int x10]))] s.heap := hP
  have hl := lv_entry ([.ref aM, .int (nI kd)]) (n := 3) (Nat.le_of_ble_eq_true rfl)
  rw [lg_entry_eq]
  generalize (lg_sl ([.ref aM, .int (nI kd)]) ++ List.replicate (3 - (lg_sl ([.ref aM, .int (nI kd)])).length) Slot.unset).toArray = ls at hl ⊢
  have hl : lv_has ls 3 [(0, .ref aM), (1, .int (nI kd))] := hl
  refine ow_named (fun QQ hQQ => ?_)
  refine lv_iconst (v := 2) hx hb dgX6_countNumbers_0 (by decide) ?_
  refine lv_aload_n hx hb dgX6_countNumbers_1 rfl (lv_at hl 0 rfl) ?_
  refine va_get (D := (dC, dI)) (ci := 9) (v := .ref (mx 3)) (C := RX6) (T := TX6) (N := 8) hx hb hts (fun _ h => List.mem_cons_of_mem _ (List.mem_append_left _ (List.mem_append_left _ (List.mem_append_right _ h)))) hown hK hP 0 rfl rfl 3 (by decide) (hts (.fieldLink RX6 29 "KnotHouse$Mover" "net" "LKnotHouse$Net;") (by decide +kernel)) (fun _ h9 => h9) rfl dgX6_countNumbers_2 ?_
  refine va_get (D := (dC, dI)) (ci := 10) (v := .int (nI cn)) (C := RX7) (T := TX7) (N := 11) hx hb hts (fun _ h => List.mem_cons_of_mem _ (List.mem_append_left _ (List.mem_append_right _ h))) hown hK hP 1 rfl rfl 7 (by decide) (hts (.fieldLink RX6 81 "KnotHouse$Net" "crossings" "I") (by decide +kernel)) (fun _ h9 => h9) rfl dgX6_countNumbers_5 ?_
  refine lv_imul hx hb dgX6_countNumbers_8 ?_
  refine ow_topi (y := nI (2 * cn)) (pk_mul 2 cn) ?_
  refine lv_istore_n (lv' := [(2, .int (nI (2 * cn))), (0, .ref aM), (1, .int (nI kd))]) hx hb dgX6_countNumbers_9 rfl hl (by decide) rfl (fun ls hl => ?_)
  have h5 : kd = 0 ∨ kd = 1 ∨ kd = 2 ∨ kd = 3 ∨ kd = 4 := by omega
  rcases h5 with rfl | rfl | rfl | rfl | rfl
  · refine lv_iload_n hx hb dgX6_countNumbers_10 rfl (lv_at hl 2 rfl) ?_
    refine lv_tableIn (tgt := 40) hx hb dgX6_countNumbers_11 (by decide) (by decide) rfl (by decide) ?_
    refine lv_aload_n hx hb dgX6_countNumbers_40 rfl (lv_at hl 1 rfl) ?_
    refine va_get (D := (dC, dI)) (ci := 9) (v := .ref (mx 3)) (C := RX6) (T := TX6) (N := 8) hx hb hts (fun _ h => List.mem_cons_of_mem _ (List.mem_append_left _ (List.mem_append_left _ (List.mem_append_right _ h)))) hown hK hP 0 rfl rfl 3 (by decide) (hts (.fieldLink RX6 29 "KnotHouse$Mover" "net" "LKnotHouse$Net;") (by decide +kernel)) (fun _ h9 => h9) rfl dgX6_countNumbers_41 ?_
    refine va_get (D := (dC, dI)) (ci := 10) (v := .int (nI cn)) (C := RX7) (T := TX7) (N := 11) hx hb hts (fun _ h => List.mem_cons_of_mem _ (List.mem_append_left _ (List.mem_append_right _ h))) hown hK hP 1 rfl rfl 7 (by decide) (hts (.fieldLink RX6 81 "KnotHouse$Net" "crossings" "I") (by decide +kernel)) (fun _ h9 => h9) rfl dgX6_countNumbers_44 ?_
    rw [hQQ]
    exact W.iret (v := (nI cn)) hx hb hr (fun t ht hW => ⟨⟨(nI cn), (), rfl, rfl, trivial⟩, hS.F ht⟩) hS.2.2 dgX6_countNumbers_47
  · refine lv_iload_n hx hb dgX6_countNumbers_10 rfl (lv_at hl 2 rfl) ?_
    refine lv_tableIn (tgt := 48) hx hb dgX6_countNumbers_11 (by decide) (by decide) rfl (by decide) ?_
    rcases Nat.lt_or_ge 12 (cn + 1) with q | q
    · refine lv_aload_n hx hb dgX6_countNumbers_48 rfl (lv_at hl 1 rfl) ?_
      refine va_get (D := (dC, dI)) (ci := 9) (v := .ref (mx 3)) (C := RX6) (T := TX6) (N := 8) hx hb hts (fun _ h => List.mem_cons_of_mem _ (List.mem_append_left _ (List.mem_append_left _ (List.mem_append_right _ h)))) hown hK hP 0 rfl rfl 3 (by decide) (hts (.fieldLink RX6 29 "KnotHouse$Mover" "net" "LKnotHouse$Net;") (by decide +kernel)) (fun _ h9 => h9) rfl dgX6_countNumbers_49 ?_
      refine va_get (D := (dC, dI)) (ci := 10) (v := .int (nI cn)) (C := RX7) (T := TX7) (N := 11) hx hb hts (fun _ h => List.mem_cons_of_mem _ (List.mem_append_left _ (List.mem_append_right _ h))) hown hK hP 1 rfl rfl 7 (by decide) (hts (.fieldLink RX6 81 "KnotHouse$Net" "crossings" "I") (by decide +kernel)) (fun _ h9 => h9) rfl dgX6_countNumbers_52 ?_
      refine lv_iconst (v := 1) hx hb dgX6_countNumbers_55 (by decide) ?_
      refine lv_iadd hx hb dgX6_countNumbers_56 ?_
      refine ow_topi (y := nI (cn + 1)) (nI_1 (cn)) ?_
      refine lv_bipush (v := 12) hx hb dgX6_countNumbers_57 (by decide) ?_
      refine lv_icmp_le (tgt := 66) hx hb dgX6_countNumbers_59 (by decide) (fun c9 => absurd c9 (Int32.not_le.mpr (nI_lt (a := 12) (b := cn + 1) q (by omega)))) (fun _ => ?_)
      refine lv_iconst (v := 0) hx hb dgX6_countNumbers_62 (by decide) ?_
      refine lv_goto (tgt := 71) hx hb dgX6_countNumbers_63 (by decide) ?_
      rw [hQQ]
      exact W.iret (v := 0) hx hb hr (fun t ht hW => ⟨⟨0, (), rfl, by show (0 : Int32) = nI (if cn + 1 ≤ 12 then _ else 0); rw [if_neg (by omega)]; rfl, trivial⟩, hS.F ht⟩) hS.2.2 dgX6_countNumbers_71
    · refine lv_aload_n hx hb dgX6_countNumbers_48 rfl (lv_at hl 1 rfl) ?_
      refine va_get (D := (dC, dI)) (ci := 9) (v := .ref (mx 3)) (C := RX6) (T := TX6) (N := 8) hx hb hts (fun _ h => List.mem_cons_of_mem _ (List.mem_append_left _ (List.mem_append_left _ (List.mem_append_right _ h)))) hown hK hP 0 rfl rfl 3 (by decide) (hts (.fieldLink RX6 29 "KnotHouse$Mover" "net" "LKnotHouse$Net;") (by decide +kernel)) (fun _ h9 => h9) rfl dgX6_countNumbers_49 ?_
      refine va_get (D := (dC, dI)) (ci := 10) (v := .int (nI cn)) (C := RX7) (T := TX7) (N := 11) hx hb hts (fun _ h => List.mem_cons_of_mem _ (List.mem_append_left _ (List.mem_append_right _ h))) hown hK hP 1 rfl rfl 7 (by decide) (hts (.fieldLink RX6 81 "KnotHouse$Net" "crossings" "I") (by decide +kernel)) (fun _ h9 => h9) rfl dgX6_countNumbers_52 ?_
      refine lv_iconst (v := 1) hx hb dgX6_countNumbers_55 (by decide) ?_
      refine lv_iadd hx hb dgX6_countNumbers_56 ?_
      refine ow_topi (y := nI (cn + 1)) (nI_1 (cn)) ?_
      refine lv_bipush (v := 12) hx hb dgX6_countNumbers_57 (by decide) ?_
      refine lv_icmp_le (tgt := 66) hx hb dgX6_countNumbers_59 (by decide) (fun _ => ?_) (fun c9 => absurd (nI_le (a := cn + 1) (b := 12) q (by omega)) c9)
      refine lv_iload_n hx hb dgX6_countNumbers_66 rfl (lv_at hl 0 rfl) ?_
      refine lv_iconst (v := 1) hx hb dgX6_countNumbers_67 (by decide) ?_
      refine lv_iadd hx hb dgX6_countNumbers_68 ?_
      refine ow_topi (y := nI (2 * cn + 1)) (nI_1 (2 * cn)) ?_
      refine lv_iconst (v := 4) hx hb dgX6_countNumbers_69 (by decide) ?_
      refine lv_imul hx hb dgX6_countNumbers_70 ?_
      refine ow_topi (y := nI ((2 * cn + 1) * 4)) (pk_mul (2 * cn + 1) 4) ?_
      rw [hQQ]
      exact W.iret (v := (nI ((2 * cn + 1) * 4))) hx hb hr (fun t ht hW => ⟨⟨(nI ((2 * cn + 1) * 4)), (), rfl, by show _ = nI (if cn + 1 ≤ 12 then _ else 0); rw [if_pos q], trivial⟩, hS.F ht⟩) hS.2.2 dgX6_countNumbers_71
  · refine lv_iload_n hx hb dgX6_countNumbers_10 rfl (lv_at hl 2 rfl) ?_
    refine lv_tableIn (tgt := 72) hx hb dgX6_countNumbers_11 (by decide) (by decide) rfl (by decide) ?_
    refine lv_aload_n hx hb dgX6_countNumbers_72 rfl (lv_at hl 1 rfl) ?_
    refine va_get (D := (dC, dI)) (ci := 9) (v := .ref (mx 3)) (C := RX6) (T := TX6) (N := 8) hx hb hts (fun _ h => List.mem_cons_of_mem _ (List.mem_append_left _ (List.mem_append_left _ (List.mem_append_right _ h)))) hown hK hP 0 rfl rfl 3 (by decide) (hts (.fieldLink RX6 29 "KnotHouse$Mover" "net" "LKnotHouse$Net;") (by decide +kernel)) (fun _ h9 => h9) rfl dgX6_countNumbers_73 ?_
    refine va_get (D := (dC, dI)) (ci := 10) (v := .int (nI cn)) (C := RX7) (T := TX7) (N := 11) hx hb hts (fun _ h => List.mem_cons_of_mem _ (List.mem_append_left _ (List.mem_append_right _ h))) hown hK hP 1 rfl rfl 7 (by decide) (hts (.fieldLink RX6 81 "KnotHouse$Net" "crossings" "I") (by decide +kernel)) (fun _ h9 => h9) rfl dgX6_countNumbers_76 ?_
    refine lv_aload_n hx hb dgX6_countNumbers_79 rfl (lv_at hl 1 rfl) ?_
    refine va_get (D := (dC, dI)) (ci := 9) (v := .ref (mx 3)) (C := RX6) (T := TX6) (N := 8) hx hb hts (fun _ h => List.mem_cons_of_mem _ (List.mem_append_left _ (List.mem_append_left _ (List.mem_append_right _ h)))) hown hK hP 0 rfl rfl 3 (by decide) (hts (.fieldLink RX6 29 "KnotHouse$Mover" "net" "LKnotHouse$Net;") (by decide +kernel)) (fun _ h9 => h9) rfl dgX6_countNumbers_80 ?_
    refine va_get (D := (dC, dI)) (ci := 10) (v := .int (nI cn)) (C := RX7) (T := TX7) (N := 11) hx hb hts (fun _ h => List.mem_cons_of_mem _ (List.mem_append_left _ (List.mem_append_right _ h))) hown hK hP 1 rfl rfl 7 (by decide) (hts (.fieldLink RX6 81 "KnotHouse$Net" "crossings" "I") (by decide +kernel)) (fun _ h9 => h9) rfl dgX6_countNumbers_83 ?_
    refine lv_imul hx hb dgX6_countNumbers_86 ?_
    refine ow_topi (y := nI (cn * cn)) (pk_mul cn cn) ?_
    rw [hQQ]
    exact W.iret (v := (nI (cn * cn))) hx hb hr (fun t ht hW => ⟨⟨(nI (cn * cn)), (), rfl, rfl, trivial⟩, hS.F ht⟩) hS.2.2 dgX6_countNumbers_87
  · refine lv_iload_n hx hb dgX6_countNumbers_10 rfl (lv_at hl 2 rfl) ?_
    refine lv_tableIn (tgt := 88) hx hb dgX6_countNumbers_11 (by decide) (by decide) rfl (by decide) ?_
    rcases Nat.lt_or_ge 12 (cn + 2) with q | q
    · refine lv_aload_n hx hb dgX6_countNumbers_88 rfl (lv_at hl 1 rfl) ?_
      refine va_get (D := (dC, dI)) (ci := 9) (v := .ref (mx 3)) (C := RX6) (T := TX6) (N := 8) hx hb hts (fun _ h => List.mem_cons_of_mem _ (List.mem_append_left _ (List.mem_append_left _ (List.mem_append_right _ h)))) hown hK hP 0 rfl rfl 3 (by decide) (hts (.fieldLink RX6 29 "KnotHouse$Mover" "net" "LKnotHouse$Net;") (by decide +kernel)) (fun _ h9 => h9) rfl dgX6_countNumbers_89 ?_
      refine va_get (D := (dC, dI)) (ci := 10) (v := .int (nI cn)) (C := RX7) (T := TX7) (N := 11) hx hb hts (fun _ h => List.mem_cons_of_mem _ (List.mem_append_left _ (List.mem_append_right _ h))) hown hK hP 1 rfl rfl 7 (by decide) (hts (.fieldLink RX6 81 "KnotHouse$Net" "crossings" "I") (by decide +kernel)) (fun _ h9 => h9) rfl dgX6_countNumbers_92 ?_
      refine lv_iconst (v := 2) hx hb dgX6_countNumbers_95 (by decide) ?_
      refine lv_iadd hx hb dgX6_countNumbers_96 ?_
      refine ow_topi (y := nI (cn + 2)) (nI_add cn 2) ?_
      refine lv_bipush (v := 12) hx hb dgX6_countNumbers_97 (by decide) ?_
      refine lv_icmp_le (tgt := 106) hx hb dgX6_countNumbers_99 (by decide) (fun c9 => absurd c9 (Int32.not_le.mpr (nI_lt (a := 12) (b := cn + 2) q (by omega)))) (fun _ => ?_)
      refine lv_iconst (v := 0) hx hb dgX6_countNumbers_102 (by decide) ?_
      refine lv_goto (tgt := 115) hx hb dgX6_countNumbers_103 (by decide) ?_
      rw [hQQ]
      exact W.iret (v := 0) hx hb hr (fun t ht hW => ⟨⟨0, (), rfl, by show (0 : Int32) = nI (if cn + 2 ≤ 12 then _ else 0); rw [if_neg (by omega)]; rfl, trivial⟩, hS.F ht⟩) hS.2.2 dgX6_countNumbers_115
    · refine lv_aload_n hx hb dgX6_countNumbers_88 rfl (lv_at hl 1 rfl) ?_
      refine va_get (D := (dC, dI)) (ci := 9) (v := .ref (mx 3)) (C := RX6) (T := TX6) (N := 8) hx hb hts (fun _ h => List.mem_cons_of_mem _ (List.mem_append_left _ (List.mem_append_left _ (List.mem_append_right _ h)))) hown hK hP 0 rfl rfl 3 (by decide) (hts (.fieldLink RX6 29 "KnotHouse$Mover" "net" "LKnotHouse$Net;") (by decide +kernel)) (fun _ h9 => h9) rfl dgX6_countNumbers_89 ?_
      refine va_get (D := (dC, dI)) (ci := 10) (v := .int (nI cn)) (C := RX7) (T := TX7) (N := 11) hx hb hts (fun _ h => List.mem_cons_of_mem _ (List.mem_append_left _ (List.mem_append_right _ h))) hown hK hP 1 rfl rfl 7 (by decide) (hts (.fieldLink RX6 81 "KnotHouse$Net" "crossings" "I") (by decide +kernel)) (fun _ h9 => h9) rfl dgX6_countNumbers_92 ?_
      refine lv_iconst (v := 2) hx hb dgX6_countNumbers_95 (by decide) ?_
      refine lv_iadd hx hb dgX6_countNumbers_96 ?_
      refine ow_topi (y := nI (cn + 2)) (nI_add cn 2) ?_
      refine lv_bipush (v := 12) hx hb dgX6_countNumbers_97 (by decide) ?_
      refine lv_icmp_le (tgt := 106) hx hb dgX6_countNumbers_99 (by decide) (fun _ => ?_) (fun c9 => absurd (nI_le (a := cn + 2) (b := 12) q (by omega)) c9)
      refine lv_iload_n hx hb dgX6_countNumbers_106 rfl (lv_at hl 0 rfl) ?_
      refine lv_iconst (v := 1) hx hb dgX6_countNumbers_107 (by decide) ?_
      refine lv_iadd hx hb dgX6_countNumbers_108 ?_
      refine ow_topi (y := nI (2 * cn + 1)) (nI_1 (2 * cn)) ?_
      refine lv_iload_n hx hb dgX6_countNumbers_109 rfl (lv_at hl 0 rfl) ?_
      refine lv_iconst (v := 2) hx hb dgX6_countNumbers_110 (by decide) ?_
      refine lv_iadd hx hb dgX6_countNumbers_111 ?_
      refine ow_topi (y := nI (2 * cn + 2)) (nI_add (2 * cn) 2) ?_
      refine lv_imul hx hb dgX6_countNumbers_112 ?_
      refine ow_topi (y := nI ((2 * cn + 1) * (2 * cn + 2))) (pk_mul (2 * cn + 1) (2 * cn + 2)) ?_
      refine lv_iconst (v := 4) hx hb dgX6_countNumbers_113 (by decide) ?_
      refine lv_imul hx hb dgX6_countNumbers_114 ?_
      refine ow_topi (y := nI ((2 * cn + 1) * (2 * cn + 2) * 4)) (pk_mul ((2 * cn + 1) * (2 * cn + 2)) 4) ?_
      rw [hQQ]
      exact W.iret (v := (nI ((2 * cn + 1) * (2 * cn + 2) * 4))) hx hb hr (fun t ht hW => ⟨⟨(nI ((2 * cn + 1) * (2 * cn + 2) * 4)), (), rfl, by show _ = nI (if cn + 2 ≤ 12 then _ else 0); rw [if_pos q], trivial⟩, hS.F ht⟩) hS.2.2 dgX6_countNumbers_115
  · refine lv_iload_n hx hb dgX6_countNumbers_10 rfl (lv_at hl 2 rfl) ?_
    refine lv_tableOut (tgt := 116) hx hb dgX6_countNumbers_11 (by decide) (by decide) ?_
    refine lv_iconst (v := 2) hx hb dgX6_countNumbers_116 (by decide) ?_
    refine lv_iload_n hx hb dgX6_countNumbers_117 rfl (lv_at hl 0 rfl) ?_
    refine lv_imul hx hb dgX6_countNumbers_118 ?_
    refine ow_topi (y := nI (2 * (2 * cn))) (pk_mul 2 (2 * cn)) ?_
    rw [hQQ]
    exact W.iret (v := (nI (2 * (2 * cn)))) hx hb hr (fun t ht hW => ⟨⟨(nI (2 * (2 * cn))), (), rfl, rfl, trivial⟩, hS.F ht⟩) hS.2.2 dgX6_countNumbers_119
theorem dgX6_mayMeet_0 : decode cX6_mayMeet 0 = .ok (.aload_n 0, 1) := by decide +kernel
theorem dgX6_mayMeet_1 : decode cX6_mayMeet 1 = .ok (.getfield 39, 3) := by decide +kernel
theorem dgX6_mayMeet_4 : decode cX6_mayMeet 4 = .ok (.getfield 147, 3) := by decide +kernel
theorem dgX6_mayMeet_7 : decode cX6_mayMeet 7 = .ok (.iconst 2, 1) := by decide +kernel
theorem dgX6_mayMeet_8 : decode cX6_mayMeet 8 = .ok (.iload_n 1, 1) := by decide +kernel
theorem dgX6_mayMeet_9 : decode cX6_mayMeet 9 = .ok (.imul, 1) := by decide +kernel
theorem dgX6_mayMeet_10 : decode cX6_mayMeet 10 = .ok (.iaload, 1) := by decide +kernel
theorem dgX6_mayMeet_11 : decode cX6_mayMeet 11 = .ok (.istore_n 3, 1) := by decide +kernel
theorem dgX6_mayMeet_12 : decode cX6_mayMeet 12 = .ok (.aload_n 0, 1) := by decide +kernel
theorem dgX6_mayMeet_13 : decode cX6_mayMeet 13 = .ok (.getfield 39, 3) := by decide +kernel
theorem dgX6_mayMeet_16 : decode cX6_mayMeet 16 = .ok (.getfield 147, 3) := by decide +kernel
theorem dgX6_mayMeet_19 : decode cX6_mayMeet 19 = .ok (.iconst 2, 1) := by decide +kernel
theorem dgX6_mayMeet_20 : decode cX6_mayMeet 20 = .ok (.iload_n 1, 1) := by decide +kernel
theorem dgX6_mayMeet_21 : decode cX6_mayMeet 21 = .ok (.imul, 1) := by decide +kernel
theorem dgX6_mayMeet_22 : decode cX6_mayMeet 22 = .ok (.iconst 1, 1) := by decide +kernel
theorem dgX6_mayMeet_23 : decode cX6_mayMeet 23 = .ok (.iadd, 1) := by decide +kernel
theorem dgX6_mayMeet_24 : decode cX6_mayMeet 24 = .ok (.iaload, 1) := by decide +kernel
theorem dgX6_mayMeet_25 : decode cX6_mayMeet 25 = .ok (.istore 4, 2) := by decide +kernel
theorem dgX6_mayMeet_27 : decode cX6_mayMeet 27 = .ok (.aload_n 0, 1) := by decide +kernel
theorem dgX6_mayMeet_28 : decode cX6_mayMeet 28 = .ok (.getfield 39, 3) := by decide +kernel
theorem dgX6_mayMeet_31 : decode cX6_mayMeet 31 = .ok (.getfield 147, 3) := by decide +kernel
theorem dgX6_mayMeet_34 : decode cX6_mayMeet 34 = .ok (.iconst 2, 1) := by decide +kernel
theorem dgX6_mayMeet_35 : decode cX6_mayMeet 35 = .ok (.iload_n 2, 1) := by decide +kernel
theorem dgX6_mayMeet_36 : decode cX6_mayMeet 36 = .ok (.imul, 1) := by decide +kernel
theorem dgX6_mayMeet_37 : decode cX6_mayMeet 37 = .ok (.iaload, 1) := by decide +kernel
theorem dgX6_mayMeet_38 : decode cX6_mayMeet 38 = .ok (.istore 5, 2) := by decide +kernel
theorem dgX6_mayMeet_40 : decode cX6_mayMeet 40 = .ok (.aload_n 0, 1) := by decide +kernel
theorem dgX6_mayMeet_41 : decode cX6_mayMeet 41 = .ok (.getfield 39, 3) := by decide +kernel
theorem dgX6_mayMeet_44 : decode cX6_mayMeet 44 = .ok (.getfield 147, 3) := by decide +kernel
theorem dgX6_mayMeet_47 : decode cX6_mayMeet 47 = .ok (.iconst 2, 1) := by decide +kernel
theorem dgX6_mayMeet_48 : decode cX6_mayMeet 48 = .ok (.iload_n 2, 1) := by decide +kernel
theorem dgX6_mayMeet_49 : decode cX6_mayMeet 49 = .ok (.imul, 1) := by decide +kernel
theorem dgX6_mayMeet_50 : decode cX6_mayMeet 50 = .ok (.iconst 1, 1) := by decide +kernel
theorem dgX6_mayMeet_51 : decode cX6_mayMeet 51 = .ok (.iadd, 1) := by decide +kernel
theorem dgX6_mayMeet_52 : decode cX6_mayMeet 52 = .ok (.iaload, 1) := by decide +kernel
theorem dgX6_mayMeet_53 : decode cX6_mayMeet 53 = .ok (.istore 6, 2) := by decide +kernel
theorem dgX6_mayMeet_55 : decode cX6_mayMeet 55 = .ok (.aload_n 0, 1) := by decide +kernel
theorem dgX6_mayMeet_56 : decode cX6_mayMeet 56 = .ok (.getfield 29, 3) := by decide +kernel
theorem dgX6_mayMeet_59 : decode cX6_mayMeet 59 = .ok (.getfield 150, 3) := by decide +kernel
theorem dgX6_mayMeet_62 : decode cX6_mayMeet 62 = .ok (.iload_n 1, 1) := by decide +kernel
theorem dgX6_mayMeet_63 : decode cX6_mayMeet 63 = .ok (.iaload, 1) := by decide +kernel
theorem dgX6_mayMeet_64 : decode cX6_mayMeet 64 = .ok (.aload_n 0, 1) := by decide +kernel
theorem dgX6_mayMeet_65 : decode cX6_mayMeet 65 = .ok (.getfield 29, 3) := by decide +kernel
theorem dgX6_mayMeet_68 : decode cX6_mayMeet 68 = .ok (.getfield 150, 3) := by decide +kernel
theorem dgX6_mayMeet_71 : decode cX6_mayMeet 71 = .ok (.iload_n 2, 1) := by decide +kernel
theorem dgX6_mayMeet_72 : decode cX6_mayMeet 72 = .ok (.iaload, 1) := by decide +kernel
theorem dgX6_mayMeet_73 : decode cX6_mayMeet 73 = .ok (.if_icmp .ne 29, 3) := by decide +kernel
theorem dgX6_mayMeet_76 : decode cX6_mayMeet 76 = .ok (.iload_n 3, 1) := by decide +kernel
theorem dgX6_mayMeet_77 : decode cX6_mayMeet 77 = .ok (.iload 5, 2) := by decide +kernel
theorem dgX6_mayMeet_79 : decode cX6_mayMeet 79 = .ok (.if_icmp .eq 23, 3) := by decide +kernel
theorem dgX6_mayMeet_82 : decode cX6_mayMeet 82 = .ok (.iload_n 3, 1) := by decide +kernel
theorem dgX6_mayMeet_83 : decode cX6_mayMeet 83 = .ok (.iload 6, 2) := by decide +kernel
theorem dgX6_mayMeet_85 : decode cX6_mayMeet 85 = .ok (.if_icmp .eq 17, 3) := by decide +kernel
theorem dgX6_mayMeet_88 : decode cX6_mayMeet 88 = .ok (.iload 4, 2) := by decide +kernel
theorem dgX6_mayMeet_90 : decode cX6_mayMeet 90 = .ok (.iload 5, 2) := by decide +kernel
theorem dgX6_mayMeet_92 : decode cX6_mayMeet 92 = .ok (.if_icmp .eq 10, 3) := by decide +kernel
theorem dgX6_mayMeet_95 : decode cX6_mayMeet 95 = .ok (.iload 4, 2) := by decide +kernel
theorem dgX6_mayMeet_97 : decode cX6_mayMeet 97 = .ok (.iload 6, 2) := by decide +kernel
theorem dgX6_mayMeet_99 : decode cX6_mayMeet 99 = .ok (.if_icmp .ne 7, 3) := by decide +kernel
theorem dgX6_mayMeet_102 : decode cX6_mayMeet 102 = .ok (.iconst 1, 1) := by decide +kernel
theorem dgX6_mayMeet_103 : decode cX6_mayMeet 103 = .ok (.goto 4, 3) := by decide +kernel
theorem dgX6_mayMeet_106 : decode cX6_mayMeet 106 = .ok (.iconst 0, 1) := by decide +kernel
theorem dgX6_mayMeet_107 : decode cX6_mayMeet 107 = .ok (.ireturn, 1) := by decide +kernel
def wg_X6_mayMeet : List Cond := .code yX6_mayMeet cX6_mayMeet 7 (some .boolean) :: (([.fieldLink RX6 39 "KnotHouse$Mover" "ground" "LKnotHouse$Faces;", .fieldLink RX6 147 "KnotHouse$Faces" "face" "[I", .fieldLink RX6 29 "KnotHouse$Mover" "net" "LKnotHouse$Net;", .fieldLink RX6 150 "KnotHouse$Net" "part" "[I"] ++ wsX60 ++ wsX70 ++ wsX40) ++ [])
set_option maxHeartbeats 4000000 in
set_option maxRecDepth 100000 in
theorem kg_X6_mayMeet (l : Launch) (dC : Nat → ClassId) (dI : Nat → Nat → Nat) (cI cB cJ cZ : ClassId) (aM : Nat) (mx : Nat → Nat) (nx : Nat → Nat) (x7 x8 x9 x10 : Int32) (ff : Nat → Nat) (z : Int32) (F P9 : Nat → Int32) (v w : Nat) (hv : v < 24) (hw0 : w < 24) : Met l yX6_mayMeet wg_X6_mayMeet (({ frames := 0, cells := 0, slots := 0, locals := 0 } : Room)) (va_Pc [.ref aM, .int (nI v), .int (nI w)] (fun U => va_P (dC, dI) vwCl [(aM, .inr (9, [.ref (mx 0), .ref (mx 1), .ref (mx 2), .ref (mx 3), .ref (mx 4), .ref (mx 5), .ref (mx 6), .ref (mx 7)])), ((mx 3), .inr (10, [.ref (nx 0), .ref (nx 1), .ref (nx 2), .ref (nx 3), .ref (nx 4), .ref (nx 5), .ref (nx 6), .int x7, .int x8, .int x9, .int x10])), ((nx 5), .inl (cI, 24, .inl P9)), ((mx 5), .inr (7, [.ref (ff 0), .int z, .ref (ff 2), .ref (ff 3), .ref (ff 4), .ref (ff 5), .ref (ff 6), .ref (ff 7)])), ((ff 0), .inl (cI, 48, .inl F))] U.heap ∧ va_K (dC, dI) vwCl [(cI, .int), (cB, .byte), (cJ, .long), (cZ, .boolean)] U)) (va_Qi (fun r (_ : Unit) => r = bI (mv_meet F P9 v w)) (fun _ _ => True) (fun _ => False)) 0 0 (fun _ => False) := by
  refine Met.ofW (cc := cX6_mayMeet) (maxL := 7) (ret := (some .boolean)) (by decide) rfl ?_
  intro p e s m args below meth c s₁ B hml hv
  obtain ⟨rfl, hP, hK⟩ := hv
  have hx := B.exec
  have hb := B.bytes
  have hr := B.returns
  have hts := atoms_spec (ws := wg_X6_mayMeet) B.pre
  have hown : s.vm.findClass RX6 = some m.cls := findClass_of_methodNamed B.named
  have hlocks := B.notSynchronized
  have hS : va_S (fun _ => False) s.heap s.heap [] := va_S.rf
  have hP : va_P (dC, dI) vwCl [(aM, .inr (9, [.ref (mx 0), .ref (mx 1), .ref (mx 2), .ref (mx 3), .ref (mx 4), .ref (mx 5), .ref (mx 6), .ref (mx 7)])), ((mx 3), .inr (10, [.ref (nx 0), .ref (nx 1), .ref (nx 2), .ref (nx 3), .ref (nx 4), .ref (nx 5), .ref (nx 6), .int x7, .int x8, .int x9, .int x10])), ((nx 5), .inl (cI, 24, .inl P9)), ((mx 5), .inr (7, [.ref (ff 0), .int z, .ref (ff 2), .ref (ff 3), .ref (ff 4), .ref (ff 5), .ref (ff 6), .ref (ff 7)])), ((ff 0), .inl (cI, 48, .inl F))] s.heap := hP
  have hl := lv_entry ([.ref aM, .int (nI v), .int (nI w)]) (n := 7) (Nat.le_of_ble_eq_true rfl)
  rw [lg_entry_eq]
  generalize (lg_sl ([.ref aM, .int (nI v), .int (nI w)]) ++ List.replicate (7 - (lg_sl ([.ref aM, .int (nI v), .int (nI w)])).length) Slot.unset).toArray = ls at hl ⊢
  have hl : lv_has ls 7 [(0, .ref aM), (1, .int (nI v)), (2, .int (nI w))] := hl
  refine ow_named (fun QQ hQQ => ?_)
  refine lv_aload_n hx hb dgX6_mayMeet_0 rfl (lv_at hl 0 rfl) ?_
  refine va_get (D := (dC, dI)) (ci := 9) (v := .ref (mx 5)) (C := RX6) (T := TX6) (N := 8) hx hb hts (fun _ h => List.mem_cons_of_mem _ (List.mem_append_left _ (List.mem_append_left _ (List.mem_append_left _ (List.mem_append_right _ h))))) hown hK hP 0 rfl rfl 5 (by decide) (hts (.fieldLink RX6 39 "KnotHouse$Mover" "ground" "LKnotHouse$Faces;") (by decide +kernel)) (fun _ h9 => h9) rfl dgX6_mayMeet_1 ?_
  refine va_get (D := (dC, dI)) (ci := 7) (v := .ref (ff 0)) (C := RX4) (T := TX4) (N := 8) hx hb hts (fun _ h => List.mem_cons_of_mem _ (List.mem_append_left _ (List.mem_append_right _ h))) hown hK hP 3 rfl rfl 0 (by decide) (hts (.fieldLink RX6 147 "KnotHouse$Faces" "face" "[I") (by decide +kernel)) (fun _ h9 => h9) rfl dgX6_mayMeet_4 ?_
  refine lv_iconst (v := 2) hx hb dgX6_mayMeet_7 (by decide) ?_
  refine lv_iload_n hx hb dgX6_mayMeet_8 rfl (lv_at hl 1 rfl) ?_
  refine lv_imul hx hb dgX6_mayMeet_9 ?_
  refine ow_topi (y := nI (2 * v)) (pk_mul 2 v) ?_
  refine va_iald hx hb hK hP 4 0 rfl rfl (vp_in_nI (n := 2 * v) (N := 48) (by omega) (by decide)) dgX6_mayMeet_10 ?_
  refine ow_topi (y := F (2 * v)) (congrArg F (nI_clamp (n := 2 * v) (Nat.lt_trans (m := 48) (by omega) (by decide)))) ?_
  refine lv_istore_n (lv' := [(3, .int (F (2 * v))), (0, .ref aM), (1, .int (nI v)), (2, .int (nI w))]) hx hb dgX6_mayMeet_11 rfl hl (by decide) rfl (fun ls hl => ?_)
  refine lv_aload_n hx hb dgX6_mayMeet_12 rfl (lv_at hl 1 rfl) ?_
  refine va_get (D := (dC, dI)) (ci := 9) (v := .ref (mx 5)) (C := RX6) (T := TX6) (N := 8) hx hb hts (fun _ h => List.mem_cons_of_mem _ (List.mem_append_left _ (List.mem_append_left _ (List.mem_append_left _ (List.mem_append_right _ h))))) hown hK hP 0 rfl rfl 5 (by decide) (hts (.fieldLink RX6 39 "KnotHouse$Mover" "ground" "LKnotHouse$Faces;") (by decide +kernel)) (fun _ h9 => h9) rfl dgX6_mayMeet_13 ?_
  refine va_get (D := (dC, dI)) (ci := 7) (v := .ref (ff 0)) (C := RX4) (T := TX4) (N := 8) hx hb hts (fun _ h => List.mem_cons_of_mem _ (List.mem_append_left _ (List.mem_append_right _ h))) hown hK hP 3 rfl rfl 0 (by decide) (hts (.fieldLink RX6 147 "KnotHouse$Faces" "face" "[I") (by decide +kernel)) (fun _ h9 => h9) rfl dgX6_mayMeet_16 ?_
  refine lv_iconst (v := 2) hx hb dgX6_mayMeet_19 (by decide) ?_
  refine lv_iload_n hx hb dgX6_mayMeet_20 rfl (lv_at hl 2 rfl) ?_
  refine lv_imul hx hb dgX6_mayMeet_21 ?_
  refine ow_topi (y := nI (2 * v)) (pk_mul 2 v) ?_
  refine lv_iconst (v := 1) hx hb dgX6_mayMeet_22 (by decide) ?_
  refine lv_iadd hx hb dgX6_mayMeet_23 ?_
  refine ow_topi (y := nI (2 * v + 1)) (nI_1 (2 * v)) ?_
  refine va_iald hx hb hK hP 4 0 rfl rfl (vp_in_nI (n := 2 * v + 1) (N := 48) (by omega) (by decide)) dgX6_mayMeet_24 ?_
  refine ow_topi (y := F (2 * v + 1)) (congrArg F (nI_clamp (n := 2 * v + 1) (Nat.lt_trans (m := 48) (by omega) (by decide)))) ?_
  refine lv_istore (lv' := [(4, .int (F (2 * v + 1))), (3, .int (F (2 * v))), (0, .ref aM), (1, .int (nI v)), (2, .int (nI w))]) hx hb dgX6_mayMeet_25 hl (by decide) rfl (fun ls hl => ?_)
  refine lv_aload_n hx hb dgX6_mayMeet_27 rfl (lv_at hl 2 rfl) ?_
  refine va_get (D := (dC, dI)) (ci := 9) (v := .ref (mx 5)) (C := RX6) (T := TX6) (N := 8) hx hb hts (fun _ h => List.mem_cons_of_mem _ (List.mem_append_left _ (List.mem_append_left _ (List.mem_append_left _ (List.mem_append_right _ h))))) hown hK hP 0 rfl rfl 5 (by decide) (hts (.fieldLink RX6 39 "KnotHouse$Mover" "ground" "LKnotHouse$Faces;") (by decide +kernel)) (fun _ h9 => h9) rfl dgX6_mayMeet_28 ?_
  refine va_get (D := (dC, dI)) (ci := 7) (v := .ref (ff 0)) (C := RX4) (T := TX4) (N := 8) hx hb hts (fun _ h => List.mem_cons_of_mem _ (List.mem_append_left _ (List.mem_append_right _ h))) hown hK hP 3 rfl rfl 0 (by decide) (hts (.fieldLink RX6 147 "KnotHouse$Faces" "face" "[I") (by decide +kernel)) (fun _ h9 => h9) rfl dgX6_mayMeet_31 ?_
  refine lv_iconst (v := 2) hx hb dgX6_mayMeet_34 (by decide) ?_
  refine lv_iload_n hx hb dgX6_mayMeet_35 rfl (lv_at hl 4 rfl) ?_
  refine lv_imul hx hb dgX6_mayMeet_36 ?_
  refine ow_topi (y := nI (2 * w)) (pk_mul 2 w) ?_
  refine va_iald hx hb hK hP 4 0 rfl rfl (vp_in_nI (n := 2 * w) (N := 48) (by omega) (by decide)) dgX6_mayMeet_37 ?_
  refine ow_topi (y := F (2 * w)) (congrArg F (nI_clamp (n := 2 * w) (Nat.lt_trans (m := 48) (by omega) (by decide)))) ?_
  refine lv_istore (lv' := [(5, .int (F (2 * w))), (4, .int (F (2 * v + 1))), (3, .int (F (2 * v))), (0, .ref aM), (1, .int (nI v)), (2, .int (nI w))]) hx hb dgX6_mayMeet_38 hl (by decide) rfl (fun ls hl => ?_)
  refine lv_aload_n hx hb dgX6_mayMeet_40 rfl (lv_at hl 3 rfl) ?_
  refine va_get (D := (dC, dI)) (ci := 9) (v := .ref (mx 5)) (C := RX6) (T := TX6) (N := 8) hx hb hts (fun _ h => List.mem_cons_of_mem _ (List.mem_append_left _ (List.mem_append_left _ (List.mem_append_left _ (List.mem_append_right _ h))))) hown hK hP 0 rfl rfl 5 (by decide) (hts (.fieldLink RX6 39 "KnotHouse$Mover" "ground" "LKnotHouse$Faces;") (by decide +kernel)) (fun _ h9 => h9) rfl dgX6_mayMeet_41 ?_
  refine va_get (D := (dC, dI)) (ci := 7) (v := .ref (ff 0)) (C := RX4) (T := TX4) (N := 8) hx hb hts (fun _ h => List.mem_cons_of_mem _ (List.mem_append_left _ (List.mem_append_right _ h))) hown hK hP 3 rfl rfl 0 (by decide) (hts (.fieldLink RX6 147 "KnotHouse$Faces" "face" "[I") (by decide +kernel)) (fun _ h9 => h9) rfl dgX6_mayMeet_44 ?_
  refine lv_iconst (v := 2) hx hb dgX6_mayMeet_47 (by decide) ?_
  refine lv_iload_n hx hb dgX6_mayMeet_48 rfl (lv_at hl 5 rfl) ?_
  refine lv_imul hx hb dgX6_mayMeet_49 ?_
  refine ow_topi (y := nI (2 * w)) (pk_mul 2 w) ?_
  refine lv_iconst (v := 1) hx hb dgX6_mayMeet_50 (by decide) ?_
  refine lv_iadd hx hb dgX6_mayMeet_51 ?_
  refine ow_topi (y := nI (2 * w + 1)) (nI_1 (2 * w)) ?_
  refine va_iald hx hb hK hP 4 0 rfl rfl (vp_in_nI (n := 2 * w + 1) (N := 48) (by omega) (by decide)) dgX6_mayMeet_52 ?_
  refine ow_topi (y := F (2 * w + 1)) (congrArg F (nI_clamp (n := 2 * w + 1) (Nat.lt_trans (m := 48) (by omega) (by decide)))) ?_
  refine lv_istore (lv' := [(6, .int (F (2 * w + 1))), (5, .int (F (2 * w))), (4, .int (F (2 * v + 1))), (3, .int (F (2 * v))), (0, .ref aM), (1, .int (nI v)), (2, .int (nI w))]) hx hb dgX6_mayMeet_53 hl (by decide) rfl (fun ls hl => ?_)
  refine lv_aload_n hx hb dgX6_mayMeet_55 rfl (lv_at hl 4 rfl) ?_
  refine va_get (D := (dC, dI)) (ci := 9) (v := .ref (mx 3)) (C := RX6) (T := TX6) (N := 8) hx hb hts (fun _ h => List.mem_cons_of_mem _ (List.mem_append_left _ (List.mem_append_left _ (List.mem_append_left _ (List.mem_append_right _ h))))) hown hK hP 0 rfl rfl 3 (by decide) (hts (.fieldLink RX6 29 "KnotHouse$Mover" "net" "LKnotHouse$Net;") (by decide +kernel)) (fun _ h9 => h9) rfl dgX6_mayMeet_56 ?_
  refine va_get (D := (dC, dI)) (ci := 10) (v := .ref (nx 5)) (C := RX7) (T := TX7) (N := 11) hx hb hts (fun _ h => List.mem_cons_of_mem _ (List.mem_append_left _ (List.mem_append_left _ (List.mem_append_right _ h)))) hown hK hP 1 rfl rfl 5 (by decide) (hts (.fieldLink RX6 150 "KnotHouse$Net" "part" "[I") (by decide +kernel)) (fun _ h9 => h9) rfl dgX6_mayMeet_59 ?_
  refine lv_iload_n hx hb dgX6_mayMeet_62 rfl (lv_at hl 5 rfl) ?_
  refine va_iald hx hb hK hP 2 0 rfl rfl (vp_in_nI (n := v) (N := 24) hv (by decide)) dgX6_mayMeet_63 ?_
  refine ow_topi (y := P9 v) (congrArg P9 (nI_clamp (n := v) (Nat.lt_trans (m := 24) hv (by decide)))) ?_
  refine lv_aload_n hx hb dgX6_mayMeet_64 rfl (lv_at hl 4 rfl) ?_
  refine va_get (D := (dC, dI)) (ci := 9) (v := .ref (mx 3)) (C := RX6) (T := TX6) (N := 8) hx hb hts (fun _ h => List.mem_cons_of_mem _ (List.mem_append_left _ (List.mem_append_left _ (List.mem_append_left _ (List.mem_append_right _ h))))) hown hK hP 0 rfl rfl 3 (by decide) (hts (.fieldLink RX6 29 "KnotHouse$Mover" "net" "LKnotHouse$Net;") (by decide +kernel)) (fun _ h9 => h9) rfl dgX6_mayMeet_65 ?_
  refine va_get (D := (dC, dI)) (ci := 10) (v := .ref (nx 5)) (C := RX7) (T := TX7) (N := 11) hx hb hts (fun _ h => List.mem_cons_of_mem _ (List.mem_append_left _ (List.mem_append_left _ (List.mem_append_right _ h)))) hown hK hP 1 rfl rfl 5 (by decide) (hts (.fieldLink RX6 150 "KnotHouse$Net" "part" "[I") (by decide +kernel)) (fun _ h9 => h9) rfl dgX6_mayMeet_68 ?_
  refine lv_iload_n hx hb dgX6_mayMeet_71 rfl (lv_at hl 6 rfl) ?_
  refine va_iald hx hb hK hP 2 0 rfl rfl (vp_in_nI (n := w) (N := 24) hw0 (by decide)) dgX6_mayMeet_72 ?_
  refine ow_topi (y := P9 w) (congrArg P9 (nI_clamp (n := w) (Nat.lt_trans (m := 24) hw0 (by decide)))) ?_
  refine lv_icmp_ne (tgt := 102) hx hb dgX6_mayMeet_73 (by decide) (fun c1 => ?_) (fun c1 => ?_)
  · have hf2 : ¬ P9 v = P9 w := c1
    refine lv_iconst (v := 1) hx hb dgX6_mayMeet_102 (by decide) ?_
    refine lv_goto (tgt := 107) hx hb dgX6_mayMeet_103 (by decide) ?_
    rw [hQQ]
    exact W.zret (v := 1) (ty := .boolean) hx hb hr rfl (fun t ht hW => ⟨⟨1, (), rfl, by simp [bI, mv_meet, hf2], trivial⟩, hS.F ht⟩) hS.2.2 dgX6_mayMeet_107
  · have hf3 : P9 v = P9 w := c1
    refine lv_iload_n hx hb dgX6_mayMeet_76 rfl (lv_at hl 3 rfl) ?_
    refine lv_iload hx hb dgX6_mayMeet_77 (lv_at hl 1 rfl) ?_
    refine lv_icmp_eq (tgt := 102) hx hb dgX6_mayMeet_79 (by decide) (fun c4 => ?_) (fun c4 => ?_)
    · have hf5 : F (2 * v) = F (2 * w) := c4
      refine lv_iconst (v := 1) hx hb dgX6_mayMeet_102 (by decide) ?_
      refine lv_goto (tgt := 107) hx hb dgX6_mayMeet_103 (by decide) ?_
      rw [hQQ]
      exact W.zret (v := 1) (ty := .boolean) hx hb hr rfl (fun t ht hW => ⟨⟨1, (), rfl, by simp [bI, mv_meet, hf3, hf5], trivial⟩, hS.F ht⟩) hS.2.2 dgX6_mayMeet_107
    · have hf6 : ¬ F (2 * v) = F (2 * w) := c4
      refine lv_iload_n hx hb dgX6_mayMeet_82 rfl (lv_at hl 3 rfl) ?_
      refine lv_iload hx hb dgX6_mayMeet_83 (lv_at hl 0 rfl) ?_
      refine lv_icmp_eq (tgt := 102) hx hb dgX6_mayMeet_85 (by decide) (fun c7 => ?_) (fun c7 => ?_)
      · have hf8 : F (2 * v) = F (2 * w + 1) := c7
        refine lv_iconst (v := 1) hx hb dgX6_mayMeet_102 (by decide) ?_
        refine lv_goto (tgt := 107) hx hb dgX6_mayMeet_103 (by decide) ?_
        rw [hQQ]
        exact W.zret (v := 1) (ty := .boolean) hx hb hr rfl (fun t ht hW => ⟨⟨1, (), rfl, by simp [bI, mv_meet, hf3, hf6, hf8], trivial⟩, hS.F ht⟩) hS.2.2 dgX6_mayMeet_107
      · have hf9 : ¬ F (2 * v) = F (2 * w + 1) := c7
        refine lv_iload hx hb dgX6_mayMeet_88 (lv_at hl 2 rfl) ?_
        refine lv_iload hx hb dgX6_mayMeet_90 (lv_at hl 1 rfl) ?_
        refine lv_icmp_eq (tgt := 102) hx hb dgX6_mayMeet_92 (by decide) (fun c10 => ?_) (fun c10 => ?_)
        · have hf11 : F (2 * v + 1) = F (2 * w) := c10
          refine lv_iconst (v := 1) hx hb dgX6_mayMeet_102 (by decide) ?_
          refine lv_goto (tgt := 107) hx hb dgX6_mayMeet_103 (by decide) ?_
          rw [hQQ]
          exact W.zret (v := 1) (ty := .boolean) hx hb hr rfl (fun t ht hW => ⟨⟨1, (), rfl, by simp [bI, mv_meet, hf3, hf6, hf9, hf11], trivial⟩, hS.F ht⟩) hS.2.2 dgX6_mayMeet_107
        · have hf12 : ¬ F (2 * v + 1) = F (2 * w) := c10
          refine lv_iload hx hb dgX6_mayMeet_95 (lv_at hl 2 rfl) ?_
          refine lv_iload hx hb dgX6_mayMeet_97 (lv_at hl 0 rfl) ?_
          refine lv_icmp_ne (tgt := 106) hx hb dgX6_mayMeet_99 (by decide) (fun c13 => ?_) (fun c13 => ?_)
          · have hf14 : ¬ F (2 * v + 1) = F (2 * w + 1) := c13
            refine lv_iconst (v := 0) hx hb dgX6_mayMeet_106 (by decide) ?_
            rw [hQQ]
            exact W.zret (v := 0) (ty := .boolean) hx hb hr rfl (fun t ht hW => ⟨⟨0, (), rfl, by simp [bI, mv_meet, hf3, hf6, hf9, hf12, hf14], trivial⟩, hS.F ht⟩) hS.2.2 dgX6_mayMeet_107
          · have hf15 : F (2 * v + 1) = F (2 * w + 1) := c13
            refine lv_iconst (v := 1) hx hb dgX6_mayMeet_102 (by decide) ?_
            refine lv_goto (tgt := 107) hx hb dgX6_mayMeet_103 (by decide) ?_
            rw [hQQ]
            exact W.zret (v := 1) (ty := .boolean) hx hb hr rfl (fun t ht hW => ⟨⟨1, (), rfl, by simp [bI, mv_meet, hf3, hf6, hf9, hf12, hf15], trivial⟩, hS.F ht⟩) hS.2.2 dgX6_mayMeet_107
theorem dgX6_isPassable_0 : decode cX6_isPassable 0 = .ok (.aload_n 0, 1) := by decide +kernel
theorem dgX6_isPassable_1 : decode cX6_isPassable 1 = .ok (.getfield 29, 3) := by decide +kernel
theorem dgX6_isPassable_4 : decode cX6_isPassable 4 = .ok (.iload_n 1, 1) := by decide +kernel
theorem dgX6_isPassable_5 : decode cX6_isPassable 5 = .ok (.invokestatic 163, 3) := by decide +kernel
theorem dgX6_isPassable_8 : decode cX6_isPassable 8 = .ok (.iconst 1, 1) := by decide +kernel
theorem dgX6_isPassable_9 : decode cX6_isPassable 9 = .ok (.ishr, 1) := by decide +kernel
theorem dgX6_isPassable_10 : decode cX6_isPassable 10 = .ok (.istore 4, 2) := by decide +kernel
theorem dgX6_isPassable_12 : decode cX6_isPassable 12 = .ok (.aload_n 0, 1) := by decide +kernel
theorem dgX6_isPassable_13 : decode cX6_isPassable 13 = .ok (.getfield 29, 3) := by decide +kernel
theorem dgX6_isPassable_16 : decode cX6_isPassable 16 = .ok (.iload_n 2, 1) := by decide +kernel
theorem dgX6_isPassable_17 : decode cX6_isPassable 17 = .ok (.invokestatic 163, 3) := by decide +kernel
theorem dgX6_isPassable_20 : decode cX6_isPassable 20 = .ok (.iconst 1, 1) := by decide +kernel
theorem dgX6_isPassable_21 : decode cX6_isPassable 21 = .ok (.ishr, 1) := by decide +kernel
theorem dgX6_isPassable_22 : decode cX6_isPassable 22 = .ok (.istore 5, 2) := by decide +kernel
theorem dgX6_isPassable_24 : decode cX6_isPassable 24 = .ok (.aload_n 0, 1) := by decide +kernel
theorem dgX6_isPassable_25 : decode cX6_isPassable 25 = .ok (.getfield 29, 3) := by decide +kernel
theorem dgX6_isPassable_28 : decode cX6_isPassable 28 = .ok (.iload_n 3, 1) := by decide +kernel
theorem dgX6_isPassable_29 : decode cX6_isPassable 29 = .ok (.invokestatic 163, 3) := by decide +kernel
theorem dgX6_isPassable_32 : decode cX6_isPassable 32 = .ok (.iconst 1, 1) := by decide +kernel
theorem dgX6_isPassable_33 : decode cX6_isPassable 33 = .ok (.ishr, 1) := by decide +kernel
theorem dgX6_isPassable_34 : decode cX6_isPassable 34 = .ok (.istore 6, 2) := by decide +kernel
theorem dgX6_isPassable_36 : decode cX6_isPassable 36 = .ok (.iload 4, 2) := by decide +kernel
theorem dgX6_isPassable_38 : decode cX6_isPassable 38 = .ok (.iload 5, 2) := by decide +kernel
theorem dgX6_isPassable_40 : decode cX6_isPassable 40 = .ok (.if_icmp .eq 45, 3) := by decide +kernel
theorem dgX6_isPassable_43 : decode cX6_isPassable 43 = .ok (.iload 5, 2) := by decide +kernel
theorem dgX6_isPassable_45 : decode cX6_isPassable 45 = .ok (.iload 6, 2) := by decide +kernel
theorem dgX6_isPassable_47 : decode cX6_isPassable 47 = .ok (.if_icmp .eq 38, 3) := by decide +kernel
theorem dgX6_isPassable_50 : decode cX6_isPassable 50 = .ok (.iload 4, 2) := by decide +kernel
theorem dgX6_isPassable_52 : decode cX6_isPassable 52 = .ok (.iload 6, 2) := by decide +kernel
theorem dgX6_isPassable_54 : decode cX6_isPassable 54 = .ok (.if_icmp .eq 31, 3) := by decide +kernel
theorem dgX6_isPassable_57 : decode cX6_isPassable 57 = .ok (.aload_n 0, 1) := by decide +kernel
theorem dgX6_isPassable_58 : decode cX6_isPassable 58 = .ok (.iload_n 1, 1) := by decide +kernel
theorem dgX6_isPassable_59 : decode cX6_isPassable 59 = .ok (.invokevirtual 166, 3) := by decide +kernel
theorem dgX6_isPassable_62 : decode cX6_isPassable 62 = .ok (.ifCond .ne 19, 3) := by decide +kernel
theorem dgX6_isPassable_65 : decode cX6_isPassable 65 = .ok (.aload_n 0, 1) := by decide +kernel
theorem dgX6_isPassable_66 : decode cX6_isPassable 66 = .ok (.iload_n 2, 1) := by decide +kernel
theorem dgX6_isPassable_67 : decode cX6_isPassable 67 = .ok (.invokevirtual 166, 3) := by decide +kernel
theorem dgX6_isPassable_70 : decode cX6_isPassable 70 = .ok (.ifCond .ne 11, 3) := by decide +kernel
theorem dgX6_isPassable_73 : decode cX6_isPassable 73 = .ok (.aload_n 0, 1) := by decide +kernel
theorem dgX6_isPassable_74 : decode cX6_isPassable 74 = .ok (.iload_n 3, 1) := by decide +kernel
theorem dgX6_isPassable_75 : decode cX6_isPassable 75 = .ok (.invokevirtual 166, 3) := by decide +kernel
theorem dgX6_isPassable_78 : decode cX6_isPassable 78 = .ok (.ifCond .eq 7, 3) := by decide +kernel
theorem dgX6_isPassable_81 : decode cX6_isPassable 81 = .ok (.iconst 1, 1) := by decide +kernel
theorem dgX6_isPassable_82 : decode cX6_isPassable 82 = .ok (.goto 4, 3) := by decide +kernel
theorem dgX6_isPassable_85 : decode cX6_isPassable 85 = .ok (.iconst 0, 1) := by decide +kernel
theorem dgX6_isPassable_86 : decode cX6_isPassable 86 = .ok (.ireturn, 1) := by decide +kernel
def wg_X6_isPassable : List Cond := .code yX6_isPassable cX6_isPassable 7 (some .boolean) :: (([.fieldLink RX6 29 "KnotHouse$Mover" "net" "LKnotHouse$Net;"] ++ wsX60 ++ wsX70) ++ (va_wsS RX6 163 yX4_endOf wg_X4_endOf ++ (wsV RX6 166 RX6 yX6_isOver wg_X6_isOver ++ [])))
theorem gg_X6_isPassable_0 : GoodIn wg_X6_isPassable (va_wsS RX6 163 yX4_endOf wg_X4_endOf) := goodIn_sub (fun _ h => List.mem_cons_of_mem _ (List.mem_append_right _ (List.mem_append_left _ h))) (by decide +kernel)
theorem gg_X6_isPassable_1 : GoodIn wg_X6_isPassable (wsV RX6 166 RX6 yX6_isOver wg_X6_isOver) := goodIn_sub (fun _ h => List.mem_cons_of_mem _ (List.mem_append_right _ (List.mem_append_right _ (List.mem_append_left _ h)))) (by decide +kernel)
set_option maxHeartbeats 4000000 in
set_option maxRecDepth 100000 in
theorem kg_X6_isPassable (l : Launch) (dC : Nat → ClassId) (dI : Nat → Nat → Nat) (cI cB cJ cZ : ClassId) (aM : Nat) (mx : Nat → Nat) (nx : Nat → Nat) (x7 x8 x9 x10 : Int32) (S : ow_NP) (hS0 : ow_b24 S) (a b d : Nat) (ha : a < 48) (hb0 : b < 48) (hd : d < 48) : Met l yX6_isPassable wg_X6_isPassable (({ frames := 1, cells := 0, slots := 0, locals := 40 } : Room)) (va_Pc [.ref aM, .int (nI a), .int (nI b), .int (nI d)] (fun U => va_P (dC, dI) vwCl [(aM, .inr (9, [.ref (mx 0), .ref (mx 1), .ref (mx 2), .ref (mx 3), .ref (mx 4), .ref (mx 5), .ref (mx 6), .ref (mx 7)])), ((mx 3), .inr (10, [.ref (nx 0), .ref (nx 1), .ref (nx 2), .ref (nx 3), .ref (nx 4), .ref (nx 5), .ref (nx 6), .int x7, .int x8, .int x9, .int x10])), ((nx 0), .inl (cI, 24, .inl (ow_nI S.1)))] U.heap ∧ va_K (dC, dI) vwCl [(cI, .int), (cB, .byte), (cJ, .long), (cZ, .boolean)] U)) (va_Qi (fun r (_ : Unit) => r = bI (mv_pass S.1 a b d)) (fun _ _ => True) (fun _ => False)) 0 0 (fun _ => False) := by
  refine Met.ofW (cc := cX6_isPassable) (maxL := 7) (ret := (some .boolean)) (by decide) rfl ?_
  intro p e s m args below meth c s₁ B hml hv
  obtain ⟨rfl, hP, hK⟩ := hv
  have hx := B.exec
  have hb := B.bytes
  have hr := B.returns
  have hts := atoms_spec (ws := wg_X6_isPassable) B.pre
  have hown : s.vm.findClass RX6 = some m.cls := findClass_of_methodNamed B.named
  have hlocks := B.notSynchronized
  have hS : va_S (fun _ => False) s.heap s.heap [] := va_S.rf
  have hP : va_P (dC, dI) vwCl [(aM, .inr (9, [.ref (mx 0), .ref (mx 1), .ref (mx 2), .ref (mx 3), .ref (mx 4), .ref (mx 5), .ref (mx 6), .ref (mx 7)])), ((mx 3), .inr (10, [.ref (nx 0), .ref (nx 1), .ref (nx 2), .ref (nx 3), .ref (nx 4), .ref (nx 5), .ref (nx 6), .int x7, .int x8, .int x9, .int x10])), ((nx 0), .inl (cI, 24, .inl (ow_nI S.1)))] s.heap := hP
  have hl := lv_entry ([.ref aM, .int (nI a), .int (nI b), .int (nI d)]) (n := 7) (Nat.le_of_ble_eq_true rfl)
  rw [lg_entry_eq]
  generalize (lg_sl ([.ref aM, .int (nI a), .int (nI b), .int (nI d)]) ++ List.replicate (7 - (lg_sl ([.ref aM, .int (nI a), .int (nI b), .int (nI d)])).length) Slot.unset).toArray = ls at hl ⊢
  have hl : lv_has ls 7 [(0, .ref aM), (1, .int (nI a)), (2, .int (nI b)), (3, .int (nI d))] := hl
  refine ow_named (fun QQ hQQ => ?_)
  have hla := fc_end_lt hS0 ha
  have hlb := fc_end_lt hS0 hb0
  have hld := fc_end_lt hS0 hd
  refine lv_aload_n hx hb dgX6_isPassable_0 rfl (lv_at hl 0 rfl) ?_
  refine va_get (D := (dC, dI)) (ci := 9) (v := .ref (mx 3)) (C := RX6) (T := TX6) (N := 8) hx hb hts (fun _ h => List.mem_cons_of_mem _ (List.mem_append_left _ (List.mem_append_left _ (List.mem_append_right _ h)))) hown hK hP 0 rfl rfl 3 (by decide) (hts (.fieldLink RX6 29 "KnotHouse$Mover" "net" "LKnotHouse$Net;") (by decide +kernel)) (fun _ h9 => h9) rfl dgX6_isPassable_1 ?_
  refine lv_iload_n hx hb dgX6_isPassable_4 rfl (lv_at hl 1 rfl) ?_
  have hPc := hP.sub (ws' := [((mx 3), .inr (10, [.ref (nx 0), .ref (nx 1), .ref (nx 2), .ref (nx 3), .ref (nx 4), .ref (nx 5), .ref (nx 6), .int x7, .int x8, .int x9, .int x10])), ((nx 0), .inl (cI, 24, .inl (ow_nI S.1)))]) [1, 2] rfl
  refine va_calli (va_runS (As := [.ref (mx 3), .int (nI a)]) (rest := []) ⟨hx, hb, hml, hown, hts⟩ (kg_X4_endOf l dC dI cI cB cJ cZ (mx 3) nx x7 x8 x9 x10 S hS0 a ha) (va_cwS 2 hts gg_X6_isPassable_0 rfl rfl rfl (by decide +kernel) ⟨(Nat.le_of_ble_eq_true rfl), (Nat.le_of_ble_eq_true rfl)⟩) ⟨fun a U g mk q => by obtain ⟨q0, qP, qK⟩ := q; exact ⟨q0, qP, va_K.moved (u := U) (U := U.calling g mk a) (Vm.Alike.refl U.vm) qK⟩, fun U hU hW => ⟨rfl, by rw [hU]; exact hPc, va_K.moved hW.alike hK⟩⟩ rfl rfl hl.1 rfl (lv_room (Nat.le_of_ble_eq_true rfl)) dgX6_isPassable_5 ⟨(Nat.le_of_ble_eq_true rfl), (Nat.le_of_ble_eq_true rfl)⟩) hS (fun q _ h => h.elim) (fun q h => h.elim) (fun rea un t H1 locs ht hvm hw9 hB hz1 hk1 hS => ?_)
  have hP := hP.kept (fun k9 x9 h9 => hk1 x9.1 ((hP k9 x9 h9).lt) id)
  generalize H1 = H at hP hS ⊢
  obtain rfl : rea = nI (fc_end S.1 a) := hw9
  refine lv_iconst (v := 1) hx hb dgX6_isPassable_8 (by decide) ?_
  refine lv_ishr hx hb dgX6_isPassable_9 ?_
  refine ow_topi (y := nI ((fc_end S.1 a) / 2)) (ow_shr1 (n := fc_end S.1 a) (by omega)) ?_
  refine lv_istore (lv' := [(4, .int (nI ((fc_end S.1 a) / 2))), (0, .ref aM), (1, .int (nI a)), (2, .int (nI b)), (3, .int (nI d))]) hx hb dgX6_isPassable_10 hl (by decide) rfl (fun ls hl => ?_)
  refine lv_aload_n hx hb dgX6_isPassable_12 rfl (lv_at hl 1 rfl) ?_
  refine va_get (D := (dC, dI)) (ci := 9) (v := .ref (mx 3)) (C := RX6) (T := TX6) (N := 8) hx hb hts (fun _ h => List.mem_cons_of_mem _ (List.mem_append_left _ (List.mem_append_left _ (List.mem_append_right _ h)))) hown hK hP 0 rfl rfl 3 (by decide) (hts (.fieldLink RX6 29 "KnotHouse$Mover" "net" "LKnotHouse$Net;") (by decide +kernel)) (fun _ h9 => h9) rfl dgX6_isPassable_13 ?_
  refine lv_iload_n hx hb dgX6_isPassable_16 rfl (lv_at hl 3 rfl) ?_
  have hPc := hP.sub (ws' := [((mx 3), .inr (10, [.ref (nx 0), .ref (nx 1), .ref (nx 2), .ref (nx 3), .ref (nx 4), .ref (nx 5), .ref (nx 6), .int x7, .int x8, .int x9, .int x10])), ((nx 0), .inl (cI, 24, .inl (ow_nI S.1)))]) [1, 2] rfl
  refine va_calli (va_runS (As := [.ref (mx 3), .int (nI b)]) (rest := []) ⟨hx, hb, hml, hown, hts⟩ (kg_X4_endOf l dC dI cI cB cJ cZ (mx 3) nx x7 x8 x9 x10 S hS0 b hb0) (va_cwS 2 hts gg_X6_isPassable_0 rfl rfl rfl (by decide +kernel) ⟨(Nat.le_of_ble_eq_true rfl), (Nat.le_of_ble_eq_true rfl)⟩) ⟨fun a U g mk q => by obtain ⟨q0, qP, qK⟩ := q; exact ⟨q0, qP, va_K.moved (u := U) (U := U.calling g mk a) (Vm.Alike.refl U.vm) qK⟩, fun U hU hW => ⟨rfl, by rw [hU]; exact hPc, va_K.moved hW.alike hK⟩⟩ rfl rfl hl.1 rfl (lv_room (Nat.le_of_ble_eq_true rfl)) dgX6_isPassable_17 ⟨(Nat.le_of_ble_eq_true rfl), (Nat.le_of_ble_eq_true rfl)⟩) hS (fun q _ h => h.elim) (fun q h => h.elim) (fun reb un t H1 locs ht hvm hw9 hB hz1 hk1 hS => ?_)
  have hP := hP.kept (fun k9 x9 h9 => hk1 x9.1 ((hP k9 x9 h9).lt) id)
  generalize H1 = H at hP hS ⊢
  obtain rfl : reb = nI (fc_end S.1 b) := hw9
  refine lv_iconst (v := 1) hx hb dgX6_isPassable_20 (by decide) ?_
  refine lv_ishr hx hb dgX6_isPassable_21 ?_
  refine ow_topi (y := nI ((fc_end S.1 b) / 2)) (ow_shr1 (n := fc_end S.1 b) (by omega)) ?_
  refine lv_istore (lv' := [(5, .int (nI ((fc_end S.1 b) / 2))), (4, .int (nI ((fc_end S.1 a) / 2))), (0, .ref aM), (1, .int (nI a)), (2, .int (nI b)), (3, .int (nI d))]) hx hb dgX6_isPassable_22 hl (by decide) rfl (fun ls hl => ?_)
  refine lv_aload_n hx hb dgX6_isPassable_24 rfl (lv_at hl 2 rfl) ?_
  refine va_get (D := (dC, dI)) (ci := 9) (v := .ref (mx 3)) (C := RX6) (T := TX6) (N := 8) hx hb hts (fun _ h => List.mem_cons_of_mem _ (List.mem_append_left _ (List.mem_append_left _ (List.mem_append_right _ h)))) hown hK hP 0 rfl rfl 3 (by decide) (hts (.fieldLink RX6 29 "KnotHouse$Mover" "net" "LKnotHouse$Net;") (by decide +kernel)) (fun _ h9 => h9) rfl dgX6_isPassable_25 ?_
  refine lv_iload_n hx hb dgX6_isPassable_28 rfl (lv_at hl 5 rfl) ?_
  have hPc := hP.sub (ws' := [((mx 3), .inr (10, [.ref (nx 0), .ref (nx 1), .ref (nx 2), .ref (nx 3), .ref (nx 4), .ref (nx 5), .ref (nx 6), .int x7, .int x8, .int x9, .int x10])), ((nx 0), .inl (cI, 24, .inl (ow_nI S.1)))]) [1, 2] rfl
  refine va_calli (va_runS (As := [.ref (mx 3), .int (nI d)]) (rest := []) ⟨hx, hb, hml, hown, hts⟩ (kg_X4_endOf l dC dI cI cB cJ cZ (mx 3) nx x7 x8 x9 x10 S hS0 d hd) (va_cwS 2 hts gg_X6_isPassable_0 rfl rfl rfl (by decide +kernel) ⟨(Nat.le_of_ble_eq_true rfl), (Nat.le_of_ble_eq_true rfl)⟩) ⟨fun a U g mk q => by obtain ⟨q0, qP, qK⟩ := q; exact ⟨q0, qP, va_K.moved (u := U) (U := U.calling g mk a) (Vm.Alike.refl U.vm) qK⟩, fun U hU hW => ⟨rfl, by rw [hU]; exact hPc, va_K.moved hW.alike hK⟩⟩ rfl rfl hl.1 rfl (lv_room (Nat.le_of_ble_eq_true rfl)) dgX6_isPassable_29 ⟨(Nat.le_of_ble_eq_true rfl), (Nat.le_of_ble_eq_true rfl)⟩) hS (fun q _ h => h.elim) (fun q h => h.elim) (fun red un t H1 locs ht hvm hw9 hB hz1 hk1 hS => ?_)
  have hP := hP.kept (fun k9 x9 h9 => hk1 x9.1 ((hP k9 x9 h9).lt) id)
  generalize H1 = H at hP hS ⊢
  obtain rfl : red = nI (fc_end S.1 d) := hw9
  refine lv_iconst (v := 1) hx hb dgX6_isPassable_32 (by decide) ?_
  refine lv_ishr hx hb dgX6_isPassable_33 ?_
  refine ow_topi (y := nI ((fc_end S.1 d) / 2)) (ow_shr1 (n := fc_end S.1 d) (by omega)) ?_
  refine lv_istore (lv' := [(6, .int (nI ((fc_end S.1 d) / 2))), (5, .int (nI ((fc_end S.1 b) / 2))), (4, .int (nI ((fc_end S.1 a) / 2))), (0, .ref aM), (1, .int (nI a)), (2, .int (nI b)), (3, .int (nI d))]) hx hb dgX6_isPassable_34 hl (by decide) rfl (fun ls hl => ?_)
  refine lv_iload hx hb dgX6_isPassable_36 (lv_at hl 2 rfl) ?_
  refine lv_iload hx hb dgX6_isPassable_38 (lv_at hl 1 rfl) ?_
  refine lv_icmp_eq (tgt := 85) hx hb dgX6_isPassable_40 (by decide) (fun c1 => ?_) (fun c1 => ?_)
  · have hf2 : fc_end S.1 a / 2 = fc_end S.1 b / 2 := ow_nI_inj (by omega) (by omega) c1
    refine lv_iconst (v := 0) hx hb dgX6_isPassable_85 (by decide) ?_
    rw [hQQ]
    exact W.zret (v := 0) (ty := .boolean) hx hb hr rfl (fun t ht hW => ⟨⟨0, (), rfl, by simp [bI, mv_pass, hf2], trivial⟩, hS.F ht⟩) hS.2.2 dgX6_isPassable_86
  · have hf3 : ¬ fc_end S.1 a / 2 = fc_end S.1 b / 2 := fun h9 => c1 (congrArg nI h9)
    refine lv_iload hx hb dgX6_isPassable_43 (lv_at hl 1 rfl) ?_
    refine lv_iload hx hb dgX6_isPassable_45 (lv_at hl 0 rfl) ?_
    refine lv_icmp_eq (tgt := 85) hx hb dgX6_isPassable_47 (by decide) (fun c4 => ?_) (fun c4 => ?_)
    · have hf5 : fc_end S.1 b / 2 = fc_end S.1 d / 2 := ow_nI_inj (by omega) (by omega) c4
      refine lv_iconst (v := 0) hx hb dgX6_isPassable_85 (by decide) ?_
      rw [hQQ]
      exact W.zret (v := 0) (ty := .boolean) hx hb hr rfl (fun t ht hW => ⟨⟨0, (), rfl, by simp [bI, mv_pass, hf3, hf5], trivial⟩, hS.F ht⟩) hS.2.2 dgX6_isPassable_86
    · have hf6 : ¬ fc_end S.1 b / 2 = fc_end S.1 d / 2 := fun h9 => c4 (congrArg nI h9)
      refine lv_iload hx hb dgX6_isPassable_50 (lv_at hl 2 rfl) ?_
      refine lv_iload hx hb dgX6_isPassable_52 (lv_at hl 0 rfl) ?_
      refine lv_icmp_eq (tgt := 85) hx hb dgX6_isPassable_54 (by decide) (fun c7 => ?_) (fun c7 => ?_)
      · have hf8 : fc_end S.1 a / 2 = fc_end S.1 d / 2 := ow_nI_inj (by omega) (by omega) c7
        refine lv_iconst (v := 0) hx hb dgX6_isPassable_85 (by decide) ?_
        rw [hQQ]
        exact W.zret (v := 0) (ty := .boolean) hx hb hr rfl (fun t ht hW => ⟨⟨0, (), rfl, by simp [bI, mv_pass, hf3, hf6, hf8], trivial⟩, hS.F ht⟩) hS.2.2 dgX6_isPassable_86
      · have hf9 : ¬ fc_end S.1 a / 2 = fc_end S.1 d / 2 := fun h9 => c7 (congrArg nI h9)
        refine lv_aload_n hx hb dgX6_isPassable_57 rfl (lv_at hl 3 rfl) ?_
        refine lv_iload_n hx hb dgX6_isPassable_58 rfl (lv_at hl 4 rfl) ?_
        have hPc := hP.sub (ws' := [(aM, .inr (9, [.ref (mx 0), .ref (mx 1), .ref (mx 2), .ref (mx 3), .ref (mx 4), .ref (mx 5), .ref (mx 6), .ref (mx 7)])), ((mx 3), .inr (10, [.ref (nx 0), .ref (nx 1), .ref (nx 2), .ref (nx 3), .ref (nx 4), .ref (nx 5), .ref (nx 6), .int x7, .int x8, .int x9, .int x10])), ((nx 0), .inl (cI, 24, .inl (ow_nI S.1)))]) [0, 1, 2] rfl
        refine va_calli (va_runV (As := [.int (nI a)]) (rest := []) ⟨hx, hb, hml, hown, hts⟩ (kg_X6_isOver l dC dI cI cB cJ cZ aM mx nx x7 x8 x9 x10 S.1 a (Nat.lt_trans (hS0.1 _) (by decide)) ha) (cwV 1 hts gg_X6_isPassable_1 rfl rfl rfl (by decide +kernel) ⟨(Nat.le_of_ble_eq_true rfl), (Nat.le_of_ble_eq_true rfl)⟩) ⟨fun a U g mk q => by obtain ⟨q0, qP, qK⟩ := q; exact ⟨q0, qP, va_K.moved (u := U) (U := U.calling g mk a) (Vm.Alike.refl U.vm) qK⟩, va_recv hK hPc (ci := 9) (q0 := 0) rfl rfl, fun U hU hW => ⟨rfl, by rw [hU]; exact hPc, va_K.moved hW.alike hK⟩⟩ rfl rfl hl.1 rfl (lv_room (Nat.le_of_ble_eq_true rfl)) dgX6_isPassable_59 ⟨(Nat.le_of_ble_eq_true rfl), (Nat.le_of_ble_eq_true rfl)⟩) hS (fun q _ h => h.elim) (fun q h => h.elim) (fun roa un t H1 locs ht hvm hw9 hB hz1 hk1 hS => ?_)
        have hP := hP.kept (fun k9 x9 h9 => hk1 x9.1 ((hP k9 x9 h9).lt) id)
        generalize H1 = H at hP hS ⊢
        have hoa : roa = bI (mv_ov S.1 a) := hw9
        refine lv_if_ne (tgt := 81) hx hb dgX6_isPassable_62 (by decide) (fun c10 => ?_) (fun c10 => ?_)
        · have hf11 : mv_ov S.1 a = true := bI_ne (hoa ▸ c10)
          refine lv_iconst (v := 1) hx hb dgX6_isPassable_81 (by decide) ?_
          refine lv_goto (tgt := 86) hx hb dgX6_isPassable_82 (by decide) ?_
          rw [hQQ]
          exact W.zret (v := 1) (ty := .boolean) hx hb hr rfl (fun t ht hW => ⟨⟨1, (), rfl, by simp [bI, mv_pass, hf3, hf6, hf9, hf11], trivial⟩, hS.F ht⟩) hS.2.2 dgX6_isPassable_86
        · have hf12 : mv_ov S.1 a = false := bI_eq (hoa ▸ c10)
          refine lv_aload_n hx hb dgX6_isPassable_65 rfl (lv_at hl 3 rfl) ?_
          refine lv_iload_n hx hb dgX6_isPassable_66 rfl (lv_at hl 5 rfl) ?_
          have hPc := hP.sub (ws' := [(aM, .inr (9, [.ref (mx 0), .ref (mx 1), .ref (mx 2), .ref (mx 3), .ref (mx 4), .ref (mx 5), .ref (mx 6), .ref (mx 7)])), ((mx 3), .inr (10, [.ref (nx 0), .ref (nx 1), .ref (nx 2), .ref (nx 3), .ref (nx 4), .ref (nx 5), .ref (nx 6), .int x7, .int x8, .int x9, .int x10])), ((nx 0), .inl (cI, 24, .inl (ow_nI S.1)))]) [0, 1, 2] rfl
          refine va_calli (va_runV (As := [.int (nI b)]) (rest := []) ⟨hx, hb, hml, hown, hts⟩ (kg_X6_isOver l dC dI cI cB cJ cZ aM mx nx x7 x8 x9 x10 S.1 b (Nat.lt_trans (hS0.1 _) (by decide)) hb0) (cwV 1 hts gg_X6_isPassable_1 rfl rfl rfl (by decide +kernel) ⟨(Nat.le_of_ble_eq_true rfl), (Nat.le_of_ble_eq_true rfl)⟩) ⟨fun a U g mk q => by obtain ⟨q0, qP, qK⟩ := q; exact ⟨q0, qP, va_K.moved (u := U) (U := U.calling g mk a) (Vm.Alike.refl U.vm) qK⟩, va_recv hK hPc (ci := 9) (q0 := 0) rfl rfl, fun U hU hW => ⟨rfl, by rw [hU]; exact hPc, va_K.moved hW.alike hK⟩⟩ rfl rfl hl.1 rfl (lv_room (Nat.le_of_ble_eq_true rfl)) dgX6_isPassable_67 ⟨(Nat.le_of_ble_eq_true rfl), (Nat.le_of_ble_eq_true rfl)⟩) hS (fun q _ h => h.elim) (fun q h => h.elim) (fun rob un t H1 locs ht hvm hw9 hB hz1 hk1 hS => ?_)
          have hP := hP.kept (fun k9 x9 h9 => hk1 x9.1 ((hP k9 x9 h9).lt) id)
          generalize H1 = H at hP hS ⊢
          have hob : rob = bI (mv_ov S.1 b) := hw9
          refine lv_if_ne (tgt := 81) hx hb dgX6_isPassable_70 (by decide) (fun c13 => ?_) (fun c13 => ?_)
          · have hf14 : mv_ov S.1 b = true := bI_ne (hob ▸ c13)
            refine lv_iconst (v := 1) hx hb dgX6_isPassable_81 (by decide) ?_
            refine lv_goto (tgt := 86) hx hb dgX6_isPassable_82 (by decide) ?_
            rw [hQQ]
            exact W.zret (v := 1) (ty := .boolean) hx hb hr rfl (fun t ht hW => ⟨⟨1, (), rfl, by simp [bI, mv_pass, hf3, hf6, hf9, hf12, hf14], trivial⟩, hS.F ht⟩) hS.2.2 dgX6_isPassable_86
          · have hf15 : mv_ov S.1 b = false := bI_eq (hob ▸ c13)
            refine lv_aload_n hx hb dgX6_isPassable_73 rfl (lv_at hl 3 rfl) ?_
            refine lv_iload_n hx hb dgX6_isPassable_74 rfl (lv_at hl 6 rfl) ?_
            have hPc := hP.sub (ws' := [(aM, .inr (9, [.ref (mx 0), .ref (mx 1), .ref (mx 2), .ref (mx 3), .ref (mx 4), .ref (mx 5), .ref (mx 6), .ref (mx 7)])), ((mx 3), .inr (10, [.ref (nx 0), .ref (nx 1), .ref (nx 2), .ref (nx 3), .ref (nx 4), .ref (nx 5), .ref (nx 6), .int x7, .int x8, .int x9, .int x10])), ((nx 0), .inl (cI, 24, .inl (ow_nI S.1)))]) [0, 1, 2] rfl
            refine va_calli (va_runV (As := [.int (nI d)]) (rest := []) ⟨hx, hb, hml, hown, hts⟩ (kg_X6_isOver l dC dI cI cB cJ cZ aM mx nx x7 x8 x9 x10 S.1 d (Nat.lt_trans (hS0.1 _) (by decide)) hd) (cwV 1 hts gg_X6_isPassable_1 rfl rfl rfl (by decide +kernel) ⟨(Nat.le_of_ble_eq_true rfl), (Nat.le_of_ble_eq_true rfl)⟩) ⟨fun a U g mk q => by obtain ⟨q0, qP, qK⟩ := q; exact ⟨q0, qP, va_K.moved (u := U) (U := U.calling g mk a) (Vm.Alike.refl U.vm) qK⟩, va_recv hK hPc (ci := 9) (q0 := 0) rfl rfl, fun U hU hW => ⟨rfl, by rw [hU]; exact hPc, va_K.moved hW.alike hK⟩⟩ rfl rfl hl.1 rfl (lv_room (Nat.le_of_ble_eq_true rfl)) dgX6_isPassable_75 ⟨(Nat.le_of_ble_eq_true rfl), (Nat.le_of_ble_eq_true rfl)⟩) hS (fun q _ h => h.elim) (fun q h => h.elim) (fun rod un t H1 locs ht hvm hw9 hB hz1 hk1 hS => ?_)
            have hP := hP.kept (fun k9 x9 h9 => hk1 x9.1 ((hP k9 x9 h9).lt) id)
            generalize H1 = H at hP hS ⊢
            have hod : rod = bI (mv_ov S.1 d) := hw9
            refine lv_if_eq (tgt := 85) hx hb dgX6_isPassable_78 (by decide) (fun c16 => ?_) (fun c16 => ?_)
            · have hf17 : mv_ov S.1 d = false := bI_eq (hod ▸ c16)
              refine lv_iconst (v := 0) hx hb dgX6_isPassable_85 (by decide) ?_
              rw [hQQ]
              exact W.zret (v := 0) (ty := .boolean) hx hb hr rfl (fun t ht hW => ⟨⟨0, (), rfl, by simp [bI, mv_pass, hf3, hf6, hf9, hf12, hf15, hf17], trivial⟩, hS.F ht⟩) hS.2.2 dgX6_isPassable_86
            · have hf18 : mv_ov S.1 d = true := bI_ne (hod ▸ c16)
              refine lv_iconst (v := 1) hx hb dgX6_isPassable_81 (by decide) ?_
              refine lv_goto (tgt := 86) hx hb dgX6_isPassable_82 (by decide) ?_
              rw [hQQ]
              exact W.zret (v := 1) (ty := .boolean) hx hb hr rfl (fun t ht hW => ⟨⟨1, (), rfl, by simp [bI, mv_pass, hf3, hf6, hf9, hf12, hf15, hf18], trivial⟩, hS.F ht⟩) hS.2.2 dgX6_isPassable_86
