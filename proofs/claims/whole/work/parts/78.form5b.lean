/-! forms: power, length, factors -/
abbrev ow_FO := Int32 × Nat × (Nat → Int32)
abbrev ow_WE := Int32 × Int32 × Option Nat
def f5_wl (n : Nat) : Nat → ow_WE → ow_WE
  | 0, q => q
  | d + 1, q => match q.2.2 with
    | none => q
    | some x => f5_wl n d (f5_ex q.1 (nI x), f5_ex q.2.1 (nI x), f5_mv (f5_ex q.1 (nI x)) (f5_ex q.2.1 (nI x)) (n - 1) 0)
def f5_w0 (n : Nat) (F : Nat → Int32) (i : Nat) : ow_WE := (f5_inv (F i) n, F (i + 1), f5_mv (f5_inv (F i) n) (F (i + 1)) (n - 1) 0)
def f5_we (n : Nat) (F : Nat → Int32) (i : Nat) : (Nat → Int32) × Bool := match (f5_w0 n F i).2.2 with
  | none => (F, false)
  | some _ => (su (su F i (f5_inv (f5_wl n 10 (f5_w0 n F i)).1 n)) (i + 1) (f5_wl n 10 (f5_w0 n F i)).2.1, true)
def f5_ld (F : Nat → Int32) (den : Int32) : Nat → Nat → Nat
  | 0, k => k
  | d + 1, k => if F k = den then f5_ld F den d (k + 1) else k
def f5_tr (F : Nat → Int32) (idn : Int32) : Nat → Nat
  | 0 => 0
  | k + 1 => if F k = idn then f5_tr F idn k else k + 1
theorem f5_ld_le {F : Nat → Int32} {den : Int32} : ∀ (d k : Nat), k ≤ f5_ld F den d k ∧ f5_ld F den d k ≤ k + d := by
  intro d
  induction d with
  | zero => intro k; exact ⟨Nat.le_refl _, Nat.le_refl _⟩
  | succ d ih =>
    intro k
    rw [f5_ld]
    split
    · have := ih (k + 1)
      omega
    · omega
theorem f5_tr_le {F : Nat → Int32} {idn : Int32} : ∀ k, f5_tr F idn k ≤ k := by
  intro k
  induction k with
  | zero => exact Nat.le_refl 0
  | succ k ih =>
    rw [f5_tr]
    split <;> omega
def f5_st (idn den : Int32) (q : ow_FO) : ow_FO := (q.1 + nI (f5_ld q.2.2 den q.2.1 0), f5_tr (va_cpy q.2.2 q.2.2 (f5_ld q.2.2 den q.2.1 0) 0 (q.2.1 - f5_ld q.2.2 den q.2.1 0)) idn (q.2.1 - f5_ld q.2.2 den q.2.1 0), va_cpy q.2.2 q.2.2 (f5_ld q.2.2 den q.2.1 0) 0 (q.2.1 - f5_ld q.2.2 den q.2.1 0))
theorem f5_st_le {idn den : Int32} {q : ow_FO} : (f5_st idn den q).2.1 ≤ q.2.1 := Nat.le_trans (f5_tr_le _) (Nat.sub_le _ _)
/-- weighed downward from k, and upward -/
def f5_wb (n : Nat) : Nat → (Nat → Int32) → (Nat → Int32)
  | 0, F => F
  | k + 1, F => if (f5_we n F k).2 then f5_wb n k (f5_we n F k).1 else (f5_we n F k).1
def f5_wu (n : Nat) : Nat → Nat → (Nat → Int32) → (Nat → Int32)
  | 0, _, F => F
  | d + 1, i, F => if (f5_we n F i).2 then f5_wu n d (i + 1) (f5_we n F i).1 else (f5_we n F i).1
def f5_pb (n : Nat) (idn den : Int32) (q : ow_FO) (s9 : Int32) : ow_FO := if q.2.1 < 24 then f5_st idn den (q.1, q.2.1 + 1, f5_wb n q.2.1 (su q.2.2 q.2.1 s9)) else q
def f5_pf (n : Nat) (idn den : Int32) (q : ow_FO) (s9 : Int32) : ow_FO := if q.2.1 < 24 then f5_st idn den (q.1, q.2.1 + 1, f5_wu n q.2.1 0 (su (va_cpy q.2.2 q.2.2 0 1 q.2.1) 0 s9)) else q
theorem f5_pb_le {n : Nat} {idn den : Int32} {q : ow_FO} {s9 : Int32} (h : q.2.1 ≤ 24) : (f5_pb n idn den q s9).2.1 ≤ 24 := by
  unfold f5_pb
  split
  · rename_i h1
    exact Nat.le_trans f5_st_le h1
  · exact h
theorem f5_pf_le {n : Nat} {idn den : Int32} {q : ow_FO} {s9 : Int32} (h : q.2.1 ≤ 24) : (f5_pf n idn den q s9).2.1 ≤ 24 := by
  unfold f5_pf
  split
  · rename_i h1
    exact Nat.le_trans f5_st_le h1
  · exact h
theorem dgX5_begin_0 : decode cX5_begin 0 = .ok (.aload_n 0, 1) := by decide +kernel
theorem dgX5_begin_1 : decode cX5_begin 1 = .ok (.iload_n 1, 1) := by decide +kernel
theorem dgX5_begin_2 : decode cX5_begin 2 = .ok (.putfield 25, 3) := by decide +kernel
theorem dgX5_begin_5 : decode cX5_begin 5 = .ok (.aload_n 0, 1) := by decide +kernel
theorem dgX5_begin_6 : decode cX5_begin 6 = .ok (.iconst 0, 1) := by decide +kernel
theorem dgX5_begin_7 : decode cX5_begin 7 = .ok (.putfield 29, 3) := by decide +kernel
theorem dgX5_begin_10 : decode cX5_begin 10 = .ok (.aload_n 0, 1) := by decide +kernel
theorem dgX5_begin_11 : decode cX5_begin 11 = .ok (.iconst 0, 1) := by decide +kernel
theorem dgX5_begin_12 : decode cX5_begin 12 = .ok (.putfield 32, 3) := by decide +kernel
theorem dgX5_begin_15 : decode cX5_begin 15 = .ok (.aload_n 0, 1) := by decide +kernel
theorem dgX5_begin_16 : decode cX5_begin 16 = .ok (.iload_n 1, 1) := by decide +kernel
theorem dgX5_begin_17 : decode cX5_begin 17 = .ok (.invokestatic 35, 3) := by decide +kernel
theorem dgX5_begin_20 : decode cX5_begin 20 = .ok (.putfield 39, 3) := by decide +kernel
theorem dgX5_begin_23 : decode cX5_begin 23 = .ok (.aload_n 0, 1) := by decide +kernel
theorem dgX5_begin_24 : decode cX5_begin 24 = .ok (.iload_n 1, 1) := by decide +kernel
theorem dgX5_begin_25 : decode cX5_begin 25 = .ok (.invokestatic 42, 3) := by decide +kernel
theorem dgX5_begin_28 : decode cX5_begin 28 = .ok (.putfield 45, 3) := by decide +kernel
theorem dgX5_begin_31 : decode cX5_begin 31 = .ok (.return_, 1) := by decide +kernel
def wg_X5_begin : List Cond := .code yX5_begin cX5_begin 2 none :: (([.fieldLink RX5 25 "KnotHouse$Form" "strands" "I", .fieldLink RX5 29 "KnotHouse$Form" "power" "I", .fieldLink RX5 32 "KnotHouse$Form" "length" "I", .fieldLink RX5 39 "KnotHouse$Form" "identity" "I", .fieldLink RX5 45 "KnotHouse$Form" "delta" "I"] ++ wsX50) ++ (va_wsS RX5 35 yX5_identityOf wg_X5_identityOf ++ (va_wsS RX5 42 yX5_deltaOf wg_X5_deltaOf ++ [])))
theorem gg_X5_begin_0 : GoodIn wg_X5_begin (va_wsS RX5 35 yX5_identityOf wg_X5_identityOf) := goodIn_sub (fun _ h => List.mem_cons_of_mem _ (List.mem_append_right _ (List.mem_append_left _ h))) (by decide +kernel)
theorem gg_X5_begin_1 : GoodIn wg_X5_begin (va_wsS RX5 42 yX5_deltaOf wg_X5_deltaOf) := goodIn_sub (fun _ h => List.mem_cons_of_mem _ (List.mem_append_right _ (List.mem_append_right _ (List.mem_append_left _ h)))) (by decide +kernel)
set_option maxHeartbeats 4000000 in
set_option maxRecDepth 100000 in
theorem kg_X5_begin (l : Launch) (dC : Nat → ClassId) (dI : Nat → Nat → Nat) (cI cB cJ cZ : ClassId) (aO fc n : Nat) (hn9 : n < 100) (x0 x1 x2 x4 x5 : Int32) (sz : Nat) : Met l yX5_begin wg_X5_begin (({ frames := 1, cells := 0, slots := 0, locals := 40 } : Room)) (va_Pc [.ref aO, .int (nI n)] (fun U => U.heap.size = sz ∧ va_P (dC, dI) vwCl [(aO, .inr (8, [.int x0, .int x1, .int x2, .ref fc, .int x4, .int x5]))] U.heap ∧ va_K (dC, dI) vwCl [(cI, .int), (cB, .byte), (cJ, .long), (cZ, .boolean)] U ∧ va_D (fun _ => True) [(aO, .inr (8, [.int x0, .int x1, .int x2, .ref fc, .int x4, .int x5]))])) (va_Qv (fun (g : Unit) => True) (fun g t => va_P (dC, dI) vwCl [(aO, .inr (8, [.int (nI n), .int 0, .int (nI 0), .ref fc, .int (f5_id n), .int (f5_de n n)]))] t.heap ∧ va_D (va_A [(aO, .inr (8, [.int x0, .int x1, .int x2, .ref fc, .int x4, .int x5]))] sz) [(aO, .inr (8, [.int (nI n), .int 0, .int (nI 0), .ref fc, .int (f5_id n), .int (f5_de n n)]))]) (va_A [(aO, .inr (8, [.int x0, .int x1, .int x2, .ref fc, .int x4, .int x5]))] sz)) 0 0 (va_A [(aO, .inr (8, [.int x0, .int x1, .int x2, .ref fc, .int x4, .int x5]))] sz) := by
  refine Met.ofW (cc := cX5_begin) (maxL := 2) (ret := none) (by decide) rfl ?_
  intro p e s m args below meth c s₁ B hml hv
  obtain ⟨rfl, hsz, hP, hK, hD0⟩ := hv
  have hx := B.exec
  have hb := B.bytes
  have hr := B.returns
  have hts := atoms_spec (ws := wg_X5_begin) B.pre
  have hown : s.vm.findClass RX5 = some m.cls := findClass_of_methodNamed B.named
  have hlocks := B.notSynchronized
  subst hsz
  have hD := hD0.self (sz := s.heap.size)
  generalize hAe : va_A [(aO, .inr (8, [.int x0, .int x1, .int x2, .ref fc, .int x4, .int x5]))] s.heap.size = A at hD ⊢
  have hA : ∀ q : Nat, s.heap.size ≤ q → A q := fun q h => by rw [← hAe]; exact Or.inr h
  have hS : va_S A s.heap s.heap [] := va_S.rf
  have hP : va_P (dC, dI) vwCl [(aO, .inr (8, [.int x0, .int x1, .int x2, .ref fc, .int x4, .int x5]))] s.heap := hP
  have hl := lv_entry ([.ref aO, .int (nI n)]) (n := 2) (Nat.le_of_ble_eq_true rfl)
  rw [lg_entry_eq]
  generalize (lg_sl ([.ref aO, .int (nI n)]) ++ List.replicate (2 - (lg_sl ([.ref aO, .int (nI n)])).length) Slot.unset).toArray = ls at hl ⊢
  have hl : lv_has ls 2 [(0, .ref aO), (1, .int (nI n))] := hl
  refine ow_named (fun QQ hQQ => ?_)
  suffices key9 : ∀ (H : Heap) (locs : List Loc), va_P (dC, dI) vwCl [(aO, .inr (8, [.int x0, .int x1, .int x2, .ref fc, .int x4, .int x5]))] H → va_S A s.heap H locs → W p l e ({ frames := 1, cells := 0, slots := 0, locals := 40 } : Room) s m ([.ref aO, .int (nI n)] : List Value).toArray below meth c H locs 0 0 QQ (F0 m 0 ls []) from key9 s.heap [] hP hS
  intro H locs hP hS
  refine lv_aload_n hx hb dgX5_begin_0 rfl (lv_at hl 0 rfl) ?_
  refine lv_iload_n hx hb dgX5_begin_1 rfl (lv_at hl 1 rfl) ?_
  refine va_put (D := (dC, dI)) (ci := 8) (v := .int (nI n)) (ty := .int) (C := RX5) (T := TX5) (N := 6) hx hb hts (fun _ h => List.mem_cons_of_mem _ (List.mem_append_left _ (List.mem_append_right _ h))) tyX5 tyX5_ok nmX5 hown hK hP hD hS 0 rfl rfl 0 (by decide) (hts (.fieldLink RX5 25 "KnotHouse$Form" "strands" "I") (by decide +kernel)) (fun _ h9 => h9) rfl (by decide +kernel) rfl rfl (Nat.le_of_ble_eq_true rfl) dgX5_begin_2 (fun H locs hP hD hS => ?_)
  have hP : va_P (dC, dI) vwCl [(aO, .inr (8, [.int (nI n), .int x1, .int x2, .ref fc, .int x4, .int x5]))] H := hP
  have hD : va_D A [(aO, .inr (8, [.int (nI n), .int x1, .int x2, .ref fc, .int x4, .int x5]))] := hD
  refine lv_aload_n hx hb dgX5_begin_5 rfl (lv_at hl 0 rfl) ?_
  refine lv_iconst (v := 0) hx hb dgX5_begin_6 (by decide) ?_
  refine va_put (D := (dC, dI)) (ci := 8) (v := .int 0) (ty := .int) (C := RX5) (T := TX5) (N := 6) hx hb hts (fun _ h => List.mem_cons_of_mem _ (List.mem_append_left _ (List.mem_append_right _ h))) tyX5 tyX5_ok nmX5 hown hK hP hD hS 0 rfl rfl 1 (by decide) (hts (.fieldLink RX5 29 "KnotHouse$Form" "power" "I") (by decide +kernel)) (fun _ h9 => h9) rfl (by decide +kernel) rfl rfl (Nat.le_of_ble_eq_true rfl) dgX5_begin_7 (fun H locs hP hD hS => ?_)
  have hP : va_P (dC, dI) vwCl [(aO, .inr (8, [.int (nI n), .int 0, .int x2, .ref fc, .int x4, .int x5]))] H := hP
  have hD : va_D A [(aO, .inr (8, [.int (nI n), .int 0, .int x2, .ref fc, .int x4, .int x5]))] := hD
  refine lv_aload_n hx hb dgX5_begin_10 rfl (lv_at hl 0 rfl) ?_
  refine lv_iconst (v := 0) hx hb dgX5_begin_11 (by decide) ?_
  refine va_put (D := (dC, dI)) (ci := 8) (v := .int 0) (ty := .int) (C := RX5) (T := TX5) (N := 6) hx hb hts (fun _ h => List.mem_cons_of_mem _ (List.mem_append_left _ (List.mem_append_right _ h))) tyX5 tyX5_ok nmX5 hown hK hP hD hS 0 rfl rfl 2 (by decide) (hts (.fieldLink RX5 32 "KnotHouse$Form" "length" "I") (by decide +kernel)) (fun _ h9 => h9) rfl (by decide +kernel) rfl rfl (Nat.le_of_ble_eq_true rfl) dgX5_begin_12 (fun H locs hP hD hS => ?_)
  have hP : va_P (dC, dI) vwCl [(aO, .inr (8, [.int (nI n), .int 0, .int 0, .ref fc, .int x4, .int x5]))] H := hP
  have hD : va_D A [(aO, .inr (8, [.int (nI n), .int 0, .int 0, .ref fc, .int x4, .int x5]))] := hD
  refine lv_aload_n hx hb dgX5_begin_15 rfl (lv_at hl 0 rfl) ?_
  refine lv_iload_n hx hb dgX5_begin_16 rfl (lv_at hl 1 rfl) ?_
  have hPc := hP.sub (ws' := []) [] rfl
  refine va_calli (va_runS (As := [.int (nI n)]) (rest := [.ref aO]) ⟨hx, hb, hml, hown, hts⟩ (kg_X5_identityOf l dC dI cI cB cJ cZ n (by omega)) (va_cwS 1 hts gg_X5_begin_0 rfl rfl rfl (by decide +kernel) ⟨(Nat.le_of_ble_eq_true rfl), (Nat.le_of_ble_eq_true rfl)⟩) ⟨fun a U g mk q => by obtain ⟨q0, qP, qK⟩ := q; exact ⟨q0, qP, va_K.moved (u := U) (U := U.calling g mk a) (Vm.Alike.refl U.vm) qK⟩, fun U hU hW => ⟨rfl, by rw [hU]; exact hPc, va_K.moved hW.alike hK⟩⟩ rfl rfl hl.1 rfl (lv_room (Nat.le_of_ble_eq_true rfl)) dgX5_begin_17 ⟨(Nat.le_of_ble_eq_true rfl), (Nat.le_of_ble_eq_true rfl)⟩) hS (fun q _ h => h.elim) (fun q h => h.elim) (fun ra1 un t H1 locs ht hvm hw9 hB hz1 hk1 hS => ?_)
  have hP := hP.kept (fun k9 x9 h9 => hk1 x9.1 ((hP k9 x9 h9).lt) id)
  generalize H1 = H at hP hS ⊢
  obtain rfl : ra1 = f5_id n := hw9
  refine va_put (D := (dC, dI)) (ci := 8) (v := .int (f5_id n)) (ty := .int) (C := RX5) (T := TX5) (N := 6) hx hb hts (fun _ h => List.mem_cons_of_mem _ (List.mem_append_left _ (List.mem_append_right _ h))) tyX5 tyX5_ok nmX5 hown hK hP hD hS 0 rfl rfl 4 (by decide) (hts (.fieldLink RX5 39 "KnotHouse$Form" "identity" "I") (by decide +kernel)) (fun _ h9 => h9) rfl (by decide +kernel) rfl rfl (Nat.le_of_ble_eq_true rfl) dgX5_begin_20 (fun H locs hP hD hS => ?_)
  have hP : va_P (dC, dI) vwCl [(aO, .inr (8, [.int (nI n), .int 0, .int 0, .ref fc, .int (f5_id n), .int x5]))] H := hP
  have hD : va_D A [(aO, .inr (8, [.int (nI n), .int 0, .int 0, .ref fc, .int (f5_id n), .int x5]))] := hD
  refine lv_aload_n hx hb dgX5_begin_23 rfl (lv_at hl 0 rfl) ?_
  refine lv_iload_n hx hb dgX5_begin_24 rfl (lv_at hl 1 rfl) ?_
  have hPc := hP.sub (ws' := []) [] rfl
  refine va_calli (va_runS (As := [.int (nI n)]) (rest := [.ref aO]) ⟨hx, hb, hml, hown, hts⟩ (kg_X5_deltaOf l dC dI cI cB cJ cZ n (by omega)) (va_cwS 1 hts gg_X5_begin_1 rfl rfl rfl (by decide +kernel) ⟨(Nat.le_of_ble_eq_true rfl), (Nat.le_of_ble_eq_true rfl)⟩) ⟨fun a U g mk q => by obtain ⟨q0, qP, qK⟩ := q; exact ⟨q0, qP, va_K.moved (u := U) (U := U.calling g mk a) (Vm.Alike.refl U.vm) qK⟩, fun U hU hW => ⟨rfl, by rw [hU]; exact hPc, va_K.moved hW.alike hK⟩⟩ rfl rfl hl.1 rfl (lv_room (Nat.le_of_ble_eq_true rfl)) dgX5_begin_25 ⟨(Nat.le_of_ble_eq_true rfl), (Nat.le_of_ble_eq_true rfl)⟩) hS (fun q _ h => h.elim) (fun q h => h.elim) (fun ra2 un t H1 locs ht hvm hw9 hB hz1 hk1 hS => ?_)
  have hP := hP.kept (fun k9 x9 h9 => hk1 x9.1 ((hP k9 x9 h9).lt) id)
  generalize H1 = H at hP hS ⊢
  obtain rfl : ra2 = f5_de n n := hw9
  refine va_put (D := (dC, dI)) (ci := 8) (v := .int (f5_de n n)) (ty := .int) (C := RX5) (T := TX5) (N := 6) hx hb hts (fun _ h => List.mem_cons_of_mem _ (List.mem_append_left _ (List.mem_append_right _ h))) tyX5 tyX5_ok nmX5 hown hK hP hD hS 0 rfl rfl 5 (by decide) (hts (.fieldLink RX5 45 "KnotHouse$Form" "delta" "I") (by decide +kernel)) (fun _ h9 => h9) rfl (by decide +kernel) rfl rfl (Nat.le_of_ble_eq_true rfl) dgX5_begin_28 (fun H locs hP hD hS => ?_)
  have hP : va_P (dC, dI) vwCl [(aO, .inr (8, [.int (nI n), .int 0, .int 0, .ref fc, .int (f5_id n), .int (f5_de n n)]))] H := hP
  have hD : va_D A [(aO, .inr (8, [.int (nI n), .int 0, .int 0, .ref fc, .int (f5_id n), .int (f5_de n n)]))] := hD
  have hP : va_P (dC, dI) vwCl [(aO, .inr (8, [.int (nI n), .int 0, .int (nI 0), .ref fc, .int (f5_id n), .int (f5_de n n)]))] H := hP
  have hD : va_D A [(aO, .inr (8, [.int (nI n), .int 0, .int (nI 0), .ref fc, .int (f5_id n), .int (f5_de n n)]))] := hD
  rw [hQQ]
  exact W.vret hx hb hr (fun t ht hW => ⟨⟨(), rfl, trivial, by rw [ht]; exact hP, hD⟩, hS.F ht⟩) hS.2.2 dgX5_begin_31
theorem dgX5_copy_0 : decode cX5_copy 0 = .ok (.aload_n 0, 1) := by decide +kernel
theorem dgX5_copy_1 : decode cX5_copy 1 = .ok (.aload_n 1, 1) := by decide +kernel
theorem dgX5_copy_2 : decode cX5_copy 2 = .ok (.getfield 25, 3) := by decide +kernel
theorem dgX5_copy_5 : decode cX5_copy 5 = .ok (.invokevirtual 48, 3) := by decide +kernel
theorem dgX5_copy_8 : decode cX5_copy 8 = .ok (.aload_n 0, 1) := by decide +kernel
theorem dgX5_copy_9 : decode cX5_copy 9 = .ok (.aload_n 1, 1) := by decide +kernel
theorem dgX5_copy_10 : decode cX5_copy 10 = .ok (.getfield 29, 3) := by decide +kernel
theorem dgX5_copy_13 : decode cX5_copy 13 = .ok (.putfield 29, 3) := by decide +kernel
theorem dgX5_copy_16 : decode cX5_copy 16 = .ok (.aload_n 0, 1) := by decide +kernel
theorem dgX5_copy_17 : decode cX5_copy 17 = .ok (.aload_n 1, 1) := by decide +kernel
theorem dgX5_copy_18 : decode cX5_copy 18 = .ok (.getfield 32, 3) := by decide +kernel
theorem dgX5_copy_21 : decode cX5_copy 21 = .ok (.putfield 32, 3) := by decide +kernel
theorem dgX5_copy_24 : decode cX5_copy 24 = .ok (.aload_n 1, 1) := by decide +kernel
theorem dgX5_copy_25 : decode cX5_copy 25 = .ok (.getfield 11, 3) := by decide +kernel
theorem dgX5_copy_28 : decode cX5_copy 28 = .ok (.iconst 0, 1) := by decide +kernel
theorem dgX5_copy_29 : decode cX5_copy 29 = .ok (.aload_n 0, 1) := by decide +kernel
theorem dgX5_copy_30 : decode cX5_copy 30 = .ok (.getfield 11, 3) := by decide +kernel
theorem dgX5_copy_33 : decode cX5_copy 33 = .ok (.iconst 0, 1) := by decide +kernel
theorem dgX5_copy_34 : decode cX5_copy 34 = .ok (.aload_n 0, 1) := by decide +kernel
theorem dgX5_copy_35 : decode cX5_copy 35 = .ok (.getfield 32, 3) := by decide +kernel
theorem dgX5_copy_38 : decode cX5_copy 38 = .ok (.invokestatic 52, 3) := by decide +kernel
theorem dgX5_copy_41 : decode cX5_copy 41 = .ok (.return_, 1) := by decide +kernel
def wg_X5_copy : List Cond := .code yX5_copy cX5_copy 2 none :: (([.fieldLink RX5 25 "KnotHouse$Form" "strands" "I", .fieldLink RX5 29 "KnotHouse$Form" "power" "I", .fieldLink RX5 32 "KnotHouse$Form" "length" "I", .fieldLink RX5 11 "KnotHouse$Form" "factors" "[I", .methodLink RX5 52 arraycopyName, .native arraycopyName, .static arraycopyName, .initialized "java/lang/System"] ++ wsX50) ++ (wsV RX5 48 RX5 yX5_begin wg_X5_begin ++ []))
theorem gg_X5_copy_0 : GoodIn wg_X5_copy (wsV RX5 48 RX5 yX5_begin wg_X5_begin) := goodIn_sub (fun _ h => List.mem_cons_of_mem _ (List.mem_append_right _ (List.mem_append_left _ h))) (by decide +kernel)
set_option maxHeartbeats 4000000 in
set_option maxRecDepth 100000 in
theorem kg_X5_copy (l : Launch) (dC : Nat → ClassId) (dI : Nat → Nat → Nat) (cI cB cJ cZ : ClassId) (aO fc aB fb n : Nat) (hn9 : n < 100) (x0 x1 x2 x4 x5 id2 de2 : Int32) (F : Nat → Int32) (k9 : ow_FO) (hk9 : k9.2.1 ≤ 24) (sz : Nat) : Met l yX5_copy wg_X5_copy (({ frames := 2, cells := 0, slots := 0, locals := 90 } : Room)) (va_Pc [.ref aO, .ref aB] (fun U => U.heap.size = sz ∧ va_P (dC, dI) vwCl [(aO, .inr (8, [.int x0, .int x1, .int x2, .ref fc, .int x4, .int x5])), (fc, .inl (cI, 24, .inl F)), (aB, .inr (8, [.int (nI n), .int k9.1, .int (nI k9.2.1), .ref fb, .int id2, .int de2])), (fb, .inl (cI, 24, .inl k9.2.2))] U.heap ∧ va_K (dC, dI) vwCl [(cI, .int), (cB, .byte), (cJ, .long), (cZ, .boolean)] U ∧ va_D (fun _ => True) [(aO, .inr (8, [.int x0, .int x1, .int x2, .ref fc, .int x4, .int x5])), (fc, .inl (cI, 24, .inl F)), (aB, .inr (8, [.int (nI n), .int k9.1, .int (nI k9.2.1), .ref fb, .int id2, .int de2])), (fb, .inl (cI, 24, .inl k9.2.2))])) (va_Qv (fun (g : Unit) => True) (fun g t => va_P (dC, dI) vwCl [(aO, .inr (8, [.int (nI n), .int k9.1, .int (nI k9.2.1), .ref fc, .int (f5_id n), .int (f5_de n n)])), (fc, .inl (cI, 24, .inl (va_cpy k9.2.2 F 0 0 k9.2.1))), (aB, .inr (8, [.int (nI n), .int k9.1, .int (nI k9.2.1), .ref fb, .int id2, .int de2])), (fb, .inl (cI, 24, .inl k9.2.2))] t.heap ∧ va_D (va_A [(aO, .inr (8, [.int x0, .int x1, .int x2, .ref fc, .int x4, .int x5])), (fc, .inl (cI, 24, .inl F)), (aB, .inr (8, [.int (nI n), .int k9.1, .int (nI k9.2.1), .ref fb, .int id2, .int de2])), (fb, .inl (cI, 24, .inl k9.2.2))] sz) [(aO, .inr (8, [.int (nI n), .int k9.1, .int (nI k9.2.1), .ref fc, .int (f5_id n), .int (f5_de n n)])), (fc, .inl (cI, 24, .inl (va_cpy k9.2.2 F 0 0 k9.2.1))), (aB, .inr (8, [.int (nI n), .int k9.1, .int (nI k9.2.1), .ref fb, .int id2, .int de2])), (fb, .inl (cI, 24, .inl k9.2.2))]) (va_A [(aO, .inr (8, [.int x0, .int x1, .int x2, .ref fc, .int x4, .int x5])), (fc, .inl (cI, 24, .inl F)), (aB, .inr (8, [.int (nI n), .int k9.1, .int (nI k9.2.1), .ref fb, .int id2, .int de2])), (fb, .inl (cI, 24, .inl k9.2.2))] sz)) 0 0 (va_A [(aO, .inr (8, [.int x0, .int x1, .int x2, .ref fc, .int x4, .int x5])), (fc, .inl (cI, 24, .inl F)), (aB, .inr (8, [.int (nI n), .int k9.1, .int (nI k9.2.1), .ref fb, .int id2, .int de2])), (fb, .inl (cI, 24, .inl k9.2.2))] sz) := by
  refine Met.ofW (cc := cX5_copy) (maxL := 2) (ret := none) (by decide) rfl ?_
  intro p e s m args below meth c s₁ B hml hv
  obtain ⟨rfl, hsz, hP, hK, hD0⟩ := hv
  have hx := B.exec
  have hb := B.bytes
  have hr := B.returns
  have hts := atoms_spec (ws := wg_X5_copy) B.pre
  have hown : s.vm.findClass RX5 = some m.cls := findClass_of_methodNamed B.named
  have hlocks := B.notSynchronized
  subst hsz
  have hD := hD0.self (sz := s.heap.size)
  generalize hAe : va_A [(aO, .inr (8, [.int x0, .int x1, .int x2, .ref fc, .int x4, .int x5])), (fc, .inl (cI, 24, .inl F)), (aB, .inr (8, [.int (nI n), .int k9.1, .int (nI k9.2.1), .ref fb, .int id2, .int de2])), (fb, .inl (cI, 24, .inl k9.2.2))] s.heap.size = A at hD ⊢
  have hA : ∀ q : Nat, s.heap.size ≤ q → A q := fun q h => by rw [← hAe]; exact Or.inr h
  have hS : va_S A s.heap s.heap [] := va_S.rf
  have hP : va_P (dC, dI) vwCl [(aO, .inr (8, [.int x0, .int x1, .int x2, .ref fc, .int x4, .int x5])), (fc, .inl (cI, 24, .inl F)), (aB, .inr (8, [.int (nI n), .int k9.1, .int (nI k9.2.1), .ref fb, .int id2, .int de2])), (fb, .inl (cI, 24, .inl k9.2.2))] s.heap := hP
  have hl := lv_entry ([.ref aO, .ref aB]) (n := 2) (Nat.le_of_ble_eq_true rfl)
  rw [lg_entry_eq]
  generalize (lg_sl ([.ref aO, .ref aB]) ++ List.replicate (2 - (lg_sl ([.ref aO, .ref aB])).length) Slot.unset).toArray = ls at hl ⊢
  have hl : lv_has ls 2 [(0, .ref aO), (1, .ref aB)] := hl
  refine ow_named (fun QQ hQQ => ?_)
  suffices key9 : ∀ (H : Heap) (locs : List Loc), va_P (dC, dI) vwCl [(aO, .inr (8, [.int x0, .int x1, .int x2, .ref fc, .int x4, .int x5])), (fc, .inl (cI, 24, .inl F)), (aB, .inr (8, [.int (nI n), .int k9.1, .int (nI k9.2.1), .ref fb, .int id2, .int de2])), (fb, .inl (cI, 24, .inl k9.2.2))] H → va_S A s.heap H locs → W p l e ({ frames := 2, cells := 0, slots := 0, locals := 90 } : Room) s m ([.ref aO, .ref aB] : List Value).toArray below meth c H locs 0 0 QQ (F0 m 0 ls []) from key9 s.heap [] hP hS
  intro H locs hP hS
  refine lv_aload_n hx hb dgX5_copy_0 rfl (lv_at hl 0 rfl) ?_
  refine lv_aload_n hx hb dgX5_copy_1 rfl (lv_at hl 1 rfl) ?_
  refine va_get (D := (dC, dI)) (ci := 8) (v := .int (nI n)) (C := RX5) (T := TX5) (N := 6) hx hb hts (fun _ h => List.mem_cons_of_mem _ (List.mem_append_left _ (List.mem_append_right _ h))) hown hK hP 2 rfl rfl 0 (by decide) (hts (.fieldLink RX5 25 "KnotHouse$Form" "strands" "I") (by decide +kernel)) (fun _ h9 => h9) rfl dgX5_copy_2 ?_
  have hPc := hP.sub (ws' := [(aO, .inr (8, [.int x0, .int x1, .int x2, .ref fc, .int x4, .int x5]))]) [0] rfl
  have hDc := hD.sub (ws' := [(aO, .inr (8, [.int x0, .int x1, .int x2, .ref fc, .int x4, .int x5]))]) [0] (by decide) rfl
  have hFc := va_free (wc := [(aO, .inr (8, [.int x0, .int x1, .int x2, .ref fc, .int x4, .int x5]))]) hD hS hA [0] rfl
  refine va_callv (va_runV (As := [.int (nI n)]) (rest := []) ⟨hx, hb, hml, hown, hts⟩ (kg_X5_begin l dC dI cI cB cJ cZ aO fc n hn9 x0 x1 x2 x4 x5 H.size) (cwV 1 hts gg_X5_copy_0 rfl rfl rfl (by decide +kernel) ⟨(Nat.le_of_ble_eq_true rfl), (Nat.le_of_ble_eq_true rfl)⟩) ⟨fun a U g mk q => by obtain ⟨q0, q1, qP, qK, qD⟩ := q; exact ⟨q0, q1, qP, va_K.moved (u := U) (U := U.calling g mk a) (Vm.Alike.refl U.vm) qK, qD⟩, va_recv hK hPc (ci := 8) (q0 := 0) rfl rfl, fun U hU hW => ⟨rfl, by rw [hU], by rw [hU]; exact hPc, va_K.moved hW.alike hK, hDc.weaken (fun _ _ _ _ => trivial)⟩⟩ rfl rfl hl.1 rfl (lv_room (Nat.le_of_ble_eq_true rfl)) dgX5_copy_5 ⟨(Nat.le_of_ble_eq_true rfl), (Nat.le_of_ble_eq_true rfl)⟩) hS (fun q _ h => hFc q h) hFc (fun u9 t H1 locs ht hvm hw hB hz1 hk1 hS => ?_)
  obtain ⟨hP1, hD1⟩ := hB
  rw [ht] at hP1
  obtain ⟨hP, hD⟩ := va_join (wr := [(fc, .inl (cI, 24, .inl F)), (aB, .inr (8, [.int (nI n), .int k9.1, .int (nI k9.2.1), .ref fb, .int id2, .int de2])), (fb, .inl (cI, 24, .inl k9.2.2))]) (w1 := [(aO, .inr (8, [.int (nI n), .int 0, .int (nI 0), .ref fc, .int (f5_id n), .int (f5_de n n)]))]) hP hD [0] [1, 2, 3] rfl rfl (by decide) (by decide) hk1 hFc hP1 hD1
  generalize H1 = H at hP hS ⊢
  have hP : va_P (dC, dI) vwCl [(fc, .inl (cI, 24, .inl F)), (aB, .inr (8, [.int (nI n), .int k9.1, .int (nI k9.2.1), .ref fb, .int id2, .int de2])), (fb, .inl (cI, 24, .inl k9.2.2)), (aO, .inr (8, [.int (nI n), .int 0, .int (nI 0), .ref fc, .int (f5_id n), .int (f5_de n n)]))] H := hP
  have hD : va_D A [(fc, .inl (cI, 24, .inl F)), (aB, .inr (8, [.int (nI n), .int k9.1, .int (nI k9.2.1), .ref fb, .int id2, .int de2])), (fb, .inl (cI, 24, .inl k9.2.2)), (aO, .inr (8, [.int (nI n), .int 0, .int (nI 0), .ref fc, .int (f5_id n), .int (f5_de n n)]))] := hD
  have hP := hP.sub (ws' := [(aO, .inr (8, [.int (nI n), .int 0, .int (nI 0), .ref fc, .int (f5_id n), .int (f5_de n n)])), (fc, .inl (cI, 24, .inl F)), (aB, .inr (8, [.int (nI n), .int k9.1, .int (nI k9.2.1), .ref fb, .int id2, .int de2])), (fb, .inl (cI, 24, .inl k9.2.2))]) [3, 0, 1, 2] rfl
  have hD := hD.sub (ws' := [(aO, .inr (8, [.int (nI n), .int 0, .int (nI 0), .ref fc, .int (f5_id n), .int (f5_de n n)])), (fc, .inl (cI, 24, .inl F)), (aB, .inr (8, [.int (nI n), .int k9.1, .int (nI k9.2.1), .ref fb, .int id2, .int de2])), (fb, .inl (cI, 24, .inl k9.2.2))]) [3, 0, 1, 2] (by decide) rfl
  refine lv_aload_n hx hb dgX5_copy_8 rfl (lv_at hl 0 rfl) ?_
  refine lv_aload_n hx hb dgX5_copy_9 rfl (lv_at hl 1 rfl) ?_
  refine va_get (D := (dC, dI)) (ci := 8) (v := .int k9.1) (C := RX5) (T := TX5) (N := 6) hx hb hts (fun _ h => List.mem_cons_of_mem _ (List.mem_append_left _ (List.mem_append_right _ h))) hown hK hP 2 rfl rfl 1 (by decide) (hts (.fieldLink RX5 29 "KnotHouse$Form" "power" "I") (by decide +kernel)) (fun _ h9 => h9) rfl dgX5_copy_10 ?_
  refine va_put (D := (dC, dI)) (ci := 8) (v := .int k9.1) (ty := .int) (C := RX5) (T := TX5) (N := 6) hx hb hts (fun _ h => List.mem_cons_of_mem _ (List.mem_append_left _ (List.mem_append_right _ h))) tyX5 tyX5_ok nmX5 hown hK hP hD hS 0 rfl rfl 1 (by decide) (hts (.fieldLink RX5 29 "KnotHouse$Form" "power" "I") (by decide +kernel)) (fun _ h9 => h9) rfl (by decide +kernel) rfl rfl (Nat.le_of_ble_eq_true rfl) dgX5_copy_13 (fun H locs hP hD hS => ?_)
  have hP : va_P (dC, dI) vwCl [(aO, .inr (8, [.int (nI n), .int k9.1, .int (nI 0), .ref fc, .int (f5_id n), .int (f5_de n n)])), (fc, .inl (cI, 24, .inl F)), (aB, .inr (8, [.int (nI n), .int k9.1, .int (nI k9.2.1), .ref fb, .int id2, .int de2])), (fb, .inl (cI, 24, .inl k9.2.2))] H := hP
  have hD : va_D A [(aO, .inr (8, [.int (nI n), .int k9.1, .int (nI 0), .ref fc, .int (f5_id n), .int (f5_de n n)])), (fc, .inl (cI, 24, .inl F)), (aB, .inr (8, [.int (nI n), .int k9.1, .int (nI k9.2.1), .ref fb, .int id2, .int de2])), (fb, .inl (cI, 24, .inl k9.2.2))] := hD
  refine lv_aload_n hx hb dgX5_copy_16 rfl (lv_at hl 0 rfl) ?_
  refine lv_aload_n hx hb dgX5_copy_17 rfl (lv_at hl 1 rfl) ?_
  refine va_get (D := (dC, dI)) (ci := 8) (v := .int (nI k9.2.1)) (C := RX5) (T := TX5) (N := 6) hx hb hts (fun _ h => List.mem_cons_of_mem _ (List.mem_append_left _ (List.mem_append_right _ h))) hown hK hP 2 rfl rfl 2 (by decide) (hts (.fieldLink RX5 32 "KnotHouse$Form" "length" "I") (by decide +kernel)) (fun _ h9 => h9) rfl dgX5_copy_18 ?_
  refine va_put (D := (dC, dI)) (ci := 8) (v := .int (nI k9.2.1)) (ty := .int) (C := RX5) (T := TX5) (N := 6) hx hb hts (fun _ h => List.mem_cons_of_mem _ (List.mem_append_left _ (List.mem_append_right _ h))) tyX5 tyX5_ok nmX5 hown hK hP hD hS 0 rfl rfl 2 (by decide) (hts (.fieldLink RX5 32 "KnotHouse$Form" "length" "I") (by decide +kernel)) (fun _ h9 => h9) rfl (by decide +kernel) rfl rfl (Nat.le_of_ble_eq_true rfl) dgX5_copy_21 (fun H locs hP hD hS => ?_)
  have hP : va_P (dC, dI) vwCl [(aO, .inr (8, [.int (nI n), .int k9.1, .int (nI k9.2.1), .ref fc, .int (f5_id n), .int (f5_de n n)])), (fc, .inl (cI, 24, .inl F)), (aB, .inr (8, [.int (nI n), .int k9.1, .int (nI k9.2.1), .ref fb, .int id2, .int de2])), (fb, .inl (cI, 24, .inl k9.2.2))] H := hP
  have hD : va_D A [(aO, .inr (8, [.int (nI n), .int k9.1, .int (nI k9.2.1), .ref fc, .int (f5_id n), .int (f5_de n n)])), (fc, .inl (cI, 24, .inl F)), (aB, .inr (8, [.int (nI n), .int k9.1, .int (nI k9.2.1), .ref fb, .int id2, .int de2])), (fb, .inl (cI, 24, .inl k9.2.2))] := hD
  refine lv_aload_n hx hb dgX5_copy_24 rfl (lv_at hl 1 rfl) ?_
  refine va_get (D := (dC, dI)) (ci := 8) (v := .ref fb) (C := RX5) (T := TX5) (N := 6) hx hb hts (fun _ h => List.mem_cons_of_mem _ (List.mem_append_left _ (List.mem_append_right _ h))) hown hK hP 2 rfl rfl 3 (by decide) (hts (.fieldLink RX5 11 "KnotHouse$Form" "factors" "[I") (by decide +kernel)) (fun _ h9 => h9) rfl dgX5_copy_25 ?_
  refine lv_iconst (v := 0) hx hb dgX5_copy_28 (by decide) ?_
  refine ow_topi (y := nI 0) (by decide) ?_
  refine lv_aload_n hx hb dgX5_copy_29 rfl (lv_at hl 0 rfl) ?_
  refine va_get (D := (dC, dI)) (ci := 8) (v := .ref fc) (C := RX5) (T := TX5) (N := 6) hx hb hts (fun _ h => List.mem_cons_of_mem _ (List.mem_append_left _ (List.mem_append_right _ h))) hown hK hP 0 rfl rfl 3 (by decide) (hts (.fieldLink RX5 11 "KnotHouse$Form" "factors" "[I") (by decide +kernel)) (fun _ h9 => h9) rfl dgX5_copy_30 ?_
  refine lv_iconst (v := 0) hx hb dgX5_copy_33 (by decide) ?_
  refine ow_topi (y := nI 0) (by decide) ?_
  refine lv_aload_n hx hb dgX5_copy_34 rfl (lv_at hl 0 rfl) ?_
  refine va_get (D := (dC, dI)) (ci := 8) (v := .int (nI k9.2.1)) (C := RX5) (T := TX5) (N := 6) hx hb hts (fun _ h => List.mem_cons_of_mem _ (List.mem_append_left _ (List.mem_append_right _ h))) hown hK hP 0 rfl rfl 2 (by decide) (hts (.fieldLink RX5 32 "KnotHouse$Form" "length" "I") (by decide +kernel)) (fun _ h9 => h9) rfl dgX5_copy_35 ?_
  refine ow_cpyi (sp := 0) (dp := 0) (n := k9.2.1) hx hb (by rw [hml]; exact hl.1.symm) hown (hts (.methodLink RX5 52 arraycopyName) (by decide +kernel)) (hts (.native arraycopyName) (by decide +kernel)) (hts (.static arraycopyName) (by decide +kernel)) (hts (.initialized "java/lang/System") (by decide +kernel)) hK hP hD hS 3 1 0 0 rfl rfl rfl rfl (by omega) (by omega) (by decide) (by decide) (Nat.le_of_ble_eq_true rfl) (by decide) dgX5_copy_38 (fun H locs hP hD hS => ?_)
  have hP : va_P (dC, dI) vwCl [(aO, .inr (8, [.int (nI n), .int k9.1, .int (nI k9.2.1), .ref fc, .int (f5_id n), .int (f5_de n n)])), (fc, .inl (cI, 24, .inl (va_cpy k9.2.2 F 0 0 k9.2.1))), (aB, .inr (8, [.int (nI n), .int k9.1, .int (nI k9.2.1), .ref fb, .int id2, .int de2])), (fb, .inl (cI, 24, .inl k9.2.2))] H := hP
  have hD : va_D A [(aO, .inr (8, [.int (nI n), .int k9.1, .int (nI k9.2.1), .ref fc, .int (f5_id n), .int (f5_de n n)])), (fc, .inl (cI, 24, .inl (va_cpy k9.2.2 F 0 0 k9.2.1))), (aB, .inr (8, [.int (nI n), .int k9.1, .int (nI k9.2.1), .ref fb, .int id2, .int de2])), (fb, .inl (cI, 24, .inl k9.2.2))] := hD
  rw [hQQ]
  exact W.vret hx hb hr (fun t ht hW => ⟨⟨(), rfl, trivial, by rw [ht]; exact hP, hD⟩, hS.F ht⟩) hS.2.2 dgX5_copy_41
theorem dgX5_sameAs_0 : decode cX5_sameAs 0 = .ok (.aload_n 0, 1) := by decide +kernel
theorem dgX5_sameAs_1 : decode cX5_sameAs 1 = .ok (.getfield 25, 3) := by decide +kernel
theorem dgX5_sameAs_4 : decode cX5_sameAs 4 = .ok (.aload_n 1, 1) := by decide +kernel
theorem dgX5_sameAs_5 : decode cX5_sameAs 5 = .ok (.getfield 25, 3) := by decide +kernel
theorem dgX5_sameAs_8 : decode cX5_sameAs 8 = .ok (.if_icmp .ne 25, 3) := by decide +kernel
theorem dgX5_sameAs_11 : decode cX5_sameAs 11 = .ok (.aload_n 0, 1) := by decide +kernel
theorem dgX5_sameAs_12 : decode cX5_sameAs 12 = .ok (.getfield 29, 3) := by decide +kernel
theorem dgX5_sameAs_15 : decode cX5_sameAs 15 = .ok (.aload_n 1, 1) := by decide +kernel
theorem dgX5_sameAs_16 : decode cX5_sameAs 16 = .ok (.getfield 29, 3) := by decide +kernel
theorem dgX5_sameAs_19 : decode cX5_sameAs 19 = .ok (.if_icmp .ne 14, 3) := by decide +kernel
theorem dgX5_sameAs_22 : decode cX5_sameAs 22 = .ok (.aload_n 0, 1) := by decide +kernel
theorem dgX5_sameAs_23 : decode cX5_sameAs 23 = .ok (.getfield 32, 3) := by decide +kernel
theorem dgX5_sameAs_26 : decode cX5_sameAs 26 = .ok (.aload_n 1, 1) := by decide +kernel
theorem dgX5_sameAs_27 : decode cX5_sameAs 27 = .ok (.getfield 32, 3) := by decide +kernel
theorem dgX5_sameAs_30 : decode cX5_sameAs 30 = .ok (.if_icmp .eq 5, 3) := by decide +kernel
theorem dgX5_sameAs_33 : decode cX5_sameAs 33 = .ok (.iconst 0, 1) := by decide +kernel
theorem dgX5_sameAs_34 : decode cX5_sameAs 34 = .ok (.ireturn, 1) := by decide +kernel
theorem dgX5_sameAs_35 : decode cX5_sameAs 35 = .ok (.iconst 0, 1) := by decide +kernel
theorem dgX5_sameAs_36 : decode cX5_sameAs 36 = .ok (.istore_n 2, 1) := by decide +kernel
theorem dgX5_sameAs_37 : decode cX5_sameAs 37 = .ok (.iload_n 2, 1) := by decide +kernel
theorem dgX5_sameAs_38 : decode cX5_sameAs 38 = .ok (.aload_n 0, 1) := by decide +kernel
theorem dgX5_sameAs_39 : decode cX5_sameAs 39 = .ok (.getfield 32, 3) := by decide +kernel
theorem dgX5_sameAs_42 : decode cX5_sameAs 42 = .ok (.if_icmp .ge 26, 3) := by decide +kernel
theorem dgX5_sameAs_45 : decode cX5_sameAs 45 = .ok (.aload_n 0, 1) := by decide +kernel
theorem dgX5_sameAs_46 : decode cX5_sameAs 46 = .ok (.getfield 11, 3) := by decide +kernel
theorem dgX5_sameAs_49 : decode cX5_sameAs 49 = .ok (.iload_n 2, 1) := by decide +kernel
theorem dgX5_sameAs_50 : decode cX5_sameAs 50 = .ok (.iaload, 1) := by decide +kernel
theorem dgX5_sameAs_51 : decode cX5_sameAs 51 = .ok (.aload_n 1, 1) := by decide +kernel
theorem dgX5_sameAs_52 : decode cX5_sameAs 52 = .ok (.getfield 11, 3) := by decide +kernel
theorem dgX5_sameAs_55 : decode cX5_sameAs 55 = .ok (.iload_n 2, 1) := by decide +kernel
theorem dgX5_sameAs_56 : decode cX5_sameAs 56 = .ok (.iaload, 1) := by decide +kernel
theorem dgX5_sameAs_57 : decode cX5_sameAs 57 = .ok (.if_icmp .eq 5, 3) := by decide +kernel
theorem dgX5_sameAs_60 : decode cX5_sameAs 60 = .ok (.iconst 0, 1) := by decide +kernel
theorem dgX5_sameAs_61 : decode cX5_sameAs 61 = .ok (.ireturn, 1) := by decide +kernel
theorem dgX5_sameAs_62 : decode cX5_sameAs 62 = .ok (.iinc 2 1, 3) := by decide +kernel
theorem dgX5_sameAs_65 : decode cX5_sameAs 65 = .ok (.goto (-28), 3) := by decide +kernel
theorem dgX5_sameAs_68 : decode cX5_sameAs 68 = .ok (.iconst 1, 1) := by decide +kernel
theorem dgX5_sameAs_69 : decode cX5_sameAs 69 = .ok (.ireturn, 1) := by decide +kernel
def wg_X5_sameAs : List Cond := .code yX5_sameAs cX5_sameAs 3 (some .boolean) :: (([.fieldLink RX5 25 "KnotHouse$Form" "strands" "I", .fieldLink RX5 29 "KnotHouse$Form" "power" "I", .fieldLink RX5 32 "KnotHouse$Form" "length" "I", .fieldLink RX5 11 "KnotHouse$Form" "factors" "[I"] ++ wsX50) ++ [])
set_option maxHeartbeats 4000000 in
set_option maxRecDepth 100000 in
theorem kg_X5_sameAs (l : Launch) (dC : Nat → ClassId) (dI : Nat → Nat → Nat) (cI cB cJ cZ : ClassId) (aO fc n aB fb n2 : Nat) (hn9 : n < 100) (hm9 : n2 < 100) (idn den id2 de2 : Int32) (q k9 : ow_FO) (hq : q.2.1 ≤ 24) (hk9 : k9.2.1 ≤ 24) : Met l yX5_sameAs wg_X5_sameAs (({ frames := 0, cells := 0, slots := 0, locals := 0 } : Room)) (va_Pc [.ref aO, .ref aB] (fun U => va_P (dC, dI) vwCl [(aO, .inr (8, [.int (nI n), .int q.1, .int (nI q.2.1), .ref fc, .int idn, .int den])), (fc, .inl (cI, 24, .inl q.2.2)), (aB, .inr (8, [.int (nI n2), .int k9.1, .int (nI k9.2.1), .ref fb, .int id2, .int de2])), (fb, .inl (cI, 24, .inl k9.2.2))] U.heap ∧ va_K (dC, dI) vwCl [(cI, .int), (cB, .byte), (cJ, .long), (cZ, .boolean)] U)) (va_Qi (fun r (_ : Unit) => (r = 1 ∧ n = n2 ∧ q.1 = k9.1 ∧ q.2.1 = k9.2.1 ∧ ∀ j, j < q.2.1 → q.2.2 j = k9.2.2 j) ∨ (r = 0 ∧ ¬ (n = n2 ∧ q.1 = k9.1 ∧ q.2.1 = k9.2.1 ∧ ∀ j, j < q.2.1 → q.2.2 j = k9.2.2 j))) (fun _ _ => True) (fun _ => False)) 0 0 (fun _ => False) := by
  refine Met.ofW (cc := cX5_sameAs) (maxL := 3) (ret := (some .boolean)) (by decide) rfl ?_
  intro p e s m args below meth c s₁ B hml hv
  obtain ⟨rfl, hP, hK⟩ := hv
  have hx := B.exec
  have hb := B.bytes
  have hr := B.returns
  have hts := atoms_spec (ws := wg_X5_sameAs) B.pre
  have hown : s.vm.findClass RX5 = some m.cls := findClass_of_methodNamed B.named
  have hlocks := B.notSynchronized
  have hS : va_S (fun _ => False) s.heap s.heap [] := va_S.rf
  have hP : va_P (dC, dI) vwCl [(aO, .inr (8, [.int (nI n), .int q.1, .int (nI q.2.1), .ref fc, .int idn, .int den])), (fc, .inl (cI, 24, .inl q.2.2)), (aB, .inr (8, [.int (nI n2), .int k9.1, .int (nI k9.2.1), .ref fb, .int id2, .int de2])), (fb, .inl (cI, 24, .inl k9.2.2))] s.heap := hP
  have hl := lv_entry ([.ref aO, .ref aB]) (n := 3) (Nat.le_of_ble_eq_true rfl)
  rw [lg_entry_eq]
  generalize (lg_sl ([.ref aO, .ref aB]) ++ List.replicate (3 - (lg_sl ([.ref aO, .ref aB])).length) Slot.unset).toArray = ls at hl ⊢
  have hl : lv_has ls 3 [(0, .ref aO), (1, .ref aB)] := hl
  refine ow_named (fun QQ hQQ => ?_)
  have L37 : n = n2 → q.1 = k9.1 → q.2.1 = k9.2.1 → ∀ (d i : Nat), i + d = q.2.1 → (∀ j, j < i → q.2.2 j = k9.2.2 j) → ∀ (H : Heap) (locs : List Loc) (ls : Array Slot), va_P (dC, dI) vwCl [(aO, .inr (8, [.int (nI n), .int q.1, .int (nI q.2.1), .ref fc, .int idn, .int den])), (fc, .inl (cI, 24, .inl q.2.2)), (aB, .inr (8, [.int (nI n2), .int k9.1, .int (nI k9.2.1), .ref fb, .int id2, .int de2])), (fb, .inl (cI, 24, .inl k9.2.2))] H → va_S (fun _ => False) s.heap H locs → lv_has ls 3 [(0, .ref aO), (1, .ref aB), (2, .int (nI i))] → W p l e ({ frames := 0, cells := 0, slots := 0, locals := 0 } : Room) s m ([.ref aO, .ref aB] : List Value).toArray below meth c H locs 0 0 QQ (F0 m 37 ls []) := by
    intro e1 e2 e3 d
    induction d with
    | zero =>
      intro i hi hs H locs ls hP hS hl
      refine lv_iload_n hx hb dgX5_sameAs_37 rfl (lv_at hl 2 rfl) ?_
      refine lv_aload_n hx hb dgX5_sameAs_38 rfl (lv_at hl 0 rfl) ?_
      refine va_get (D := (dC, dI)) (ci := 8) (v := .int (nI q.2.1)) (C := RX5) (T := TX5) (N := 6) hx hb hts (fun _ h => List.mem_cons_of_mem _ (List.mem_append_left _ (List.mem_append_right _ h))) hown hK hP 0 rfl rfl 2 (by decide) (hts (.fieldLink RX5 32 "KnotHouse$Form" "length" "I") (by decide +kernel)) (fun _ h9 => h9) rfl dgX5_sameAs_39 ?_
      refine lv_icmp_ge (tgt := 68) hx hb dgX5_sameAs_42 (by decide) (fun _ => ?_) (fun c9 => absurd (nI_le (a := q.2.1) (b := i) (by omega) (by omega)) c9)
      refine lv_iconst (v := 1) hx hb dgX5_sameAs_68 (by decide) ?_
      rw [hQQ]
      exact W.zret (v := 1) (ty := .boolean) hx hb hr rfl (fun t ht hW => ⟨⟨1, (), rfl, Or.inl ⟨rfl, e1, e2, e3, fun j hj => hs j (by omega)⟩, trivial⟩, hS.F ht⟩) hS.2.2 dgX5_sameAs_69
    | succ d ih =>
      intro i hi hs H locs ls hP hS hl
      refine lv_iload_n hx hb dgX5_sameAs_37 rfl (lv_at hl 2 rfl) ?_
      refine lv_aload_n hx hb dgX5_sameAs_38 rfl (lv_at hl 0 rfl) ?_
      refine va_get (D := (dC, dI)) (ci := 8) (v := .int (nI q.2.1)) (C := RX5) (T := TX5) (N := 6) hx hb hts (fun _ h => List.mem_cons_of_mem _ (List.mem_append_left _ (List.mem_append_right _ h))) hown hK hP 0 rfl rfl 2 (by decide) (hts (.fieldLink RX5 32 "KnotHouse$Form" "length" "I") (by decide +kernel)) (fun _ h9 => h9) rfl dgX5_sameAs_39 ?_
      refine lv_icmp_ge (tgt := 68) hx hb dgX5_sameAs_42 (by decide) (fun c9 => absurd c9 (nI_ge (a := i) (b := q.2.1) (by omega) (by omega))) (fun _ => ?_)
      refine lv_aload_n hx hb dgX5_sameAs_45 rfl (lv_at hl 0 rfl) ?_
      refine va_get (D := (dC, dI)) (ci := 8) (v := .ref fc) (C := RX5) (T := TX5) (N := 6) hx hb hts (fun _ h => List.mem_cons_of_mem _ (List.mem_append_left _ (List.mem_append_right _ h))) hown hK hP 0 rfl rfl 3 (by decide) (hts (.fieldLink RX5 11 "KnotHouse$Form" "factors" "[I") (by decide +kernel)) (fun _ h9 => h9) rfl dgX5_sameAs_46 ?_
      refine lv_iload_n hx hb dgX5_sameAs_49 rfl (lv_at hl 2 rfl) ?_
      refine va_iald hx hb hK hP 1 0 rfl rfl (vp_in_nI (n := i) (N := 24) (by omega) (by decide)) dgX5_sameAs_50 ?_
      refine ow_topi (y := q.2.2 i) (congrArg q.2.2 (nI_clamp (n := i) (Nat.lt_trans (m := 24) (by omega) (by decide)))) ?_
      refine lv_aload_n hx hb dgX5_sameAs_51 rfl (lv_at hl 1 rfl) ?_
      refine va_get (D := (dC, dI)) (ci := 8) (v := .ref fb) (C := RX5) (T := TX5) (N := 6) hx hb hts (fun _ h => List.mem_cons_of_mem _ (List.mem_append_left _ (List.mem_append_right _ h))) hown hK hP 2 rfl rfl 3 (by decide) (hts (.fieldLink RX5 11 "KnotHouse$Form" "factors" "[I") (by decide +kernel)) (fun _ h9 => h9) rfl dgX5_sameAs_52 ?_
      refine lv_iload_n hx hb dgX5_sameAs_55 rfl (lv_at hl 2 rfl) ?_
      refine va_iald hx hb hK hP 3 0 rfl rfl (vp_in_nI (n := i) (N := 24) (by omega) (by decide)) dgX5_sameAs_56 ?_
      refine ow_topi (y := k9.2.2 i) (congrArg k9.2.2 (nI_clamp (n := i) (Nat.lt_trans (m := 24) (by omega) (by decide)))) ?_
      refine lv_icmp_eq (tgt := 62) hx hb dgX5_sameAs_57 (by decide) (fun c1 => ?_) (fun c1 => ?_)
      · refine lv_iinc (v := nI (i + 1)) (lv' := [(2, .int (nI (i + 1))), (0, .ref aO), (1, .ref aB)]) hx hb dgX5_sameAs_62 hl (k := 2) rfl (nI_1 i) (by decide) rfl (fun ls hl => ?_)
        refine lv_goto (tgt := 37) hx hb dgX5_sameAs_65 (by decide) ?_
        refine ih (i + 1) (by omega) (fun j hj => ?_) H locs ls hP hS (lv_sub hl [1, 2, 0] rfl)
        rcases Nat.lt_or_ge j i with h9 | h9
        · exact hs j h9
        · have e9 : j = i := by omega
          rw [e9]; exact c1
      · refine lv_iconst (v := 0) hx hb dgX5_sameAs_60 (by decide) ?_
        rw [hQQ]
        exact W.zret (v := 0) (ty := .boolean) hx hb hr rfl (fun t ht hW => ⟨⟨0, (), rfl, Or.inr ⟨rfl, fun h9 => c1 (h9.2.2.2 i (by omega))⟩, trivial⟩, hS.F ht⟩) hS.2.2 dgX5_sameAs_61
  refine lv_aload_n hx hb dgX5_sameAs_0 rfl (lv_at hl 0 rfl) ?_
  refine va_get (D := (dC, dI)) (ci := 8) (v := .int (nI n)) (C := RX5) (T := TX5) (N := 6) hx hb hts (fun _ h => List.mem_cons_of_mem _ (List.mem_append_left _ (List.mem_append_right _ h))) hown hK hP 0 rfl rfl 0 (by decide) (hts (.fieldLink RX5 25 "KnotHouse$Form" "strands" "I") (by decide +kernel)) (fun _ h9 => h9) rfl dgX5_sameAs_1 ?_
  refine lv_aload_n hx hb dgX5_sameAs_4 rfl (lv_at hl 1 rfl) ?_
  refine va_get (D := (dC, dI)) (ci := 8) (v := .int (nI n2)) (C := RX5) (T := TX5) (N := 6) hx hb hts (fun _ h => List.mem_cons_of_mem _ (List.mem_append_left _ (List.mem_append_right _ h))) hown hK hP 2 rfl rfl 0 (by decide) (hts (.fieldLink RX5 25 "KnotHouse$Form" "strands" "I") (by decide +kernel)) (fun _ h9 => h9) rfl dgX5_sameAs_5 ?_
  refine lv_icmp_ne (tgt := 33) hx hb dgX5_sameAs_8 (by decide) (fun c2 => ?_) (fun c2 => ?_)
  · refine lv_iconst (v := 0) hx hb dgX5_sameAs_33 (by decide) ?_
    rw [hQQ]
    exact W.zret (v := 0) (ty := .boolean) hx hb hr rfl (fun t ht hW => ⟨⟨0, (), rfl, Or.inr ⟨rfl, fun h9 => c2 (congrArg nI h9.1)⟩, trivial⟩, hS.F ht⟩) hS.2.2 dgX5_sameAs_34
  · refine lv_aload_n hx hb dgX5_sameAs_11 rfl (lv_at hl 0 rfl) ?_
    refine va_get (D := (dC, dI)) (ci := 8) (v := .int q.1) (C := RX5) (T := TX5) (N := 6) hx hb hts (fun _ h => List.mem_cons_of_mem _ (List.mem_append_left _ (List.mem_append_right _ h))) hown hK hP 0 rfl rfl 1 (by decide) (hts (.fieldLink RX5 29 "KnotHouse$Form" "power" "I") (by decide +kernel)) (fun _ h9 => h9) rfl dgX5_sameAs_12 ?_
    refine lv_aload_n hx hb dgX5_sameAs_15 rfl (lv_at hl 1 rfl) ?_
    refine va_get (D := (dC, dI)) (ci := 8) (v := .int k9.1) (C := RX5) (T := TX5) (N := 6) hx hb hts (fun _ h => List.mem_cons_of_mem _ (List.mem_append_left _ (List.mem_append_right _ h))) hown hK hP 2 rfl rfl 1 (by decide) (hts (.fieldLink RX5 29 "KnotHouse$Form" "power" "I") (by decide +kernel)) (fun _ h9 => h9) rfl dgX5_sameAs_16 ?_
    refine lv_icmp_ne (tgt := 33) hx hb dgX5_sameAs_19 (by decide) (fun c3 => ?_) (fun c3 => ?_)
    · refine lv_iconst (v := 0) hx hb dgX5_sameAs_33 (by decide) ?_
      rw [hQQ]
      exact W.zret (v := 0) (ty := .boolean) hx hb hr rfl (fun t ht hW => ⟨⟨0, (), rfl, Or.inr ⟨rfl, fun h9 => c3 h9.2.1⟩, trivial⟩, hS.F ht⟩) hS.2.2 dgX5_sameAs_34
    · refine lv_aload_n hx hb dgX5_sameAs_22 rfl (lv_at hl 0 rfl) ?_
      refine va_get (D := (dC, dI)) (ci := 8) (v := .int (nI q.2.1)) (C := RX5) (T := TX5) (N := 6) hx hb hts (fun _ h => List.mem_cons_of_mem _ (List.mem_append_left _ (List.mem_append_right _ h))) hown hK hP 0 rfl rfl 2 (by decide) (hts (.fieldLink RX5 32 "KnotHouse$Form" "length" "I") (by decide +kernel)) (fun _ h9 => h9) rfl dgX5_sameAs_23 ?_
      refine lv_aload_n hx hb dgX5_sameAs_26 rfl (lv_at hl 1 rfl) ?_
      refine va_get (D := (dC, dI)) (ci := 8) (v := .int (nI k9.2.1)) (C := RX5) (T := TX5) (N := 6) hx hb hts (fun _ h => List.mem_cons_of_mem _ (List.mem_append_left _ (List.mem_append_right _ h))) hown hK hP 2 rfl rfl 2 (by decide) (hts (.fieldLink RX5 32 "KnotHouse$Form" "length" "I") (by decide +kernel)) (fun _ h9 => h9) rfl dgX5_sameAs_27 ?_
      refine lv_icmp_eq (tgt := 35) hx hb dgX5_sameAs_30 (by decide) (fun c4 => ?_) (fun c4 => ?_)
      · refine lv_iconst (v := 0) hx hb dgX5_sameAs_35 (by decide) ?_
        refine ow_topi (y := nI 0) (by decide) ?_
        refine lv_istore_n (lv' := [(2, .int (nI 0)), (0, .ref aO), (1, .ref aB)]) hx hb dgX5_sameAs_36 rfl hl (by decide) rfl (fun ls hl => ?_)
        exact L37 (ow_nI_inj (by omega) (by omega) c2) c3 (ow_nI_inj (by omega) (by omega) c4) q.2.1 0 (by omega) (fun j hj => absurd hj (Nat.not_lt_zero j)) s.heap [] ls hP hS (lv_sub hl [1, 2, 0] rfl)
      · refine lv_iconst (v := 0) hx hb dgX5_sameAs_33 (by decide) ?_
        rw [hQQ]
        exact W.zret (v := 0) (ty := .boolean) hx hb hr rfl (fun t ht hW => ⟨⟨0, (), rfl, Or.inr ⟨rfl, fun h9 => c4 (congrArg nI h9.2.2.1)⟩, trivial⟩, hS.F ht⟩) hS.2.2 dgX5_sameAs_34
theorem dgX5_weigh_0 : decode cX5_weigh 0 = .ok (.aload_n 0, 1) := by decide +kernel
theorem dgX5_weigh_1 : decode cX5_weigh 1 = .ok (.getfield 11, 3) := by decide +kernel
theorem dgX5_weigh_4 : decode cX5_weigh 4 = .ok (.iload_n 1, 1) := by decide +kernel
theorem dgX5_weigh_5 : decode cX5_weigh 5 = .ok (.iaload, 1) := by decide +kernel
theorem dgX5_weigh_6 : decode cX5_weigh 6 = .ok (.aload_n 0, 1) := by decide +kernel
theorem dgX5_weigh_7 : decode cX5_weigh 7 = .ok (.getfield 25, 3) := by decide +kernel
theorem dgX5_weigh_10 : decode cX5_weigh 10 = .ok (.invokestatic 19, 3) := by decide +kernel
theorem dgX5_weigh_13 : decode cX5_weigh 13 = .ok (.istore_n 2, 1) := by decide +kernel
theorem dgX5_weigh_14 : decode cX5_weigh 14 = .ok (.aload_n 0, 1) := by decide +kernel
theorem dgX5_weigh_15 : decode cX5_weigh 15 = .ok (.getfield 11, 3) := by decide +kernel
theorem dgX5_weigh_18 : decode cX5_weigh 18 = .ok (.iload_n 1, 1) := by decide +kernel
theorem dgX5_weigh_19 : decode cX5_weigh 19 = .ok (.iconst 1, 1) := by decide +kernel
theorem dgX5_weigh_20 : decode cX5_weigh 20 = .ok (.iadd, 1) := by decide +kernel
theorem dgX5_weigh_21 : decode cX5_weigh 21 = .ok (.iaload, 1) := by decide +kernel
theorem dgX5_weigh_22 : decode cX5_weigh 22 = .ok (.istore_n 3, 1) := by decide +kernel
theorem dgX5_weigh_23 : decode cX5_weigh 23 = .ok (.aload_n 0, 1) := by decide +kernel
theorem dgX5_weigh_24 : decode cX5_weigh 24 = .ok (.iload_n 2, 1) := by decide +kernel
theorem dgX5_weigh_25 : decode cX5_weigh 25 = .ok (.iload_n 3, 1) := by decide +kernel
theorem dgX5_weigh_26 : decode cX5_weigh 26 = .ok (.invokevirtual 80, 3) := by decide +kernel
theorem dgX5_weigh_29 : decode cX5_weigh 29 = .ok (.istore 4, 2) := by decide +kernel
theorem dgX5_weigh_31 : decode cX5_weigh 31 = .ok (.iload 4, 2) := by decide +kernel
theorem dgX5_weigh_33 : decode cX5_weigh 33 = .ok (.iconst (-1), 1) := by decide +kernel
theorem dgX5_weigh_34 : decode cX5_weigh 34 = .ok (.if_icmp .ne 5, 3) := by decide +kernel
theorem dgX5_weigh_37 : decode cX5_weigh 37 = .ok (.iconst 0, 1) := by decide +kernel
theorem dgX5_weigh_38 : decode cX5_weigh 38 = .ok (.ireturn, 1) := by decide +kernel
theorem dgX5_weigh_39 : decode cX5_weigh 39 = .ok (.iconst 0, 1) := by decide +kernel
theorem dgX5_weigh_40 : decode cX5_weigh 40 = .ok (.istore 5, 2) := by decide +kernel
theorem dgX5_weigh_42 : decode cX5_weigh 42 = .ok (.iload 5, 2) := by decide +kernel
theorem dgX5_weigh_44 : decode cX5_weigh 44 = .ok (.bipush 10, 2) := by decide +kernel
theorem dgX5_weigh_46 : decode cX5_weigh 46 = .ok (.if_icmp .ge 37, 3) := by decide +kernel
theorem dgX5_weigh_49 : decode cX5_weigh 49 = .ok (.iload 4, 2) := by decide +kernel
theorem dgX5_weigh_51 : decode cX5_weigh 51 = .ok (.iconst (-1), 1) := by decide +kernel
theorem dgX5_weigh_52 : decode cX5_weigh 52 = .ok (.if_icmp .eq 31, 3) := by decide +kernel
theorem dgX5_weigh_55 : decode cX5_weigh 55 = .ok (.iload_n 2, 1) := by decide +kernel
theorem dgX5_weigh_56 : decode cX5_weigh 56 = .ok (.iload 4, 2) := by decide +kernel
theorem dgX5_weigh_58 : decode cX5_weigh 58 = .ok (.invokestatic 22, 3) := by decide +kernel
theorem dgX5_weigh_61 : decode cX5_weigh 61 = .ok (.istore_n 2, 1) := by decide +kernel
theorem dgX5_weigh_62 : decode cX5_weigh 62 = .ok (.iload_n 3, 1) := by decide +kernel
theorem dgX5_weigh_63 : decode cX5_weigh 63 = .ok (.iload 4, 2) := by decide +kernel
theorem dgX5_weigh_65 : decode cX5_weigh 65 = .ok (.invokestatic 22, 3) := by decide +kernel
theorem dgX5_weigh_68 : decode cX5_weigh 68 = .ok (.istore_n 3, 1) := by decide +kernel
theorem dgX5_weigh_69 : decode cX5_weigh 69 = .ok (.aload_n 0, 1) := by decide +kernel
theorem dgX5_weigh_70 : decode cX5_weigh 70 = .ok (.iload_n 2, 1) := by decide +kernel
theorem dgX5_weigh_71 : decode cX5_weigh 71 = .ok (.iload_n 3, 1) := by decide +kernel
theorem dgX5_weigh_72 : decode cX5_weigh 72 = .ok (.invokevirtual 80, 3) := by decide +kernel
theorem dgX5_weigh_75 : decode cX5_weigh 75 = .ok (.istore 4, 2) := by decide +kernel
theorem dgX5_weigh_77 : decode cX5_weigh 77 = .ok (.iinc 5 1, 3) := by decide +kernel
theorem dgX5_weigh_80 : decode cX5_weigh 80 = .ok (.goto (-38), 3) := by decide +kernel
theorem dgX5_weigh_83 : decode cX5_weigh 83 = .ok (.aload_n 0, 1) := by decide +kernel
theorem dgX5_weigh_84 : decode cX5_weigh 84 = .ok (.getfield 11, 3) := by decide +kernel
theorem dgX5_weigh_87 : decode cX5_weigh 87 = .ok (.iload_n 1, 1) := by decide +kernel
theorem dgX5_weigh_88 : decode cX5_weigh 88 = .ok (.iload_n 2, 1) := by decide +kernel
theorem dgX5_weigh_89 : decode cX5_weigh 89 = .ok (.aload_n 0, 1) := by decide +kernel
theorem dgX5_weigh_90 : decode cX5_weigh 90 = .ok (.getfield 25, 3) := by decide +kernel
theorem dgX5_weigh_93 : decode cX5_weigh 93 = .ok (.invokestatic 19, 3) := by decide +kernel
theorem dgX5_weigh_96 : decode cX5_weigh 96 = .ok (.iastore, 1) := by decide +kernel
theorem dgX5_weigh_97 : decode cX5_weigh 97 = .ok (.aload_n 0, 1) := by decide +kernel
theorem dgX5_weigh_98 : decode cX5_weigh 98 = .ok (.getfield 11, 3) := by decide +kernel
theorem dgX5_weigh_101 : decode cX5_weigh 101 = .ok (.iload_n 1, 1) := by decide +kernel
theorem dgX5_weigh_102 : decode cX5_weigh 102 = .ok (.iconst 1, 1) := by decide +kernel
theorem dgX5_weigh_103 : decode cX5_weigh 103 = .ok (.iadd, 1) := by decide +kernel
theorem dgX5_weigh_104 : decode cX5_weigh 104 = .ok (.iload_n 3, 1) := by decide +kernel
theorem dgX5_weigh_105 : decode cX5_weigh 105 = .ok (.iastore, 1) := by decide +kernel
theorem dgX5_weigh_106 : decode cX5_weigh 106 = .ok (.iconst 1, 1) := by decide +kernel
theorem dgX5_weigh_107 : decode cX5_weigh 107 = .ok (.ireturn, 1) := by decide +kernel
def wg_X5_weigh : List Cond := .code yX5_weigh cX5_weigh 6 (some .boolean) :: (([.fieldLink RX5 11 "KnotHouse$Form" "factors" "[I", .fieldLink RX5 25 "KnotHouse$Form" "strands" "I"] ++ wsX50) ++ (va_wsS RX5 19 yX5_invert wg_X5_invert ++ (va_wsS RX5 22 yX5_exchanged wg_X5_exchanged ++ (wsV RX5 80 RX5 yX5_movable wg_X5_movable ++ []))))
theorem gg_X5_weigh_0 : GoodIn wg_X5_weigh (va_wsS RX5 19 yX5_invert wg_X5_invert) := goodIn_sub (fun _ h => List.mem_cons_of_mem _ (List.mem_append_right _ (List.mem_append_left _ h))) (by decide +kernel)
theorem gg_X5_weigh_1 : GoodIn wg_X5_weigh (va_wsS RX5 22 yX5_exchanged wg_X5_exchanged) := goodIn_sub (fun _ h => List.mem_cons_of_mem _ (List.mem_append_right _ (List.mem_append_right _ (List.mem_append_left _ h)))) (by decide +kernel)
theorem gg_X5_weigh_2 : GoodIn wg_X5_weigh (wsV RX5 80 RX5 yX5_movable wg_X5_movable) := goodIn_sub (fun _ h => List.mem_cons_of_mem _ (List.mem_append_right _ (List.mem_append_right _ (List.mem_append_right _ (List.mem_append_left _ h))))) (by decide +kernel)
set_option maxHeartbeats 4000000 in
set_option maxRecDepth 100000 in
theorem kg_X5_weigh (l : Launch) (dC : Nat → ClassId) (dI : Nat → Nat → Nat) (cI cB cJ cZ : ClassId) (aO fc n : Nat) (hn1 : 1 ≤ n) (hn9 : n < 100) (idn den : Int32) (pw : Int32) (ln : Nat) (F : Nat → Int32) (i : Nat) (hi : i + 1 < 24) (sz : Nat) : Met l yX5_weigh wg_X5_weigh (({ frames := 2, cells := 0, slots := 0, locals := 80 } : Room)) (va_Pc [.ref aO, .int (nI i)] (fun U => U.heap.size = sz ∧ va_P (dC, dI) vwCl [(aO, .inr (8, [.int (nI n), .int pw, .int (nI ln), .ref fc, .int idn, .int den])), (fc, .inl (cI, 24, .inl F))] U.heap ∧ va_K (dC, dI) vwCl [(cI, .int), (cB, .byte), (cJ, .long), (cZ, .boolean)] U ∧ va_D (fun _ => True) [(aO, .inr (8, [.int (nI n), .int pw, .int (nI ln), .ref fc, .int idn, .int den])), (fc, .inl (cI, 24, .inl F))])) (va_Qi (fun r (g : Unit) => r = bI (f5_we n F i).2) (fun g t => va_P (dC, dI) vwCl [(aO, .inr (8, [.int (nI n), .int pw, .int (nI ln), .ref fc, .int idn, .int den])), (fc, .inl (cI, 24, .inl ((f5_we n F i).1)))] t.heap ∧ va_D (va_A [(aO, .inr (8, [.int (nI n), .int pw, .int (nI ln), .ref fc, .int idn, .int den])), (fc, .inl (cI, 24, .inl F))] sz) [(aO, .inr (8, [.int (nI n), .int pw, .int (nI ln), .ref fc, .int idn, .int den])), (fc, .inl (cI, 24, .inl ((f5_we n F i).1)))]) (va_A [(aO, .inr (8, [.int (nI n), .int pw, .int (nI ln), .ref fc, .int idn, .int den])), (fc, .inl (cI, 24, .inl F))] sz)) 0 0 (va_A [(aO, .inr (8, [.int (nI n), .int pw, .int (nI ln), .ref fc, .int idn, .int den])), (fc, .inl (cI, 24, .inl F))] sz) := by
  refine Met.ofW (cc := cX5_weigh) (maxL := 6) (ret := (some .boolean)) (by decide) rfl ?_
  intro p e s m args below meth c s₁ B hml hv
  obtain ⟨rfl, hsz, hP, hK, hD0⟩ := hv
  have hx := B.exec
  have hb := B.bytes
  have hr := B.returns
  have hts := atoms_spec (ws := wg_X5_weigh) B.pre
  have hown : s.vm.findClass RX5 = some m.cls := findClass_of_methodNamed B.named
  have hlocks := B.notSynchronized
  subst hsz
  have hD := hD0.self (sz := s.heap.size)
  generalize hAe : va_A [(aO, .inr (8, [.int (nI n), .int pw, .int (nI ln), .ref fc, .int idn, .int den])), (fc, .inl (cI, 24, .inl F))] s.heap.size = A at hD ⊢
  have hA : ∀ q : Nat, s.heap.size ≤ q → A q := fun q h => by rw [← hAe]; exact Or.inr h
  have hS : va_S A s.heap s.heap [] := va_S.rf
  have hP : va_P (dC, dI) vwCl [(aO, .inr (8, [.int (nI n), .int pw, .int (nI ln), .ref fc, .int idn, .int den])), (fc, .inl (cI, 24, .inl F))] s.heap := hP
  have hl := lv_entry ([.ref aO, .int (nI i)]) (n := 6) (Nat.le_of_ble_eq_true rfl)
  rw [lg_entry_eq]
  generalize (lg_sl ([.ref aO, .int (nI i)]) ++ List.replicate (6 - (lg_sl ([.ref aO, .int (nI i)])).length) Slot.unset).toArray = ls at hl ⊢
  have hl : lv_has ls 6 [(0, .ref aO), (1, .int (nI i))] := hl
  refine ow_named (fun QQ hQQ => ?_)
  suffices key9 : ∀ (H : Heap) (locs : List Loc), va_P (dC, dI) vwCl [(aO, .inr (8, [.int (nI n), .int pw, .int (nI ln), .ref fc, .int idn, .int den])), (fc, .inl (cI, 24, .inl F))] H → va_S A s.heap H locs → W p l e ({ frames := 2, cells := 0, slots := 0, locals := 80 } : Room) s m ([.ref aO, .int (nI i)] : List Value).toArray below meth c H locs 0 0 QQ (F0 m 0 ls []) from key9 s.heap [] hP hS
  intro H locs hP hS
  refine lv_aload_n hx hb dgX5_weigh_0 rfl (lv_at hl 0 rfl) ?_
  refine va_get (D := (dC, dI)) (ci := 8) (v := .ref fc) (C := RX5) (T := TX5) (N := 6) hx hb hts (fun _ h => List.mem_cons_of_mem _ (List.mem_append_left _ (List.mem_append_right _ h))) hown hK hP 0 rfl rfl 3 (by decide) (hts (.fieldLink RX5 11 "KnotHouse$Form" "factors" "[I") (by decide +kernel)) (fun _ h9 => h9) rfl dgX5_weigh_1 ?_
  refine lv_iload_n hx hb dgX5_weigh_4 rfl (lv_at hl 1 rfl) ?_
  refine va_iald hx hb hK hP 1 0 rfl rfl (vp_in_nI (n := i) (N := 24) (by omega) (by decide)) dgX5_weigh_5 ?_
  refine ow_topi (y := F i) (congrArg F (nI_clamp (n := i) (Nat.lt_trans (m := 24) (by omega) (by decide)))) ?_
  refine lv_aload_n hx hb dgX5_weigh_6 rfl (lv_at hl 0 rfl) ?_
  refine va_get (D := (dC, dI)) (ci := 8) (v := .int (nI n)) (C := RX5) (T := TX5) (N := 6) hx hb hts (fun _ h => List.mem_cons_of_mem _ (List.mem_append_left _ (List.mem_append_right _ h))) hown hK hP 0 rfl rfl 0 (by decide) (hts (.fieldLink RX5 25 "KnotHouse$Form" "strands" "I") (by decide +kernel)) (fun _ h9 => h9) rfl dgX5_weigh_7 ?_
  have hPc := hP.sub (ws' := []) [] rfl
  refine va_calli (va_runS (As := [.int (F i), .int (nI n)]) (rest := []) ⟨hx, hb, hml, hown, hts⟩ (kg_X5_invert l dC dI cI cB cJ cZ (F i) n (by omega)) (va_cwS 2 hts gg_X5_weigh_0 rfl rfl rfl (by decide +kernel) ⟨(Nat.le_of_ble_eq_true rfl), (Nat.le_of_ble_eq_true rfl)⟩) ⟨fun a U g mk q => by obtain ⟨q0, qP, qK⟩ := q; exact ⟨q0, qP, va_K.moved (u := U) (U := U.calling g mk a) (Vm.Alike.refl U.vm) qK⟩, fun U hU hW => ⟨rfl, by rw [hU]; exact hPc, va_K.moved hW.alike hK⟩⟩ rfl rfl hl.1 rfl (lv_room (Nat.le_of_ble_eq_true rfl)) dgX5_weigh_10 ⟨(Nat.le_of_ble_eq_true rfl), (Nat.le_of_ble_eq_true rfl)⟩) hS (fun q _ h => h.elim) (fun q h => h.elim) (fun ra1 un t H1 locs ht hvm hw9 hB hz1 hk1 hS => ?_)
  have hP := hP.kept (fun k9 x9 h9 => hk1 x9.1 ((hP k9 x9 h9).lt) id)
  generalize H1 = H at hP hS ⊢
  obtain rfl : ra1 = f5_inv (F i) n := hw9
  refine lv_istore_n (lv' := [(2, .int (f5_inv (F i) n)), (0, .ref aO), (1, .int (nI i))]) hx hb dgX5_weigh_13 rfl hl (by decide) rfl (fun ls hl => ?_)
  refine lv_aload_n hx hb dgX5_weigh_14 rfl (lv_at hl 1 rfl) ?_
  refine va_get (D := (dC, dI)) (ci := 8) (v := .ref fc) (C := RX5) (T := TX5) (N := 6) hx hb hts (fun _ h => List.mem_cons_of_mem _ (List.mem_append_left _ (List.mem_append_right _ h))) hown hK hP 0 rfl rfl 3 (by decide) (hts (.fieldLink RX5 11 "KnotHouse$Form" "factors" "[I") (by decide +kernel)) (fun _ h9 => h9) rfl dgX5_weigh_15 ?_
  refine lv_iload_n hx hb dgX5_weigh_18 rfl (lv_at hl 2 rfl) ?_
  refine lv_iconst (v := 1) hx hb dgX5_weigh_19 (by decide) ?_
  refine lv_iadd hx hb dgX5_weigh_20 ?_
  refine ow_topi (y := nI (i + 1)) (nI_1 (i)) ?_
  refine va_iald hx hb hK hP 1 0 rfl rfl (vp_in_nI (n := i + 1) (N := 24) hi (by decide)) dgX5_weigh_21 ?_
  refine ow_topi (y := F (i + 1)) (congrArg F (nI_clamp (n := i + 1) (Nat.lt_trans (m := 24) hi (by decide)))) ?_
  refine lv_istore_n (lv' := [(3, .int (F (i + 1))), (2, .int (f5_inv (F i) n)), (0, .ref aO), (1, .int (nI i))]) hx hb dgX5_weigh_22 rfl hl (by decide) rfl (fun ls hl => ?_)
  refine lv_aload_n hx hb dgX5_weigh_23 rfl (lv_at hl 2 rfl) ?_
  refine lv_iload_n hx hb dgX5_weigh_24 rfl (lv_at hl 1 rfl) ?_
  refine lv_iload_n hx hb dgX5_weigh_25 rfl (lv_at hl 0 rfl) ?_
  have hPc := hP.sub (ws' := [(aO, .inr (8, [.int (nI n), .int pw, .int (nI ln), .ref fc, .int idn, .int den]))]) [0] rfl
  refine va_calli (va_runV (As := [.int (f5_inv (F i) n), .int (F (i + 1))]) (rest := []) ⟨hx, hb, hml, hown, hts⟩ (kg_X5_movable l dC dI cI cB cJ cZ aO fc n hn1 hn9 idn den pw ln (f5_inv (F i) n) (F (i + 1))) (cwV 2 hts gg_X5_weigh_2 rfl rfl rfl (by decide +kernel) ⟨(Nat.le_of_ble_eq_true rfl), (Nat.le_of_ble_eq_true rfl)⟩) ⟨fun a U g mk q => by obtain ⟨q0, qP, qK⟩ := q; exact ⟨q0, qP, va_K.moved (u := U) (U := U.calling g mk a) (Vm.Alike.refl U.vm) qK⟩, va_recv hK hPc (ci := 8) (q0 := 0) rfl rfl, fun U hU hW => ⟨rfl, by rw [hU]; exact hPc, va_K.moved hW.alike hK⟩⟩ rfl rfl hl.1 rfl (lv_room (Nat.le_of_ble_eq_true rfl)) dgX5_weigh_26 ⟨(Nat.le_of_ble_eq_true rfl), (Nat.le_of_ble_eq_true rfl)⟩) hS (fun q _ h => h.elim) (fun q h => h.elim) (fun rm1 un t H1 locs ht hvm hw9 hB hz1 hk1 hS => ?_)
  have hP := hP.kept (fun k9 x9 h9 => hk1 x9.1 ((hP k9 x9 h9).lt) id)
  generalize H1 = H at hP hS ⊢
  have hrm1 : rm1 = onI (f5_mv (f5_inv (F i) n) (F (i + 1)) (n - 1) 0) := hw9
  refine lv_istore (lv' := [(4, .int rm1), (3, .int (F (i + 1))), (2, .int (f5_inv (F i) n)), (0, .ref aO), (1, .int (nI i))]) hx hb dgX5_weigh_29 hl (by decide) rfl (fun ls hl => ?_)
  refine lv_iload hx hb dgX5_weigh_31 (lv_at hl 0 rfl) ?_
  refine lv_iconst (v := (-1)) hx hb dgX5_weigh_33 (by decide) ?_
  cases hx9 : (f5_w0 n F i).2.2 with
  | none =>
    have hrm1 : rm1 = onI (f5_w0 n F i).2.2 := hrm1
    rw [hx9] at hrm1
    have hwe : (f5_we n F i) = (F, false) := by rw [f5_we, hx9]
    refine lv_icmp_ne (tgt := 39) hx hb dgX5_weigh_34 (by decide) (fun c9 => absurd c9 (not_not_intro hrm1)) (fun _ => ?_)
    refine lv_iconst (v := 0) hx hb dgX5_weigh_37 (by decide) ?_
    have hP : va_P (dC, dI) vwCl [(aO, .inr (8, [.int (nI n), .int pw, .int (nI ln), .ref fc, .int idn, .int den])), (fc, .inl (cI, 24, .inl ((f5_we n F i).1)))] H := by rw [hwe]; exact hP
    have hD : va_D A [(aO, .inr (8, [.int (nI n), .int pw, .int (nI ln), .ref fc, .int idn, .int den])), (fc, .inl (cI, 24, .inl ((f5_we n F i).1)))] := by rw [hwe]; exact hD
    rw [hQQ]
    exact W.zret (v := 0) (ty := .boolean) hx hb hr rfl (fun t ht hW => ⟨⟨0, (), rfl, by rw [hwe]; rfl, by rw [ht]; exact hP, hD⟩, hS.F ht⟩) hS.2.2 dgX5_weigh_38
  | some x0 =>
    have hrm1 : rm1 = onI (f5_w0 n F i).2.2 := hrm1
    have hwe : (f5_we n F i) = (su (su F i (f5_inv (f5_wl n 10 (f5_w0 n F i)).1 n)) (i + 1) (f5_wl n 10 (f5_w0 n F i)).2.1, true) := by rw [f5_we, hx9]
    have hx0 : x0 < n := by have := f5_mv_lt _ _ _ hx9; omega
    refine lv_icmp_ne (tgt := 39) hx hb dgX5_weigh_34 (by decide) (fun _ => ?_) (fun c9 => absurd c9 (by rw [hrm1, hx9]; exact nI_nm1 (by omega)))
    have K83 : ∀ (q : ow_WE), f5_wl n 10 (f5_w0 n F i) = q → ∀ (H : Heap) (locs : List Loc) (ls : Array Slot), va_P (dC, dI) vwCl [(aO, .inr (8, [.int (nI n), .int pw, .int (nI ln), .ref fc, .int idn, .int den])), (fc, .inl (cI, 24, .inl F))] H → va_D A [(aO, .inr (8, [.int (nI n), .int pw, .int (nI ln), .ref fc, .int idn, .int den])), (fc, .inl (cI, 24, .inl F))] → va_S A s.heap H locs → lv_has ls 6 [(0, .ref aO), (1, .int (nI i)), (2, .int q.1), (3, .int q.2.1), (4, .int (onI q.2.2))] → W p l e ({ frames := 2, cells := 0, slots := 0, locals := 80 } : Room) s m ([.ref aO, .int (nI i)] : List Value).toArray below meth c H locs 0 0 QQ (F0 m 83 ls []) := by
      intro q hq H locs ls hP hD hS hl
      rw [hq] at hwe
      refine lv_aload_n hx hb dgX5_weigh_83 rfl (lv_at hl 0 rfl) ?_
      refine va_get (D := (dC, dI)) (ci := 8) (v := .ref fc) (C := RX5) (T := TX5) (N := 6) hx hb hts (fun _ h => List.mem_cons_of_mem _ (List.mem_append_left _ (List.mem_append_right _ h))) hown hK hP 0 rfl rfl 3 (by decide) (hts (.fieldLink RX5 11 "KnotHouse$Form" "factors" "[I") (by decide +kernel)) (fun _ h9 => h9) rfl dgX5_weigh_84 ?_
      refine lv_iload_n hx hb dgX5_weigh_87 rfl (lv_at hl 1 rfl) ?_
      refine lv_iload_n hx hb dgX5_weigh_88 rfl (lv_at hl 2 rfl) ?_
      refine lv_aload_n hx hb dgX5_weigh_89 rfl (lv_at hl 0 rfl) ?_
      refine va_get (D := (dC, dI)) (ci := 8) (v := .int (nI n)) (C := RX5) (T := TX5) (N := 6) hx hb hts (fun _ h => List.mem_cons_of_mem _ (List.mem_append_left _ (List.mem_append_right _ h))) hown hK hP 0 rfl rfl 0 (by decide) (hts (.fieldLink RX5 25 "KnotHouse$Form" "strands" "I") (by decide +kernel)) (fun _ h9 => h9) rfl dgX5_weigh_90 ?_
      have hPc := hP.sub (ws' := []) [] rfl
      refine va_calli (va_runS (As := [.int q.1, .int (nI n)]) (rest := [.int (nI i), .ref fc]) ⟨hx, hb, hml, hown, hts⟩ (kg_X5_invert l dC dI cI cB cJ cZ q.1 n (by omega)) (va_cwS 2 hts gg_X5_weigh_0 rfl rfl rfl (by decide +kernel) ⟨(Nat.le_of_ble_eq_true rfl), (Nat.le_of_ble_eq_true rfl)⟩) ⟨fun a U g mk q => by obtain ⟨q0, qP, qK⟩ := q; exact ⟨q0, qP, va_K.moved (u := U) (U := U.calling g mk a) (Vm.Alike.refl U.vm) qK⟩, fun U hU hW => ⟨rfl, by rw [hU]; exact hPc, va_K.moved hW.alike hK⟩⟩ rfl rfl hl.1 rfl (lv_room (Nat.le_of_ble_eq_true rfl)) dgX5_weigh_93 ⟨(Nat.le_of_ble_eq_true rfl), (Nat.le_of_ble_eq_true rfl)⟩) hS (fun q _ h => h.elim) (fun q h => h.elim) (fun ra2 un t H1 locs ht hvm hw9 hB hz1 hk1 hS => ?_)
      have hP := hP.kept (fun k9 x9 h9 => hk1 x9.1 ((hP k9 x9 h9).lt) id)
      generalize H1 = H at hP hS ⊢
      obtain rfl : ra2 = f5_inv q.1 n := hw9
      refine ow_iastF (j := i) (x := f5_inv q.1 n) hx hb hK hP hD hS 1 0 rfl rfl (by omega) (by decide) dgX5_weigh_96 (fun H locs hP hD hS => ?_)
      have hP : va_P (dC, dI) vwCl [(aO, .inr (8, [.int (nI n), .int pw, .int (nI ln), .ref fc, .int idn, .int den])), (fc, .inl (cI, 24, .inl (su F i (f5_inv q.1 n))))] H := hP
      have hD : va_D A [(aO, .inr (8, [.int (nI n), .int pw, .int (nI ln), .ref fc, .int idn, .int den])), (fc, .inl (cI, 24, .inl (su F i (f5_inv q.1 n))))] := hD
      refine lv_aload_n hx hb dgX5_weigh_97 rfl (lv_at hl 0 rfl) ?_
      refine va_get (D := (dC, dI)) (ci := 8) (v := .ref fc) (C := RX5) (T := TX5) (N := 6) hx hb hts (fun _ h => List.mem_cons_of_mem _ (List.mem_append_left _ (List.mem_append_right _ h))) hown hK hP 0 rfl rfl 3 (by decide) (hts (.fieldLink RX5 11 "KnotHouse$Form" "factors" "[I") (by decide +kernel)) (fun _ h9 => h9) rfl dgX5_weigh_98 ?_
      refine lv_iload_n hx hb dgX5_weigh_101 rfl (lv_at hl 1 rfl) ?_
      refine lv_iconst (v := 1) hx hb dgX5_weigh_102 (by decide) ?_
      refine lv_iadd hx hb dgX5_weigh_103 ?_
      refine ow_topi (y := nI (i + 1)) (nI_1 (i)) ?_
      refine lv_iload_n hx hb dgX5_weigh_104 rfl (lv_at hl 3 rfl) ?_
      refine ow_iastF (j := i + 1) (x := q.2.1) hx hb hK hP hD hS 1 0 rfl rfl hi (by decide) dgX5_weigh_105 (fun H locs hP hD hS => ?_)
      have hP : va_P (dC, dI) vwCl [(aO, .inr (8, [.int (nI n), .int pw, .int (nI ln), .ref fc, .int idn, .int den])), (fc, .inl (cI, 24, .inl (su (su F i (f5_inv q.1 n)) (i + 1) q.2.1)))] H := hP
      have hD : va_D A [(aO, .inr (8, [.int (nI n), .int pw, .int (nI ln), .ref fc, .int idn, .int den])), (fc, .inl (cI, 24, .inl (su (su F i (f5_inv q.1 n)) (i + 1) q.2.1)))] := hD
      refine lv_iconst (v := 1) hx hb dgX5_weigh_106 (by decide) ?_
      have hP : va_P (dC, dI) vwCl [(aO, .inr (8, [.int (nI n), .int pw, .int (nI ln), .ref fc, .int idn, .int den])), (fc, .inl (cI, 24, .inl ((f5_we n F i).1)))] H := by rw [hwe]; exact hP
      have hD : va_D A [(aO, .inr (8, [.int (nI n), .int pw, .int (nI ln), .ref fc, .int idn, .int den])), (fc, .inl (cI, 24, .inl ((f5_we n F i).1)))] := by rw [hwe]; exact hD
      rw [hQQ]
      exact W.zret (v := 1) (ty := .boolean) hx hb hr rfl (fun t ht hW => ⟨⟨1, (), rfl, by rw [hwe]; rfl, by rw [ht]; exact hP, hD⟩, hS.F ht⟩) hS.2.2 dgX5_weigh_107
    have L42 : ∀ (d j : Nat) (q : ow_WE), j + d = 10 → f5_wl n 10 (f5_w0 n F i) = f5_wl n d q → (∀ x, q.2.2 = some x → x < n) → ∀ (H : Heap) (locs : List Loc) (ls : Array Slot), va_P (dC, dI) vwCl [(aO, .inr (8, [.int (nI n), .int pw, .int (nI ln), .ref fc, .int idn, .int den])), (fc, .inl (cI, 24, .inl F))] H → va_D A [(aO, .inr (8, [.int (nI n), .int pw, .int (nI ln), .ref fc, .int idn, .int den])), (fc, .inl (cI, 24, .inl F))] → va_S A s.heap H locs → lv_has ls 6 [(0, .ref aO), (1, .int (nI i)), (2, .int q.1), (3, .int q.2.1), (4, .int (onI q.2.2)), (5, .int (nI j))] → W p l e ({ frames := 2, cells := 0, slots := 0, locals := 80 } : Room) s m ([.ref aO, .int (nI i)] : List Value).toArray below meth c H locs 0 0 QQ (F0 m 42 ls []) := by
      intro d
      induction d with
      | zero =>
        intro j q hj hq hxn H locs ls hP hD hS hl
        refine lv_iload hx hb dgX5_weigh_42 (lv_at hl 5 rfl) ?_
        refine lv_bipush (v := 10) hx hb dgX5_weigh_44 (by decide) ?_
        refine lv_icmp_ge (tgt := 83) hx hb dgX5_weigh_46 (by decide) (fun _ => ?_) (fun c9 => absurd (nI_le (a := 10) (b := j) (by omega) (by omega)) c9)
        exact K83 q hq H locs ls hP hD hS (lv_sub hl [0, 1, 2, 3, 4] rfl)
      | succ d ih =>
        intro j q hj hq hxn H locs ls hP hD hS hl
        refine lv_iload hx hb dgX5_weigh_42 (lv_at hl 5 rfl) ?_
        refine lv_bipush (v := 10) hx hb dgX5_weigh_44 (by decide) ?_
        refine lv_icmp_ge (tgt := 83) hx hb dgX5_weigh_46 (by decide) (fun c9 => absurd c9 (nI_ge (a := j) (b := 10) (by omega) (by omega))) (fun _ => ?_)
        refine lv_iload hx hb dgX5_weigh_49 (lv_at hl 4 rfl) ?_
        refine lv_iconst (v := (-1)) hx hb dgX5_weigh_51 (by decide) ?_
        cases hx8 : q.2.2 with
        | none =>
          have hq : f5_wl n 10 (f5_w0 n F i) = q := by rw [hq, f5_wl, hx8]
          refine lv_icmp_eq (tgt := 83) hx hb dgX5_weigh_52 (by decide) (fun _ => ?_) (fun c9 => absurd (rfl) c9)
          exact K83 q hq H locs ls hP hD hS (lv_sub hl [0, 1, 2, 3, 4] rfl)
        | some x =>
          have hxl := hxn x hx8
          have hq : f5_wl n 10 (f5_w0 n F i) = f5_wl n d (f5_ex q.1 (nI x), f5_ex q.2.1 (nI x), f5_mv (f5_ex q.1 (nI x)) (f5_ex q.2.1 (nI x)) (n - 1) 0) := by rw [hq, f5_wl, hx8]
          have hl : lv_has ls 6 [(0, .ref aO), (1, .int (nI i)), (2, .int q.1), (3, .int q.2.1), (4, .int (nI x)), (5, .int (nI j))] := by rw [hx8] at hl; exact hl
          refine lv_icmp_eq (tgt := 83) hx hb dgX5_weigh_52 (by decide) (fun c9 => absurd c9 (nI_nm1 (by omega))) (fun _ => ?_)
          refine lv_iload_n hx hb dgX5_weigh_55 rfl (lv_at hl 2 rfl) ?_
          refine lv_iload hx hb dgX5_weigh_56 (lv_at hl 4 rfl) ?_
          have hPc := hP.sub (ws' := []) [] rfl
          refine va_calli (va_runS (As := [.int q.1, .int (nI x)]) (rest := []) ⟨hx, hb, hml, hown, hts⟩ (kg_X5_exchanged l dC dI cI cB cJ cZ q.1 (nI x)) (va_cwS 2 hts gg_X5_weigh_1 rfl rfl rfl (by decide +kernel) ⟨(Nat.le_of_ble_eq_true rfl), (Nat.le_of_ble_eq_true rfl)⟩) ⟨fun a U g mk q => by obtain ⟨q0, qP, qK⟩ := q; exact ⟨q0, qP, va_K.moved (u := U) (U := U.calling g mk a) (Vm.Alike.refl U.vm) qK⟩, fun U hU hW => ⟨rfl, by rw [hU]; exact hPc, va_K.moved hW.alike hK⟩⟩ rfl rfl hl.1 rfl (lv_room (Nat.le_of_ble_eq_true rfl)) dgX5_weigh_58 ⟨(Nat.le_of_ble_eq_true rfl), (Nat.le_of_ble_eq_true rfl)⟩) hS (fun q _ h => h.elim) (fun q h => h.elim) (fun ra3 un t H1 locs ht hvm hw9 hB hz1 hk1 hS => ?_)
          have hP := hP.kept (fun k9 x9 h9 => hk1 x9.1 ((hP k9 x9 h9).lt) id)
          generalize H1 = H at hP hS ⊢
          obtain rfl : ra3 = f5_ex q.1 (nI x) := hw9
          refine lv_istore_n (lv' := [(2, .int (f5_ex q.1 (nI x))), (0, .ref aO), (1, .int (nI i)), (3, .int q.2.1), (4, .int (nI x)), (5, .int (nI j))]) hx hb dgX5_weigh_61 rfl hl (by decide) rfl (fun ls hl => ?_)
          refine lv_iload_n hx hb dgX5_weigh_62 rfl (lv_at hl 3 rfl) ?_
          refine lv_iload hx hb dgX5_weigh_63 (lv_at hl 4 rfl) ?_
          have hPc := hP.sub (ws' := []) [] rfl
          refine va_calli (va_runS (As := [.int q.2.1, .int (nI x)]) (rest := []) ⟨hx, hb, hml, hown, hts⟩ (kg_X5_exchanged l dC dI cI cB cJ cZ q.2.1 (nI x)) (va_cwS 2 hts gg_X5_weigh_1 rfl rfl rfl (by decide +kernel) ⟨(Nat.le_of_ble_eq_true rfl), (Nat.le_of_ble_eq_true rfl)⟩) ⟨fun a U g mk q => by obtain ⟨q0, qP, qK⟩ := q; exact ⟨q0, qP, va_K.moved (u := U) (U := U.calling g mk a) (Vm.Alike.refl U.vm) qK⟩, fun U hU hW => ⟨rfl, by rw [hU]; exact hPc, va_K.moved hW.alike hK⟩⟩ rfl rfl hl.1 rfl (lv_room (Nat.le_of_ble_eq_true rfl)) dgX5_weigh_65 ⟨(Nat.le_of_ble_eq_true rfl), (Nat.le_of_ble_eq_true rfl)⟩) hS (fun q _ h => h.elim) (fun q h => h.elim) (fun ra4 un t H1 locs ht hvm hw9 hB hz1 hk1 hS => ?_)
          have hP := hP.kept (fun k9 x9 h9 => hk1 x9.1 ((hP k9 x9 h9).lt) id)
          generalize H1 = H at hP hS ⊢
          obtain rfl : ra4 = f5_ex q.2.1 (nI x) := hw9
          refine lv_istore_n (lv' := [(3, .int (f5_ex q.2.1 (nI x))), (2, .int (f5_ex q.1 (nI x))), (0, .ref aO), (1, .int (nI i)), (4, .int (nI x)), (5, .int (nI j))]) hx hb dgX5_weigh_68 rfl hl (by decide) rfl (fun ls hl => ?_)
          refine lv_aload_n hx hb dgX5_weigh_69 rfl (lv_at hl 2 rfl) ?_
          refine lv_iload_n hx hb dgX5_weigh_70 rfl (lv_at hl 1 rfl) ?_
          refine lv_iload_n hx hb dgX5_weigh_71 rfl (lv_at hl 0 rfl) ?_
          have hPc := hP.sub (ws' := [(aO, .inr (8, [.int (nI n), .int pw, .int (nI ln), .ref fc, .int idn, .int den]))]) [0] rfl
          refine va_calli (va_runV (As := [.int (f5_ex q.1 (nI x)), .int (f5_ex q.2.1 (nI x))]) (rest := []) ⟨hx, hb, hml, hown, hts⟩ (kg_X5_movable l dC dI cI cB cJ cZ aO fc n hn1 hn9 idn den pw ln (f5_ex q.1 (nI x)) (f5_ex q.2.1 (nI x))) (cwV 2 hts gg_X5_weigh_2 rfl rfl rfl (by decide +kernel) ⟨(Nat.le_of_ble_eq_true rfl), (Nat.le_of_ble_eq_true rfl)⟩) ⟨fun a U g mk q => by obtain ⟨q0, qP, qK⟩ := q; exact ⟨q0, qP, va_K.moved (u := U) (U := U.calling g mk a) (Vm.Alike.refl U.vm) qK⟩, va_recv hK hPc (ci := 8) (q0 := 0) rfl rfl, fun U hU hW => ⟨rfl, by rw [hU]; exact hPc, va_K.moved hW.alike hK⟩⟩ rfl rfl hl.1 rfl (lv_room (Nat.le_of_ble_eq_true rfl)) dgX5_weigh_72 ⟨(Nat.le_of_ble_eq_true rfl), (Nat.le_of_ble_eq_true rfl)⟩) hS (fun q _ h => h.elim) (fun q h => h.elim) (fun rm2 un t H1 locs ht hvm hw9 hB hz1 hk1 hS => ?_)
          have hP := hP.kept (fun k9 x9 h9 => hk1 x9.1 ((hP k9 x9 h9).lt) id)
          generalize H1 = H at hP hS ⊢
          have hrm2 : rm2 = onI (f5_mv (f5_ex q.1 (nI x)) (f5_ex q.2.1 (nI x)) (n - 1) 0) := hw9
          refine lv_istore (lv' := [(4, .int rm2), (3, .int (f5_ex q.2.1 (nI x))), (2, .int (f5_ex q.1 (nI x))), (0, .ref aO), (1, .int (nI i)), (5, .int (nI j))]) hx hb dgX5_weigh_75 hl (by decide) rfl (fun ls hl => ?_)
          refine lv_iinc (v := nI (j + 1)) (lv' := [(5, .int (nI (j + 1))), (4, .int rm2), (3, .int (f5_ex q.2.1 (nI x))), (2, .int (f5_ex q.1 (nI x))), (0, .ref aO), (1, .int (nI i))]) hx hb dgX5_weigh_77 hl (k := 5) rfl (nI_1 j) (by decide) rfl (fun ls hl => ?_)
          refine lv_goto (tgt := 42) hx hb dgX5_weigh_80 (by decide) ?_
          refine ih (j + 1) (f5_ex q.1 (nI x), f5_ex q.2.1 (nI x), f5_mv (f5_ex q.1 (nI x)) (f5_ex q.2.1 (nI x)) (n - 1) 0) (by omega) hq (fun y hy => by have := f5_mv_lt _ _ _ hy; omega) H locs ls hP hD hS ?_
          rw [hrm2] at hl
          exact (lv_sub hl [4, 5, 3, 2, 1, 0] rfl)
    refine lv_iconst (v := 0) hx hb dgX5_weigh_39 (by decide) ?_
    refine ow_topi (y := nI 0) (by decide) ?_
    refine lv_istore (lv' := [(5, .int (nI 0)), (4, .int rm1), (3, .int (F (i + 1))), (2, .int (f5_inv (F i) n)), (0, .ref aO), (1, .int (nI i))]) hx hb dgX5_weigh_40 hl (by decide) rfl (fun ls hl => ?_)
    refine L42 10 0 (f5_w0 n F i) (by omega) rfl (fun y hy => by have := f5_mv_lt _ _ _ hy; omega) H locs ls hP hD hS ?_
    rw [hrm1] at hl
    exact (lv_sub hl [4, 5, 3, 2, 1, 0] rfl)
theorem dgX5_strip_0 : decode cX5_strip 0 = .ok (.iconst 0, 1) := by decide +kernel
theorem dgX5_strip_1 : decode cX5_strip 1 = .ok (.istore_n 1, 1) := by decide +kernel
theorem dgX5_strip_2 : decode cX5_strip 2 = .ok (.iload_n 1, 1) := by decide +kernel
theorem dgX5_strip_3 : decode cX5_strip 3 = .ok (.aload_n 0, 1) := by decide +kernel
theorem dgX5_strip_4 : decode cX5_strip 4 = .ok (.getfield 32, 3) := by decide +kernel
theorem dgX5_strip_7 : decode cX5_strip 7 = .ok (.if_icmp .ge 22, 3) := by decide +kernel
theorem dgX5_strip_10 : decode cX5_strip 10 = .ok (.aload_n 0, 1) := by decide +kernel
theorem dgX5_strip_11 : decode cX5_strip 11 = .ok (.getfield 11, 3) := by decide +kernel
theorem dgX5_strip_14 : decode cX5_strip 14 = .ok (.iload_n 1, 1) := by decide +kernel
theorem dgX5_strip_15 : decode cX5_strip 15 = .ok (.iaload, 1) := by decide +kernel
theorem dgX5_strip_16 : decode cX5_strip 16 = .ok (.aload_n 0, 1) := by decide +kernel
theorem dgX5_strip_17 : decode cX5_strip 17 = .ok (.getfield 45, 3) := by decide +kernel
theorem dgX5_strip_20 : decode cX5_strip 20 = .ok (.if_icmp .ne 9, 3) := by decide +kernel
theorem dgX5_strip_23 : decode cX5_strip 23 = .ok (.iinc 1 1, 3) := by decide +kernel
theorem dgX5_strip_26 : decode cX5_strip 26 = .ok (.goto (-24), 3) := by decide +kernel
theorem dgX5_strip_29 : decode cX5_strip 29 = .ok (.aload_n 0, 1) := by decide +kernel
theorem dgX5_strip_30 : decode cX5_strip 30 = .ok (.dup, 1) := by decide +kernel
theorem dgX5_strip_31 : decode cX5_strip 31 = .ok (.getfield 29, 3) := by decide +kernel
theorem dgX5_strip_34 : decode cX5_strip 34 = .ok (.iload_n 1, 1) := by decide +kernel
theorem dgX5_strip_35 : decode cX5_strip 35 = .ok (.iadd, 1) := by decide +kernel
theorem dgX5_strip_36 : decode cX5_strip 36 = .ok (.putfield 29, 3) := by decide +kernel
theorem dgX5_strip_39 : decode cX5_strip 39 = .ok (.aload_n 0, 1) := by decide +kernel
theorem dgX5_strip_40 : decode cX5_strip 40 = .ok (.dup, 1) := by decide +kernel
theorem dgX5_strip_41 : decode cX5_strip 41 = .ok (.getfield 32, 3) := by decide +kernel
theorem dgX5_strip_44 : decode cX5_strip 44 = .ok (.iload_n 1, 1) := by decide +kernel
theorem dgX5_strip_45 : decode cX5_strip 45 = .ok (.isub, 1) := by decide +kernel
theorem dgX5_strip_46 : decode cX5_strip 46 = .ok (.putfield 32, 3) := by decide +kernel
theorem dgX5_strip_49 : decode cX5_strip 49 = .ok (.aload_n 0, 1) := by decide +kernel
theorem dgX5_strip_50 : decode cX5_strip 50 = .ok (.getfield 11, 3) := by decide +kernel
theorem dgX5_strip_53 : decode cX5_strip 53 = .ok (.iload_n 1, 1) := by decide +kernel
theorem dgX5_strip_54 : decode cX5_strip 54 = .ok (.aload_n 0, 1) := by decide +kernel
theorem dgX5_strip_55 : decode cX5_strip 55 = .ok (.getfield 11, 3) := by decide +kernel
theorem dgX5_strip_58 : decode cX5_strip 58 = .ok (.iconst 0, 1) := by decide +kernel
theorem dgX5_strip_59 : decode cX5_strip 59 = .ok (.aload_n 0, 1) := by decide +kernel
theorem dgX5_strip_60 : decode cX5_strip 60 = .ok (.getfield 32, 3) := by decide +kernel
theorem dgX5_strip_63 : decode cX5_strip 63 = .ok (.invokestatic 52, 3) := by decide +kernel
theorem dgX5_strip_66 : decode cX5_strip 66 = .ok (.aload_n 0, 1) := by decide +kernel
theorem dgX5_strip_67 : decode cX5_strip 67 = .ok (.getfield 32, 3) := by decide +kernel
theorem dgX5_strip_70 : decode cX5_strip 70 = .ok (.ifCond .le 34, 3) := by decide +kernel
theorem dgX5_strip_73 : decode cX5_strip 73 = .ok (.aload_n 0, 1) := by decide +kernel
theorem dgX5_strip_74 : decode cX5_strip 74 = .ok (.getfield 11, 3) := by decide +kernel
theorem dgX5_strip_77 : decode cX5_strip 77 = .ok (.aload_n 0, 1) := by decide +kernel
theorem dgX5_strip_78 : decode cX5_strip 78 = .ok (.getfield 32, 3) := by decide +kernel
theorem dgX5_strip_81 : decode cX5_strip 81 = .ok (.iconst 1, 1) := by decide +kernel
theorem dgX5_strip_82 : decode cX5_strip 82 = .ok (.isub, 1) := by decide +kernel
theorem dgX5_strip_83 : decode cX5_strip 83 = .ok (.iaload, 1) := by decide +kernel
theorem dgX5_strip_84 : decode cX5_strip 84 = .ok (.aload_n 0, 1) := by decide +kernel
theorem dgX5_strip_85 : decode cX5_strip 85 = .ok (.getfield 39, 3) := by decide +kernel
theorem dgX5_strip_88 : decode cX5_strip 88 = .ok (.if_icmp .ne 16, 3) := by decide +kernel
theorem dgX5_strip_91 : decode cX5_strip 91 = .ok (.aload_n 0, 1) := by decide +kernel
theorem dgX5_strip_92 : decode cX5_strip 92 = .ok (.dup, 1) := by decide +kernel
theorem dgX5_strip_93 : decode cX5_strip 93 = .ok (.getfield 32, 3) := by decide +kernel
theorem dgX5_strip_96 : decode cX5_strip 96 = .ok (.iconst 1, 1) := by decide +kernel
theorem dgX5_strip_97 : decode cX5_strip 97 = .ok (.isub, 1) := by decide +kernel
theorem dgX5_strip_98 : decode cX5_strip 98 = .ok (.putfield 32, 3) := by decide +kernel
theorem dgX5_strip_101 : decode cX5_strip 101 = .ok (.goto (-35), 3) := by decide +kernel
theorem dgX5_strip_104 : decode cX5_strip 104 = .ok (.return_, 1) := by decide +kernel
def wg_X5_strip : List Cond := .code yX5_strip cX5_strip 2 none :: (([.fieldLink RX5 32 "KnotHouse$Form" "length" "I", .fieldLink RX5 11 "KnotHouse$Form" "factors" "[I", .fieldLink RX5 45 "KnotHouse$Form" "delta" "I", .fieldLink RX5 29 "KnotHouse$Form" "power" "I", .fieldLink RX5 39 "KnotHouse$Form" "identity" "I", .methodLink RX5 52 arraycopyName, .native arraycopyName, .static arraycopyName, .initialized "java/lang/System"] ++ wsX50) ++ [])
set_option maxHeartbeats 4000000 in
set_option maxRecDepth 100000 in
theorem kg_X5_strip (l : Launch) (dC : Nat → ClassId) (dI : Nat → Nat → Nat) (cI cB cJ cZ : ClassId) (aO fc n : Nat) (hn1 : 1 ≤ n) (hn9 : n < 100) (idn den : Int32) (q : ow_FO) (hq : q.2.1 ≤ 24) (sz : Nat) : Met l yX5_strip wg_X5_strip (({ frames := 1, cells := 0, slots := 0, locals := 40 } : Room)) (va_Pc [.ref aO] (fun U => U.heap.size = sz ∧ va_P (dC, dI) vwCl [(aO, .inr (8, [.int (nI n), .int q.1, .int (nI q.2.1), .ref fc, .int idn, .int den])), (fc, .inl (cI, 24, .inl q.2.2))] U.heap ∧ va_K (dC, dI) vwCl [(cI, .int), (cB, .byte), (cJ, .long), (cZ, .boolean)] U ∧ va_D (fun _ => True) [(aO, .inr (8, [.int (nI n), .int q.1, .int (nI q.2.1), .ref fc, .int idn, .int den])), (fc, .inl (cI, 24, .inl q.2.2))])) (va_Qv (fun (g : Unit) => True) (fun g t => va_P (dC, dI) vwCl [(aO, .inr (8, [.int (nI n), .int (f5_st idn den q).1, .int (nI ((f5_st idn den q).2.1)), .ref fc, .int idn, .int den])), (fc, .inl (cI, 24, .inl ((f5_st idn den q).2.2)))] t.heap ∧ va_D (va_A [(aO, .inr (8, [.int (nI n), .int q.1, .int (nI q.2.1), .ref fc, .int idn, .int den])), (fc, .inl (cI, 24, .inl q.2.2))] sz) [(aO, .inr (8, [.int (nI n), .int (f5_st idn den q).1, .int (nI ((f5_st idn den q).2.1)), .ref fc, .int idn, .int den])), (fc, .inl (cI, 24, .inl ((f5_st idn den q).2.2)))]) (va_A [(aO, .inr (8, [.int (nI n), .int q.1, .int (nI q.2.1), .ref fc, .int idn, .int den])), (fc, .inl (cI, 24, .inl q.2.2))] sz)) 0 0 (va_A [(aO, .inr (8, [.int (nI n), .int q.1, .int (nI q.2.1), .ref fc, .int idn, .int den])), (fc, .inl (cI, 24, .inl q.2.2))] sz) := by
  refine Met.ofW (cc := cX5_strip) (maxL := 2) (ret := none) (by decide) rfl ?_
  intro p e s m args below meth c s₁ B hml hv
  obtain ⟨rfl, hsz, hP, hK, hD0⟩ := hv
  have hx := B.exec
  have hb := B.bytes
  have hr := B.returns
  have hts := atoms_spec (ws := wg_X5_strip) B.pre
  have hown : s.vm.findClass RX5 = some m.cls := findClass_of_methodNamed B.named
  have hlocks := B.notSynchronized
  subst hsz
  have hD := hD0.self (sz := s.heap.size)
  generalize hAe : va_A [(aO, .inr (8, [.int (nI n), .int q.1, .int (nI q.2.1), .ref fc, .int idn, .int den])), (fc, .inl (cI, 24, .inl q.2.2))] s.heap.size = A at hD ⊢
  have hA : ∀ q : Nat, s.heap.size ≤ q → A q := fun q h => by rw [← hAe]; exact Or.inr h
  have hS : va_S A s.heap s.heap [] := va_S.rf
  have hP : va_P (dC, dI) vwCl [(aO, .inr (8, [.int (nI n), .int q.1, .int (nI q.2.1), .ref fc, .int idn, .int den])), (fc, .inl (cI, 24, .inl q.2.2))] s.heap := hP
  have hl := lv_entry ([.ref aO]) (n := 2) (Nat.le_of_ble_eq_true rfl)
  rw [lg_entry_eq]
  generalize (lg_sl ([.ref aO]) ++ List.replicate (2 - (lg_sl ([.ref aO])).length) Slot.unset).toArray = ls at hl ⊢
  have hl : lv_has ls 2 [(0, .ref aO)] := hl
  refine ow_named (fun QQ hQQ => ?_)
  suffices key9 : ∀ (H : Heap) (locs : List Loc), va_P (dC, dI) vwCl [(aO, .inr (8, [.int (nI n), .int q.1, .int (nI q.2.1), .ref fc, .int idn, .int den])), (fc, .inl (cI, 24, .inl q.2.2))] H → va_S A s.heap H locs → W p l e ({ frames := 1, cells := 0, slots := 0, locals := 40 } : Room) s m ([.ref aO] : List Value).toArray below meth c H locs 0 0 QQ (F0 m 0 ls []) from key9 s.heap [] hP hS
  intro H locs hP hS
  have hld := f5_ld_le (F := q.2.2) (den := den) q.2.1 0
  have L66 : ∀ (k : Nat), k ≤ 24 → f5_tr (va_cpy q.2.2 q.2.2 (f5_ld q.2.2 den q.2.1 0) 0 (q.2.1 - (f5_ld q.2.2 den q.2.1 0))) idn (q.2.1 - (f5_ld q.2.2 den q.2.1 0)) = f5_tr (va_cpy q.2.2 q.2.2 (f5_ld q.2.2 den q.2.1 0) 0 (q.2.1 - (f5_ld q.2.2 den q.2.1 0))) idn k → ∀ (H : Heap) (locs : List Loc) (ls : Array Slot), va_P (dC, dI) vwCl [(aO, .inr (8, [.int (nI n), .int (q.1 + nI (f5_ld q.2.2 den q.2.1 0)), .int (nI k), .ref fc, .int idn, .int den])), (fc, .inl (cI, 24, .inl (va_cpy q.2.2 q.2.2 (f5_ld q.2.2 den q.2.1 0) 0 (q.2.1 - (f5_ld q.2.2 den q.2.1 0)))))] H → va_D A [(aO, .inr (8, [.int (nI n), .int (q.1 + nI (f5_ld q.2.2 den q.2.1 0)), .int (nI k), .ref fc, .int idn, .int den])), (fc, .inl (cI, 24, .inl (va_cpy q.2.2 q.2.2 (f5_ld q.2.2 den q.2.1 0) 0 (q.2.1 - (f5_ld q.2.2 den q.2.1 0)))))] → va_S A s.heap H locs → lv_has ls 2 [(0, .ref aO)] → W p l e ({ frames := 1, cells := 0, slots := 0, locals := 40 } : Room) s m ([.ref aO] : List Value).toArray below meth c H locs 0 0 QQ (F0 m 66 ls []) := by
    intro k
    induction k with
    | zero =>
      intro hk hq2 H locs ls hP hD hS hl
      refine lv_aload_n hx hb dgX5_strip_66 rfl (lv_at hl 0 rfl) ?_
      refine va_get (D := (dC, dI)) (ci := 8) (v := .int (nI 0)) (C := RX5) (T := TX5) (N := 6) hx hb hts (fun _ h => List.mem_cons_of_mem _ (List.mem_append_left _ (List.mem_append_right _ h))) hown hK hP 0 rfl rfl 2 (by decide) (hts (.fieldLink RX5 32 "KnotHouse$Form" "length" "I") (by decide +kernel)) (fun _ h9 => h9) rfl dgX5_strip_67 ?_
      refine lv_if_le (tgt := 104) hx hb dgX5_strip_70 (by decide) (fun _ => ?_) (fun c9 => absurd (by decide) c9)
      have hq2 : f5_tr (va_cpy q.2.2 q.2.2 (f5_ld q.2.2 den q.2.1 0) 0 (q.2.1 - (f5_ld q.2.2 den q.2.1 0))) idn (q.2.1 - (f5_ld q.2.2 den q.2.1 0)) = 0 := hq2
      have hst : (f5_st idn den q) = (q.1 + nI (f5_ld q.2.2 den q.2.1 0), 0, (va_cpy q.2.2 q.2.2 (f5_ld q.2.2 den q.2.1 0) 0 (q.2.1 - (f5_ld q.2.2 den q.2.1 0)))) := by rw [f5_st, hq2]
      have hP : va_P (dC, dI) vwCl [(aO, .inr (8, [.int (nI n), .int (f5_st idn den q).1, .int (nI ((f5_st idn den q).2.1)), .ref fc, .int idn, .int den])), (fc, .inl (cI, 24, .inl ((f5_st idn den q).2.2)))] H := by rw [hst]; exact hP
      have hD : va_D A [(aO, .inr (8, [.int (nI n), .int (f5_st idn den q).1, .int (nI ((f5_st idn den q).2.1)), .ref fc, .int idn, .int den])), (fc, .inl (cI, 24, .inl ((f5_st idn den q).2.2)))] := by rw [hst]; exact hD
      rw [hQQ]
      exact W.vret hx hb hr (fun t ht hW => ⟨⟨(), rfl, trivial, by rw [ht]; exact hP, hD⟩, hS.F ht⟩) hS.2.2 dgX5_strip_104
    | succ k ih =>
      intro hk hq2 H locs ls hP hD hS hl
      rw [show f5_tr (va_cpy q.2.2 q.2.2 (f5_ld q.2.2 den q.2.1 0) 0 (q.2.1 - (f5_ld q.2.2 den q.2.1 0))) idn (k + 1) = (if (va_cpy q.2.2 q.2.2 (f5_ld q.2.2 den q.2.1 0) 0 (q.2.1 - (f5_ld q.2.2 den q.2.1 0))) k = idn then f5_tr (va_cpy q.2.2 q.2.2 (f5_ld q.2.2 den q.2.1 0) 0 (q.2.1 - (f5_ld q.2.2 den q.2.1 0))) idn k else k + 1) from rfl] at hq2
      refine lv_aload_n hx hb dgX5_strip_66 rfl (lv_at hl 0 rfl) ?_
      refine va_get (D := (dC, dI)) (ci := 8) (v := .int (nI (k + 1))) (C := RX5) (T := TX5) (N := 6) hx hb hts (fun _ h => List.mem_cons_of_mem _ (List.mem_append_left _ (List.mem_append_right _ h))) hown hK hP 0 rfl rfl 2 (by decide) (hts (.fieldLink RX5 32 "KnotHouse$Form" "length" "I") (by decide +kernel)) (fun _ h9 => h9) rfl dgX5_strip_67 ?_
      refine lv_if_le (tgt := 104) hx hb dgX5_strip_70 (by decide) (fun c9 => absurd c9 (Int32.not_le.mpr (nI_lt (a := 0) (b := k + 1) (by omega) (by omega)))) (fun _ => ?_)
      refine lv_aload_n hx hb dgX5_strip_73 rfl (lv_at hl 0 rfl) ?_
      refine va_get (D := (dC, dI)) (ci := 8) (v := .ref fc) (C := RX5) (T := TX5) (N := 6) hx hb hts (fun _ h => List.mem_cons_of_mem _ (List.mem_append_left _ (List.mem_append_right _ h))) hown hK hP 0 rfl rfl 3 (by decide) (hts (.fieldLink RX5 11 "KnotHouse$Form" "factors" "[I") (by decide +kernel)) (fun _ h9 => h9) rfl dgX5_strip_74 ?_
      refine lv_aload_n hx hb dgX5_strip_77 rfl (lv_at hl 0 rfl) ?_
      refine va_get (D := (dC, dI)) (ci := 8) (v := .int (nI (k + 1))) (C := RX5) (T := TX5) (N := 6) hx hb hts (fun _ h => List.mem_cons_of_mem _ (List.mem_append_left _ (List.mem_append_right _ h))) hown hK hP 0 rfl rfl 2 (by decide) (hts (.fieldLink RX5 32 "KnotHouse$Form" "length" "I") (by decide +kernel)) (fun _ h9 => h9) rfl dgX5_strip_78 ?_
      refine lv_iconst (v := 1) hx hb dgX5_strip_81 (by decide) ?_
      refine lv_isub hx hb dgX5_strip_82 ?_
      refine ow_topi (y := nI k) (ow_pred k) ?_
      refine va_iald hx hb hK hP 1 0 rfl rfl (vp_in_nI (n := k) (N := 24) (by omega) (by decide)) dgX5_strip_83 ?_
      refine ow_topi (y := (va_cpy q.2.2 q.2.2 (f5_ld q.2.2 den q.2.1 0) 0 (q.2.1 - (f5_ld q.2.2 den q.2.1 0))) k) (congrArg (va_cpy q.2.2 q.2.2 (f5_ld q.2.2 den q.2.1 0) 0 (q.2.1 - (f5_ld q.2.2 den q.2.1 0))) (nI_clamp (n := k) (Nat.lt_trans (m := 24) (by omega) (by decide)))) ?_
      refine lv_aload_n hx hb dgX5_strip_84 rfl (lv_at hl 0 rfl) ?_
      refine va_get (D := (dC, dI)) (ci := 8) (v := .int idn) (C := RX5) (T := TX5) (N := 6) hx hb hts (fun _ h => List.mem_cons_of_mem _ (List.mem_append_left _ (List.mem_append_right _ h))) hown hK hP 0 rfl rfl 4 (by decide) (hts (.fieldLink RX5 39 "KnotHouse$Form" "identity" "I") (by decide +kernel)) (fun _ h9 => h9) rfl dgX5_strip_85 ?_
      rcases Decidable.em ((va_cpy q.2.2 q.2.2 (f5_ld q.2.2 den q.2.1 0) 0 (q.2.1 - (f5_ld q.2.2 den q.2.1 0))) k = idn) with h1 | h1
      · rw [if_pos h1] at hq2
        refine lv_icmp_ne (tgt := 104) hx hb dgX5_strip_88 (by decide) (fun c9 => absurd c9 (not_not_intro h1)) (fun _ => ?_)
        refine lv_aload_n hx hb dgX5_strip_91 rfl (lv_at hl 0 rfl) ?_
        refine lv_dup hx hb dgX5_strip_92 rfl ?_
        refine va_get (D := (dC, dI)) (ci := 8) (v := .int (nI (k + 1))) (C := RX5) (T := TX5) (N := 6) hx hb hts (fun _ h => List.mem_cons_of_mem _ (List.mem_append_left _ (List.mem_append_right _ h))) hown hK hP 0 rfl rfl 2 (by decide) (hts (.fieldLink RX5 32 "KnotHouse$Form" "length" "I") (by decide +kernel)) (fun _ h9 => h9) rfl dgX5_strip_93 ?_
        refine lv_iconst (v := 1) hx hb dgX5_strip_96 (by decide) ?_
        refine lv_isub hx hb dgX5_strip_97 ?_
        refine ow_topi (y := nI k) (ow_pred k) ?_
        refine va_put (D := (dC, dI)) (ci := 8) (v := .int (nI k)) (ty := .int) (C := RX5) (T := TX5) (N := 6) hx hb hts (fun _ h => List.mem_cons_of_mem _ (List.mem_append_left _ (List.mem_append_right _ h))) tyX5 tyX5_ok nmX5 hown hK hP hD hS 0 rfl rfl 2 (by decide) (hts (.fieldLink RX5 32 "KnotHouse$Form" "length" "I") (by decide +kernel)) (fun _ h9 => h9) rfl (by decide +kernel) rfl rfl (Nat.le_of_ble_eq_true rfl) dgX5_strip_98 (fun H locs hP hD hS => ?_)
        have hP : va_P (dC, dI) vwCl [(aO, .inr (8, [.int (nI n), .int (q.1 + nI (f5_ld q.2.2 den q.2.1 0)), .int (nI k), .ref fc, .int idn, .int den])), (fc, .inl (cI, 24, .inl (va_cpy q.2.2 q.2.2 (f5_ld q.2.2 den q.2.1 0) 0 (q.2.1 - (f5_ld q.2.2 den q.2.1 0)))))] H := hP
        have hD : va_D A [(aO, .inr (8, [.int (nI n), .int (q.1 + nI (f5_ld q.2.2 den q.2.1 0)), .int (nI k), .ref fc, .int idn, .int den])), (fc, .inl (cI, 24, .inl (va_cpy q.2.2 q.2.2 (f5_ld q.2.2 den q.2.1 0) 0 (q.2.1 - (f5_ld q.2.2 den q.2.1 0)))))] := hD
        refine lv_goto (tgt := 66) hx hb dgX5_strip_101 (by decide) ?_
        exact ih (by omega) hq2 H locs ls hP hD hS (lv_sub hl [0] rfl)
      · rw [if_neg h1] at hq2
        refine lv_icmp_ne (tgt := 104) hx hb dgX5_strip_88 (by decide) (fun _ => ?_) (fun c9 => absurd c9 (h1))
        have hst : (f5_st idn den q) = (q.1 + nI (f5_ld q.2.2 den q.2.1 0), k + 1, (va_cpy q.2.2 q.2.2 (f5_ld q.2.2 den q.2.1 0) 0 (q.2.1 - (f5_ld q.2.2 den q.2.1 0)))) := by rw [f5_st, hq2]
        have hP : va_P (dC, dI) vwCl [(aO, .inr (8, [.int (nI n), .int (f5_st idn den q).1, .int (nI ((f5_st idn den q).2.1)), .ref fc, .int idn, .int den])), (fc, .inl (cI, 24, .inl ((f5_st idn den q).2.2)))] H := by rw [hst]; exact hP
        have hD : va_D A [(aO, .inr (8, [.int (nI n), .int (f5_st idn den q).1, .int (nI ((f5_st idn den q).2.1)), .ref fc, .int idn, .int den])), (fc, .inl (cI, 24, .inl ((f5_st idn den q).2.2)))] := by rw [hst]; exact hD
        rw [hQQ]
        exact W.vret hx hb hr (fun t ht hW => ⟨⟨(), rfl, trivial, by rw [ht]; exact hP, hD⟩, hS.F ht⟩) hS.2.2 dgX5_strip_104
  have K29 : ∀ (H : Heap) (locs : List Loc) (ls : Array Slot), va_P (dC, dI) vwCl [(aO, .inr (8, [.int (nI n), .int q.1, .int (nI q.2.1), .ref fc, .int idn, .int den])), (fc, .inl (cI, 24, .inl q.2.2))] H → va_D A [(aO, .inr (8, [.int (nI n), .int q.1, .int (nI q.2.1), .ref fc, .int idn, .int den])), (fc, .inl (cI, 24, .inl q.2.2))] → va_S A s.heap H locs → lv_has ls 2 [(0, .ref aO), (1, .int (nI (f5_ld q.2.2 den q.2.1 0)))] → W p l e ({ frames := 1, cells := 0, slots := 0, locals := 40 } : Room) s m ([.ref aO] : List Value).toArray below meth c H locs 0 0 QQ (F0 m 29 ls []) := by
    intro H locs ls hP hD hS hl
    refine lv_aload_n hx hb dgX5_strip_29 rfl (lv_at hl 0 rfl) ?_
    refine lv_dup hx hb dgX5_strip_30 rfl ?_
    refine va_get (D := (dC, dI)) (ci := 8) (v := .int q.1) (C := RX5) (T := TX5) (N := 6) hx hb hts (fun _ h => List.mem_cons_of_mem _ (List.mem_append_left _ (List.mem_append_right _ h))) hown hK hP 0 rfl rfl 1 (by decide) (hts (.fieldLink RX5 29 "KnotHouse$Form" "power" "I") (by decide +kernel)) (fun _ h9 => h9) rfl dgX5_strip_31 ?_
    refine lv_iload_n hx hb dgX5_strip_34 rfl (lv_at hl 1 rfl) ?_
    refine lv_iadd hx hb dgX5_strip_35 ?_
    refine va_put (D := (dC, dI)) (ci := 8) (v := .int (q.1 + (nI (f5_ld q.2.2 den q.2.1 0)))) (ty := .int) (C := RX5) (T := TX5) (N := 6) hx hb hts (fun _ h => List.mem_cons_of_mem _ (List.mem_append_left _ (List.mem_append_right _ h))) tyX5 tyX5_ok nmX5 hown hK hP hD hS 0 rfl rfl 1 (by decide) (hts (.fieldLink RX5 29 "KnotHouse$Form" "power" "I") (by decide +kernel)) (fun _ h9 => h9) rfl (by decide +kernel) rfl rfl (Nat.le_of_ble_eq_true rfl) dgX5_strip_36 (fun H locs hP hD hS => ?_)
    have hP : va_P (dC, dI) vwCl [(aO, .inr (8, [.int (nI n), .int (q.1 + (nI (f5_ld q.2.2 den q.2.1 0))), .int (nI q.2.1), .ref fc, .int idn, .int den])), (fc, .inl (cI, 24, .inl q.2.2))] H := hP
    have hD : va_D A [(aO, .inr (8, [.int (nI n), .int (q.1 + (nI (f5_ld q.2.2 den q.2.1 0))), .int (nI q.2.1), .ref fc, .int idn, .int den])), (fc, .inl (cI, 24, .inl q.2.2))] := hD
    refine lv_aload_n hx hb dgX5_strip_39 rfl (lv_at hl 0 rfl) ?_
    refine lv_dup hx hb dgX5_strip_40 rfl ?_
    refine va_get (D := (dC, dI)) (ci := 8) (v := .int (nI q.2.1)) (C := RX5) (T := TX5) (N := 6) hx hb hts (fun _ h => List.mem_cons_of_mem _ (List.mem_append_left _ (List.mem_append_right _ h))) hown hK hP 0 rfl rfl 2 (by decide) (hts (.fieldLink RX5 32 "KnotHouse$Form" "length" "I") (by decide +kernel)) (fun _ h9 => h9) rfl dgX5_strip_41 ?_
    refine lv_iload_n hx hb dgX5_strip_44 rfl (lv_at hl 1 rfl) ?_
    refine lv_isub hx hb dgX5_strip_45 ?_
    refine ow_topi (y := nI (q.2.1 - (f5_ld q.2.2 den q.2.1 0))) (pk_sub (by omega)) ?_
    refine va_put (D := (dC, dI)) (ci := 8) (v := .int (nI (q.2.1 - (f5_ld q.2.2 den q.2.1 0)))) (ty := .int) (C := RX5) (T := TX5) (N := 6) hx hb hts (fun _ h => List.mem_cons_of_mem _ (List.mem_append_left _ (List.mem_append_right _ h))) tyX5 tyX5_ok nmX5 hown hK hP hD hS 0 rfl rfl 2 (by decide) (hts (.fieldLink RX5 32 "KnotHouse$Form" "length" "I") (by decide +kernel)) (fun _ h9 => h9) rfl (by decide +kernel) rfl rfl (Nat.le_of_ble_eq_true rfl) dgX5_strip_46 (fun H locs hP hD hS => ?_)
    have hP : va_P (dC, dI) vwCl [(aO, .inr (8, [.int (nI n), .int (q.1 + (nI (f5_ld q.2.2 den q.2.1 0))), .int (nI (q.2.1 - (f5_ld q.2.2 den q.2.1 0))), .ref fc, .int idn, .int den])), (fc, .inl (cI, 24, .inl q.2.2))] H := hP
    have hD : va_D A [(aO, .inr (8, [.int (nI n), .int (q.1 + (nI (f5_ld q.2.2 den q.2.1 0))), .int (nI (q.2.1 - (f5_ld q.2.2 den q.2.1 0))), .ref fc, .int idn, .int den])), (fc, .inl (cI, 24, .inl q.2.2))] := hD
    refine lv_aload_n hx hb dgX5_strip_49 rfl (lv_at hl 0 rfl) ?_
    refine va_get (D := (dC, dI)) (ci := 8) (v := .ref fc) (C := RX5) (T := TX5) (N := 6) hx hb hts (fun _ h => List.mem_cons_of_mem _ (List.mem_append_left _ (List.mem_append_right _ h))) hown hK hP 0 rfl rfl 3 (by decide) (hts (.fieldLink RX5 11 "KnotHouse$Form" "factors" "[I") (by decide +kernel)) (fun _ h9 => h9) rfl dgX5_strip_50 ?_
    refine lv_iload_n hx hb dgX5_strip_53 rfl (lv_at hl 1 rfl) ?_
    refine lv_aload_n hx hb dgX5_strip_54 rfl (lv_at hl 0 rfl) ?_
    refine va_get (D := (dC, dI)) (ci := 8) (v := .ref fc) (C := RX5) (T := TX5) (N := 6) hx hb hts (fun _ h => List.mem_cons_of_mem _ (List.mem_append_left _ (List.mem_append_right _ h))) hown hK hP 0 rfl rfl 3 (by decide) (hts (.fieldLink RX5 11 "KnotHouse$Form" "factors" "[I") (by decide +kernel)) (fun _ h9 => h9) rfl dgX5_strip_55 ?_
    refine lv_iconst (v := 0) hx hb dgX5_strip_58 (by decide) ?_
    refine ow_topi (y := nI 0) (by decide) ?_
    refine lv_aload_n hx hb dgX5_strip_59 rfl (lv_at hl 0 rfl) ?_
    refine va_get (D := (dC, dI)) (ci := 8) (v := .int (nI (q.2.1 - (f5_ld q.2.2 den q.2.1 0)))) (C := RX5) (T := TX5) (N := 6) hx hb hts (fun _ h => List.mem_cons_of_mem _ (List.mem_append_left _ (List.mem_append_right _ h))) hown hK hP 0 rfl rfl 2 (by decide) (hts (.fieldLink RX5 32 "KnotHouse$Form" "length" "I") (by decide +kernel)) (fun _ h9 => h9) rfl dgX5_strip_60 ?_
    refine ow_cpyi (sp := (f5_ld q.2.2 den q.2.1 0)) (dp := 0) (n := q.2.1 - (f5_ld q.2.2 den q.2.1 0)) hx hb (by rw [hml]; exact hl.1.symm) hown (hts (.methodLink RX5 52 arraycopyName) (by decide +kernel)) (hts (.native arraycopyName) (by decide +kernel)) (hts (.static arraycopyName) (by decide +kernel)) (hts (.initialized "java/lang/System") (by decide +kernel)) hK hP hD hS 1 1 0 0 rfl rfl rfl rfl (by omega) (by omega) (by decide) (by decide) (Nat.le_of_ble_eq_true rfl) (by decide) dgX5_strip_63 (fun H locs hP hD hS => ?_)
    have hP : va_P (dC, dI) vwCl [(aO, .inr (8, [.int (nI n), .int (q.1 + (nI (f5_ld q.2.2 den q.2.1 0))), .int (nI (q.2.1 - (f5_ld q.2.2 den q.2.1 0))), .ref fc, .int idn, .int den])), (fc, .inl (cI, 24, .inl (va_cpy q.2.2 q.2.2 (f5_ld q.2.2 den q.2.1 0) 0 (q.2.1 - (f5_ld q.2.2 den q.2.1 0)))))] H := hP
    have hD : va_D A [(aO, .inr (8, [.int (nI n), .int (q.1 + (nI (f5_ld q.2.2 den q.2.1 0))), .int (nI (q.2.1 - (f5_ld q.2.2 den q.2.1 0))), .ref fc, .int idn, .int den])), (fc, .inl (cI, 24, .inl (va_cpy q.2.2 q.2.2 (f5_ld q.2.2 den q.2.1 0) 0 (q.2.1 - (f5_ld q.2.2 den q.2.1 0)))))] := hD
    exact L66 (q.2.1 - (f5_ld q.2.2 den q.2.1 0)) (by omega) rfl H locs ls hP hD hS (lv_sub hl [0] rfl)
  have L2 : ∀ (d k : Nat), k + d = q.2.1 → (f5_ld q.2.2 den q.2.1 0) = f5_ld q.2.2 den d k → ∀ (H : Heap) (locs : List Loc) (ls : Array Slot), va_P (dC, dI) vwCl [(aO, .inr (8, [.int (nI n), .int q.1, .int (nI q.2.1), .ref fc, .int idn, .int den])), (fc, .inl (cI, 24, .inl q.2.2))] H → va_D A [(aO, .inr (8, [.int (nI n), .int q.1, .int (nI q.2.1), .ref fc, .int idn, .int den])), (fc, .inl (cI, 24, .inl q.2.2))] → va_S A s.heap H locs → lv_has ls 2 [(0, .ref aO), (1, .int (nI k))] → W p l e ({ frames := 1, cells := 0, slots := 0, locals := 40 } : Room) s m ([.ref aO] : List Value).toArray below meth c H locs 0 0 QQ (F0 m 2 ls []) := by
    intro d
    induction d with
    | zero =>
      intro k hk hl9 H locs ls hP hD hS hl
      refine lv_iload_n hx hb dgX5_strip_2 rfl (lv_at hl 1 rfl) ?_
      refine lv_aload_n hx hb dgX5_strip_3 rfl (lv_at hl 0 rfl) ?_
      refine va_get (D := (dC, dI)) (ci := 8) (v := .int (nI q.2.1)) (C := RX5) (T := TX5) (N := 6) hx hb hts (fun _ h => List.mem_cons_of_mem _ (List.mem_append_left _ (List.mem_append_right _ h))) hown hK hP 0 rfl rfl 2 (by decide) (hts (.fieldLink RX5 32 "KnotHouse$Form" "length" "I") (by decide +kernel)) (fun _ h9 => h9) rfl dgX5_strip_4 ?_
      refine lv_icmp_ge (tgt := 29) hx hb dgX5_strip_7 (by decide) (fun _ => ?_) (fun c9 => absurd (nI_le (a := q.2.1) (b := k) (by omega) (by omega)) c9)
      have hl9 : (f5_ld q.2.2 den q.2.1 0) = k := hl9
      refine K29 H locs ls hP hD hS ?_
      rw [hl9]
      exact (lv_sub hl [0, 1] rfl)
    | succ d ih =>
      intro k hk hl9 H locs ls hP hD hS hl
      have hl9 : (f5_ld q.2.2 den q.2.1 0) = (if q.2.2 k = den then f5_ld q.2.2 den d (k + 1) else k) := hl9
      refine lv_iload_n hx hb dgX5_strip_2 rfl (lv_at hl 1 rfl) ?_
      refine lv_aload_n hx hb dgX5_strip_3 rfl (lv_at hl 0 rfl) ?_
      refine va_get (D := (dC, dI)) (ci := 8) (v := .int (nI q.2.1)) (C := RX5) (T := TX5) (N := 6) hx hb hts (fun _ h => List.mem_cons_of_mem _ (List.mem_append_left _ (List.mem_append_right _ h))) hown hK hP 0 rfl rfl 2 (by decide) (hts (.fieldLink RX5 32 "KnotHouse$Form" "length" "I") (by decide +kernel)) (fun _ h9 => h9) rfl dgX5_strip_4 ?_
      refine lv_icmp_ge (tgt := 29) hx hb dgX5_strip_7 (by decide) (fun c9 => absurd c9 (nI_ge (a := k) (b := q.2.1) (by omega) (by omega))) (fun _ => ?_)
      refine lv_aload_n hx hb dgX5_strip_10 rfl (lv_at hl 0 rfl) ?_
      refine va_get (D := (dC, dI)) (ci := 8) (v := .ref fc) (C := RX5) (T := TX5) (N := 6) hx hb hts (fun _ h => List.mem_cons_of_mem _ (List.mem_append_left _ (List.mem_append_right _ h))) hown hK hP 0 rfl rfl 3 (by decide) (hts (.fieldLink RX5 11 "KnotHouse$Form" "factors" "[I") (by decide +kernel)) (fun _ h9 => h9) rfl dgX5_strip_11 ?_
      refine lv_iload_n hx hb dgX5_strip_14 rfl (lv_at hl 1 rfl) ?_
      refine va_iald hx hb hK hP 1 0 rfl rfl (vp_in_nI (n := k) (N := 24) (by omega) (by decide)) dgX5_strip_15 ?_
      refine ow_topi (y := q.2.2 k) (congrArg q.2.2 (nI_clamp (n := k) (Nat.lt_trans (m := 24) (by omega) (by decide)))) ?_
      refine lv_aload_n hx hb dgX5_strip_16 rfl (lv_at hl 0 rfl) ?_
      refine va_get (D := (dC, dI)) (ci := 8) (v := .int den) (C := RX5) (T := TX5) (N := 6) hx hb hts (fun _ h => List.mem_cons_of_mem _ (List.mem_append_left _ (List.mem_append_right _ h))) hown hK hP 0 rfl rfl 5 (by decide) (hts (.fieldLink RX5 45 "KnotHouse$Form" "delta" "I") (by decide +kernel)) (fun _ h9 => h9) rfl dgX5_strip_17 ?_
      rcases Decidable.em (q.2.2 k = den) with h1 | h1
      · rw [if_pos h1] at hl9
        refine lv_icmp_ne (tgt := 29) hx hb dgX5_strip_20 (by decide) (fun c9 => absurd c9 (not_not_intro h1)) (fun _ => ?_)
        refine lv_iinc (v := nI (k + 1)) (lv' := [(1, .int (nI (k + 1))), (0, .ref aO)]) hx hb dgX5_strip_23 hl (k := 1) rfl (nI_1 k) (by decide) rfl (fun ls hl => ?_)
        refine lv_goto (tgt := 2) hx hb dgX5_strip_26 (by decide) ?_
        exact ih (k + 1) (by omega) hl9 H locs ls hP hD hS (lv_sub hl [1, 0] rfl)
      · rw [if_neg h1] at hl9
        refine lv_icmp_ne (tgt := 29) hx hb dgX5_strip_20 (by decide) (fun _ => ?_) (fun c9 => absurd c9 (h1))
        refine K29 H locs ls hP hD hS ?_
        rw [hl9]
        exact (lv_sub hl [0, 1] rfl)
  refine lv_iconst (v := 0) hx hb dgX5_strip_0 (by decide) ?_
  refine ow_topi (y := nI 0) (by decide) ?_
  refine lv_istore_n (lv' := [(1, .int (nI 0)), (0, .ref aO)]) hx hb dgX5_strip_1 rfl hl (by decide) rfl (fun ls hl => ?_)
  exact L2 q.2.1 0 (by omega) rfl H locs ls hP hD hS (lv_sub hl [1, 0] rfl)
