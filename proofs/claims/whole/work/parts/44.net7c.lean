theorem ow_and1 {n : Nat} (h : n < 2 ^ 31) : nI n &&& 1 = nI (n % 2) := by
  rw [pk_and (nI n) 1 (by decide), pk_tn (by omega)]
theorem ow_shr1 {n : Nat} (h : n < 2 ^ 31) : nI n >>> (1 &&& 31) = nI (n / 2) := by
  apply Int32.toInt_inj.mp
  rw [pk_shr (nI n) (1 &&& 31) 1 (by decide), nI_toInt h, nI_toInt (by omega), Int.shiftRight_eq_div_pow]
  omega
/-- what turn does to the first n visits -/
def np_turn (t : Nat → Bool) (S : ow_NP) (G : Nat → Int32) : Nat → ow_NP × (Nat → Int32)
  | 0 => (S, G)
  | n + 1 => if t n then ((nu (np_turn t S G n).1.1 n ((np_turn t S G n).1.2 n), nu (np_turn t S G n).1.2 n ((np_turn t S G n).1.1 n)), su (np_turn t S G n).2 (n / 2) (-((np_turn t S G n).2 (n / 2)))) else np_turn t S G n
theorem np_turn_b24 {t : Nat → Bool} {S : ow_NP} {G : Nat → Int32} (h : ow_b24 S) : ∀ n, ow_b24 (np_turn t S G n).1 := by
  intro n
  induction n with
  | zero => exact h
  | succ n ih =>
    show ow_b24 (if t n then _ else _ : ow_NP × (Nat → Int32)).1
    split
    · constructor
      · intro k
        show (if k = n then (np_turn t S G n).1.2 n else (np_turn t S G n).1.1 k) < 24
        split
        · exact ih.2 n
        · exact ih.1 k
      · intro k
        show (if k = n then (np_turn t S G n).1.1 n else (np_turn t S G n).1.2 k) < 24
        split
        · exact ih.1 n
        · exact ih.2 k
    · exact ih
/-- a row with another's first n numbers behind its first o, all o greater -/
def np_app (N M : Nat → Nat) (o n : Nat) : Nat → Nat := fun k => if o ≤ k ∧ k < o + n then o + M (k - o) else N k
theorem np_app_0 (N M : Nat → Nat) (o : Nat) : np_app N M o 0 = N := by
  funext k
  exact if_neg (by omega)
theorem np_app_s (N M : Nat → Nat) (o n : Nat) : nu (np_app N M o n) (o + n) (o + M n) = np_app N M o (n + 1) := by
  funext k
  show (if k = o + n then o + M n else if o ≤ k ∧ k < o + n then o + M (k - o) else N k) = if o ≤ k ∧ k < o + (n + 1) then o + M (k - o) else N k
  by_cases h : k = o + n
  · rw [if_pos h, if_pos (by omega), h]
    congr 2
    omega
  · rw [if_neg h]
    by_cases h2 : o ≤ k ∧ k < o + n
    · rw [if_pos h2, if_pos (by omega)]
    · rw [if_neg h2, if_neg (by omega)]
theorem np_cpyI (N M : Nat → Nat) (a b n : Nat) : va_cpy (ow_nI N) (ow_nI M) a b n = ow_nI (va_cpy N M a b n) := by
  funext k
  show (if b ≤ k ∧ k < b + n then nI (N (a + (k - b))) else nI (M k)) = nI (if b ≤ k ∧ k < b + n then N (a + (k - b)) else M k)
  split <;> rfl
theorem dX7_alternates_0 : decode cX7_alternates 0 = .ok (.iconst 0, 1) := by decide +kernel
theorem dX7_alternates_1 : decode cX7_alternates 1 = .ok (.istore_n 1, 1) := by decide +kernel
theorem dX7_alternates_2 : decode cX7_alternates 2 = .ok (.iload_n 1, 1) := by decide +kernel
theorem dX7_alternates_3 : decode cX7_alternates 3 = .ok (.iconst 2, 1) := by decide +kernel
theorem dX7_alternates_4 : decode cX7_alternates 4 = .ok (.aload_n 0, 1) := by decide +kernel
theorem dX7_alternates_5 : decode cX7_alternates 5 = .ok (.getfield 39, 3) := by decide +kernel
theorem dX7_alternates_8 : decode cX7_alternates 8 = .ok (.imul, 1) := by decide +kernel
theorem dX7_alternates_9 : decode cX7_alternates 9 = .ok (.if_icmp .ge 25, 3) := by decide +kernel
theorem dX7_alternates_12 : decode cX7_alternates 12 = .ok (.iload_n 1, 1) := by decide +kernel
theorem dX7_alternates_13 : decode cX7_alternates 13 = .ok (.iconst 1, 1) := by decide +kernel
theorem dX7_alternates_14 : decode cX7_alternates 14 = .ok (.iand, 1) := by decide +kernel
theorem dX7_alternates_15 : decode cX7_alternates 15 = .ok (.aload_n 0, 1) := by decide +kernel
theorem dX7_alternates_16 : decode cX7_alternates 16 = .ok (.getfield 9, 3) := by decide +kernel
theorem dX7_alternates_19 : decode cX7_alternates 19 = .ok (.iload_n 1, 1) := by decide +kernel
theorem dX7_alternates_20 : decode cX7_alternates 20 = .ok (.iaload, 1) := by decide +kernel
theorem dX7_alternates_21 : decode cX7_alternates 21 = .ok (.iconst 1, 1) := by decide +kernel
theorem dX7_alternates_22 : decode cX7_alternates 22 = .ok (.iand, 1) := by decide +kernel
theorem dX7_alternates_23 : decode cX7_alternates 23 = .ok (.if_icmp .ne 5, 3) := by decide +kernel
theorem dX7_alternates_26 : decode cX7_alternates 26 = .ok (.iconst 0, 1) := by decide +kernel
theorem dX7_alternates_27 : decode cX7_alternates 27 = .ok (.ireturn, 1) := by decide +kernel
theorem dX7_alternates_28 : decode cX7_alternates 28 = .ok (.iinc 1 1, 3) := by decide +kernel
theorem dX7_alternates_31 : decode cX7_alternates 31 = .ok (.goto (-29), 3) := by decide +kernel
theorem dX7_alternates_34 : decode cX7_alternates 34 = .ok (.iconst 1, 1) := by decide +kernel
theorem dX7_alternates_35 : decode cX7_alternates 35 = .ok (.ireturn, 1) := by decide +kernel
def wg_X7_alternates : List Cond := .code yX7_alternates cX7_alternates 2 (some .boolean) :: ([.fieldLink RX7 39 "KnotHouse$Net" "crossings" "I", .fieldLink RX7 9 "KnotHouse$Net" "next" "[I"] ++ wsX70 ++ [])
set_option maxHeartbeats 4000000 in
set_option maxRecDepth 100000 in
theorem kg_X7_alternates (l : Launch) (dC : Nat → ClassId) (dI : Nat → Nat → Nat) (cI cB cJ cZ : ClassId) (aX : Nat) (nx : Nat → Nat) (x8 x9 x10 : Int32) (N : Nat → Nat) (hN : ∀ k, N k < 24) (cn : Nat) (hc : cn ≤ 12) : Met l yX7_alternates wg_X7_alternates (({ frames := 0, cells := 0, slots := 0, locals := 0 } : Room)) (va_Pc [.ref aX] (fun U => va_P (dC, dI) vwCl [(aX, .inr (10, [.ref (nx 0), .ref (nx 1), .ref (nx 2), .ref (nx 3), .ref (nx 4), .ref (nx 5), .ref (nx 6), .int (nI cn), .int x8, .int x9, .int x10])), ((nx 0), .inl (cI, 24, .inl (ow_nI N)))] U.heap ∧ va_K (dC, dI) vwCl [(cI, .int), (cB, .byte), (cJ, .long), (cZ, .boolean)] U)) (va_Qi (fun r (_ : Unit) => (r = 1 ∧ ∀ v, v < 2 * cn → v % 2 ≠ N v % 2) ∨ (r = 0 ∧ ∃ v, v < 2 * cn ∧ v % 2 = N v % 2)) (fun _ _ => True) (fun _ => False)) 0 0 (fun _ => False) := by
  refine Met.ofW (cc := cX7_alternates) (maxL := 2) (ret := (some .boolean)) (by decide) rfl ?_
  intro p e s m args below meth c s₁ B hml hv
  obtain ⟨rfl, hP, hK⟩ := hv
  have hx := B.exec
  have hb := B.bytes
  have hr := B.returns
  have hts := atoms_spec (ws := wg_X7_alternates) B.pre
  have hown : s.vm.findClass RX7 = some m.cls := findClass_of_methodNamed B.named
  have hlocks := B.notSynchronized
  have hS : va_S (fun _ => False) s.heap s.heap [] := va_S.rf
  have hP : va_P (dC, dI) vwCl [(aX, .inr (10, [.ref (nx 0), .ref (nx 1), .ref (nx 2), .ref (nx 3), .ref (nx 4), .ref (nx 5), .ref (nx 6), .int (nI cn), .int x8, .int x9, .int x10])), ((nx 0), .inl (cI, 24, .inl (ow_nI N)))] s.heap := hP
  have hl := lv_entry ([.ref aX]) (n := 2) (Nat.le_of_ble_eq_true rfl)
  rw [lg_entry_eq]
  generalize (lg_sl ([.ref aX]) ++ List.replicate (2 - (lg_sl ([.ref aX])).length) Slot.unset).toArray = ls at hl ⊢
  have hl : lv_has ls 2 [(0, .ref aX)] := hl
  refine ow_named (fun QQ hQQ => ?_)
  have L2 : ∀ (d i : Nat), i + d = 2 * cn → ∀ (ls : Array Slot), lv_has ls 2 [(0, .ref aX), (1, .int (nI i))] → (∀ v, v < i → v % 2 ≠ N v % 2) → W p l e ({ frames := 0, cells := 0, slots := 0, locals := 0 } : Room) s m ([.ref aX] : List Value).toArray below meth c s.heap [] 0 0 QQ (F0 m 2 ls []) := by
    intro d
    induction d with
    | zero =>
      intro i hi ls hl hno
      refine lv_iload_n hx hb dX7_alternates_2 rfl (lv_at hl 1 rfl) ?_
      refine lv_iconst (v := 2) hx hb dX7_alternates_3 (by decide) ?_
      refine lv_aload_n hx hb dX7_alternates_4 rfl (lv_at hl 0 rfl) ?_
      refine va_get (D := (dC, dI)) (ci := 10) (v := .int (nI cn)) (C := RX7) (T := TX7) (N := 11) hx hb hts (fun _ h => List.mem_cons_of_mem _ (List.mem_append_left _ (List.mem_append_right _ h))) hown hK hP 0 rfl rfl 7 (by decide) (hts (.fieldLink RX7 39 "KnotHouse$Net" "crossings" "I") (by decide +kernel)) (fun _ h9 => h9) rfl dX7_alternates_5 ?_
      refine lv_imul hx hb dX7_alternates_8 ?_
      refine ow_topi (y := nI (2 * cn)) (pk_mul 2 cn) ?_
      refine lv_icmp_ge (tgt := 34) hx hb dX7_alternates_9 (by decide) (fun _ => ?_) (fun c9 => absurd (nI_le (a := 2 * cn) (b := i) (by omega) (by omega)) c9)
      refine lv_iconst (v := 1) hx hb dX7_alternates_34 (by decide) ?_
      rw [hQQ]
      exact W.zret (v := 1) (ty := .boolean) hx hb hr rfl (fun t ht hW => ⟨⟨1, (), rfl, Or.inl ⟨rfl, fun v hv => hno v (by omega)⟩, trivial⟩, hS.F ht⟩) hS.2.2 dX7_alternates_35
    | succ d ih =>
      intro i hi ls hl hno
      refine lv_iload_n hx hb dX7_alternates_2 rfl (lv_at hl 1 rfl) ?_
      refine lv_iconst (v := 2) hx hb dX7_alternates_3 (by decide) ?_
      refine lv_aload_n hx hb dX7_alternates_4 rfl (lv_at hl 0 rfl) ?_
      refine va_get (D := (dC, dI)) (ci := 10) (v := .int (nI cn)) (C := RX7) (T := TX7) (N := 11) hx hb hts (fun _ h => List.mem_cons_of_mem _ (List.mem_append_left _ (List.mem_append_right _ h))) hown hK hP 0 rfl rfl 7 (by decide) (hts (.fieldLink RX7 39 "KnotHouse$Net" "crossings" "I") (by decide +kernel)) (fun _ h9 => h9) rfl dX7_alternates_5 ?_
      refine lv_imul hx hb dX7_alternates_8 ?_
      refine ow_topi (y := nI (2 * cn)) (pk_mul 2 cn) ?_
      refine lv_icmp_ge (tgt := 34) hx hb dX7_alternates_9 (by decide) (fun c9 => absurd c9 (nI_ge (a := i) (b := 2 * cn) (by omega) (by omega))) (fun _ => ?_)
      refine lv_iload_n hx hb dX7_alternates_12 rfl (lv_at hl 1 rfl) ?_
      refine lv_iconst (v := 1) hx hb dX7_alternates_13 (by decide) ?_
      refine lv_iand hx hb dX7_alternates_14 ?_
      refine ow_topi (y := nI (i % 2)) (ow_and1 (n := i) (by omega)) ?_
      refine lv_aload_n hx hb dX7_alternates_15 rfl (lv_at hl 0 rfl) ?_
      refine va_get (D := (dC, dI)) (ci := 10) (v := .ref (nx 0)) (C := RX7) (T := TX7) (N := 11) hx hb hts (fun _ h => List.mem_cons_of_mem _ (List.mem_append_left _ (List.mem_append_right _ h))) hown hK hP 0 rfl rfl 0 (by decide) (hts (.fieldLink RX7 9 "KnotHouse$Net" "next" "[I") (by decide +kernel)) (fun _ h9 => h9) rfl dX7_alternates_16 ?_
      refine lv_iload_n hx hb dX7_alternates_19 rfl (lv_at hl 1 rfl) ?_
      refine va_iald hx hb hK hP 1 0 rfl rfl (vp_in_nI (n := i) (N := 24) (by omega) (by decide)) dX7_alternates_20 ?_
      refine ow_topi (y := nI (N i)) (ow_nI_at N (Nat.lt_trans (m := 24) (by omega) (by decide))) ?_
      refine lv_iconst (v := 1) hx hb dX7_alternates_21 (by decide) ?_
      refine lv_iand hx hb dX7_alternates_22 ?_
      refine ow_topi (y := nI ((N i) % 2)) (ow_and1 (n := N i) (Nat.lt_trans (hN i) (by decide))) ?_
      refine lv_icmp_ne (tgt := 28) hx hb dX7_alternates_23 (by decide) (fun c1 => ?_) (fun c1 => ?_)
      · refine lv_iinc (v := nI (i + 1)) (lv' := [(1, .int (nI (i + 1))), (0, .ref aX)]) hx hb dX7_alternates_28 hl (k := 1) rfl (nI_1 i) (by decide) rfl (fun ls hl => ?_)
        refine lv_goto (tgt := 2) hx hb dX7_alternates_31 (by decide) ?_
        refine ih (i + 1) (by omega) ls (lv_sub hl [1, 0] rfl) (fun v hv => ?_)
        rcases Nat.lt_or_ge v i with q | q
        · exact hno v q
        · have e9 : v = i := by omega
          rw [e9]
          exact fun h9 => c1 (congrArg nI h9)
      · have heq : i % 2 = N i % 2 := ow_nI_inj (by omega) (by omega) c1
        refine lv_iconst (v := 0) hx hb dX7_alternates_26 (by decide) ?_
        rw [hQQ]
        exact W.zret (v := 0) (ty := .boolean) hx hb hr rfl (fun t ht hW => ⟨⟨0, (), rfl, Or.inr ⟨rfl, i, by omega, heq⟩, trivial⟩, hS.F ht⟩) hS.2.2 dX7_alternates_27
  refine lv_iconst (v := 0) hx hb dX7_alternates_0 (by decide) ?_
  refine ow_topi (y := nI 0) (by decide) ?_
  refine lv_istore_n (lv' := [(1, .int (nI 0)), (0, .ref aX)]) hx hb dX7_alternates_1 rfl hl (by decide) rfl (fun ls hl => ?_)
  exact L2 (2 * cn) 0 (by omega) ls (lv_sub hl [1, 0] rfl) (fun v hv => absurd hv (Nat.not_lt_zero v))
theorem dX7_turn_0 : decode cX7_turn 0 = .ok (.iconst 0, 1) := by decide +kernel
theorem dX7_turn_1 : decode cX7_turn 1 = .ok (.istore_n 2, 1) := by decide +kernel
theorem dX7_turn_2 : decode cX7_turn 2 = .ok (.iload_n 2, 1) := by decide +kernel
theorem dX7_turn_3 : decode cX7_turn 3 = .ok (.iconst 2, 1) := by decide +kernel
theorem dX7_turn_4 : decode cX7_turn 4 = .ok (.aload_n 0, 1) := by decide +kernel
theorem dX7_turn_5 : decode cX7_turn 5 = .ok (.getfield 39, 3) := by decide +kernel
theorem dX7_turn_8 : decode cX7_turn 8 = .ok (.imul, 1) := by decide +kernel
theorem dX7_turn_9 : decode cX7_turn 9 = .ok (.if_icmp .ge 67, 3) := by decide +kernel
theorem dX7_turn_12 : decode cX7_turn 12 = .ok (.iload_n 1, 1) := by decide +kernel
theorem dX7_turn_13 : decode cX7_turn 13 = .ok (.iconst (-1), 1) := by decide +kernel
theorem dX7_turn_14 : decode cX7_turn 14 = .ok (.if_icmp .eq 13, 3) := by decide +kernel
theorem dX7_turn_17 : decode cX7_turn 17 = .ok (.aload_n 0, 1) := by decide +kernel
theorem dX7_turn_18 : decode cX7_turn 18 = .ok (.getfield 24, 3) := by decide +kernel
theorem dX7_turn_21 : decode cX7_turn 21 = .ok (.iload_n 2, 1) := by decide +kernel
theorem dX7_turn_22 : decode cX7_turn 22 = .ok (.iaload, 1) := by decide +kernel
theorem dX7_turn_23 : decode cX7_turn 23 = .ok (.iload_n 1, 1) := by decide +kernel
theorem dX7_turn_24 : decode cX7_turn 24 = .ok (.if_icmp .ne 46, 3) := by decide +kernel
theorem dX7_turn_27 : decode cX7_turn 27 = .ok (.aload_n 0, 1) := by decide +kernel
theorem dX7_turn_28 : decode cX7_turn 28 = .ok (.getfield 9, 3) := by decide +kernel
theorem dX7_turn_31 : decode cX7_turn 31 = .ok (.iload_n 2, 1) := by decide +kernel
theorem dX7_turn_32 : decode cX7_turn 32 = .ok (.iaload, 1) := by decide +kernel
theorem dX7_turn_33 : decode cX7_turn 33 = .ok (.istore_n 3, 1) := by decide +kernel
theorem dX7_turn_34 : decode cX7_turn 34 = .ok (.aload_n 0, 1) := by decide +kernel
theorem dX7_turn_35 : decode cX7_turn 35 = .ok (.getfield 9, 3) := by decide +kernel
theorem dX7_turn_38 : decode cX7_turn 38 = .ok (.iload_n 2, 1) := by decide +kernel
theorem dX7_turn_39 : decode cX7_turn 39 = .ok (.aload_n 0, 1) := by decide +kernel
theorem dX7_turn_40 : decode cX7_turn 40 = .ok (.getfield 15, 3) := by decide +kernel
theorem dX7_turn_43 : decode cX7_turn 43 = .ok (.iload_n 2, 1) := by decide +kernel
theorem dX7_turn_44 : decode cX7_turn 44 = .ok (.iaload, 1) := by decide +kernel
theorem dX7_turn_45 : decode cX7_turn 45 = .ok (.iastore, 1) := by decide +kernel
theorem dX7_turn_46 : decode cX7_turn 46 = .ok (.aload_n 0, 1) := by decide +kernel
theorem dX7_turn_47 : decode cX7_turn 47 = .ok (.getfield 15, 3) := by decide +kernel
theorem dX7_turn_50 : decode cX7_turn 50 = .ok (.iload_n 2, 1) := by decide +kernel
theorem dX7_turn_51 : decode cX7_turn 51 = .ok (.iload_n 3, 1) := by decide +kernel
theorem dX7_turn_52 : decode cX7_turn 52 = .ok (.iastore, 1) := by decide +kernel
theorem dX7_turn_53 : decode cX7_turn 53 = .ok (.aload_n 0, 1) := by decide +kernel
theorem dX7_turn_54 : decode cX7_turn 54 = .ok (.getfield 18, 3) := by decide +kernel
theorem dX7_turn_57 : decode cX7_turn 57 = .ok (.iload_n 2, 1) := by decide +kernel
theorem dX7_turn_58 : decode cX7_turn 58 = .ok (.iconst 1, 1) := by decide +kernel
theorem dX7_turn_59 : decode cX7_turn 59 = .ok (.ishr, 1) := by decide +kernel
theorem dX7_turn_60 : decode cX7_turn 60 = .ok (.aload_n 0, 1) := by decide +kernel
theorem dX7_turn_61 : decode cX7_turn 61 = .ok (.getfield 18, 3) := by decide +kernel
theorem dX7_turn_64 : decode cX7_turn 64 = .ok (.iload_n 2, 1) := by decide +kernel
theorem dX7_turn_65 : decode cX7_turn 65 = .ok (.iconst 1, 1) := by decide +kernel
theorem dX7_turn_66 : decode cX7_turn 66 = .ok (.ishr, 1) := by decide +kernel
theorem dX7_turn_67 : decode cX7_turn 67 = .ok (.iaload, 1) := by decide +kernel
theorem dX7_turn_68 : decode cX7_turn 68 = .ok (.ineg, 1) := by decide +kernel
theorem dX7_turn_69 : decode cX7_turn 69 = .ok (.iastore, 1) := by decide +kernel
theorem dX7_turn_70 : decode cX7_turn 70 = .ok (.iinc 2 1, 3) := by decide +kernel
theorem dX7_turn_73 : decode cX7_turn 73 = .ok (.goto (-71), 3) := by decide +kernel
theorem dX7_turn_76 : decode cX7_turn 76 = .ok (.return_, 1) := by decide +kernel
def wg_X7_turn : List Cond := .code yX7_turn cX7_turn 4 none :: ([.fieldLink RX7 39 "KnotHouse$Net" "crossings" "I", .fieldLink RX7 24 "KnotHouse$Net" "component" "[I", .fieldLink RX7 9 "KnotHouse$Net" "next" "[I", .fieldLink RX7 15 "KnotHouse$Net" "prev" "[I", .fieldLink RX7 18 "KnotHouse$Net" "sign" "[I"] ++ wsX70 ++ [])
set_option maxHeartbeats 4000000 in
set_option maxRecDepth 100000 in
theorem kg_X7_turn (l : Launch) (dC : Nat → ClassId) (dI : Nat → Nat → Nat) (cI cB cJ cZ : ClassId) (aX : Nat) (nx : Nat → Nat) (x8 x9 x10 : Int32) (S : ow_NP) (G F : Nat → Int32) (k : Int32) (cn : Nat) (hc : cn ≤ 12) (sz : Nat) : Met l yX7_turn wg_X7_turn (({ frames := 0, cells := 0, slots := 0, locals := 0 } : Room)) (va_Pc [.ref aX, .int k] (fun U => U.heap.size = sz ∧ va_P (dC, dI) vwCl [(aX, .inr (10, [.ref (nx 0), .ref (nx 1), .ref (nx 2), .ref (nx 3), .ref (nx 4), .ref (nx 5), .ref (nx 6), .int (nI cn), .int x8, .int x9, .int x10])), ((nx 0), .inl (cI, 24, .inl (ow_nI S.1))), ((nx 1), .inl (cI, 24, .inl (ow_nI S.2))), ((nx 2), .inl (cI, 12, .inl G)), ((nx 4), .inl (cI, 24, .inl F))] U.heap ∧ va_K (dC, dI) vwCl [(cI, .int), (cB, .byte), (cJ, .long), (cZ, .boolean)] U ∧ va_D (fun _ => True) [(aX, .inr (10, [.ref (nx 0), .ref (nx 1), .ref (nx 2), .ref (nx 3), .ref (nx 4), .ref (nx 5), .ref (nx 6), .int (nI cn), .int x8, .int x9, .int x10])), ((nx 0), .inl (cI, 24, .inl (ow_nI S.1))), ((nx 1), .inl (cI, 24, .inl (ow_nI S.2))), ((nx 2), .inl (cI, 12, .inl G)), ((nx 4), .inl (cI, 24, .inl F))])) (va_Qv (fun (g : Unit) => True) (fun g t => va_P (dC, dI) vwCl [(aX, .inr (10, [.ref (nx 0), .ref (nx 1), .ref (nx 2), .ref (nx 3), .ref (nx 4), .ref (nx 5), .ref (nx 6), .int (nI cn), .int x8, .int x9, .int x10])), ((nx 0), .inl (cI, 24, .inl (ow_nI (np_turn (fun v => decide (k = -1 ∨ F v = k)) S G (2 * cn)).1.1))), ((nx 1), .inl (cI, 24, .inl (ow_nI (np_turn (fun v => decide (k = -1 ∨ F v = k)) S G (2 * cn)).1.2))), ((nx 2), .inl (cI, 12, .inl ((np_turn (fun v => decide (k = -1 ∨ F v = k)) S G (2 * cn)).2))), ((nx 4), .inl (cI, 24, .inl F))] t.heap ∧ va_D (va_A [(aX, .inr (10, [.ref (nx 0), .ref (nx 1), .ref (nx 2), .ref (nx 3), .ref (nx 4), .ref (nx 5), .ref (nx 6), .int (nI cn), .int x8, .int x9, .int x10])), ((nx 0), .inl (cI, 24, .inl (ow_nI S.1))), ((nx 1), .inl (cI, 24, .inl (ow_nI S.2))), ((nx 2), .inl (cI, 12, .inl G)), ((nx 4), .inl (cI, 24, .inl F))] sz) [(aX, .inr (10, [.ref (nx 0), .ref (nx 1), .ref (nx 2), .ref (nx 3), .ref (nx 4), .ref (nx 5), .ref (nx 6), .int (nI cn), .int x8, .int x9, .int x10])), ((nx 0), .inl (cI, 24, .inl (ow_nI (np_turn (fun v => decide (k = -1 ∨ F v = k)) S G (2 * cn)).1.1))), ((nx 1), .inl (cI, 24, .inl (ow_nI (np_turn (fun v => decide (k = -1 ∨ F v = k)) S G (2 * cn)).1.2))), ((nx 2), .inl (cI, 12, .inl ((np_turn (fun v => decide (k = -1 ∨ F v = k)) S G (2 * cn)).2))), ((nx 4), .inl (cI, 24, .inl F))]) (va_A [(aX, .inr (10, [.ref (nx 0), .ref (nx 1), .ref (nx 2), .ref (nx 3), .ref (nx 4), .ref (nx 5), .ref (nx 6), .int (nI cn), .int x8, .int x9, .int x10])), ((nx 0), .inl (cI, 24, .inl (ow_nI S.1))), ((nx 1), .inl (cI, 24, .inl (ow_nI S.2))), ((nx 2), .inl (cI, 12, .inl G)), ((nx 4), .inl (cI, 24, .inl F))] sz)) 0 0 (va_A [(aX, .inr (10, [.ref (nx 0), .ref (nx 1), .ref (nx 2), .ref (nx 3), .ref (nx 4), .ref (nx 5), .ref (nx 6), .int (nI cn), .int x8, .int x9, .int x10])), ((nx 0), .inl (cI, 24, .inl (ow_nI S.1))), ((nx 1), .inl (cI, 24, .inl (ow_nI S.2))), ((nx 2), .inl (cI, 12, .inl G)), ((nx 4), .inl (cI, 24, .inl F))] sz) := by
  refine Met.ofW (cc := cX7_turn) (maxL := 4) (ret := none) (by decide) rfl ?_
  intro p e s m args below meth c s₁ B hml hv
  obtain ⟨rfl, hsz, hP, hK, hD0⟩ := hv
  have hx := B.exec
  have hb := B.bytes
  have hr := B.returns
  have hts := atoms_spec (ws := wg_X7_turn) B.pre
  have hown : s.vm.findClass RX7 = some m.cls := findClass_of_methodNamed B.named
  have hlocks := B.notSynchronized
  subst hsz
  have hD := hD0.self (sz := s.heap.size)
  generalize hAe : va_A [(aX, .inr (10, [.ref (nx 0), .ref (nx 1), .ref (nx 2), .ref (nx 3), .ref (nx 4), .ref (nx 5), .ref (nx 6), .int (nI cn), .int x8, .int x9, .int x10])), ((nx 0), .inl (cI, 24, .inl (ow_nI S.1))), ((nx 1), .inl (cI, 24, .inl (ow_nI S.2))), ((nx 2), .inl (cI, 12, .inl G)), ((nx 4), .inl (cI, 24, .inl F))] s.heap.size = A at hD ⊢
  have hA : ∀ q : Nat, s.heap.size ≤ q → A q := fun q h => by rw [← hAe]; exact Or.inr h
  have hS : va_S A s.heap s.heap [] := va_S.rf
  have hP : va_P (dC, dI) vwCl [(aX, .inr (10, [.ref (nx 0), .ref (nx 1), .ref (nx 2), .ref (nx 3), .ref (nx 4), .ref (nx 5), .ref (nx 6), .int (nI cn), .int x8, .int x9, .int x10])), ((nx 0), .inl (cI, 24, .inl (ow_nI S.1))), ((nx 1), .inl (cI, 24, .inl (ow_nI S.2))), ((nx 2), .inl (cI, 12, .inl G)), ((nx 4), .inl (cI, 24, .inl F))] s.heap := hP
  have hl := lv_entry ([.ref aX, .int k]) (n := 4) (Nat.le_of_ble_eq_true rfl)
  rw [lg_entry_eq]
  generalize (lg_sl ([.ref aX, .int k]) ++ List.replicate (4 - (lg_sl ([.ref aX, .int k])).length) Slot.unset).toArray = ls at hl ⊢
  have hl : lv_has ls 4 [(0, .ref aX), (1, .int k)] := hl
  refine ow_named (fun QQ hQQ => ?_)
  suffices key9 : ∀ (H : Heap) (locs : List Loc), va_P (dC, dI) vwCl [(aX, .inr (10, [.ref (nx 0), .ref (nx 1), .ref (nx 2), .ref (nx 3), .ref (nx 4), .ref (nx 5), .ref (nx 6), .int (nI cn), .int x8, .int x9, .int x10])), ((nx 0), .inl (cI, 24, .inl (ow_nI S.1))), ((nx 1), .inl (cI, 24, .inl (ow_nI S.2))), ((nx 2), .inl (cI, 12, .inl G)), ((nx 4), .inl (cI, 24, .inl F))] H → va_S A s.heap H locs → W p l e ({ frames := 0, cells := 0, slots := 0, locals := 0 } : Room) s m ([.ref aX, .int k] : List Value).toArray below meth c H locs 0 0 QQ (F0 m 0 ls []) from key9 s.heap [] hP hS
  intro H locs hP hS
  have L2 : ∀ (d i : Nat), i + d = 2 * cn → ∀ (H : Heap) (locs : List Loc) (ls : Array Slot), va_P (dC, dI) vwCl [(aX, .inr (10, [.ref (nx 0), .ref (nx 1), .ref (nx 2), .ref (nx 3), .ref (nx 4), .ref (nx 5), .ref (nx 6), .int (nI cn), .int x8, .int x9, .int x10])), ((nx 0), .inl (cI, 24, .inl (ow_nI (np_turn (fun v => decide (k = -1 ∨ F v = k)) S G i).1.1))), ((nx 1), .inl (cI, 24, .inl (ow_nI (np_turn (fun v => decide (k = -1 ∨ F v = k)) S G i).1.2))), ((nx 2), .inl (cI, 12, .inl ((np_turn (fun v => decide (k = -1 ∨ F v = k)) S G i).2))), ((nx 4), .inl (cI, 24, .inl F))] H → va_D A [(aX, .inr (10, [.ref (nx 0), .ref (nx 1), .ref (nx 2), .ref (nx 3), .ref (nx 4), .ref (nx 5), .ref (nx 6), .int (nI cn), .int x8, .int x9, .int x10])), ((nx 0), .inl (cI, 24, .inl (ow_nI (np_turn (fun v => decide (k = -1 ∨ F v = k)) S G i).1.1))), ((nx 1), .inl (cI, 24, .inl (ow_nI (np_turn (fun v => decide (k = -1 ∨ F v = k)) S G i).1.2))), ((nx 2), .inl (cI, 12, .inl ((np_turn (fun v => decide (k = -1 ∨ F v = k)) S G i).2))), ((nx 4), .inl (cI, 24, .inl F))] → va_S A s.heap H locs → lv_has ls 4 [(0, .ref aX), (1, .int k), (2, .int (nI i))] → W p l e ({ frames := 0, cells := 0, slots := 0, locals := 0 } : Room) s m ([.ref aX, .int k] : List Value).toArray below meth c H locs 0 0 QQ (F0 m 2 ls []) := by
    intro d
    induction d with
    | zero =>
      intro i hi H locs ls hP hD hS hl 
      have hic : i = 2 * cn := by omega
      refine lv_iload_n hx hb dX7_turn_2 rfl (lv_at hl 2 rfl) ?_
      refine lv_iconst (v := 2) hx hb dX7_turn_3 (by decide) ?_
      refine lv_aload_n hx hb dX7_turn_4 rfl (lv_at hl 0 rfl) ?_
      refine va_get (D := (dC, dI)) (ci := 10) (v := .int (nI cn)) (C := RX7) (T := TX7) (N := 11) hx hb hts (fun _ h => List.mem_cons_of_mem _ (List.mem_append_left _ (List.mem_append_right _ h))) hown hK hP 0 rfl rfl 7 (by decide) (hts (.fieldLink RX7 39 "KnotHouse$Net" "crossings" "I") (by decide +kernel)) (fun _ h9 => h9) rfl dX7_turn_5 ?_
      refine lv_imul hx hb dX7_turn_8 ?_
      refine ow_topi (y := nI (2 * cn)) (pk_mul 2 cn) ?_
      refine lv_icmp_ge (tgt := 76) hx hb dX7_turn_9 (by decide) (fun _ => ?_) (fun c9 => absurd (nI_le (a := 2 * cn) (b := i) (by omega) (by omega)) c9)
      have hP : va_P (dC, dI) vwCl [(aX, .inr (10, [.ref (nx 0), .ref (nx 1), .ref (nx 2), .ref (nx 3), .ref (nx 4), .ref (nx 5), .ref (nx 6), .int (nI cn), .int x8, .int x9, .int x10])), ((nx 0), .inl (cI, 24, .inl (ow_nI (np_turn (fun v => decide (k = -1 ∨ F v = k)) S G (2 * cn)).1.1))), ((nx 1), .inl (cI, 24, .inl (ow_nI (np_turn (fun v => decide (k = -1 ∨ F v = k)) S G (2 * cn)).1.2))), ((nx 2), .inl (cI, 12, .inl ((np_turn (fun v => decide (k = -1 ∨ F v = k)) S G (2 * cn)).2))), ((nx 4), .inl (cI, 24, .inl F))] H := by rw [← hic]; exact hP
      have hD : va_D A [(aX, .inr (10, [.ref (nx 0), .ref (nx 1), .ref (nx 2), .ref (nx 3), .ref (nx 4), .ref (nx 5), .ref (nx 6), .int (nI cn), .int x8, .int x9, .int x10])), ((nx 0), .inl (cI, 24, .inl (ow_nI (np_turn (fun v => decide (k = -1 ∨ F v = k)) S G (2 * cn)).1.1))), ((nx 1), .inl (cI, 24, .inl (ow_nI (np_turn (fun v => decide (k = -1 ∨ F v = k)) S G (2 * cn)).1.2))), ((nx 2), .inl (cI, 12, .inl ((np_turn (fun v => decide (k = -1 ∨ F v = k)) S G (2 * cn)).2))), ((nx 4), .inl (cI, 24, .inl F))] := by rw [← hic]; exact hD
      rw [hQQ]
      exact W.vret hx hb hr (fun t ht hW => ⟨⟨(), rfl, trivial, by rw [ht]; exact hP, hD⟩, hS.F ht⟩) hS.2.2 dX7_turn_76
    | succ d ih =>
      intro i hi H locs ls hP hD hS hl 
      refine lv_iload_n hx hb dX7_turn_2 rfl (lv_at hl 2 rfl) ?_
      refine lv_iconst (v := 2) hx hb dX7_turn_3 (by decide) ?_
      refine lv_aload_n hx hb dX7_turn_4 rfl (lv_at hl 0 rfl) ?_
      refine va_get (D := (dC, dI)) (ci := 10) (v := .int (nI cn)) (C := RX7) (T := TX7) (N := 11) hx hb hts (fun _ h => List.mem_cons_of_mem _ (List.mem_append_left _ (List.mem_append_right _ h))) hown hK hP 0 rfl rfl 7 (by decide) (hts (.fieldLink RX7 39 "KnotHouse$Net" "crossings" "I") (by decide +kernel)) (fun _ h9 => h9) rfl dX7_turn_5 ?_
      refine lv_imul hx hb dX7_turn_8 ?_
      refine ow_topi (y := nI (2 * cn)) (pk_mul 2 cn) ?_
      refine lv_icmp_ge (tgt := 76) hx hb dX7_turn_9 (by decide) (fun c9 => absurd c9 (nI_ge (a := i) (b := 2 * cn) (by omega) (by omega))) (fun _ => ?_)
      refine lv_iload_n hx hb dX7_turn_12 rfl (lv_at hl 1 rfl) ?_
      refine lv_iconst (v := (-1)) hx hb dX7_turn_13 (by decide) ?_
      refine lv_icmp_eq (tgt := 27) hx hb dX7_turn_14 (by decide) (fun c1 => ?_) (fun c1 => ?_)
      · refine lv_aload_n hx hb dX7_turn_27 rfl (lv_at hl 0 rfl) ?_
        refine va_get (D := (dC, dI)) (ci := 10) (v := .ref (nx 0)) (C := RX7) (T := TX7) (N := 11) hx hb hts (fun _ h => List.mem_cons_of_mem _ (List.mem_append_left _ (List.mem_append_right _ h))) hown hK hP 0 rfl rfl 0 (by decide) (hts (.fieldLink RX7 9 "KnotHouse$Net" "next" "[I") (by decide +kernel)) (fun _ h9 => h9) rfl dX7_turn_28 ?_
        refine lv_iload_n hx hb dX7_turn_31 rfl (lv_at hl 2 rfl) ?_
        refine va_iald hx hb hK hP 1 0 rfl rfl (vp_in_nI (n := i) (N := 24) (by omega) (by decide)) dX7_turn_32 ?_
        refine ow_topi (y := nI ((np_turn (fun v => decide (k = -1 ∨ F v = k)) S G i).1.1 i)) (ow_nI_at (np_turn (fun v => decide (k = -1 ∨ F v = k)) S G i).1.1 (Nat.lt_trans (m := 24) (by omega) (by decide))) ?_
        refine lv_istore_n (lv' := [(3, .int (nI ((np_turn (fun v => decide (k = -1 ∨ F v = k)) S G i).1.1 i))), (0, .ref aX), (1, .int k), (2, .int (nI i))]) hx hb dX7_turn_33 rfl hl (by decide) rfl (fun ls hl => ?_)
        refine lv_aload_n hx hb dX7_turn_34 rfl (lv_at hl 1 rfl) ?_
        refine va_get (D := (dC, dI)) (ci := 10) (v := .ref (nx 0)) (C := RX7) (T := TX7) (N := 11) hx hb hts (fun _ h => List.mem_cons_of_mem _ (List.mem_append_left _ (List.mem_append_right _ h))) hown hK hP 0 rfl rfl 0 (by decide) (hts (.fieldLink RX7 9 "KnotHouse$Net" "next" "[I") (by decide +kernel)) (fun _ h9 => h9) rfl dX7_turn_35 ?_
        refine lv_iload_n hx hb dX7_turn_38 rfl (lv_at hl 3 rfl) ?_
        refine lv_aload_n hx hb dX7_turn_39 rfl (lv_at hl 1 rfl) ?_
        refine va_get (D := (dC, dI)) (ci := 10) (v := .ref (nx 1)) (C := RX7) (T := TX7) (N := 11) hx hb hts (fun _ h => List.mem_cons_of_mem _ (List.mem_append_left _ (List.mem_append_right _ h))) hown hK hP 0 rfl rfl 1 (by decide) (hts (.fieldLink RX7 15 "KnotHouse$Net" "prev" "[I") (by decide +kernel)) (fun _ h9 => h9) rfl dX7_turn_40 ?_
        refine lv_iload_n hx hb dX7_turn_43 rfl (lv_at hl 3 rfl) ?_
        refine va_iald hx hb hK hP 2 0 rfl rfl (vp_in_nI (n := i) (N := 24) (by omega) (by decide)) dX7_turn_44 ?_
        refine ow_topi (y := nI ((np_turn (fun v => decide (k = -1 ∨ F v = k)) S G i).1.2 i)) (ow_nI_at (np_turn (fun v => decide (k = -1 ∨ F v = k)) S G i).1.2 (Nat.lt_trans (m := 24) (by omega) (by decide))) ?_
        refine ow_iastN (j := i) (w := (np_turn (fun v => decide (k = -1 ∨ F v = k)) S G i).1.2 i) hx hb hK hP hD hS 1 0 rfl rfl (by omega) (by decide) dX7_turn_45 (fun H locs hP hD hS => ?_)
        have hP : va_P (dC, dI) vwCl [(aX, .inr (10, [.ref (nx 0), .ref (nx 1), .ref (nx 2), .ref (nx 3), .ref (nx 4), .ref (nx 5), .ref (nx 6), .int (nI cn), .int x8, .int x9, .int x10])), ((nx 0), .inl (cI, 24, .inl (ow_nI (nu (np_turn (fun v => decide (k = -1 ∨ F v = k)) S G i).1.1 i ((np_turn (fun v => decide (k = -1 ∨ F v = k)) S G i).1.2 i))))), ((nx 1), .inl (cI, 24, .inl (ow_nI (np_turn (fun v => decide (k = -1 ∨ F v = k)) S G i).1.2))), ((nx 2), .inl (cI, 12, .inl ((np_turn (fun v => decide (k = -1 ∨ F v = k)) S G i).2))), ((nx 4), .inl (cI, 24, .inl F))] H := hP
        have hD : va_D A [(aX, .inr (10, [.ref (nx 0), .ref (nx 1), .ref (nx 2), .ref (nx 3), .ref (nx 4), .ref (nx 5), .ref (nx 6), .int (nI cn), .int x8, .int x9, .int x10])), ((nx 0), .inl (cI, 24, .inl (ow_nI (nu (np_turn (fun v => decide (k = -1 ∨ F v = k)) S G i).1.1 i ((np_turn (fun v => decide (k = -1 ∨ F v = k)) S G i).1.2 i))))), ((nx 1), .inl (cI, 24, .inl (ow_nI (np_turn (fun v => decide (k = -1 ∨ F v = k)) S G i).1.2))), ((nx 2), .inl (cI, 12, .inl ((np_turn (fun v => decide (k = -1 ∨ F v = k)) S G i).2))), ((nx 4), .inl (cI, 24, .inl F))] := hD
        refine lv_aload_n hx hb dX7_turn_46 rfl (lv_at hl 1 rfl) ?_
        refine va_get (D := (dC, dI)) (ci := 10) (v := .ref (nx 1)) (C := RX7) (T := TX7) (N := 11) hx hb hts (fun _ h => List.mem_cons_of_mem _ (List.mem_append_left _ (List.mem_append_right _ h))) hown hK hP 0 rfl rfl 1 (by decide) (hts (.fieldLink RX7 15 "KnotHouse$Net" "prev" "[I") (by decide +kernel)) (fun _ h9 => h9) rfl dX7_turn_47 ?_
        refine lv_iload_n hx hb dX7_turn_50 rfl (lv_at hl 3 rfl) ?_
        refine lv_iload_n hx hb dX7_turn_51 rfl (lv_at hl 0 rfl) ?_
        refine ow_iastN (j := i) (w := (np_turn (fun v => decide (k = -1 ∨ F v = k)) S G i).1.1 i) hx hb hK hP hD hS 2 0 rfl rfl (by omega) (by decide) dX7_turn_52 (fun H locs hP hD hS => ?_)
        have hP : va_P (dC, dI) vwCl [(aX, .inr (10, [.ref (nx 0), .ref (nx 1), .ref (nx 2), .ref (nx 3), .ref (nx 4), .ref (nx 5), .ref (nx 6), .int (nI cn), .int x8, .int x9, .int x10])), ((nx 0), .inl (cI, 24, .inl (ow_nI (nu (np_turn (fun v => decide (k = -1 ∨ F v = k)) S G i).1.1 i ((np_turn (fun v => decide (k = -1 ∨ F v = k)) S G i).1.2 i))))), ((nx 1), .inl (cI, 24, .inl (ow_nI (nu (np_turn (fun v => decide (k = -1 ∨ F v = k)) S G i).1.2 i ((np_turn (fun v => decide (k = -1 ∨ F v = k)) S G i).1.1 i))))), ((nx 2), .inl (cI, 12, .inl ((np_turn (fun v => decide (k = -1 ∨ F v = k)) S G i).2))), ((nx 4), .inl (cI, 24, .inl F))] H := hP
        have hD : va_D A [(aX, .inr (10, [.ref (nx 0), .ref (nx 1), .ref (nx 2), .ref (nx 3), .ref (nx 4), .ref (nx 5), .ref (nx 6), .int (nI cn), .int x8, .int x9, .int x10])), ((nx 0), .inl (cI, 24, .inl (ow_nI (nu (np_turn (fun v => decide (k = -1 ∨ F v = k)) S G i).1.1 i ((np_turn (fun v => decide (k = -1 ∨ F v = k)) S G i).1.2 i))))), ((nx 1), .inl (cI, 24, .inl (ow_nI (nu (np_turn (fun v => decide (k = -1 ∨ F v = k)) S G i).1.2 i ((np_turn (fun v => decide (k = -1 ∨ F v = k)) S G i).1.1 i))))), ((nx 2), .inl (cI, 12, .inl ((np_turn (fun v => decide (k = -1 ∨ F v = k)) S G i).2))), ((nx 4), .inl (cI, 24, .inl F))] := hD
        refine lv_aload_n hx hb dX7_turn_53 rfl (lv_at hl 1 rfl) ?_
        refine va_get (D := (dC, dI)) (ci := 10) (v := .ref (nx 2)) (C := RX7) (T := TX7) (N := 11) hx hb hts (fun _ h => List.mem_cons_of_mem _ (List.mem_append_left _ (List.mem_append_right _ h))) hown hK hP 0 rfl rfl 2 (by decide) (hts (.fieldLink RX7 18 "KnotHouse$Net" "sign" "[I") (by decide +kernel)) (fun _ h9 => h9) rfl dX7_turn_54 ?_
        refine lv_iload_n hx hb dX7_turn_57 rfl (lv_at hl 3 rfl) ?_
        refine lv_iconst (v := 1) hx hb dX7_turn_58 (by decide) ?_
        refine lv_ishr hx hb dX7_turn_59 ?_
        refine ow_topi (y := nI (i / 2)) (ow_shr1 (n := i) (by omega)) ?_
        refine lv_aload_n hx hb dX7_turn_60 rfl (lv_at hl 1 rfl) ?_
        refine va_get (D := (dC, dI)) (ci := 10) (v := .ref (nx 2)) (C := RX7) (T := TX7) (N := 11) hx hb hts (fun _ h => List.mem_cons_of_mem _ (List.mem_append_left _ (List.mem_append_right _ h))) hown hK hP 0 rfl rfl 2 (by decide) (hts (.fieldLink RX7 18 "KnotHouse$Net" "sign" "[I") (by decide +kernel)) (fun _ h9 => h9) rfl dX7_turn_61 ?_
        refine lv_iload_n hx hb dX7_turn_64 rfl (lv_at hl 3 rfl) ?_
        refine lv_iconst (v := 1) hx hb dX7_turn_65 (by decide) ?_
        refine lv_ishr hx hb dX7_turn_66 ?_
        refine ow_topi (y := nI (i / 2)) (ow_shr1 (n := i) (by omega)) ?_
        refine va_iald hx hb hK hP 3 0 rfl rfl (vp_in_nI (n := i / 2) (N := 12) (by omega) (by decide)) dX7_turn_67 ?_
        refine ow_topi (y := ((np_turn (fun v => decide (k = -1 ∨ F v = k)) S G i).2) (i / 2)) (congrArg ((np_turn (fun v => decide (k = -1 ∨ F v = k)) S G i).2) (nI_clamp (n := i / 2) (Nat.lt_trans (m := 12) (by omega) (by decide)))) ?_
        refine lv_ineg hx hb dX7_turn_68 ?_
        refine ow_iastF (j := i / 2) (x := -((np_turn (fun v => decide (k = -1 ∨ F v = k)) S G i).2 (i / 2))) hx hb hK hP hD hS 3 0 rfl rfl (by omega) (by decide) dX7_turn_69 (fun H locs hP hD hS => ?_)
        have hP : va_P (dC, dI) vwCl [(aX, .inr (10, [.ref (nx 0), .ref (nx 1), .ref (nx 2), .ref (nx 3), .ref (nx 4), .ref (nx 5), .ref (nx 6), .int (nI cn), .int x8, .int x9, .int x10])), ((nx 0), .inl (cI, 24, .inl (ow_nI (nu (np_turn (fun v => decide (k = -1 ∨ F v = k)) S G i).1.1 i ((np_turn (fun v => decide (k = -1 ∨ F v = k)) S G i).1.2 i))))), ((nx 1), .inl (cI, 24, .inl (ow_nI (nu (np_turn (fun v => decide (k = -1 ∨ F v = k)) S G i).1.2 i ((np_turn (fun v => decide (k = -1 ∨ F v = k)) S G i).1.1 i))))), ((nx 2), .inl (cI, 12, .inl (su ((np_turn (fun v => decide (k = -1 ∨ F v = k)) S G i).2) (i / 2) (-((np_turn (fun v => decide (k = -1 ∨ F v = k)) S G i).2 (i / 2)))))), ((nx 4), .inl (cI, 24, .inl F))] H := hP
        have hD : va_D A [(aX, .inr (10, [.ref (nx 0), .ref (nx 1), .ref (nx 2), .ref (nx 3), .ref (nx 4), .ref (nx 5), .ref (nx 6), .int (nI cn), .int x8, .int x9, .int x10])), ((nx 0), .inl (cI, 24, .inl (ow_nI (nu (np_turn (fun v => decide (k = -1 ∨ F v = k)) S G i).1.1 i ((np_turn (fun v => decide (k = -1 ∨ F v = k)) S G i).1.2 i))))), ((nx 1), .inl (cI, 24, .inl (ow_nI (nu (np_turn (fun v => decide (k = -1 ∨ F v = k)) S G i).1.2 i ((np_turn (fun v => decide (k = -1 ∨ F v = k)) S G i).1.1 i))))), ((nx 2), .inl (cI, 12, .inl (su ((np_turn (fun v => decide (k = -1 ∨ F v = k)) S G i).2) (i / 2) (-((np_turn (fun v => decide (k = -1 ∨ F v = k)) S G i).2 (i / 2)))))), ((nx 4), .inl (cI, 24, .inl F))] := hD
        have hP : va_P (dC, dI) vwCl [(aX, .inr (10, [.ref (nx 0), .ref (nx 1), .ref (nx 2), .ref (nx 3), .ref (nx 4), .ref (nx 5), .ref (nx 6), .int (nI cn), .int x8, .int x9, .int x10])), ((nx 0), .inl (cI, 24, .inl (ow_nI (np_turn (fun v => decide (k = -1 ∨ F v = k)) S G (i + 1)).1.1))), ((nx 1), .inl (cI, 24, .inl (ow_nI (np_turn (fun v => decide (k = -1 ∨ F v = k)) S G (i + 1)).1.2))), ((nx 2), .inl (cI, 12, .inl ((np_turn (fun v => decide (k = -1 ∨ F v = k)) S G (i + 1)).2))), ((nx 4), .inl (cI, 24, .inl F))] H := by rw [show np_turn (fun v => decide (k = -1 ∨ F v = k)) S G (i + 1) = _ from if_pos (decide_eq_true (Or.inl c1))]; exact hP
        have hD : va_D A [(aX, .inr (10, [.ref (nx 0), .ref (nx 1), .ref (nx 2), .ref (nx 3), .ref (nx 4), .ref (nx 5), .ref (nx 6), .int (nI cn), .int x8, .int x9, .int x10])), ((nx 0), .inl (cI, 24, .inl (ow_nI (np_turn (fun v => decide (k = -1 ∨ F v = k)) S G (i + 1)).1.1))), ((nx 1), .inl (cI, 24, .inl (ow_nI (np_turn (fun v => decide (k = -1 ∨ F v = k)) S G (i + 1)).1.2))), ((nx 2), .inl (cI, 12, .inl ((np_turn (fun v => decide (k = -1 ∨ F v = k)) S G (i + 1)).2))), ((nx 4), .inl (cI, 24, .inl F))] := by rw [show np_turn (fun v => decide (k = -1 ∨ F v = k)) S G (i + 1) = _ from if_pos (decide_eq_true (Or.inl c1))]; exact hD
        refine lv_iinc (v := nI (i + 1)) (lv' := [(2, .int (nI (i + 1))), (3, .int (nI ((np_turn (fun v => decide (k = -1 ∨ F v = k)) S G i).1.1 i))), (0, .ref aX), (1, .int k)]) hx hb dX7_turn_70 hl (k := 3) rfl (nI_1 i) (by decide) rfl (fun ls hl => ?_)
        refine lv_goto (tgt := 2) hx hb dX7_turn_73 (by decide) ?_
        exact ih (i + 1) (by omega) H locs ls hP hD hS (lv_sub hl [2, 3, 0] rfl)
      · refine lv_aload_n hx hb dX7_turn_17 rfl (lv_at hl 0 rfl) ?_
        refine va_get (D := (dC, dI)) (ci := 10) (v := .ref (nx 4)) (C := RX7) (T := TX7) (N := 11) hx hb hts (fun _ h => List.mem_cons_of_mem _ (List.mem_append_left _ (List.mem_append_right _ h))) hown hK hP 0 rfl rfl 4 (by decide) (hts (.fieldLink RX7 24 "KnotHouse$Net" "component" "[I") (by decide +kernel)) (fun _ h9 => h9) rfl dX7_turn_18 ?_
        refine lv_iload_n hx hb dX7_turn_21 rfl (lv_at hl 2 rfl) ?_
        refine va_iald hx hb hK hP 4 0 rfl rfl (vp_in_nI (n := i) (N := 24) (by omega) (by decide)) dX7_turn_22 ?_
        refine ow_topi (y := F i) (congrArg F (nI_clamp (n := i) (Nat.lt_trans (m := 24) (by omega) (by decide)))) ?_
        refine lv_iload_n hx hb dX7_turn_23 rfl (lv_at hl 1 rfl) ?_
        refine lv_icmp_ne (tgt := 70) hx hb dX7_turn_24 (by decide) (fun c2 => ?_) (fun c2 => ?_)
        · have hP : va_P (dC, dI) vwCl [(aX, .inr (10, [.ref (nx 0), .ref (nx 1), .ref (nx 2), .ref (nx 3), .ref (nx 4), .ref (nx 5), .ref (nx 6), .int (nI cn), .int x8, .int x9, .int x10])), ((nx 0), .inl (cI, 24, .inl (ow_nI (np_turn (fun v => decide (k = -1 ∨ F v = k)) S G (i + 1)).1.1))), ((nx 1), .inl (cI, 24, .inl (ow_nI (np_turn (fun v => decide (k = -1 ∨ F v = k)) S G (i + 1)).1.2))), ((nx 2), .inl (cI, 12, .inl ((np_turn (fun v => decide (k = -1 ∨ F v = k)) S G (i + 1)).2))), ((nx 4), .inl (cI, 24, .inl F))] H := by rw [show np_turn (fun v => decide (k = -1 ∨ F v = k)) S G (i + 1) = np_turn (fun v => decide (k = -1 ∨ F v = k)) S G i from if_neg (fun h9 => (of_decide_eq_true h9).elim c1 c2)]; exact hP
          have hD : va_D A [(aX, .inr (10, [.ref (nx 0), .ref (nx 1), .ref (nx 2), .ref (nx 3), .ref (nx 4), .ref (nx 5), .ref (nx 6), .int (nI cn), .int x8, .int x9, .int x10])), ((nx 0), .inl (cI, 24, .inl (ow_nI (np_turn (fun v => decide (k = -1 ∨ F v = k)) S G (i + 1)).1.1))), ((nx 1), .inl (cI, 24, .inl (ow_nI (np_turn (fun v => decide (k = -1 ∨ F v = k)) S G (i + 1)).1.2))), ((nx 2), .inl (cI, 12, .inl ((np_turn (fun v => decide (k = -1 ∨ F v = k)) S G (i + 1)).2))), ((nx 4), .inl (cI, 24, .inl F))] := by rw [show np_turn (fun v => decide (k = -1 ∨ F v = k)) S G (i + 1) = np_turn (fun v => decide (k = -1 ∨ F v = k)) S G i from if_neg (fun h9 => (of_decide_eq_true h9).elim c1 c2)]; exact hD
          refine lv_iinc (v := nI (i + 1)) (lv' := [(2, .int (nI (i + 1))), (0, .ref aX), (1, .int k)]) hx hb dX7_turn_70 hl (k := 2) rfl (nI_1 i) (by decide) rfl (fun ls hl => ?_)
          refine lv_goto (tgt := 2) hx hb dX7_turn_73 (by decide) ?_
          exact ih (i + 1) (by omega) H locs ls hP hD hS (lv_sub hl [1, 2, 0] rfl)
        · refine lv_aload_n hx hb dX7_turn_27 rfl (lv_at hl 0 rfl) ?_
          refine va_get (D := (dC, dI)) (ci := 10) (v := .ref (nx 0)) (C := RX7) (T := TX7) (N := 11) hx hb hts (fun _ h => List.mem_cons_of_mem _ (List.mem_append_left _ (List.mem_append_right _ h))) hown hK hP 0 rfl rfl 0 (by decide) (hts (.fieldLink RX7 9 "KnotHouse$Net" "next" "[I") (by decide +kernel)) (fun _ h9 => h9) rfl dX7_turn_28 ?_
          refine lv_iload_n hx hb dX7_turn_31 rfl (lv_at hl 2 rfl) ?_
          refine va_iald hx hb hK hP 1 0 rfl rfl (vp_in_nI (n := i) (N := 24) (by omega) (by decide)) dX7_turn_32 ?_
          refine ow_topi (y := nI ((np_turn (fun v => decide (k = -1 ∨ F v = k)) S G i).1.1 i)) (ow_nI_at (np_turn (fun v => decide (k = -1 ∨ F v = k)) S G i).1.1 (Nat.lt_trans (m := 24) (by omega) (by decide))) ?_
          refine lv_istore_n (lv' := [(3, .int (nI ((np_turn (fun v => decide (k = -1 ∨ F v = k)) S G i).1.1 i))), (0, .ref aX), (1, .int k), (2, .int (nI i))]) hx hb dX7_turn_33 rfl hl (by decide) rfl (fun ls hl => ?_)
          refine lv_aload_n hx hb dX7_turn_34 rfl (lv_at hl 1 rfl) ?_
          refine va_get (D := (dC, dI)) (ci := 10) (v := .ref (nx 0)) (C := RX7) (T := TX7) (N := 11) hx hb hts (fun _ h => List.mem_cons_of_mem _ (List.mem_append_left _ (List.mem_append_right _ h))) hown hK hP 0 rfl rfl 0 (by decide) (hts (.fieldLink RX7 9 "KnotHouse$Net" "next" "[I") (by decide +kernel)) (fun _ h9 => h9) rfl dX7_turn_35 ?_
          refine lv_iload_n hx hb dX7_turn_38 rfl (lv_at hl 3 rfl) ?_
          refine lv_aload_n hx hb dX7_turn_39 rfl (lv_at hl 1 rfl) ?_
          refine va_get (D := (dC, dI)) (ci := 10) (v := .ref (nx 1)) (C := RX7) (T := TX7) (N := 11) hx hb hts (fun _ h => List.mem_cons_of_mem _ (List.mem_append_left _ (List.mem_append_right _ h))) hown hK hP 0 rfl rfl 1 (by decide) (hts (.fieldLink RX7 15 "KnotHouse$Net" "prev" "[I") (by decide +kernel)) (fun _ h9 => h9) rfl dX7_turn_40 ?_
          refine lv_iload_n hx hb dX7_turn_43 rfl (lv_at hl 3 rfl) ?_
          refine va_iald hx hb hK hP 2 0 rfl rfl (vp_in_nI (n := i) (N := 24) (by omega) (by decide)) dX7_turn_44 ?_
          refine ow_topi (y := nI ((np_turn (fun v => decide (k = -1 ∨ F v = k)) S G i).1.2 i)) (ow_nI_at (np_turn (fun v => decide (k = -1 ∨ F v = k)) S G i).1.2 (Nat.lt_trans (m := 24) (by omega) (by decide))) ?_
          refine ow_iastN (j := i) (w := (np_turn (fun v => decide (k = -1 ∨ F v = k)) S G i).1.2 i) hx hb hK hP hD hS 1 0 rfl rfl (by omega) (by decide) dX7_turn_45 (fun H locs hP hD hS => ?_)
          have hP : va_P (dC, dI) vwCl [(aX, .inr (10, [.ref (nx 0), .ref (nx 1), .ref (nx 2), .ref (nx 3), .ref (nx 4), .ref (nx 5), .ref (nx 6), .int (nI cn), .int x8, .int x9, .int x10])), ((nx 0), .inl (cI, 24, .inl (ow_nI (nu (np_turn (fun v => decide (k = -1 ∨ F v = k)) S G i).1.1 i ((np_turn (fun v => decide (k = -1 ∨ F v = k)) S G i).1.2 i))))), ((nx 1), .inl (cI, 24, .inl (ow_nI (np_turn (fun v => decide (k = -1 ∨ F v = k)) S G i).1.2))), ((nx 2), .inl (cI, 12, .inl ((np_turn (fun v => decide (k = -1 ∨ F v = k)) S G i).2))), ((nx 4), .inl (cI, 24, .inl F))] H := hP
          have hD : va_D A [(aX, .inr (10, [.ref (nx 0), .ref (nx 1), .ref (nx 2), .ref (nx 3), .ref (nx 4), .ref (nx 5), .ref (nx 6), .int (nI cn), .int x8, .int x9, .int x10])), ((nx 0), .inl (cI, 24, .inl (ow_nI (nu (np_turn (fun v => decide (k = -1 ∨ F v = k)) S G i).1.1 i ((np_turn (fun v => decide (k = -1 ∨ F v = k)) S G i).1.2 i))))), ((nx 1), .inl (cI, 24, .inl (ow_nI (np_turn (fun v => decide (k = -1 ∨ F v = k)) S G i).1.2))), ((nx 2), .inl (cI, 12, .inl ((np_turn (fun v => decide (k = -1 ∨ F v = k)) S G i).2))), ((nx 4), .inl (cI, 24, .inl F))] := hD
          refine lv_aload_n hx hb dX7_turn_46 rfl (lv_at hl 1 rfl) ?_
          refine va_get (D := (dC, dI)) (ci := 10) (v := .ref (nx 1)) (C := RX7) (T := TX7) (N := 11) hx hb hts (fun _ h => List.mem_cons_of_mem _ (List.mem_append_left _ (List.mem_append_right _ h))) hown hK hP 0 rfl rfl 1 (by decide) (hts (.fieldLink RX7 15 "KnotHouse$Net" "prev" "[I") (by decide +kernel)) (fun _ h9 => h9) rfl dX7_turn_47 ?_
          refine lv_iload_n hx hb dX7_turn_50 rfl (lv_at hl 3 rfl) ?_
          refine lv_iload_n hx hb dX7_turn_51 rfl (lv_at hl 0 rfl) ?_
          refine ow_iastN (j := i) (w := (np_turn (fun v => decide (k = -1 ∨ F v = k)) S G i).1.1 i) hx hb hK hP hD hS 2 0 rfl rfl (by omega) (by decide) dX7_turn_52 (fun H locs hP hD hS => ?_)
          have hP : va_P (dC, dI) vwCl [(aX, .inr (10, [.ref (nx 0), .ref (nx 1), .ref (nx 2), .ref (nx 3), .ref (nx 4), .ref (nx 5), .ref (nx 6), .int (nI cn), .int x8, .int x9, .int x10])), ((nx 0), .inl (cI, 24, .inl (ow_nI (nu (np_turn (fun v => decide (k = -1 ∨ F v = k)) S G i).1.1 i ((np_turn (fun v => decide (k = -1 ∨ F v = k)) S G i).1.2 i))))), ((nx 1), .inl (cI, 24, .inl (ow_nI (nu (np_turn (fun v => decide (k = -1 ∨ F v = k)) S G i).1.2 i ((np_turn (fun v => decide (k = -1 ∨ F v = k)) S G i).1.1 i))))), ((nx 2), .inl (cI, 12, .inl ((np_turn (fun v => decide (k = -1 ∨ F v = k)) S G i).2))), ((nx 4), .inl (cI, 24, .inl F))] H := hP
          have hD : va_D A [(aX, .inr (10, [.ref (nx 0), .ref (nx 1), .ref (nx 2), .ref (nx 3), .ref (nx 4), .ref (nx 5), .ref (nx 6), .int (nI cn), .int x8, .int x9, .int x10])), ((nx 0), .inl (cI, 24, .inl (ow_nI (nu (np_turn (fun v => decide (k = -1 ∨ F v = k)) S G i).1.1 i ((np_turn (fun v => decide (k = -1 ∨ F v = k)) S G i).1.2 i))))), ((nx 1), .inl (cI, 24, .inl (ow_nI (nu (np_turn (fun v => decide (k = -1 ∨ F v = k)) S G i).1.2 i ((np_turn (fun v => decide (k = -1 ∨ F v = k)) S G i).1.1 i))))), ((nx 2), .inl (cI, 12, .inl ((np_turn (fun v => decide (k = -1 ∨ F v = k)) S G i).2))), ((nx 4), .inl (cI, 24, .inl F))] := hD
          refine lv_aload_n hx hb dX7_turn_53 rfl (lv_at hl 1 rfl) ?_
          refine va_get (D := (dC, dI)) (ci := 10) (v := .ref (nx 2)) (C := RX7) (T := TX7) (N := 11) hx hb hts (fun _ h => List.mem_cons_of_mem _ (List.mem_append_left _ (List.mem_append_right _ h))) hown hK hP 0 rfl rfl 2 (by decide) (hts (.fieldLink RX7 18 "KnotHouse$Net" "sign" "[I") (by decide +kernel)) (fun _ h9 => h9) rfl dX7_turn_54 ?_
          refine lv_iload_n hx hb dX7_turn_57 rfl (lv_at hl 3 rfl) ?_
          refine lv_iconst (v := 1) hx hb dX7_turn_58 (by decide) ?_
          refine lv_ishr hx hb dX7_turn_59 ?_
          refine ow_topi (y := nI (i / 2)) (ow_shr1 (n := i) (by omega)) ?_
          refine lv_aload_n hx hb dX7_turn_60 rfl (lv_at hl 1 rfl) ?_
          refine va_get (D := (dC, dI)) (ci := 10) (v := .ref (nx 2)) (C := RX7) (T := TX7) (N := 11) hx hb hts (fun _ h => List.mem_cons_of_mem _ (List.mem_append_left _ (List.mem_append_right _ h))) hown hK hP 0 rfl rfl 2 (by decide) (hts (.fieldLink RX7 18 "KnotHouse$Net" "sign" "[I") (by decide +kernel)) (fun _ h9 => h9) rfl dX7_turn_61 ?_
          refine lv_iload_n hx hb dX7_turn_64 rfl (lv_at hl 3 rfl) ?_
          refine lv_iconst (v := 1) hx hb dX7_turn_65 (by decide) ?_
          refine lv_ishr hx hb dX7_turn_66 ?_
          refine ow_topi (y := nI (i / 2)) (ow_shr1 (n := i) (by omega)) ?_
          refine va_iald hx hb hK hP 3 0 rfl rfl (vp_in_nI (n := i / 2) (N := 12) (by omega) (by decide)) dX7_turn_67 ?_
          refine ow_topi (y := ((np_turn (fun v => decide (k = -1 ∨ F v = k)) S G i).2) (i / 2)) (congrArg ((np_turn (fun v => decide (k = -1 ∨ F v = k)) S G i).2) (nI_clamp (n := i / 2) (Nat.lt_trans (m := 12) (by omega) (by decide)))) ?_
          refine lv_ineg hx hb dX7_turn_68 ?_
          refine ow_iastF (j := i / 2) (x := -((np_turn (fun v => decide (k = -1 ∨ F v = k)) S G i).2 (i / 2))) hx hb hK hP hD hS 3 0 rfl rfl (by omega) (by decide) dX7_turn_69 (fun H locs hP hD hS => ?_)
          have hP : va_P (dC, dI) vwCl [(aX, .inr (10, [.ref (nx 0), .ref (nx 1), .ref (nx 2), .ref (nx 3), .ref (nx 4), .ref (nx 5), .ref (nx 6), .int (nI cn), .int x8, .int x9, .int x10])), ((nx 0), .inl (cI, 24, .inl (ow_nI (nu (np_turn (fun v => decide (k = -1 ∨ F v = k)) S G i).1.1 i ((np_turn (fun v => decide (k = -1 ∨ F v = k)) S G i).1.2 i))))), ((nx 1), .inl (cI, 24, .inl (ow_nI (nu (np_turn (fun v => decide (k = -1 ∨ F v = k)) S G i).1.2 i ((np_turn (fun v => decide (k = -1 ∨ F v = k)) S G i).1.1 i))))), ((nx 2), .inl (cI, 12, .inl (su ((np_turn (fun v => decide (k = -1 ∨ F v = k)) S G i).2) (i / 2) (-((np_turn (fun v => decide (k = -1 ∨ F v = k)) S G i).2 (i / 2)))))), ((nx 4), .inl (cI, 24, .inl F))] H := hP
          have hD : va_D A [(aX, .inr (10, [.ref (nx 0), .ref (nx 1), .ref (nx 2), .ref (nx 3), .ref (nx 4), .ref (nx 5), .ref (nx 6), .int (nI cn), .int x8, .int x9, .int x10])), ((nx 0), .inl (cI, 24, .inl (ow_nI (nu (np_turn (fun v => decide (k = -1 ∨ F v = k)) S G i).1.1 i ((np_turn (fun v => decide (k = -1 ∨ F v = k)) S G i).1.2 i))))), ((nx 1), .inl (cI, 24, .inl (ow_nI (nu (np_turn (fun v => decide (k = -1 ∨ F v = k)) S G i).1.2 i ((np_turn (fun v => decide (k = -1 ∨ F v = k)) S G i).1.1 i))))), ((nx 2), .inl (cI, 12, .inl (su ((np_turn (fun v => decide (k = -1 ∨ F v = k)) S G i).2) (i / 2) (-((np_turn (fun v => decide (k = -1 ∨ F v = k)) S G i).2 (i / 2)))))), ((nx 4), .inl (cI, 24, .inl F))] := hD
          have hP : va_P (dC, dI) vwCl [(aX, .inr (10, [.ref (nx 0), .ref (nx 1), .ref (nx 2), .ref (nx 3), .ref (nx 4), .ref (nx 5), .ref (nx 6), .int (nI cn), .int x8, .int x9, .int x10])), ((nx 0), .inl (cI, 24, .inl (ow_nI (np_turn (fun v => decide (k = -1 ∨ F v = k)) S G (i + 1)).1.1))), ((nx 1), .inl (cI, 24, .inl (ow_nI (np_turn (fun v => decide (k = -1 ∨ F v = k)) S G (i + 1)).1.2))), ((nx 2), .inl (cI, 12, .inl ((np_turn (fun v => decide (k = -1 ∨ F v = k)) S G (i + 1)).2))), ((nx 4), .inl (cI, 24, .inl F))] H := by rw [show np_turn (fun v => decide (k = -1 ∨ F v = k)) S G (i + 1) = _ from if_pos (decide_eq_true (Or.inr c2))]; exact hP
          have hD : va_D A [(aX, .inr (10, [.ref (nx 0), .ref (nx 1), .ref (nx 2), .ref (nx 3), .ref (nx 4), .ref (nx 5), .ref (nx 6), .int (nI cn), .int x8, .int x9, .int x10])), ((nx 0), .inl (cI, 24, .inl (ow_nI (np_turn (fun v => decide (k = -1 ∨ F v = k)) S G (i + 1)).1.1))), ((nx 1), .inl (cI, 24, .inl (ow_nI (np_turn (fun v => decide (k = -1 ∨ F v = k)) S G (i + 1)).1.2))), ((nx 2), .inl (cI, 12, .inl ((np_turn (fun v => decide (k = -1 ∨ F v = k)) S G (i + 1)).2))), ((nx 4), .inl (cI, 24, .inl F))] := by rw [show np_turn (fun v => decide (k = -1 ∨ F v = k)) S G (i + 1) = _ from if_pos (decide_eq_true (Or.inr c2))]; exact hD
          refine lv_iinc (v := nI (i + 1)) (lv' := [(2, .int (nI (i + 1))), (3, .int (nI ((np_turn (fun v => decide (k = -1 ∨ F v = k)) S G i).1.1 i))), (0, .ref aX), (1, .int k)]) hx hb dX7_turn_70 hl (k := 3) rfl (nI_1 i) (by decide) rfl (fun ls hl => ?_)
          refine lv_goto (tgt := 2) hx hb dX7_turn_73 (by decide) ?_
          exact ih (i + 1) (by omega) H locs ls hP hD hS (lv_sub hl [2, 3, 0] rfl)
  refine lv_iconst (v := 0) hx hb dX7_turn_0 (by decide) ?_
  refine ow_topi (y := nI 0) (by decide) ?_
  refine lv_istore_n (lv' := [(2, .int (nI 0)), (0, .ref aX), (1, .int k)]) hx hb dX7_turn_1 rfl hl (by decide) rfl (fun ls hl => ?_)
  exact L2 (2 * cn) 0 (by omega) H locs ls hP hD hS (lv_sub hl [1, 2, 0] rfl)
