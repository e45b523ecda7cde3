/-! primes by trial, powers by squaring -/
def pr_run (n : Nat) : Nat → Nat → Bool
  | 0, _ => true
  | d + 1, i => if n < i * i then true else if n % i = 0 then false else pr_run n d (i + 1)
def rp_run (p9 : Nat) : Nat → Nat → Nat → Nat → Nat
  | 0, _, r, _ => r
  | d + 1, h, r, q => if h = 0 then r else rp_run p9 d (h / 2) (if h % 2 = 1 then r * q % p9 else r) (q * q % p9)
theorem dgX11_isPrime_0 : decode cX11_isPrime 0 = .ok (.iconst 2, 1) := by decide +kernel
theorem dgX11_isPrime_1 : decode cX11_isPrime 1 = .ok (.istore_n 1, 1) := by decide +kernel
theorem dgX11_isPrime_2 : decode cX11_isPrime 2 = .ok (.iload_n 1, 1) := by decide +kernel
theorem dgX11_isPrime_3 : decode cX11_isPrime 3 = .ok (.iload_n 1, 1) := by decide +kernel
theorem dgX11_isPrime_4 : decode cX11_isPrime 4 = .ok (.imul, 1) := by decide +kernel
theorem dgX11_isPrime_5 : decode cX11_isPrime 5 = .ok (.iload_n 0, 1) := by decide +kernel
theorem dgX11_isPrime_6 : decode cX11_isPrime 6 = .ok (.if_icmp .gt 17, 3) := by decide +kernel
theorem dgX11_isPrime_9 : decode cX11_isPrime 9 = .ok (.iload_n 0, 1) := by decide +kernel
theorem dgX11_isPrime_10 : decode cX11_isPrime 10 = .ok (.iload_n 1, 1) := by decide +kernel
theorem dgX11_isPrime_11 : decode cX11_isPrime 11 = .ok (.irem, 1) := by decide +kernel
theorem dgX11_isPrime_12 : decode cX11_isPrime 12 = .ok (.ifCond .ne 5, 3) := by decide +kernel
theorem dgX11_isPrime_15 : decode cX11_isPrime 15 = .ok (.iconst 0, 1) := by decide +kernel
theorem dgX11_isPrime_16 : decode cX11_isPrime 16 = .ok (.ireturn, 1) := by decide +kernel
theorem dgX11_isPrime_17 : decode cX11_isPrime 17 = .ok (.iinc 1 1, 3) := by decide +kernel
theorem dgX11_isPrime_20 : decode cX11_isPrime 20 = .ok (.goto (-18), 3) := by decide +kernel
theorem dgX11_isPrime_23 : decode cX11_isPrime 23 = .ok (.iconst 1, 1) := by decide +kernel
theorem dgX11_isPrime_24 : decode cX11_isPrime 24 = .ok (.ireturn, 1) := by decide +kernel
def wg_X11_isPrime : List Cond := .code yX11_isPrime cX11_isPrime 2 (some .boolean) :: ([] ++ [])
set_option maxHeartbeats 4000000 in
set_option maxRecDepth 100000 in
theorem kg_X11_isPrime (l : Launch) (dC : Nat → ClassId) (dI : Nat → Nat → Nat) (cI cB cJ cZ : ClassId) (n : Nat) (hn9 : n < 1000) : Met l yX11_isPrime wg_X11_isPrime (({ frames := 0, cells := 0, slots := 0, locals := 0 } : Room)) (va_Pc [.int (nI n)] (fun U => va_P (dC, dI) vwCl [] U.heap ∧ va_K (dC, dI) vwCl [(cI, .int), (cB, .byte), (cJ, .long), (cZ, .boolean)] U)) (va_Qi (fun r (_ : Unit) => r = bI (pr_run n 31 2)) (fun _ _ => True) (fun _ => False)) 0 0 (fun _ => False) := by
  refine Met.ofW (cc := cX11_isPrime) (maxL := 2) (ret := (some .boolean)) (by decide) rfl ?_
  intro p e s m args below meth c s₁ B hml hv
  obtain ⟨rfl, hP, hK⟩ := hv
  have hx := B.exec
  have hb := B.bytes
  have hr := B.returns
  have hts := atoms_spec (ws := wg_X11_isPrime) B.pre
  have hown : s.vm.findClass RX11 = some m.cls := findClass_of_methodNamed B.named
  have hlocks := B.notSynchronized
  have hS : va_S (fun _ => False) s.heap s.heap [] := va_S.rf
  have hP : va_P (dC, dI) vwCl [] s.heap := hP
  have hl := lv_entry ([.int (nI n)]) (n := 2) (Nat.le_of_ble_eq_true rfl)
  rw [lg_entry_eq]
  generalize (lg_sl ([.int (nI n)]) ++ List.replicate (2 - (lg_sl ([.int (nI n)])).length) Slot.unset).toArray = ls at hl ⊢
  have hl : lv_has ls 2 [(0, .int (nI n))] := hl
  refine ow_named (fun QQ hQQ => ?_)
  have L2 : ∀ (d i : Nat), i + d = 33 → 2 ≤ i → pr_run n 31 2 = pr_run n d i → ∀ (H : Heap) (locs : List Loc) (ls : Array Slot), va_P (dC, dI) vwCl [] H → va_S (fun _ => False) s.heap H locs → lv_has ls 2 [(0, .int (nI n)), (1, .int (nI i))] → W p l e ({ frames := 0, cells := 0, slots := 0, locals := 0 } : Room) s m ([.int (nI n)] : List Value).toArray below meth c H locs 0 0 QQ (F0 m 2 ls []) := by
    intro d
    induction d with
    | zero =>
      intro i hi h2 hq H locs ls hP hS hl
      have hie : i = 33 := by omega
      have hii : n < i * i := by rw [hie]; omega
      have hib : i * i < 2 ^ 31 := by rw [hie]; decide
      refine lv_iload_n hx hb dgX11_isPrime_2 rfl (lv_at hl 1 rfl) ?_
      refine lv_iload_n hx hb dgX11_isPrime_3 rfl (lv_at hl 1 rfl) ?_
      refine lv_imul hx hb dgX11_isPrime_4 ?_
      refine ow_topi (y := nI (i * i)) (pk_mul i i) ?_
      refine lv_iload_n hx hb dgX11_isPrime_5 rfl (lv_at hl 0 rfl) ?_
      refine lv_icmp_gt (tgt := 23) hx hb dgX11_isPrime_6 (by decide) (fun _ => ?_) (fun c9 => absurd (nI_lt (a := n) (b := i * i) hii hib) c9)
      refine lv_iconst (v := 1) hx hb dgX11_isPrime_23 (by decide) ?_
      rw [hQQ]
      exact W.zret (v := 1) (ty := .boolean) hx hb hr rfl (fun t ht hW => ⟨⟨1, (), rfl, by rw [hq]; rfl, trivial⟩, hS.F ht⟩) hS.2.2 dgX11_isPrime_24
    | succ d ih =>
      intro i hi h2 hq H locs ls hP hS hl
      have hib : i * i < 2 ^ 31 := Nat.lt_of_le_of_lt (Nat.mul_le_mul (show i ≤ 33 by omega) (show i ≤ 33 by omega)) (by decide)
      have hq : pr_run n 31 2 = (if n < i * i then true else if n % i = 0 then false else pr_run n d (i + 1)) := hq
      refine lv_iload_n hx hb dgX11_isPrime_2 rfl (lv_at hl 1 rfl) ?_
      refine lv_iload_n hx hb dgX11_isPrime_3 rfl (lv_at hl 1 rfl) ?_
      refine lv_imul hx hb dgX11_isPrime_4 ?_
      refine ow_topi (y := nI (i * i)) (pk_mul i i) ?_
      refine lv_iload_n hx hb dgX11_isPrime_5 rfl (lv_at hl 0 rfl) ?_
      rcases Nat.lt_or_ge n (i * i) with h1 | h1
      · rw [if_pos h1] at hq
        refine lv_icmp_gt (tgt := 23) hx hb dgX11_isPrime_6 (by decide) (fun _ => ?_) (fun c9 => absurd (nI_lt (a := n) (b := i * i) h1 hib) c9)
        refine lv_iconst (v := 1) hx hb dgX11_isPrime_23 (by decide) ?_
        rw [hQQ]
        exact W.zret (v := 1) (ty := .boolean) hx hb hr rfl (fun t ht hW => ⟨⟨1, (), rfl, by rw [hq]; rfl, trivial⟩, hS.F ht⟩) hS.2.2 dgX11_isPrime_24
      · rw [if_neg (Nat.not_lt.mpr h1)] at hq
        refine lv_icmp_gt (tgt := 23) hx hb dgX11_isPrime_6 (by decide) (fun c9 => absurd c9 (nI_nlt (a := n) (b := i * i) h1 (by omega))) (fun _ => ?_)
        refine lv_iload_n hx hb dgX11_isPrime_9 rfl (lv_at hl 0 rfl) ?_
        refine lv_iload_n hx hb dgX11_isPrime_10 rfl (lv_at hl 1 rfl) ?_
        refine lv_irem hx hb dgX11_isPrime_11 (fun h9 => absurd (ow_nI_inj (b := 0) (by omega) (by decide) h9) (by omega)) ?_
        refine ow_topi (y := nI (n % i)) (pk_rem (by omega) (by omega) (by omega)) ?_
        have hml9 : n % i < i := Nat.mod_lt _ (by omega)
        rcases Decidable.em (n % i = 0) with h3 | h3
        · rw [if_pos h3] at hq
          refine lv_if_ne (tgt := 17) hx hb dgX11_isPrime_12 (by decide) (fun c9 => absurd c9 (not_not_intro (congrArg nI h3))) (fun _ => ?_)
          refine lv_iconst (v := 0) hx hb dgX11_isPrime_15 (by decide) ?_
          rw [hQQ]
          exact W.zret (v := 0) (ty := .boolean) hx hb hr rfl (fun t ht hW => ⟨⟨0, (), rfl, by rw [hq]; rfl, trivial⟩, hS.F ht⟩) hS.2.2 dgX11_isPrime_16
        · rw [if_neg h3] at hq
          refine lv_if_ne (tgt := 17) hx hb dgX11_isPrime_12 (by decide) (fun _ => ?_) (fun c9 => absurd c9 (fun h9 => h3 (ow_nI_inj (b := 0) (by omega) (by decide) h9)))
          refine lv_iinc (v := nI (i + 1)) (lv' := [(1, .int (nI (i + 1))), (0, .int (nI n))]) hx hb dgX11_isPrime_17 hl (k := 1) rfl (nI_1 i) (by decide) rfl (fun ls hl => ?_)
          refine lv_goto (tgt := 2) hx hb dgX11_isPrime_20 (by decide) ?_
          exact ih (i + 1) (by omega) (by omega) hq H locs ls hP hS (lv_sub hl [1, 0] rfl)
  refine lv_iconst (v := 2) hx hb dgX11_isPrime_0 (by decide) ?_
  refine ow_topi (y := nI 2) (by decide) ?_
  refine lv_istore_n (lv' := [(1, .int (nI 2)), (0, .int (nI n))]) hx hb dgX11_isPrime_1 rfl hl (by decide) rfl (fun ls hl => ?_)
  exact L2 31 2 (by omega) (by omega) rfl s.heap [] ls hP hS (lv_sub hl [1, 0] rfl)
theorem dgX1_reciprocal_0 : decode cX1_reciprocal 0 = .ok (.iconst 1, 1) := by decide +kernel
theorem dgX1_reciprocal_1 : decode cX1_reciprocal 1 = .ok (.istore_n 2, 1) := by decide +kernel
theorem dgX1_reciprocal_2 : decode cX1_reciprocal 2 = .ok (.iload_n 1, 1) := by decide +kernel
theorem dgX1_reciprocal_3 : decode cX1_reciprocal 3 = .ok (.istore_n 3, 1) := by decide +kernel
theorem dgX1_reciprocal_4 : decode cX1_reciprocal 4 = .ok (.aload_n 0, 1) := by decide +kernel
theorem dgX1_reciprocal_5 : decode cX1_reciprocal 5 = .ok (.getfield 80, 3) := by decide +kernel
theorem dgX1_reciprocal_8 : decode cX1_reciprocal 8 = .ok (.iconst 2, 1) := by decide +kernel
theorem dgX1_reciprocal_9 : decode cX1_reciprocal 9 = .ok (.isub, 1) := by decide +kernel
theorem dgX1_reciprocal_10 : decode cX1_reciprocal 10 = .ok (.istore 4, 2) := by decide +kernel
theorem dgX1_reciprocal_12 : decode cX1_reciprocal 12 = .ok (.iload 4, 2) := by decide +kernel
theorem dgX1_reciprocal_14 : decode cX1_reciprocal 14 = .ok (.ifCond .le 42, 3) := by decide +kernel
theorem dgX1_reciprocal_17 : decode cX1_reciprocal 17 = .ok (.iload 4, 2) := by decide +kernel
theorem dgX1_reciprocal_19 : decode cX1_reciprocal 19 = .ok (.iconst 1, 1) := by decide +kernel
theorem dgX1_reciprocal_20 : decode cX1_reciprocal 20 = .ok (.iand, 1) := by decide +kernel
theorem dgX1_reciprocal_21 : decode cX1_reciprocal 21 = .ok (.iconst 1, 1) := by decide +kernel
theorem dgX1_reciprocal_22 : decode cX1_reciprocal 22 = .ok (.if_icmp .ne 14, 3) := by decide +kernel
theorem dgX1_reciprocal_25 : decode cX1_reciprocal 25 = .ok (.iload_n 2, 1) := by decide +kernel
theorem dgX1_reciprocal_26 : decode cX1_reciprocal 26 = .ok (.iload_n 3, 1) := by decide +kernel
theorem dgX1_reciprocal_27 : decode cX1_reciprocal 27 = .ok (.imul, 1) := by decide +kernel
theorem dgX1_reciprocal_28 : decode cX1_reciprocal 28 = .ok (.aload_n 0, 1) := by decide +kernel
theorem dgX1_reciprocal_29 : decode cX1_reciprocal 29 = .ok (.getfield 80, 3) := by decide +kernel
theorem dgX1_reciprocal_32 : decode cX1_reciprocal 32 = .ok (.irem, 1) := by decide +kernel
theorem dgX1_reciprocal_33 : decode cX1_reciprocal 33 = .ok (.goto 4, 3) := by decide +kernel
theorem dgX1_reciprocal_36 : decode cX1_reciprocal 36 = .ok (.iload_n 2, 1) := by decide +kernel
theorem dgX1_reciprocal_37 : decode cX1_reciprocal 37 = .ok (.istore_n 2, 1) := by decide +kernel
theorem dgX1_reciprocal_38 : decode cX1_reciprocal 38 = .ok (.iload_n 3, 1) := by decide +kernel
theorem dgX1_reciprocal_39 : decode cX1_reciprocal 39 = .ok (.iload_n 3, 1) := by decide +kernel
theorem dgX1_reciprocal_40 : decode cX1_reciprocal 40 = .ok (.imul, 1) := by decide +kernel
theorem dgX1_reciprocal_41 : decode cX1_reciprocal 41 = .ok (.aload_n 0, 1) := by decide +kernel
theorem dgX1_reciprocal_42 : decode cX1_reciprocal 42 = .ok (.getfield 80, 3) := by decide +kernel
theorem dgX1_reciprocal_45 : decode cX1_reciprocal 45 = .ok (.irem, 1) := by decide +kernel
theorem dgX1_reciprocal_46 : decode cX1_reciprocal 46 = .ok (.istore_n 3, 1) := by decide +kernel
theorem dgX1_reciprocal_47 : decode cX1_reciprocal 47 = .ok (.iload 4, 2) := by decide +kernel
theorem dgX1_reciprocal_49 : decode cX1_reciprocal 49 = .ok (.iconst 1, 1) := by decide +kernel
theorem dgX1_reciprocal_50 : decode cX1_reciprocal 50 = .ok (.ishr, 1) := by decide +kernel
theorem dgX1_reciprocal_51 : decode cX1_reciprocal 51 = .ok (.istore 4, 2) := by decide +kernel
theorem dgX1_reciprocal_53 : decode cX1_reciprocal 53 = .ok (.goto (-41), 3) := by decide +kernel
theorem dgX1_reciprocal_56 : decode cX1_reciprocal 56 = .ok (.iload_n 2, 1) := by decide +kernel
theorem dgX1_reciprocal_57 : decode cX1_reciprocal 57 = .ok (.ireturn, 1) := by decide +kernel
def wg_X1_reciprocal : List Cond := .code yX1_reciprocal cX1_reciprocal 5 (some .int) :: (([.fieldLink RX1 80 "KnotHouse$Chains" "prime" "I"] ++ wsX10) ++ [])
set_option maxHeartbeats 4000000 in
set_option maxRecDepth 100000 in
theorem kg_X1_reciprocal (l : Launch) (dC : Nat → ClassId) (dI : Nat → Nat → Nat) (cI cB cJ cZ : ClassId) (aH : Nat) (hx9 : Nat → Nat) (c16 c18 c19 : Int32) (p9 : Nat) (hp2 : 2 ≤ p9) (hp9 : p9 < 1000) (k : Nat) (hk : k < p9) : Met l yX1_reciprocal wg_X1_reciprocal (({ frames := 0, cells := 0, slots := 0, locals := 0 } : Room)) (va_Pc [.ref aH, .int (nI k)] (fun U => va_P (dC, dI) vwCl [(aH, .inr (4, [.ref (hx9 0), .ref (hx9 1), .ref (hx9 2), .ref (hx9 3), .ref (hx9 4), .ref (hx9 5), .ref (hx9 6), .ref (hx9 7), .ref (hx9 8), .int (nI p9), .ref (hx9 10), .ref (hx9 11), .ref (hx9 12), .ref (hx9 13), .ref (hx9 14), .ref (hx9 15), .int c16, .ref (hx9 17), .int c18, .int c19]))] U.heap ∧ va_K (dC, dI) vwCl [(cI, .int), (cB, .byte), (cJ, .long), (cZ, .boolean)] U)) (va_Qi (fun r (_ : Unit) => r = nI (rp_run p9 10 (p9 - 2) 1 k)) (fun _ _ => True) (fun _ => False)) 0 0 (fun _ => False) := by
  refine Met.ofW (cc := cX1_reciprocal) (maxL := 5) (ret := (some .int)) (by decide) rfl ?_
  intro p e s m args below meth c s₁ B hml hv
  obtain ⟨rfl, hP, hK⟩ := hv
  have hx := B.exec
  have hb := B.bytes
  have hr := B.returns
  have hts := atoms_spec (ws := wg_X1_reciprocal) B.pre
  have hown : s.vm.findClass RX1 = some m.cls := findClass_of_methodNamed B.named
  have hlocks := B.notSynchronized
  have hS : va_S (fun _ => False) s.heap s.heap [] := va_S.rf
  have hP : va_P (dC, dI) vwCl [(aH, .inr (4, [.ref (hx9 0), .ref (hx9 1), .ref (hx9 2), .ref (hx9 3), .ref (hx9 4), .ref (hx9 5), .ref (hx9 6), .ref (hx9 7), .ref (hx9 8), .int (nI p9), .ref (hx9 10), .ref (hx9 11), .ref (hx9 12), .ref (hx9 13), .ref (hx9 14), .ref (hx9 15), .int c16, .ref (hx9 17), .int c18, .int c19]))] s.heap := hP
  have hl := lv_entry ([.ref aH, .int (nI k)]) (n := 5) (Nat.le_of_ble_eq_true rfl)
  rw [lg_entry_eq]
  generalize (lg_sl ([.ref aH, .int (nI k)]) ++ List.replicate (5 - (lg_sl ([.ref aH, .int (nI k)])).length) Slot.unset).toArray = ls at hl ⊢
  have hl : lv_has ls 5 [(0, .ref aH), (1, .int (nI k))] := hl
  refine ow_named (fun QQ hQQ => ?_)
  have L12 : ∀ (d h1 r1 q1 : Nat), h1 < 2 ^ d → d ≤ 10 → r1 < p9 → q1 < p9 → rp_run p9 10 (p9 - 2) 1 k = rp_run p9 d h1 r1 q1 → ∀ (H : Heap) (locs : List Loc) (ls : Array Slot), va_P (dC, dI) vwCl [(aH, .inr (4, [.ref (hx9 0), .ref (hx9 1), .ref (hx9 2), .ref (hx9 3), .ref (hx9 4), .ref (hx9 5), .ref (hx9 6), .ref (hx9 7), .ref (hx9 8), .int (nI p9), .ref (hx9 10), .ref (hx9 11), .ref (hx9 12), .ref (hx9 13), .ref (hx9 14), .ref (hx9 15), .int c16, .ref (hx9 17), .int c18, .int c19]))] H → va_S (fun _ => False) s.heap H locs → lv_has ls 5 [(0, .ref aH), (1, .int (nI k)), (2, .int (nI r1)), (3, .int (nI q1)), (4, .int (nI h1))] → W p l e ({ frames := 0, cells := 0, slots := 0, locals := 0 } : Room) s m ([.ref aH, .int (nI k)] : List Value).toArray below meth c H locs 0 0 QQ (F0 m 12 ls []) := by
    intro d
    induction d with
    | zero =>
      intro h1 r1 q1 hh hd hr1 hq1 hq H locs ls hP hS hl
      have h0 : h1 = 0 := by omega
      refine lv_iload hx hb dgX1_reciprocal_12 (lv_at hl 4 rfl) ?_
      refine lv_if_le (tgt := 56) hx hb dgX1_reciprocal_14 (by decide) (fun _ => ?_) (fun c9 => absurd (by rw [h0]; decide) c9)
      refine lv_iload_n hx hb dgX1_reciprocal_56 rfl (lv_at hl 2 rfl) ?_
      rw [hQQ]
      exact W.iret (v := (nI r1)) hx hb hr (fun t ht hW => ⟨⟨(nI r1), (), rfl, by rw [hq]; rfl, trivial⟩, hS.F ht⟩) hS.2.2 dgX1_reciprocal_57
    | succ d ih =>
      intro h1 r1 q1 hh hd hr1 hq1 hq H locs ls hP hS hl
      have hpd : 2 ^ (d + 1) ≤ 1024 := Nat.le_trans (Nat.pow_le_pow_right (by decide) hd) (by decide)
      have hps : 2 ^ (d + 1) = 2 * 2 ^ d := by rw [Nat.pow_succ, Nat.mul_comm]
      have hrq : r1 * q1 < 2 ^ 31 := Nat.lt_of_le_of_lt (Nat.mul_le_mul (show r1 ≤ 1000 by omega) (show q1 ≤ 1000 by omega)) (by decide)
      have hqq : q1 * q1 < 2 ^ 31 := Nat.lt_of_le_of_lt (Nat.mul_le_mul (show q1 ≤ 1000 by omega) (show q1 ≤ 1000 by omega)) (by decide)
      have hq : rp_run p9 10 (p9 - 2) 1 k = (if h1 = 0 then r1 else rp_run p9 d (h1 / 2) (if h1 % 2 = 1 then r1 * q1 % p9 else r1) (q1 * q1 % p9)) := hq
      refine lv_iload hx hb dgX1_reciprocal_12 (lv_at hl 4 rfl) ?_
      rcases Nat.eq_zero_or_pos h1 with h0 | h0
      · rw [if_pos h0] at hq
        refine lv_if_le (tgt := 56) hx hb dgX1_reciprocal_14 (by decide) (fun _ => ?_) (fun c9 => absurd (by rw [h0]; decide) c9)
        refine lv_iload_n hx hb dgX1_reciprocal_56 rfl (lv_at hl 2 rfl) ?_
        rw [hQQ]
        exact W.iret (v := (nI r1)) hx hb hr (fun t ht hW => ⟨⟨(nI r1), (), rfl, by rw [hq], trivial⟩, hS.F ht⟩) hS.2.2 dgX1_reciprocal_57
      · rw [if_neg (by omega)] at hq
        refine lv_if_le (tgt := 56) hx hb dgX1_reciprocal_14 (by decide) (fun c9 => absurd c9 (Int32.not_le.mpr (nI_lt (a := 0) (b := h1) h0 (by omega)))) (fun _ => ?_)
        refine lv_iload hx hb dgX1_reciprocal_17 (lv_at hl 4 rfl) ?_
        refine lv_iconst (v := 1) hx hb dgX1_reciprocal_19 (by decide) ?_
        refine lv_iand hx hb dgX1_reciprocal_20 ?_
        refine ow_topi (y := nI (h1 % 2)) (ow_and1 (n := h1) (by omega)) ?_
        refine lv_iconst (v := 1) hx hb dgX1_reciprocal_21 (by decide) ?_
        have hm1 : r1 * q1 % p9 < p9 := Nat.mod_lt _ (by omega)
        have hm2 : q1 * q1 % p9 < p9 := Nat.mod_lt _ (by omega)
        rcases Decidable.em (h1 % 2 = 1) with ho | ho
        · rw [if_pos ho] at hq
          refine lv_icmp_ne (tgt := 36) hx hb dgX1_reciprocal_22 (by decide) (fun c9 => absurd c9 (not_not_intro (congrArg nI ho))) (fun _ => ?_)
          refine lv_iload_n hx hb dgX1_reciprocal_25 rfl (lv_at hl 2 rfl) ?_
          refine lv_iload_n hx hb dgX1_reciprocal_26 rfl (lv_at hl 3 rfl) ?_
          refine lv_imul hx hb dgX1_reciprocal_27 ?_
          refine ow_topi (y := nI (r1 * q1)) (pk_mul r1 q1) ?_
          refine lv_aload_n hx hb dgX1_reciprocal_28 rfl (lv_at hl 0 rfl) ?_
          refine va_get (D := (dC, dI)) (ci := 4) (v := .int (nI p9)) (C := RX1) (T := TX1) (N := 20) hx hb hts (fun _ h => List.mem_cons_of_mem _ (List.mem_append_left _ (List.mem_append_right _ h))) hown hK hP 0 rfl rfl 9 (by decide) (hts (.fieldLink RX1 80 "KnotHouse$Chains" "prime" "I") (by decide +kernel)) (fun _ h9 => h9) rfl dgX1_reciprocal_29 ?_
          refine lv_irem hx hb dgX1_reciprocal_32 (fun h9 => absurd (ow_nI_inj (b := 0) (by omega) (by decide) h9) (by omega)) ?_
          refine ow_topi (y := nI ((r1 * q1) % p9)) (pk_rem hrq (by omega) (by omega)) ?_
          refine lv_goto (tgt := 37) hx hb dgX1_reciprocal_33 (by decide) ?_
          refine lv_istore_n (lv' := [(2, .int (nI ((r1 * q1) % p9))), (0, .ref aH), (1, .int (nI k)), (3, .int (nI q1)), (4, .int (nI h1))]) hx hb dgX1_reciprocal_37 rfl hl (by decide) rfl (fun ls hl => ?_)
          refine lv_iload_n hx hb dgX1_reciprocal_38 rfl (lv_at hl 3 rfl) ?_
          refine lv_iload_n hx hb dgX1_reciprocal_39 rfl (lv_at hl 3 rfl) ?_
          refine lv_imul hx hb dgX1_reciprocal_40 ?_
          refine ow_topi (y := nI (q1 * q1)) (pk_mul q1 q1) ?_
          refine lv_aload_n hx hb dgX1_reciprocal_41 rfl (lv_at hl 1 rfl) ?_
          refine va_get (D := (dC, dI)) (ci := 4) (v := .int (nI p9)) (C := RX1) (T := TX1) (N := 20) hx hb hts (fun _ h => List.mem_cons_of_mem _ (List.mem_append_left _ (List.mem_append_right _ h))) hown hK hP 0 rfl rfl 9 (by decide) (hts (.fieldLink RX1 80 "KnotHouse$Chains" "prime" "I") (by decide +kernel)) (fun _ h9 => h9) rfl dgX1_reciprocal_42 ?_
          refine lv_irem hx hb dgX1_reciprocal_45 (fun h9 => absurd (ow_nI_inj (b := 0) (by omega) (by decide) h9) (by omega)) ?_
          refine ow_topi (y := nI ((q1 * q1) % p9)) (pk_rem hqq (by omega) (by omega)) ?_
          refine lv_istore_n (lv' := [(3, .int (nI ((q1 * q1) % p9))), (2, .int (nI ((r1 * q1) % p9))), (0, .ref aH), (1, .int (nI k)), (4, .int (nI h1))]) hx hb dgX1_reciprocal_46 rfl hl (by decide) rfl (fun ls hl => ?_)
          refine lv_iload hx hb dgX1_reciprocal_47 (lv_at hl 4 rfl) ?_
          refine lv_iconst (v := 1) hx hb dgX1_reciprocal_49 (by decide) ?_
          refine lv_ishr hx hb dgX1_reciprocal_50 ?_
          refine ow_topi (y := nI (h1 / 2)) (ow_shr1 (n := h1) (by omega)) ?_
          refine lv_istore (lv' := [(4, .int (nI (h1 / 2))), (3, .int (nI ((q1 * q1) % p9))), (2, .int (nI ((r1 * q1) % p9))), (0, .ref aH), (1, .int (nI k))]) hx hb dgX1_reciprocal_51 hl (by decide) rfl (fun ls hl => ?_)
          refine lv_goto (tgt := 12) hx hb dgX1_reciprocal_53 (by decide) ?_
          exact ih (h1 / 2) _ _ (by omega) (by omega) hm1 hm2 hq H locs ls hP hS (lv_sub hl [3, 4, 2, 1, 0] rfl)
        · rw [if_neg ho] at hq
          refine lv_icmp_ne (tgt := 36) hx hb dgX1_reciprocal_22 (by decide) (fun _ => ?_) (fun c9 => absurd c9 (fun h9 => ho (ow_nI_inj (b := 1) (by omega) (by decide) h9)))
          refine lv_iload_n hx hb dgX1_reciprocal_36 rfl (lv_at hl 2 rfl) ?_
          refine lv_istore_n (lv' := [(2, .int (nI r1)), (0, .ref aH), (1, .int (nI k)), (3, .int (nI q1)), (4, .int (nI h1))]) hx hb dgX1_reciprocal_37 rfl hl (by decide) rfl (fun ls hl => ?_)
          refine lv_iload_n hx hb dgX1_reciprocal_38 rfl (lv_at hl 3 rfl) ?_
          refine lv_iload_n hx hb dgX1_reciprocal_39 rfl (lv_at hl 3 rfl) ?_
          refine lv_imul hx hb dgX1_reciprocal_40 ?_
          refine ow_topi (y := nI (q1 * q1)) (pk_mul q1 q1) ?_
          refine lv_aload_n hx hb dgX1_reciprocal_41 rfl (lv_at hl 1 rfl) ?_
          refine va_get (D := (dC, dI)) (ci := 4) (v := .int (nI p9)) (C := RX1) (T := TX1) (N := 20) hx hb hts (fun _ h => List.mem_cons_of_mem _ (List.mem_append_left _ (List.mem_append_right _ h))) hown hK hP 0 rfl rfl 9 (by decide) (hts (.fieldLink RX1 80 "KnotHouse$Chains" "prime" "I") (by decide +kernel)) (fun _ h9 => h9) rfl dgX1_reciprocal_42 ?_
          refine lv_irem hx hb dgX1_reciprocal_45 (fun h9 => absurd (ow_nI_inj (b := 0) (by omega) (by decide) h9) (by omega)) ?_
          refine ow_topi (y := nI ((q1 * q1) % p9)) (pk_rem hqq (by omega) (by omega)) ?_
          refine lv_istore_n (lv' := [(3, .int (nI ((q1 * q1) % p9))), (2, .int (nI r1)), (0, .ref aH), (1, .int (nI k)), (4, .int (nI h1))]) hx hb dgX1_reciprocal_46 rfl hl (by decide) rfl (fun ls hl => ?_)
          refine lv_iload hx hb dgX1_reciprocal_47 (lv_at hl 4 rfl) ?_
          refine lv_iconst (v := 1) hx hb dgX1_reciprocal_49 (by decide) ?_
          refine lv_ishr hx hb dgX1_reciprocal_50 ?_
          refine ow_topi (y := nI (h1 / 2)) (ow_shr1 (n := h1) (by omega)) ?_
          refine lv_istore (lv' := [(4, .int (nI (h1 / 2))), (3, .int (nI ((q1 * q1) % p9))), (2, .int (nI r1)), (0, .ref aH), (1, .int (nI k))]) hx hb dgX1_reciprocal_51 hl (by decide) rfl (fun ls hl => ?_)
          refine lv_goto (tgt := 12) hx hb dgX1_reciprocal_53 (by decide) ?_
          exact ih (h1 / 2) _ _ (by omega) (by omega) hr1 hm2 hq H locs ls hP hS (lv_sub hl [3, 4, 2, 1, 0] rfl)
  refine lv_iconst (v := 1) hx hb dgX1_reciprocal_0 (by decide) ?_
  refine ow_topi (y := nI 1) (by decide) ?_
  refine lv_istore_n (lv' := [(2, .int (nI 1)), (0, .ref aH), (1, .int (nI k))]) hx hb dgX1_reciprocal_1 rfl hl (by decide) rfl (fun ls hl => ?_)
  refine lv_iload_n hx hb dgX1_reciprocal_2 rfl (lv_at hl 2 rfl) ?_
  refine lv_istore_n (lv' := [(3, .int (nI k)), (2, .int (nI 1)), (0, .ref aH), (1, .int (nI k))]) hx hb dgX1_reciprocal_3 rfl hl (by decide) rfl (fun ls hl => ?_)
  refine lv_aload_n hx hb dgX1_reciprocal_4 rfl (lv_at hl 2 rfl) ?_
  refine va_get (D := (dC, dI)) (ci := 4) (v := .int (nI p9)) (C := RX1) (T := TX1) (N := 20) hx hb hts (fun _ h => List.mem_cons_of_mem _ (List.mem_append_left _ (List.mem_append_right _ h))) hown hK hP 0 rfl rfl 9 (by decide) (hts (.fieldLink RX1 80 "KnotHouse$Chains" "prime" "I") (by decide +kernel)) (fun _ h9 => h9) rfl dgX1_reciprocal_5 ?_
  refine lv_iconst (v := 2) hx hb dgX1_reciprocal_8 (by decide) ?_
  refine lv_isub hx hb dgX1_reciprocal_9 ?_
  refine ow_topi (y := nI (p9 - 2)) (pk_sub (b := 2) hp2) ?_
  refine lv_istore (lv' := [(4, .int (nI (p9 - 2))), (3, .int (nI k)), (2, .int (nI 1)), (0, .ref aH), (1, .int (nI k))]) hx hb dgX1_reciprocal_10 hl (by decide) rfl (fun ls hl => ?_)
  exact L12 10 (p9 - 2) 1 k (by omega) (by omega) (by omega) hk rfl s.heap [] ls hP hS (lv_sub hl [3, 4, 2, 1, 0] rfl)
