/-! the codes whose polynomials are kept -/
abbrev ow_KN := (Nat → Nat) × (Nat → Nat) × (Nat → Nat)
def ik_hit (N : ow_KN) (sl : Nat) (C2 L2 K2 : Nat → Nat) (b : Nat) : Bool := decide (0 < N.2.1 sl) && decide (cd_cmp (N.2.2 sl) (N.2.1 sl) (fun i => N.1 (30 * sl + i)) (K2 b) (L2 b) (fun i => C2 (30 * b + i)) = 0)
def ik_run (N : ow_KN) (sl : Nat) (C2 L2 K2 : Nat → Nat) (b : Nat) : ow_KN := if ik_hit N sl C2 L2 K2 b then N else (va_cpy C2 N.1 (30 * b) (30 * sl) 30, nu N.2.1 sl (L2 b), nu N.2.2 sl (K2 b))
def ti_x (i : Int64) : Int64 := i - (-64)
def ti_z (j : Int64) : Int64 := j - (-20)
abbrev ti_in (i j : Int64) : Prop := ¬ ti_x i < 0 ∧ ti_x i < 129 ∧ ¬ ti_z j < 0 ∧ ti_z j < 41
def ti (i j : Int64) : Int32 := if ti_in i j then (ti_x i * 41 + ti_z j).toInt32 else -1
theorem ti_at {i j : Int64} (h : ti_in i j) : ∃ t : Nat, t < 5289 ∧ (ti_x i * 41 + ti_z j).toInt32 = nI t := by
  obtain ⟨h1, h2, h3, h4⟩ := h
  obtain ⟨a, ha, ea⟩ := pk_lOf h1
  obtain ⟨b, hb, eb⟩ := pk_lOf h3
  rw [ea] at h2 ⊢
  rw [eb] at h4 ⊢
  have ha2 : a < 129 := (pk_lLT (b := 129) ha (by decide)).mp h2
  have hb2 : b < 41 := (pk_lLT (b := 41) hb (by decide)).mp h4
  have key : ∀ (x : Fin 129) (y : Fin 41), (lN x.1 * 41 + lN y.1).toInt32 = nI (x.1 * 41 + y.1) := by decide +kernel
  exact ⟨a * 41 + b, by omega, key ⟨a, ha2⟩ ⟨b, hb2⟩⟩
/-! the ends of the gaps -/
def cs_p (S : ow_NP) (P : Nat → Nat) : Nat → Nat → Nat
  | 0 => P
  | v + 1 => nu (nu (cs_p S P v) (2 * v) (2 * S.1 v + 1)) (2 * v + 1) (2 * S.2 v)
theorem cs_p_b48 {S : ow_NP} {P : Nat → Nat} (hS : ow_b24 S) (hP : ow_b48 P) : ∀ v, ow_b48 (cs_p S P v) := by
  intro v
  induction v with
  | zero => exact hP
  | succ v ih =>
    have h1 := hS.1 v
    have h2 := hS.2 v
    exact nu_b48 (nu_b48 ih (by omega)) (by omega)
theorem dgX8_isKnown_0 : decode cX8_isKnown 0 = .ok (.aload_n 0, 1) := by decide +kernel
theorem dgX8_isKnown_1 : decode cX8_isKnown 1 = .ok (.getfield 14, 3) := by decide +kernel
theorem dgX8_isKnown_4 : decode cX8_isKnown 4 = .ok (.getfield 49, 3) := by decide +kernel
theorem dgX8_isKnown_7 : decode cX8_isKnown 7 = .ok (.iload_n 1, 1) := by decide +kernel
theorem dgX8_isKnown_8 : decode cX8_isKnown 8 = .ok (.baload, 1) := by decide +kernel
theorem dgX8_isKnown_9 : decode cX8_isKnown 9 = .ok (.ifCond .le 18, 3) := by decide +kernel
theorem dgX8_isKnown_12 : decode cX8_isKnown 12 = .ok (.aload_n 0, 1) := by decide +kernel
theorem dgX8_isKnown_13 : decode cX8_isKnown 13 = .ok (.getfield 14, 3) := by decide +kernel
theorem dgX8_isKnown_16 : decode cX8_isKnown 16 = .ok (.iload_n 1, 1) := by decide +kernel
theorem dgX8_isKnown_17 : decode cX8_isKnown 17 = .ok (.aload_n 2, 1) := by decide +kernel
theorem dgX8_isKnown_18 : decode cX8_isKnown 18 = .ok (.iload_n 3, 1) := by decide +kernel
theorem dgX8_isKnown_19 : decode cX8_isKnown 19 = .ok (.invokevirtual 53, 3) := by decide +kernel
theorem dgX8_isKnown_22 : decode cX8_isKnown 22 = .ok (.ifCond .ne 5, 3) := by decide +kernel
theorem dgX8_isKnown_25 : decode cX8_isKnown 25 = .ok (.iconst 1, 1) := by decide +kernel
theorem dgX8_isKnown_26 : decode cX8_isKnown 26 = .ok (.ireturn, 1) := by decide +kernel
theorem dgX8_isKnown_27 : decode cX8_isKnown 27 = .ok (.aload_n 0, 1) := by decide +kernel
theorem dgX8_isKnown_28 : decode cX8_isKnown 28 = .ok (.getfield 14, 3) := by decide +kernel
theorem dgX8_isKnown_31 : decode cX8_isKnown 31 = .ok (.iload_n 1, 1) := by decide +kernel
theorem dgX8_isKnown_32 : decode cX8_isKnown 32 = .ok (.aload_n 2, 1) := by decide +kernel
theorem dgX8_isKnown_33 : decode cX8_isKnown 33 = .ok (.iload_n 3, 1) := by decide +kernel
theorem dgX8_isKnown_34 : decode cX8_isKnown 34 = .ok (.invokevirtual 57, 3) := by decide +kernel
theorem dgX8_isKnown_37 : decode cX8_isKnown 37 = .ok (.iconst 0, 1) := by decide +kernel
theorem dgX8_isKnown_38 : decode cX8_isKnown 38 = .ok (.ireturn, 1) := by decide +kernel
def wg_X8_isKnown : List Cond := .code yX8_isKnown cX8_isKnown 4 (some .boolean) :: (([.fieldLink RX8 14 "KnotHouse$Polynomials" "known" "LKnotHouse$Codes;", .fieldLink RX8 49 "KnotHouse$Codes" "lengths" "[B"] ++ wsX80 ++ wsX30) ++ (wsV RX8 53 RX3 yX3_compare wg_X3_compare ++ (wsV RX8 57 RX3 yX3_write wg_X3_write ++ [])))
theorem gg_X8_isKnown_0 : GoodIn wg_X8_isKnown (wsV RX8 53 RX3 yX3_compare wg_X3_compare) := goodIn_sub (fun _ h => List.mem_cons_of_mem _ (List.mem_append_right _ (List.mem_append_left _ h))) (by decide +kernel)
theorem gg_X8_isKnown_1 : GoodIn wg_X8_isKnown (wsV RX8 57 RX3 yX3_write wg_X3_write) := goodIn_sub (fun _ h => List.mem_cons_of_mem _ (List.mem_append_right _ (List.mem_append_right _ (List.mem_append_left _ h)))) (by decide +kernel)
set_option maxHeartbeats 4000000 in
set_option maxRecDepth 100000 in
theorem kg_X8_isKnown (l : Launch) (dC : Nat → ClassId) (dI : Nat → Nat → Nat) (cI cB cJ cZ : ClassId) (aP : Nat) (px : Nat → Nat) (wr : Int32) (kn : Nat → Nat) (zk : Int32) (N : ow_KN) (hN1 : ow_b128 N.1) (hN2 : ∀ i, N.2.1 i ≤ 30) (hN3 : ow_b128 N.2.2) (aY : Nat) (fy : Nat → Nat) (k : Nat) (hk : k < 2 ^ 24) (C2 L2 K2 : Nat → Nat) (zy : Int32) (hC2 : ow_b128 C2) (hL2 : ∀ i, L2 i ≤ 30) (hK2 : ow_b128 K2) (b : Nat) (hbk : b < k) (sl : Nat) (hsl : sl < 2) (sz : Nat) : Met l yX8_isKnown wg_X8_isKnown (({ frames := 2, cells := 0, slots := 0, locals := 90 } : Room)) (va_Pc [.ref aP, .int (nI sl), .ref aY, .int (nI b)] (fun U => U.heap.size = sz ∧ va_P (dC, dI) vwCl [(aP, .inr (11, [.ref (px 0), .ref (px 1), .ref (px 2), .ref (px 3), .ref (px 4), .ref (px 5), .ref (px 6), .ref (px 7), .int wr])), ((px 0), .inr (6, [.ref (kn 0), .ref (kn 1), .ref (kn 2), .ref (kn 3), .int zk])), ((kn 0), .inl (cB, (30 * 2), .inl (ow_nI N.1))), ((kn 1), .inl (cB, 2, .inl (ow_nI N.2.1))), ((kn 2), .inl (cB, 2, .inl (ow_nI N.2.2))), (aY, .inr (6, [.ref (fy 0), .ref (fy 1), .ref (fy 2), .ref (fy 3), .int zy])), ((fy 0), .inl (cB, (30 * k), .inl (ow_nI C2))), ((fy 1), .inl (cB, k, .inl (ow_nI L2))), ((fy 2), .inl (cB, k, .inl (ow_nI K2)))] U.heap ∧ va_K (dC, dI) vwCl [(cI, .int), (cB, .byte), (cJ, .long), (cZ, .boolean)] U ∧ va_D (fun _ => True) [(aP, .inr (11, [.ref (px 0), .ref (px 1), .ref (px 2), .ref (px 3), .ref (px 4), .ref (px 5), .ref (px 6), .ref (px 7), .int wr])), ((px 0), .inr (6, [.ref (kn 0), .ref (kn 1), .ref (kn 2), .ref (kn 3), .int zk])), ((kn 0), .inl (cB, (30 * 2), .inl (ow_nI N.1))), ((kn 1), .inl (cB, 2, .inl (ow_nI N.2.1))), ((kn 2), .inl (cB, 2, .inl (ow_nI N.2.2))), (aY, .inr (6, [.ref (fy 0), .ref (fy 1), .ref (fy 2), .ref (fy 3), .int zy])), ((fy 0), .inl (cB, (30 * k), .inl (ow_nI C2))), ((fy 1), .inl (cB, k, .inl (ow_nI L2))), ((fy 2), .inl (cB, k, .inl (ow_nI K2)))])) (va_Qi (fun r (g : Unit) => r = bI (ik_hit N sl C2 L2 K2 b)) (fun g t => va_P (dC, dI) vwCl [(aP, .inr (11, [.ref (px 0), .ref (px 1), .ref (px 2), .ref (px 3), .ref (px 4), .ref (px 5), .ref (px 6), .ref (px 7), .int wr])), ((px 0), .inr (6, [.ref (kn 0), .ref (kn 1), .ref (kn 2), .ref (kn 3), .int zk])), ((kn 0), .inl (cB, (30 * 2), .inl (ow_nI (ik_run N sl C2 L2 K2 b).1))), ((kn 1), .inl (cB, 2, .inl (ow_nI (ik_run N sl C2 L2 K2 b).2.1))), ((kn 2), .inl (cB, 2, .inl (ow_nI (ik_run N sl C2 L2 K2 b).2.2))), (aY, .inr (6, [.ref (fy 0), .ref (fy 1), .ref (fy 2), .ref (fy 3), .int zy])), ((fy 0), .inl (cB, (30 * k), .inl (ow_nI C2))), ((fy 1), .inl (cB, k, .inl (ow_nI L2))), ((fy 2), .inl (cB, k, .inl (ow_nI K2)))] t.heap ∧ va_D (va_A [(aP, .inr (11, [.ref (px 0), .ref (px 1), .ref (px 2), .ref (px 3), .ref (px 4), .ref (px 5), .ref (px 6), .ref (px 7), .int wr])), ((px 0), .inr (6, [.ref (kn 0), .ref (kn 1), .ref (kn 2), .ref (kn 3), .int zk])), ((kn 0), .inl (cB, (30 * 2), .inl (ow_nI N.1))), ((kn 1), .inl (cB, 2, .inl (ow_nI N.2.1))), ((kn 2), .inl (cB, 2, .inl (ow_nI N.2.2))), (aY, .inr (6, [.ref (fy 0), .ref (fy 1), .ref (fy 2), .ref (fy 3), .int zy])), ((fy 0), .inl (cB, (30 * k), .inl (ow_nI C2))), ((fy 1), .inl (cB, k, .inl (ow_nI L2))), ((fy 2), .inl (cB, k, .inl (ow_nI K2)))] sz) [(aP, .inr (11, [.ref (px 0), .ref (px 1), .ref (px 2), .ref (px 3), .ref (px 4), .ref (px 5), .ref (px 6), .ref (px 7), .int wr])), ((px 0), .inr (6, [.ref (kn 0), .ref (kn 1), .ref (kn 2), .ref (kn 3), .int zk])), ((kn 0), .inl (cB, (30 * 2), .inl (ow_nI (ik_run N sl C2 L2 K2 b).1))), ((kn 1), .inl (cB, 2, .inl (ow_nI (ik_run N sl C2 L2 K2 b).2.1))), ((kn 2), .inl (cB, 2, .inl (ow_nI (ik_run N sl C2 L2 K2 b).2.2))), (aY, .inr (6, [.ref (fy 0), .ref (fy 1), .ref (fy 2), .ref (fy 3), .int zy])), ((fy 0), .inl (cB, (30 * k), .inl (ow_nI C2))), ((fy 1), .inl (cB, k, .inl (ow_nI L2))), ((fy 2), .inl (cB, k, .inl (ow_nI K2)))]) (va_A [(aP, .inr (11, [.ref (px 0), .ref (px 1), .ref (px 2), .ref (px 3), .ref (px 4), .ref (px 5), .ref (px 6), .ref (px 7), .int wr])), ((px 0), .inr (6, [.ref (kn 0), .ref (kn 1), .ref (kn 2), .ref (kn 3), .int zk])), ((kn 0), .inl (cB, (30 * 2), .inl (ow_nI N.1))), ((kn 1), .inl (cB, 2, .inl (ow_nI N.2.1))), ((kn 2), .inl (cB, 2, .inl (ow_nI N.2.2))), (aY, .inr (6, [.ref (fy 0), .ref (fy 1), .ref (fy 2), .ref (fy 3), .int zy])), ((fy 0), .inl (cB, (30 * k), .inl (ow_nI C2))), ((fy 1), .inl (cB, k, .inl (ow_nI L2))), ((fy 2), .inl (cB, k, .inl (ow_nI K2)))] sz)) 0 0 (va_A [(aP, .inr (11, [.ref (px 0), .ref (px 1), .ref (px 2), .ref (px 3), .ref (px 4), .ref (px 5), .ref (px 6), .ref (px 7), .int wr])), ((px 0), .inr (6, [.ref (kn 0), .ref (kn 1), .ref (kn 2), .ref (kn 3), .int zk])), ((kn 0), .inl (cB, (30 * 2), .inl (ow_nI N.1))), ((kn 1), .inl (cB, 2, .inl (ow_nI N.2.1))), ((kn 2), .inl (cB, 2, .inl (ow_nI N.2.2))), (aY, .inr (6, [.ref (fy 0), .ref (fy 1), .ref (fy 2), .ref (fy 3), .int zy])), ((fy 0), .inl (cB, (30 * k), .inl (ow_nI C2))), ((fy 1), .inl (cB, k, .inl (ow_nI L2))), ((fy 2), .inl (cB, k, .inl (ow_nI K2)))] sz) := by
  refine Met.ofW (cc := cX8_isKnown) (maxL := 4) (ret := (some .boolean)) (by decide) rfl ?_
  intro p e s m args below meth c s₁ B hml hv
  obtain ⟨rfl, hsz, hP, hK, hD0⟩ := hv
  have hx := B.exec
  have hb := B.bytes
  have hr := B.returns
  have hts := atoms_spec (ws := wg_X8_isKnown) B.pre
  have hown : s.vm.findClass RX8 = some m.cls := findClass_of_methodNamed B.named
  have hlocks := B.notSynchronized
  subst hsz
  have hD := hD0.self (sz := s.heap.size)
  generalize hAe : va_A [(aP, .inr (11, [.ref (px 0), .ref (px 1), .ref (px 2), .ref (px 3), .ref (px 4), .ref (px 5), .ref (px 6), .ref (px 7), .int wr])), ((px 0), .inr (6, [.ref (kn 0), .ref (kn 1), .ref (kn 2), .ref (kn 3), .int zk])), ((kn 0), .inl (cB, (30 * 2), .inl (ow_nI N.1))), ((kn 1), .inl (cB, 2, .inl (ow_nI N.2.1))), ((kn 2), .inl (cB, 2, .inl (ow_nI N.2.2))), (aY, .inr (6, [.ref (fy 0), .ref (fy 1), .ref (fy 2), .ref (fy 3), .int zy])), ((fy 0), .inl (cB, (30 * k), .inl (ow_nI C2))), ((fy 1), .inl (cB, k, .inl (ow_nI L2))), ((fy 2), .inl (cB, k, .inl (ow_nI K2)))] s.heap.size = A at hD ⊢
  have hA : ∀ q : Nat, s.heap.size ≤ q → A q := fun q h => by rw [← hAe]; exact Or.inr h
  have hS : va_S A s.heap s.heap [] := va_S.rf
  have hP : va_P (dC, dI) vwCl [(aP, .inr (11, [.ref (px 0), .ref (px 1), .ref (px 2), .ref (px 3), .ref (px 4), .ref (px 5), .ref (px 6), .ref (px 7), .int wr])), ((px 0), .inr (6, [.ref (kn 0), .ref (kn 1), .ref (kn 2), .ref (kn 3), .int zk])), ((kn 0), .inl (cB, (30 * 2), .inl (ow_nI N.1))), ((kn 1), .inl (cB, 2, .inl (ow_nI N.2.1))), ((kn 2), .inl (cB, 2, .inl (ow_nI N.2.2))), (aY, .inr (6, [.ref (fy 0), .ref (fy 1), .ref (fy 2), .ref (fy 3), .int zy])), ((fy 0), .inl (cB, (30 * k), .inl (ow_nI C2))), ((fy 1), .inl (cB, k, .inl (ow_nI L2))), ((fy 2), .inl (cB, k, .inl (ow_nI K2)))] s.heap := hP
  have hl := lv_entry ([.ref aP, .int (nI sl), .ref aY, .int (nI b)]) (n := 4) (Nat.le_of_ble_eq_true rfl)
  rw [lg_entry_eq]
  generalize (lg_sl ([.ref aP, .int (nI sl), .ref aY, .int (nI b)]) ++ List.replicate (4 - (lg_sl ([.ref aP, .int (nI sl), .ref aY, .int (nI b)])).length) Slot.unset).toArray = ls at hl ⊢
  have hl : lv_has ls 4 [(0, .ref aP), (1, .int (nI sl)), (2, .ref aY), (3, .int (nI b))] := hl
  refine ow_named (fun QQ hQQ => ?_)
  suffices key9 : ∀ (H : Heap) (locs : List Loc), va_P (dC, dI) vwCl [(aP, .inr (11, [.ref (px 0), .ref (px 1), .ref (px 2), .ref (px 3), .ref (px 4), .ref (px 5), .ref (px 6), .ref (px 7), .int wr])), ((px 0), .inr (6, [.ref (kn 0), .ref (kn 1), .ref (kn 2), .ref (kn 3), .int zk])), ((kn 0), .inl (cB, (30 * 2), .inl (ow_nI N.1))), ((kn 1), .inl (cB, 2, .inl (ow_nI N.2.1))), ((kn 2), .inl (cB, 2, .inl (ow_nI N.2.2))), (aY, .inr (6, [.ref (fy 0), .ref (fy 1), .ref (fy 2), .ref (fy 3), .int zy])), ((fy 0), .inl (cB, (30 * k), .inl (ow_nI C2))), ((fy 1), .inl (cB, k, .inl (ow_nI L2))), ((fy 2), .inl (cB, k, .inl (ow_nI K2)))] H → va_S A s.heap H locs → W p l e ({ frames := 2, cells := 0, slots := 0, locals := 90 } : Room) s m ([.ref aP, .int (nI sl), .ref aY, .int (nI b)] : List Value).toArray below meth c H locs 0 0 QQ (F0 m 0 ls []) from key9 s.heap [] hP hS
  intro H locs hP hS
  have hsl30 := hN2 sl
  have K27 : (ik_hit N sl C2 L2 K2 b) = false → ∀ (H : Heap) (locs : List Loc) (ls : Array Slot), va_P (dC, dI) vwCl [(aP, .inr (11, [.ref (px 0), .ref (px 1), .ref (px 2), .ref (px 3), .ref (px 4), .ref (px 5), .ref (px 6), .ref (px 7), .int wr])), ((px 0), .inr (6, [.ref (kn 0), .ref (kn 1), .ref (kn 2), .ref (kn 3), .int zk])), ((kn 0), .inl (cB, (30 * 2), .inl (ow_nI N.1))), ((kn 1), .inl (cB, 2, .inl (ow_nI N.2.1))), ((kn 2), .inl (cB, 2, .inl (ow_nI N.2.2))), (aY, .inr (6, [.ref (fy 0), .ref (fy 1), .ref (fy 2), .ref (fy 3), .int zy])), ((fy 0), .inl (cB, (30 * k), .inl (ow_nI C2))), ((fy 1), .inl (cB, k, .inl (ow_nI L2))), ((fy 2), .inl (cB, k, .inl (ow_nI K2)))] H → va_D A [(aP, .inr (11, [.ref (px 0), .ref (px 1), .ref (px 2), .ref (px 3), .ref (px 4), .ref (px 5), .ref (px 6), .ref (px 7), .int wr])), ((px 0), .inr (6, [.ref (kn 0), .ref (kn 1), .ref (kn 2), .ref (kn 3), .int zk])), ((kn 0), .inl (cB, (30 * 2), .inl (ow_nI N.1))), ((kn 1), .inl (cB, 2, .inl (ow_nI N.2.1))), ((kn 2), .inl (cB, 2, .inl (ow_nI N.2.2))), (aY, .inr (6, [.ref (fy 0), .ref (fy 1), .ref (fy 2), .ref (fy 3), .int zy])), ((fy 0), .inl (cB, (30 * k), .inl (ow_nI C2))), ((fy 1), .inl (cB, k, .inl (ow_nI L2))), ((fy 2), .inl (cB, k, .inl (ow_nI K2)))] → va_S A s.heap H locs → lv_has ls 4 [(0, .ref aP), (1, .int (nI sl)), (2, .ref aY), (3, .int (nI b))] → W p l e ({ frames := 2, cells := 0, slots := 0, locals := 90 } : Room) s m ([.ref aP, .int (nI sl), .ref aY, .int (nI b)] : List Value).toArray below meth c H locs 0 0 QQ (F0 m 27 ls []) := by
    intro hh H locs ls hP hD hS hl
    refine lv_aload_n hx hb dgX8_isKnown_27 rfl (lv_at hl 0 rfl) ?_
    refine va_get (D := (dC, dI)) (ci := 11) (v := .ref (px 0)) (C := RX8) (T := TX8) (N := 9) hx hb hts (fun _ h => List.mem_cons_of_mem _ (List.mem_append_left _ (List.mem_append_left _ (List.mem_append_right _ h)))) hown hK hP 0 rfl rfl 0 (by decide) (hts (.fieldLink RX8 14 "KnotHouse$Polynomials" "known" "LKnotHouse$Codes;") (by decide +kernel)) (fun _ h9 => h9) rfl dgX8_isKnown_28 ?_
    refine lv_iload_n hx hb dgX8_isKnown_31 rfl (lv_at hl 1 rfl) ?_
    refine lv_aload_n hx hb dgX8_isKnown_32 rfl (lv_at hl 2 rfl) ?_
    refine lv_iload_n hx hb dgX8_isKnown_33 rfl (lv_at hl 3 rfl) ?_
    have hPc := hP.sub (ws' := [((px 0), .inr (6, [.ref (kn 0), .ref (kn 1), .ref (kn 2), .ref (kn 3), .int zk])), ((kn 0), .inl (cB, (30 * 2), .inl (ow_nI N.1))), ((kn 1), .inl (cB, 2, .inl (ow_nI N.2.1))), ((kn 2), .inl (cB, 2, .inl (ow_nI N.2.2))), (aY, .inr (6, [.ref (fy 0), .ref (fy 1), .ref (fy 2), .ref (fy 3), .int zy])), ((fy 0), .inl (cB, (30 * k), .inl (ow_nI C2))), ((fy 1), .inl (cB, k, .inl (ow_nI L2))), ((fy 2), .inl (cB, k, .inl (ow_nI K2)))]) [1, 2, 3, 4, 5, 6, 7, 8] rfl
    have hDc := hD.sub (ws' := [((px 0), .inr (6, [.ref (kn 0), .ref (kn 1), .ref (kn 2), .ref (kn 3), .int zk])), ((kn 0), .inl (cB, (30 * 2), .inl (ow_nI N.1))), ((kn 1), .inl (cB, 2, .inl (ow_nI N.2.1))), ((kn 2), .inl (cB, 2, .inl (ow_nI N.2.2))), (aY, .inr (6, [.ref (fy 0), .ref (fy 1), .ref (fy 2), .ref (fy 3), .int zy])), ((fy 0), .inl (cB, (30 * k), .inl (ow_nI C2))), ((fy 1), .inl (cB, k, .inl (ow_nI L2))), ((fy 2), .inl (cB, k, .inl (ow_nI K2)))]) [1, 2, 3, 4, 5, 6, 7, 8] (by decide) rfl
    have hFc := va_free (wc := [((px 0), .inr (6, [.ref (kn 0), .ref (kn 1), .ref (kn 2), .ref (kn 3), .int zk])), ((kn 0), .inl (cB, (30 * 2), .inl (ow_nI N.1))), ((kn 1), .inl (cB, 2, .inl (ow_nI N.2.1))), ((kn 2), .inl (cB, 2, .inl (ow_nI N.2.2))), (aY, .inr (6, [.ref (fy 0), .ref (fy 1), .ref (fy 2), .ref (fy 3), .int zy])), ((fy 0), .inl (cB, (30 * k), .inl (ow_nI C2))), ((fy 1), .inl (cB, k, .inl (ow_nI L2))), ((fy 2), .inl (cB, k, .inl (ow_nI K2)))]) hD hS hA [1, 2, 3, 4, 5, 6, 7, 8] rfl
    refine va_callv (va_runV (As := [.int (nI sl), .ref aY, .int (nI b)]) (rest := []) ⟨hx, hb, hml, hown, hts⟩ (kg_X3_write l dC dI cI cB cJ cZ (px 0) aY kn fy 2 k (by decide) hk N.1 N.2.1 N.2.2 C2 L2 K2 zk zy sl b hsl hbk hC2 (fun i => Nat.lt_of_le_of_lt (hL2 i) (by decide)) hK2 H.size) (cwV 3 hts gg_X8_isKnown_1 rfl rfl rfl (by decide +kernel) ⟨(Nat.le_of_ble_eq_true rfl), (Nat.le_of_ble_eq_true rfl)⟩) ⟨fun a U g mk q => by obtain ⟨q0, q1, qP, qK, qD⟩ := q; exact ⟨q0, q1, qP, va_K.moved (u := U) (U := U.calling g mk a) (Vm.Alike.refl U.vm) qK, qD⟩, va_recv hK hPc (ci := 6) (q0 := 0) rfl rfl, fun U hU hW => ⟨rfl, by rw [hU], by rw [hU]; exact hPc, va_K.moved hW.alike hK, hDc.weaken (fun _ _ _ _ => trivial)⟩⟩ rfl rfl hl.1 rfl (lv_room (Nat.le_of_ble_eq_true rfl)) dgX8_isKnown_34 ⟨(Nat.le_of_ble_eq_true rfl), (Nat.le_of_ble_eq_true rfl)⟩) hS (fun q _ h => hFc q h) hFc (fun u9 t H1 locs ht hvm hw hB hz1 hk1 hS => ?_)
    obtain ⟨hP1, hD1⟩ := hB
    rw [ht] at hP1
    obtain ⟨hP, hD⟩ := va_join (wr := [(aP, .inr (11, [.ref (px 0), .ref (px 1), .ref (px 2), .ref (px 3), .ref (px 4), .ref (px 5), .ref (px 6), .ref (px 7), .int wr]))]) (w1 := [((px 0), .inr (6, [.ref (kn 0), .ref (kn 1), .ref (kn 2), .ref (kn 3), .int zk])), ((kn 0), .inl (cB, (30 * 2), .inl (ow_nI (va_cpy C2 N.1 (30 * b) (30 * sl) 30, nu N.2.1 sl (L2 b), nu N.2.2 sl (K2 b)).1))), ((kn 1), .inl (cB, 2, .inl (ow_nI (va_cpy C2 N.1 (30 * b) (30 * sl) 30, nu N.2.1 sl (L2 b), nu N.2.2 sl (K2 b)).2.1))), ((kn 2), .inl (cB, 2, .inl (ow_nI (va_cpy C2 N.1 (30 * b) (30 * sl) 30, nu N.2.1 sl (L2 b), nu N.2.2 sl (K2 b)).2.2))), (aY, .inr (6, [.ref (fy 0), .ref (fy 1), .ref (fy 2), .ref (fy 3), .int zy])), ((fy 0), .inl (cB, (30 * k), .inl (ow_nI C2))), ((fy 1), .inl (cB, k, .inl (ow_nI L2))), ((fy 2), .inl (cB, k, .inl (ow_nI K2)))]) hP hD [1, 2, 3, 4, 5, 6, 7, 8] [0] rfl rfl (by decide) (by decide) hk1 hFc hP1 hD1
    generalize H1 = H at hP hS ⊢
    have hP : va_P (dC, dI) vwCl [(aP, .inr (11, [.ref (px 0), .ref (px 1), .ref (px 2), .ref (px 3), .ref (px 4), .ref (px 5), .ref (px 6), .ref (px 7), .int wr])), ((px 0), .inr (6, [.ref (kn 0), .ref (kn 1), .ref (kn 2), .ref (kn 3), .int zk])), ((kn 0), .inl (cB, (30 * 2), .inl (ow_nI (va_cpy C2 N.1 (30 * b) (30 * sl) 30, nu N.2.1 sl (L2 b), nu N.2.2 sl (K2 b)).1))), ((kn 1), .inl (cB, 2, .inl (ow_nI (va_cpy C2 N.1 (30 * b) (30 * sl) 30, nu N.2.1 sl (L2 b), nu N.2.2 sl (K2 b)).2.1))), ((kn 2), .inl (cB, 2, .inl (ow_nI (va_cpy C2 N.1 (30 * b) (30 * sl) 30, nu N.2.1 sl (L2 b), nu N.2.2 sl (K2 b)).2.2))), (aY, .inr (6, [.ref (fy 0), .ref (fy 1), .ref (fy 2), .ref (fy 3), .int zy])), ((fy 0), .inl (cB, (30 * k), .inl (ow_nI C2))), ((fy 1), .inl (cB, k, .inl (ow_nI L2))), ((fy 2), .inl (cB, k, .inl (ow_nI K2)))] H := hP
    have hD : va_D A [(aP, .inr (11, [.ref (px 0), .ref (px 1), .ref (px 2), .ref (px 3), .ref (px 4), .ref (px 5), .ref (px 6), .ref (px 7), .int wr])), ((px 0), .inr (6, [.ref (kn 0), .ref (kn 1), .ref (kn 2), .ref (kn 3), .int zk])), ((kn 0), .inl (cB, (30 * 2), .inl (ow_nI (va_cpy C2 N.1 (30 * b) (30 * sl) 30, nu N.2.1 sl (L2 b), nu N.2.2 sl (K2 b)).1))), ((kn 1), .inl (cB, 2, .inl (ow_nI (va_cpy C2 N.1 (30 * b) (30 * sl) 30, nu N.2.1 sl (L2 b), nu N.2.2 sl (K2 b)).2.1))), ((kn 2), .inl (cB, 2, .inl (ow_nI (va_cpy C2 N.1 (30 * b) (30 * sl) 30, nu N.2.1 sl (L2 b), nu N.2.2 sl (K2 b)).2.2))), (aY, .inr (6, [.ref (fy 0), .ref (fy 1), .ref (fy 2), .ref (fy 3), .int zy])), ((fy 0), .inl (cB, (30 * k), .inl (ow_nI C2))), ((fy 1), .inl (cB, k, .inl (ow_nI L2))), ((fy 2), .inl (cB, k, .inl (ow_nI K2)))] := hD
    refine lv_iconst (v := 0) hx hb dgX8_isKnown_37 (by decide) ?_
    have hP : va_P (dC, dI) vwCl [(aP, .inr (11, [.ref (px 0), .ref (px 1), .ref (px 2), .ref (px 3), .ref (px 4), .ref (px 5), .ref (px 6), .ref (px 7), .int wr])), ((px 0), .inr (6, [.ref (kn 0), .ref (kn 1), .ref (kn 2), .ref (kn 3), .int zk])), ((kn 0), .inl (cB, (30 * 2), .inl (ow_nI (ik_run N sl C2 L2 K2 b).1))), ((kn 1), .inl (cB, 2, .inl (ow_nI (ik_run N sl C2 L2 K2 b).2.1))), ((kn 2), .inl (cB, 2, .inl (ow_nI (ik_run N sl C2 L2 K2 b).2.2))), (aY, .inr (6, [.ref (fy 0), .ref (fy 1), .ref (fy 2), .ref (fy 3), .int zy])), ((fy 0), .inl (cB, (30 * k), .inl (ow_nI C2))), ((fy 1), .inl (cB, k, .inl (ow_nI L2))), ((fy 2), .inl (cB, k, .inl (ow_nI K2)))] H := by rw [show (ik_run N sl C2 L2 K2 b) = (va_cpy C2 N.1 (30 * b) (30 * sl) 30, nu N.2.1 sl (L2 b), nu N.2.2 sl (K2 b)) from if_neg (by rw [hh]; decide)]; exact hP
    have hD : va_D A [(aP, .inr (11, [.ref (px 0), .ref (px 1), .ref (px 2), .ref (px 3), .ref (px 4), .ref (px 5), .ref (px 6), .ref (px 7), .int wr])), ((px 0), .inr (6, [.ref (kn 0), .ref (kn 1), .ref (kn 2), .ref (kn 3), .int zk])), ((kn 0), .inl (cB, (30 * 2), .inl (ow_nI (ik_run N sl C2 L2 K2 b).1))), ((kn 1), .inl (cB, 2, .inl (ow_nI (ik_run N sl C2 L2 K2 b).2.1))), ((kn 2), .inl (cB, 2, .inl (ow_nI (ik_run N sl C2 L2 K2 b).2.2))), (aY, .inr (6, [.ref (fy 0), .ref (fy 1), .ref (fy 2), .ref (fy 3), .int zy])), ((fy 0), .inl (cB, (30 * k), .inl (ow_nI C2))), ((fy 1), .inl (cB, k, .inl (ow_nI L2))), ((fy 2), .inl (cB, k, .inl (ow_nI K2)))] := by rw [show (ik_run N sl C2 L2 K2 b) = (va_cpy C2 N.1 (30 * b) (30 * sl) 30, nu N.2.1 sl (L2 b), nu N.2.2 sl (K2 b)) from if_neg (by rw [hh]; decide)]; exact hD
    rw [hQQ]
    exact W.zret (v := 0) (ty := .boolean) hx hb hr rfl (fun t ht hW => ⟨⟨0, (), rfl, (bI_f hh).symm, by rw [ht]; exact hP, hD⟩, hS.F ht⟩) hS.2.2 dgX8_isKnown_38
  refine lv_aload_n hx hb dgX8_isKnown_0 rfl (lv_at hl 0 rfl) ?_
  refine va_get (D := (dC, dI)) (ci := 11) (v := .ref (px 0)) (C := RX8) (T := TX8) (N := 9) hx hb hts (fun _ h => List.mem_cons_of_mem _ (List.mem_append_left _ (List.mem_append_left _ (List.mem_append_right _ h)))) hown hK hP 0 rfl rfl 0 (by decide) (hts (.fieldLink RX8 14 "KnotHouse$Polynomials" "known" "LKnotHouse$Codes;") (by decide +kernel)) (fun _ h9 => h9) rfl dgX8_isKnown_1 ?_
  refine va_get (D := (dC, dI)) (ci := 6) (v := .ref (kn 1)) (C := RX3) (T := TX3) (N := 5) hx hb hts (fun _ h => List.mem_cons_of_mem _ (List.mem_append_left _ (List.mem_append_right _ h))) hown hK hP 1 rfl rfl 1 (by decide) (hts (.fieldLink RX8 49 "KnotHouse$Codes" "lengths" "[B") (by decide +kernel)) (fun _ h9 => h9) rfl dgX8_isKnown_4 ?_
  refine lv_iload_n hx hb dgX8_isKnown_7 rfl (lv_at hl 1 rfl) ?_
  refine va_bald hx hb hK hP 3 1 rfl rfl (vp_in_nI (n := sl) (N := 2) hsl (by decide)) dgX8_isKnown_8 ?_
  refine ow_topi (y := nI (N.2.1 sl)) (ow_nI_at N.2.1 (Nat.lt_trans (m := 2) hsl (by decide))) ?_
  rcases Nat.eq_zero_or_pos (N.2.1 sl) with h0 | h0
  · refine lv_if_le (tgt := 27) hx hb dgX8_isKnown_9 (by decide) (fun _ => ?_) (fun c9 => absurd (by rw [h0]; decide) c9)
    exact K27 (by simp [ik_hit, h0]) H locs ls hP hD hS (lv_sub hl [0, 1, 2, 3] rfl)
  · refine lv_if_le (tgt := 27) hx hb dgX8_isKnown_9 (by decide) (fun c9 => absurd c9 (Int32.not_le.mpr (nI_lt (a := 0) (b := N.2.1 sl) h0 (by omega)))) (fun _ => ?_)
    refine lv_aload_n hx hb dgX8_isKnown_12 rfl (lv_at hl 0 rfl) ?_
    refine va_get (D := (dC, dI)) (ci := 11) (v := .ref (px 0)) (C := RX8) (T := TX8) (N := 9) hx hb hts (fun _ h => List.mem_cons_of_mem _ (List.mem_append_left _ (List.mem_append_left _ (List.mem_append_right _ h)))) hown hK hP 0 rfl rfl 0 (by decide) (hts (.fieldLink RX8 14 "KnotHouse$Polynomials" "known" "LKnotHouse$Codes;") (by decide +kernel)) (fun _ h9 => h9) rfl dgX8_isKnown_13 ?_
    refine lv_iload_n hx hb dgX8_isKnown_16 rfl (lv_at hl 1 rfl) ?_
    refine lv_aload_n hx hb dgX8_isKnown_17 rfl (lv_at hl 2 rfl) ?_
    refine lv_iload_n hx hb dgX8_isKnown_18 rfl (lv_at hl 3 rfl) ?_
    have hPc := hP.sub (ws' := [((px 0), .inr (6, [.ref (kn 0), .ref (kn 1), .ref (kn 2), .ref (kn 3), .int zk])), ((kn 0), .inl (cB, (30 * 2), .inl (ow_nI N.1))), ((kn 1), .inl (cB, 2, .inl (ow_nI N.2.1))), ((kn 2), .inl (cB, 2, .inl (ow_nI N.2.2))), (aY, .inr (6, [.ref (fy 0), .ref (fy 1), .ref (fy 2), .ref (fy 3), .int zy])), ((fy 0), .inl (cB, (30 * k), .inl (ow_nI C2))), ((fy 1), .inl (cB, k, .inl (ow_nI L2))), ((fy 2), .inl (cB, k, .inl (ow_nI K2)))]) [1, 2, 3, 4, 5, 6, 7, 8] rfl
    refine va_calli (va_runV (As := [.int (nI sl), .ref aY, .int (nI b)]) (rest := []) ⟨hx, hb, hml, hown, hts⟩ (kg_X3_compare l dC dI cI cB cJ cZ (px 0) aY kn fy 2 k (by decide) hk N.1 N.2.1 N.2.2 C2 L2 K2 zk zy sl b hsl hbk hsl30 (hL2 b) hN1 hN3 hC2 hK2) (cwV 3 hts gg_X8_isKnown_0 rfl rfl rfl (by decide +kernel) ⟨(Nat.le_of_ble_eq_true rfl), (Nat.le_of_ble_eq_true rfl)⟩) ⟨fun a U g mk q => by obtain ⟨q0, qP, qK⟩ := q; exact ⟨q0, qP, va_K.moved (u := U) (U := U.calling g mk a) (Vm.Alike.refl U.vm) qK⟩, va_recv hK hPc (ci := 6) (q0 := 0) rfl rfl, fun U hU hW => ⟨rfl, by rw [hU]; exact hPc, va_K.moved hW.alike hK⟩⟩ rfl rfl hl.1 rfl (lv_room (Nat.le_of_ble_eq_true rfl)) dgX8_isKnown_19 ⟨(Nat.le_of_ble_eq_true rfl), (Nat.le_of_ble_eq_true rfl)⟩) hS (fun q _ h => h.elim) (fun q h => h.elim) (fun rc9 un t H1 locs ht hvm hw9 hB hz1 hk1 hS => ?_)
    have hP := hP.kept (fun k9 x9 h9 => hk1 x9.1 ((hP k9 x9 h9).lt) id)
    generalize H1 = H at hP hS ⊢
    have hrc : rc9 = cd_cmp (N.2.2 sl) (N.2.1 sl) (fun i => N.1 (30 * sl + i)) (K2 b) (L2 b) (fun i => C2 (30 * b + i)) := hw9
    refine lv_if_ne (tgt := 27) hx hb dgX8_isKnown_22 (by decide) (fun c1 => ?_) (fun c1 => ?_)
    · exact K27 (by rw [hrc] at c1; simp [ik_hit, c1]) H locs ls hP hD hS (lv_sub hl [0, 1, 2, 3] rfl)
    · refine lv_iconst (v := 1) hx hb dgX8_isKnown_25 (by decide) ?_
      have hh : (ik_hit N sl C2 L2 K2 b) = true := by rw [hrc] at c1; simp [ik_hit, h0, c1]
      have hP : va_P (dC, dI) vwCl [(aP, .inr (11, [.ref (px 0), .ref (px 1), .ref (px 2), .ref (px 3), .ref (px 4), .ref (px 5), .ref (px 6), .ref (px 7), .int wr])), ((px 0), .inr (6, [.ref (kn 0), .ref (kn 1), .ref (kn 2), .ref (kn 3), .int zk])), ((kn 0), .inl (cB, (30 * 2), .inl (ow_nI (ik_run N sl C2 L2 K2 b).1))), ((kn 1), .inl (cB, 2, .inl (ow_nI (ik_run N sl C2 L2 K2 b).2.1))), ((kn 2), .inl (cB, 2, .inl (ow_nI (ik_run N sl C2 L2 K2 b).2.2))), (aY, .inr (6, [.ref (fy 0), .ref (fy 1), .ref (fy 2), .ref (fy 3), .int zy])), ((fy 0), .inl (cB, (30 * k), .inl (ow_nI C2))), ((fy 1), .inl (cB, k, .inl (ow_nI L2))), ((fy 2), .inl (cB, k, .inl (ow_nI K2)))] H := by rw [show (ik_run N sl C2 L2 K2 b) = N from if_pos hh]; exact hP
      have hD : va_D A [(aP, .inr (11, [.ref (px 0), .ref (px 1), .ref (px 2), .ref (px 3), .ref (px 4), .ref (px 5), .ref (px 6), .ref (px 7), .int wr])), ((px 0), .inr (6, [.ref (kn 0), .ref (kn 1), .ref (kn 2), .ref (kn 3), .int zk])), ((kn 0), .inl (cB, (30 * 2), .inl (ow_nI (ik_run N sl C2 L2 K2 b).1))), ((kn 1), .inl (cB, 2, .inl (ow_nI (ik_run N sl C2 L2 K2 b).2.1))), ((kn 2), .inl (cB, 2, .inl (ow_nI (ik_run N sl C2 L2 K2 b).2.2))), (aY, .inr (6, [.ref (fy 0), .ref (fy 1), .ref (fy 2), .ref (fy 3), .int zy])), ((fy 0), .inl (cB, (30 * k), .inl (ow_nI C2))), ((fy 1), .inl (cB, k, .inl (ow_nI L2))), ((fy 2), .inl (cB, k, .inl (ow_nI K2)))] := by rw [show (ik_run N sl C2 L2 K2 b) = N from if_pos hh]; exact hD
      rw [hQQ]
      exact W.zret (v := 1) (ty := .boolean) hx hb hr rfl (fun t ht hW => ⟨⟨1, (), rfl, (bI_t hh).symm, by rw [ht]; exact hP, hD⟩, hS.F ht⟩) hS.2.2 dgX8_isKnown_26
theorem dgX8_twoIndex_0 : decode cX8_twoIndex 0 = .ok (.lload_n 0, 1) := by decide +kernel
theorem dgX8_twoIndex_1 : decode cX8_twoIndex 1 = .ok (.ldc2_w 109, 3) := by decide +kernel
theorem dgX8_twoIndex_4 : decode cX8_twoIndex 4 = .ok (.lsub, 1) := by decide +kernel
theorem dgX8_twoIndex_5 : decode cX8_twoIndex 5 = .ok (.lstore 4, 2) := by decide +kernel
theorem dgX8_twoIndex_7 : decode cX8_twoIndex 7 = .ok (.lload_n 2, 1) := by decide +kernel
theorem dgX8_twoIndex_8 : decode cX8_twoIndex 8 = .ok (.ldc2_w 111, 3) := by decide +kernel
theorem dgX8_twoIndex_11 : decode cX8_twoIndex 11 = .ok (.lsub, 1) := by decide +kernel
theorem dgX8_twoIndex_12 : decode cX8_twoIndex 12 = .ok (.lstore 6, 2) := by decide +kernel
theorem dgX8_twoIndex_14 : decode cX8_twoIndex 14 = .ok (.lload 4, 2) := by decide +kernel
theorem dgX8_twoIndex_16 : decode cX8_twoIndex 16 = .ok (.lconst 0, 1) := by decide +kernel
theorem dgX8_twoIndex_17 : decode cX8_twoIndex 17 = .ok (.lcmp, 1) := by decide +kernel
theorem dgX8_twoIndex_18 : decode cX8_twoIndex 18 = .ok (.ifCond .lt 28, 3) := by decide +kernel
theorem dgX8_twoIndex_21 : decode cX8_twoIndex 21 = .ok (.lload 4, 2) := by decide +kernel
theorem dgX8_twoIndex_23 : decode cX8_twoIndex 23 = .ok (.ldc2_w 113, 3) := by decide +kernel
theorem dgX8_twoIndex_26 : decode cX8_twoIndex 26 = .ok (.lcmp, 1) := by decide +kernel
theorem dgX8_twoIndex_27 : decode cX8_twoIndex 27 = .ok (.ifCond .ge 19, 3) := by decide +kernel
theorem dgX8_twoIndex_30 : decode cX8_twoIndex 30 = .ok (.lload 6, 2) := by decide +kernel
theorem dgX8_twoIndex_32 : decode cX8_twoIndex 32 = .ok (.lconst 0, 1) := by decide +kernel
theorem dgX8_twoIndex_33 : decode cX8_twoIndex 33 = .ok (.lcmp, 1) := by decide +kernel
theorem dgX8_twoIndex_34 : decode cX8_twoIndex 34 = .ok (.ifCond .lt 12, 3) := by decide +kernel
theorem dgX8_twoIndex_37 : decode cX8_twoIndex 37 = .ok (.lload 6, 2) := by decide +kernel
theorem dgX8_twoIndex_39 : decode cX8_twoIndex 39 = .ok (.ldc2_w 115, 3) := by decide +kernel
theorem dgX8_twoIndex_42 : decode cX8_twoIndex 42 = .ok (.lcmp, 1) := by decide +kernel
theorem dgX8_twoIndex_43 : decode cX8_twoIndex 43 = .ok (.ifCond .lt 7, 3) := by decide +kernel
theorem dgX8_twoIndex_46 : decode cX8_twoIndex 46 = .ok (.iconst (-1), 1) := by decide +kernel
theorem dgX8_twoIndex_47 : decode cX8_twoIndex 47 = .ok (.goto 13, 3) := by decide +kernel
theorem dgX8_twoIndex_50 : decode cX8_twoIndex 50 = .ok (.lload 4, 2) := by decide +kernel
theorem dgX8_twoIndex_52 : decode cX8_twoIndex 52 = .ok (.ldc2_w 115, 3) := by decide +kernel
theorem dgX8_twoIndex_55 : decode cX8_twoIndex 55 = .ok (.lmul, 1) := by decide +kernel
theorem dgX8_twoIndex_56 : decode cX8_twoIndex 56 = .ok (.lload 6, 2) := by decide +kernel
theorem dgX8_twoIndex_58 : decode cX8_twoIndex 58 = .ok (.ladd, 1) := by decide +kernel
theorem dgX8_twoIndex_59 : decode cX8_twoIndex 59 = .ok (.l2i, 1) := by decide +kernel
theorem dgX8_twoIndex_60 : decode cX8_twoIndex 60 = .ok (.ireturn, 1) := by decide +kernel
def wg_X8_twoIndex : List Cond := .code yX8_twoIndex cX8_twoIndex 8 (some .int) :: ([.constantLong RX8 109 (-64), .constantLong RX8 111 (-20), .constantLong RX8 113 (129), .constantLong RX8 115 (41)] ++ [])
set_option maxHeartbeats 4000000 in
set_option maxRecDepth 100000 in
theorem kg_X8_twoIndex (l : Launch) (dC : Nat → ClassId) (dI : Nat → Nat → Nat) (cI cB cJ cZ : ClassId) (i j : Int64) : Met l yX8_twoIndex wg_X8_twoIndex (({ frames := 0, cells := 0, slots := 0, locals := 0 } : Room)) (va_Pc [.long i, .long j] (fun U => va_P (dC, dI) vwCl [] U.heap ∧ va_K (dC, dI) vwCl [(cI, .int), (cB, .byte), (cJ, .long), (cZ, .boolean)] U)) (va_Qi (fun r (_ : Unit) => r = ti i j) (fun _ _ => True) (fun _ => False)) 0 0 (fun _ => False) := by
  refine Met.ofW (cc := cX8_twoIndex) (maxL := 8) (ret := (some .int)) (by decide) rfl ?_
  intro p e s m args below meth c s₁ B hml hv
  obtain ⟨rfl, hP, hK⟩ := hv
  have hx := B.exec
  have hb := B.bytes
  have hr := B.returns
  have hts := atoms_spec (ws := wg_X8_twoIndex) B.pre
  have hown : s.vm.findClass RX8 = some m.cls := findClass_of_methodNamed B.named
  have hlocks := B.notSynchronized
  have hS : va_S (fun _ => False) s.heap s.heap [] := va_S.rf
  have hP : va_P (dC, dI) vwCl [] s.heap := hP
  have hl := lv_entry ([.long i, .long j]) (n := 8) (Nat.le_of_ble_eq_true rfl)
  rw [lg_entry_eq]
  generalize (lg_sl ([.long i, .long j]) ++ List.replicate (8 - (lg_sl ([.long i, .long j])).length) Slot.unset).toArray = ls at hl ⊢
  have hl : lv_has ls 8 [(0, .long i), (2, .long j)] := hl
  refine ow_named (fun QQ hQQ => ?_)
  refine lv_lload_n hx hb dgX8_twoIndex_0 rfl (lv_at hl 0 rfl) ?_
  refine lv_ldc2 (v := (-64)) hx hb hown (hts (.constantLong RX8 109 (-64)) (by decide +kernel)) dgX8_twoIndex_1 ?_
  refine lv_lsub hx hb dgX8_twoIndex_4 ?_
  refine ow_topl (y := ti_x i) rfl ?_
  refine lv_lstore (lv' := [(4, .long (ti_x i)), (0, .long i), (2, .long j)]) hx hb dgX8_twoIndex_5 hl (by decide) rfl (fun ls hl => ?_)
  refine lv_lload_n hx hb dgX8_twoIndex_7 rfl (lv_at hl 2 rfl) ?_
  refine lv_ldc2 (v := (-20)) hx hb hown (hts (.constantLong RX8 111 (-20)) (by decide +kernel)) dgX8_twoIndex_8 ?_
  refine lv_lsub hx hb dgX8_twoIndex_11 ?_
  refine ow_topl (y := ti_z j) rfl ?_
  refine lv_lstore (lv' := [(6, .long (ti_z j)), (4, .long (ti_x i)), (0, .long i), (2, .long j)]) hx hb dgX8_twoIndex_12 hl (by decide) rfl (fun ls hl => ?_)
  refine lv_lload hx hb dgX8_twoIndex_14 (lv_at hl 1 rfl) ?_
  refine lv_lconst (v := 0) hx hb dgX8_twoIndex_16 rfl ?_
  refine W.lcmp hx hb dgX8_twoIndex_17 ?_
  refine lv_if_lt (tgt := 46) hx hb dgX8_twoIndex_18 (by decide) (fun c1 => ?_) (fun c1 => ?_)
  · refine lv_iconst (v := (-1)) hx hb dgX8_twoIndex_46 (by decide) ?_
    refine lv_goto (tgt := 60) hx hb dgX8_twoIndex_47 (by decide) ?_
    rw [hQQ]
    exact W.iret (v := (-1)) hx hb hr (fun t ht hW => ⟨⟨(-1), (), rfl, (if_neg (fun h9 => h9.1 ((lg_cmp_lt _ _).mp c1))).symm, trivial⟩, hS.F ht⟩) hS.2.2 dgX8_twoIndex_60
  · refine lv_lload hx hb dgX8_twoIndex_21 (lv_at hl 1 rfl) ?_
    refine lv_ldc2 (v := 129) hx hb hown (hts (.constantLong RX8 113 (129)) (by decide +kernel)) dgX8_twoIndex_23 ?_
    refine W.lcmp hx hb dgX8_twoIndex_26 ?_
    refine lv_if_ge (tgt := 46) hx hb dgX8_twoIndex_27 (by decide) (fun c2 => ?_) (fun c2 => ?_)
    · refine lv_iconst (v := (-1)) hx hb dgX8_twoIndex_46 (by decide) ?_
      refine lv_goto (tgt := 60) hx hb dgX8_twoIndex_47 (by decide) ?_
      rw [hQQ]
      exact W.iret (v := (-1)) hx hb hr (fun t ht hW => ⟨⟨(-1), (), rfl, (if_neg (fun h9 => absurd ((lg_cmp_lt _ _).mpr h9.2.1) (Int32.not_lt.mpr c2))).symm, trivial⟩, hS.F ht⟩) hS.2.2 dgX8_twoIndex_60
    · refine lv_lload hx hb dgX8_twoIndex_30 (lv_at hl 0 rfl) ?_
      refine lv_lconst (v := 0) hx hb dgX8_twoIndex_32 rfl ?_
      refine W.lcmp hx hb dgX8_twoIndex_33 ?_
      refine lv_if_lt (tgt := 46) hx hb dgX8_twoIndex_34 (by decide) (fun c3 => ?_) (fun c3 => ?_)
      · refine lv_iconst (v := (-1)) hx hb dgX8_twoIndex_46 (by decide) ?_
        refine lv_goto (tgt := 60) hx hb dgX8_twoIndex_47 (by decide) ?_
        rw [hQQ]
        exact W.iret (v := (-1)) hx hb hr (fun t ht hW => ⟨⟨(-1), (), rfl, (if_neg (fun h9 => h9.2.2.1 ((lg_cmp_lt _ _).mp c3))).symm, trivial⟩, hS.F ht⟩) hS.2.2 dgX8_twoIndex_60
      · refine lv_lload hx hb dgX8_twoIndex_37 (lv_at hl 0 rfl) ?_
        refine lv_ldc2 (v := 41) hx hb hown (hts (.constantLong RX8 115 (41)) (by decide +kernel)) dgX8_twoIndex_39 ?_
        refine W.lcmp hx hb dgX8_twoIndex_42 ?_
        refine lv_if_lt (tgt := 50) hx hb dgX8_twoIndex_43 (by decide) (fun c4 => ?_) (fun c4 => ?_)
        · refine lv_lload hx hb dgX8_twoIndex_50 (lv_at hl 1 rfl) ?_
          refine lv_ldc2 (v := 41) hx hb hown (hts (.constantLong RX8 115 (41)) (by decide +kernel)) dgX8_twoIndex_52 ?_
          refine lv_lmul hx hb dgX8_twoIndex_55 ?_
          refine lv_lload hx hb dgX8_twoIndex_56 (lv_at hl 0 rfl) ?_
          refine lv_ladd hx hb dgX8_twoIndex_58 ?_
          refine lv_l2i hx hb dgX8_twoIndex_59 rfl ?_
          rw [hQQ]
          exact W.iret (v := (((ti_x i) * 41) + (ti_z j)).toInt32) hx hb hr (fun t ht hW => ⟨⟨(((ti_x i) * 41) + (ti_z j)).toInt32, (), rfl, (if_pos ⟨fun h9 => c1 ((lg_cmp_lt _ _).mpr h9), (lg_cmp_lt _ _).mp (Int32.not_le.mp c2), fun h9 => c3 ((lg_cmp_lt _ _).mpr h9), (lg_cmp_lt _ _).mp c4⟩).symm, trivial⟩, hS.F ht⟩) hS.2.2 dgX8_twoIndex_60
        · refine lv_iconst (v := (-1)) hx hb dgX8_twoIndex_46 (by decide) ?_
          refine lv_goto (tgt := 60) hx hb dgX8_twoIndex_47 (by decide) ?_
          rw [hQQ]
          exact W.iret (v := (-1)) hx hb hr (fun t ht hW => ⟨⟨(-1), (), rfl, (if_neg (fun h9 => c4 ((lg_cmp_lt _ _).mpr h9.2.2.2))).symm, trivial⟩, hS.F ht⟩) hS.2.2 dgX8_twoIndex_60
theorem dgX8_twoAt_0 : decode cX8_twoAt 0 = .ok (.iload_n 1, 1) := by decide +kernel
theorem dgX8_twoAt_1 : decode cX8_twoAt 1 = .ok (.i2l, 1) := by decide +kernel
theorem dgX8_twoAt_2 : decode cX8_twoAt 2 = .ok (.iload_n 2, 1) := by decide +kernel
theorem dgX8_twoAt_3 : decode cX8_twoAt 3 = .ok (.i2l, 1) := by decide +kernel
theorem dgX8_twoAt_4 : decode cX8_twoAt 4 = .ok (.invokestatic 105, 3) := by decide +kernel
theorem dgX8_twoAt_7 : decode cX8_twoAt 7 = .ok (.istore_n 3, 1) := by decide +kernel
theorem dgX8_twoAt_8 : decode cX8_twoAt 8 = .ok (.iload_n 3, 1) := by decide +kernel
theorem dgX8_twoAt_9 : decode cX8_twoAt 9 = .ok (.iconst (-1), 1) := by decide +kernel
theorem dgX8_twoAt_10 : decode cX8_twoAt 10 = .ok (.if_icmp .ne 7, 3) := by decide +kernel
theorem dgX8_twoAt_13 : decode cX8_twoAt 13 = .ok (.iconst 0, 1) := by decide +kernel
theorem dgX8_twoAt_14 : decode cX8_twoAt 14 = .ok (.goto 9, 3) := by decide +kernel
theorem dgX8_twoAt_17 : decode cX8_twoAt 17 = .ok (.aload_n 0, 1) := by decide +kernel
theorem dgX8_twoAt_18 : decode cX8_twoAt 18 = .ok (.getfield 30, 3) := by decide +kernel
theorem dgX8_twoAt_21 : decode cX8_twoAt 21 = .ok (.iload_n 3, 1) := by decide +kernel
theorem dgX8_twoAt_22 : decode cX8_twoAt 22 = .ok (.iaload, 1) := by decide +kernel
theorem dgX8_twoAt_23 : decode cX8_twoAt 23 = .ok (.ireturn, 1) := by decide +kernel
def wg_X8_twoAt : List Cond := .code yX8_twoAt cX8_twoAt 4 (some .int) :: (([.fieldLink RX8 30 "KnotHouse$Polynomials" "inTwo" "[I"] ++ wsX80) ++ (va_wsS RX8 105 yX8_twoIndex wg_X8_twoIndex ++ []))
theorem gg_X8_twoAt_0 : GoodIn wg_X8_twoAt (va_wsS RX8 105 yX8_twoIndex wg_X8_twoIndex) := goodIn_sub (fun _ h => List.mem_cons_of_mem _ (List.mem_append_right _ (List.mem_append_left _ h))) (by decide +kernel)
set_option maxHeartbeats 4000000 in
set_option maxRecDepth 100000 in
theorem kg_X8_twoAt (l : Launch) (dC : Nat → ClassId) (dI : Nat → Nat → Nat) (cI cB cJ cZ : ClassId) (aP : Nat) (px : Nat → Nat) (wr : Int32) (f : Nat → Int32) (i j : Int32) : Met l yX8_twoAt wg_X8_twoAt (({ frames := 1, cells := 0, slots := 0, locals := 40 } : Room)) (va_Pc [.ref aP, .int i, .int j] (fun U => va_P (dC, dI) vwCl [(aP, .inr (11, [.ref (px 0), .ref (px 1), .ref (px 2), .ref (px 3), .ref (px 4), .ref (px 5), .ref (px 6), .ref (px 7), .int wr])), ((px 3), .inl (cI, 5289, .inl f))] U.heap ∧ va_K (dC, dI) vwCl [(cI, .int), (cB, .byte), (cJ, .long), (cZ, .boolean)] U)) (va_Qi (fun r (_ : Unit) => r = (if ti_in i.toInt64 j.toInt64 then f (ti i.toInt64 j.toInt64).toNatClampNeg else 0)) (fun _ _ => True) (fun _ => False)) 0 0 (fun _ => False) := by
  refine Met.ofW (cc := cX8_twoAt) (maxL := 4) (ret := (some .int)) (by decide) rfl ?_
  intro p e s m args below meth c s₁ B hml hv
  obtain ⟨rfl, hP, hK⟩ := hv
  have hx := B.exec
  have hb := B.bytes
  have hr := B.returns
  have hts := atoms_spec (ws := wg_X8_twoAt) B.pre
  have hown : s.vm.findClass RX8 = some m.cls := findClass_of_methodNamed B.named
  have hlocks := B.notSynchronized
  have hS : va_S (fun _ => False) s.heap s.heap [] := va_S.rf
  have hP : va_P (dC, dI) vwCl [(aP, .inr (11, [.ref (px 0), .ref (px 1), .ref (px 2), .ref (px 3), .ref (px 4), .ref (px 5), .ref (px 6), .ref (px 7), .int wr])), ((px 3), .inl (cI, 5289, .inl f))] s.heap := hP
  have hl := lv_entry ([.ref aP, .int i, .int j]) (n := 4) (Nat.le_of_ble_eq_true rfl)
  rw [lg_entry_eq]
  generalize (lg_sl ([.ref aP, .int i, .int j]) ++ List.replicate (4 - (lg_sl ([.ref aP, .int i, .int j])).length) Slot.unset).toArray = ls at hl ⊢
  have hl : lv_has ls 4 [(0, .ref aP), (1, .int i), (2, .int j)] := hl
  refine ow_named (fun QQ hQQ => ?_)
  refine lv_iload_n hx hb dgX8_twoAt_0 rfl (lv_at hl 1 rfl) ?_
  refine lv_i2l hx hb dgX8_twoAt_1 rfl ?_
  refine lv_iload_n hx hb dgX8_twoAt_2 rfl (lv_at hl 2 rfl) ?_
  refine lv_i2l hx hb dgX8_twoAt_3 rfl ?_
  have hPc := hP.sub (ws' := []) [] rfl
  refine va_calli (va_runS (As := [.long i.toInt64, .long j.toInt64]) (rest := []) ⟨hx, hb, hml, hown, hts⟩ (kg_X8_twoIndex l dC dI cI cB cJ cZ i.toInt64 j.toInt64) (va_cwS 2 hts gg_X8_twoAt_0 rfl rfl rfl (by decide +kernel) ⟨(Nat.le_of_ble_eq_true rfl), (Nat.le_of_ble_eq_true rfl)⟩) ⟨fun a U g mk q => by obtain ⟨q0, qP, qK⟩ := q; exact ⟨q0, qP, va_K.moved (u := U) (U := U.calling g mk a) (Vm.Alike.refl U.vm) qK⟩, fun U hU hW => ⟨rfl, by rw [hU]; exact hPc, va_K.moved hW.alike hK⟩⟩ rfl rfl hl.1 rfl (lv_room (Nat.le_of_ble_eq_true rfl)) dgX8_twoAt_4 ⟨(Nat.le_of_ble_eq_true rfl), (Nat.le_of_ble_eq_true rfl)⟩) hS (fun q _ h => h.elim) (fun q h => h.elim) (fun ra9 un t H1 locs ht hvm hw9 hB hz1 hk1 hS => ?_)
  have hP := hP.kept (fun k9 x9 h9 => hk1 x9.1 ((hP k9 x9 h9).lt) id)
  generalize H1 = H at hP hS ⊢
  obtain rfl : ra9 = ti i.toInt64 j.toInt64 := hw9
  refine lv_istore_n (lv' := [(3, .int (ti i.toInt64 j.toInt64)), (0, .ref aP), (1, .int i), (2, .int j)]) hx hb dgX8_twoAt_7 rfl hl (by decide) rfl (fun ls hl => ?_)
  refine lv_iload_n hx hb dgX8_twoAt_8 rfl (lv_at hl 0 rfl) ?_
  refine lv_iconst (v := (-1)) hx hb dgX8_twoAt_9 (by decide) ?_
  rcases Decidable.em (ti_in i.toInt64 j.toInt64) with h1 | h1
  · obtain ⟨t9, ht9, et9⟩ := ti_at h1
    have hti : ti i.toInt64 j.toInt64 = nI t9 := (if_pos h1).trans et9
    refine lv_icmp_ne (tgt := 17) hx hb dgX8_twoAt_10 (by decide) (fun _ => ?_) (fun c9 => absurd c9 (by rw [hti]; exact nI_nm1 (by omega)))
    refine lv_aload_n hx hb dgX8_twoAt_17 rfl (lv_at hl 1 rfl) ?_
    refine va_get (D := (dC, dI)) (ci := 11) (v := .ref (px 3)) (C := RX8) (T := TX8) (N := 9) hx hb hts (fun _ h => List.mem_cons_of_mem _ (List.mem_append_left _ (List.mem_append_right _ h))) hown hK hP 0 rfl rfl 3 (by decide) (hts (.fieldLink RX8 30 "KnotHouse$Polynomials" "inTwo" "[I") (by decide +kernel)) (fun _ h9 => h9) rfl dgX8_twoAt_18 ?_
    refine lv_iload_n hx hb dgX8_twoAt_21 rfl (lv_at hl 0 rfl) ?_
    refine ow_topi (y := nI t9) hti ?_
    refine va_iald hx hb hK hP 1 0 rfl rfl (vp_in_nI (n := t9) (N := 5289) ht9 (by decide)) dgX8_twoAt_22 ?_
    refine ow_topi (y := f t9) (congrArg f (nI_clamp (n := t9) (Nat.lt_trans (m := 5289) ht9 (by decide)))) ?_
    rw [hQQ]
    exact W.iret (v := (f t9)) hx hb hr (fun t ht hW => ⟨⟨(f t9), (), rfl, by rw [if_pos h1, hti, nI_clamp (by omega)], trivial⟩, hS.F ht⟩) hS.2.2 dgX8_twoAt_23
  · refine lv_icmp_ne (tgt := 17) hx hb dgX8_twoAt_10 (by decide) (fun c9 => absurd c9 (not_not_intro (if_neg h1))) (fun _ => ?_)
    refine lv_iconst (v := 0) hx hb dgX8_twoAt_13 (by decide) ?_
    refine lv_goto (tgt := 23) hx hb dgX8_twoAt_14 (by decide) ?_
    rw [hQQ]
    exact W.iret (v := 0) hx hb hr (fun t ht hW => ⟨⟨0, (), rfl, (if_neg h1).symm, trivial⟩, hS.F ht⟩) hS.2.2 dgX8_twoAt_23
