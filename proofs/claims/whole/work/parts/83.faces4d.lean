/-! rows of long numbers -/
section LNG
variable {p : Program} {l : Launch} {e : Env} {R : Room} {s : State} {m : MethodId} {args : Array Value} {below : List Frame} {meth : Method} {c : Code} {H : Heap} {locs : List Loc} {cells slots : Nat} {Q : State → Prop}
variable {cc : ByteArray} {pc : Nat} {ls : Array Slot} {rest : List Value} {D : va_G} {cl : List vw_C} {A : Nat → Prop} {a : Nat} {tys : List (ClassId × FieldType)} {ws : va_W} {H0 : Heap}
theorem ow_lastF (hexec : p.tables.exec = Jvm.exec) (hb : c.code = cc) (hK : va_K D cl tys s) (hP : va_P D cl ws H) (hD : va_D A ws) (hS : va_S A H0 H locs) (q0 t0 : Nat) {cA : ClassId} {n j : Nat} {x : Int64} {f : Nat → Int64} (ha : ws[q0]? = some (a, .inl (cA, n, .inr (.inl f)))) (ht : tys[t0]? = some (cA, .long)) (hjn : j < n) (hn : n < 2 ^ 31) (hdg : decode cc pc = .ok (.lastore, 1))
    (kk : ∀ (H1 : Heap) (locs1 : List Loc), va_P D cl (ws.set q0 (a, .inl (cA, n, .inr (.inl (fu f j x))))) H1 → va_D A (ws.set q0 (a, .inl (cA, n, .inr (.inl (fu f j x))))) → va_S A H0 H1 locs1 → W p l e R s m args below meth c H1 locs1 cells slots Q (F0 m (pc + 1) ls rest)) : W p l e R s m args below meth c H locs cells slots Q (F0 m pc ls (.long x :: .int (nI j) :: .ref a :: rest)) := by
  refine va_last hexec hb hK hP hD hS q0 t0 ha ht (vp_in_nI hjn hn) hdg (fun H1 locs1 h1 h2 h3 => ?_)
  rw [nI_clamp (by omega)] at h1 h2
  have hu : vp_updL f j x = fu f j x := by
    funext k
    by_cases e : k = j
    · rw [e, fu_same]; exact pk_uLs
    · rw [fu_ne _ _ e]; exact pk_uLn e
  rw [hu] at h1 h2
  exact kk H1 locs1 h1 h2 h3
end LNG
theorem ow_topl {x y : Int64} {p : Program} {l : Launch} {e : Env} {R : Room} {s : State} {m : MethodId} {args : Array Value} {below : List Frame} {meth : Method} {c : Code} {H : Heap} {locs : List Loc} {cells slots : Nat} {Q : State → Prop} {pc : Nat} {ls : Array Slot} {rest : List Value} (h : x = y) (k : W p l e R s m args below meth c H locs cells slots Q (F0 m pc ls (.long y :: rest))) : W p l e R s m args below meth c H locs cells slots Q (F0 m pc ls (.long x :: rest)) := by
  rw [h]; exact k
def lfill (f : Nat → Int64) (n : Nat) (x : Int64) : Nat → Int64 := fun k => if k < n then x else f k
theorem lfill_0 (f : Nat → Int64) (x : Int64) : lfill f 0 x = f := by
  funext k
  exact if_neg (Nat.not_lt_zero k)
theorem lfill_s (f : Nat → Int64) (i : Nat) (x : Int64) : fu (lfill f i x) i x = lfill f (i + 1) x := by
  funext k
  show (if k = i then x else if k < i then x else f k) = if k < i + 1 then x else f k
  by_cases h1 : k = i
  · rw [if_pos h1, if_pos (by omega)]
  · rw [if_neg h1]
    by_cases h2 : k < i
    · rw [if_pos h2, if_pos (by omega)]
    · rw [if_neg h2, if_neg (by omega)]
/-! faces of one colour numbered -/
def nr_run (fn : Nat → Nat) (P CO : Nat → Int32) (k w : Int32) (RW : Nat → Int32) : Nat → (Nat → Int32) × Nat
  | 0 => (RW, 0)
  | i + 1 => if P (i / 2) = k ∧ CO (fn i) = w ∧ (nr_run fn P CO k w RW i).1 (fn i) = -1 then (su (nr_run fn P CO k w RW i).1 (fn i) (nI (nr_run fn P CO k w RW i).2), (nr_run fn P CO k w RW i).2 + 1) else nr_run fn P CO k w RW i
theorem nr_le (fn : Nat → Nat) (P CO : Nat → Int32) (k w : Int32) (RW : Nat → Int32) : ∀ i, (nr_run fn P CO k w RW i).2 ≤ i := by
  intro i
  induction i with
  | zero => exact Nat.le_refl 0
  | succ i ih =>
    rw [nr_run]
    split
    · show (nr_run fn P CO k w RW i).2 + 1 ≤ i + 1
      omega
    · omega
/-! the faces of a part painted: colours, begun, changed -/
abbrev ow_PN := (Nat → Int32) × Bool × Bool
def pn_b (q : ow_PN) (L : Nat) : Nat → Int32 := if q.2.1 then q.1 else su q.1 L 0
def pn_2 (CO : Nat → Int32) (L R : Nat) (ch : Bool) : ow_PN := if CO L ≠ -1 ∧ CO R = -1 then (su CO R (1 - CO L), true, true) else if CO L = -1 ∧ CO R ≠ -1 then (su CO L (1 - CO R), true, true) else (CO, true, ch)
def pn_1 (fn : Nat → Nat) (P : Nat → Int32) (k : Int32) (v : Nat) (q : ow_PN) : ow_PN := if P v = k then pn_2 (pn_b q (fn (2 * v))) (fn (2 * v)) (fn (2 * v + 1)) q.2.2 else q
def pn_in (fn : Nat → Nat) (P : Nat → Int32) (k : Int32) : Nat → Nat → ow_PN → ow_PN
  | 0, _, q => q
  | d + 1, v, q => pn_in fn P k d (v + 1) (pn_1 fn P k v q)
def pn_ou (fn : Nat → Nat) (P : Nat → Int32) (k : Int32) (vs : Nat) : Nat → ow_PN → ow_PN
  | 0, q => q
  | d + 1, q => if q.2.2 then pn_ou fn P k vs d (pn_in fn P k vs 0 (q.1, q.2.1, false)) else q
theorem dgJ7_fill_d0a16_0 : decode cJ7_fill_d0a16 0 = .ok (.iconst 0, 1) := by decide +kernel
theorem dgJ7_fill_d0a16_1 : decode cJ7_fill_d0a16 1 = .ok (.istore_n 3, 1) := by decide +kernel
theorem dgJ7_fill_d0a16_2 : decode cJ7_fill_d0a16 2 = .ok (.aload_n 0, 1) := by decide +kernel
theorem dgJ7_fill_d0a16_3 : decode cJ7_fill_d0a16 3 = .ok (.arraylength, 1) := by decide +kernel
theorem dgJ7_fill_d0a16_4 : decode cJ7_fill_d0a16 4 = .ok (.istore 4, 2) := by decide +kernel
theorem dgJ7_fill_d0a16_6 : decode cJ7_fill_d0a16 6 = .ok (.iload_n 3, 1) := by decide +kernel
theorem dgJ7_fill_d0a16_7 : decode cJ7_fill_d0a16 7 = .ok (.iload 4, 2) := by decide +kernel
theorem dgJ7_fill_d0a16_9 : decode cJ7_fill_d0a16 9 = .ok (.if_icmp .ge 13, 3) := by decide +kernel
theorem dgJ7_fill_d0a16_12 : decode cJ7_fill_d0a16 12 = .ok (.aload_n 0, 1) := by decide +kernel
theorem dgJ7_fill_d0a16_13 : decode cJ7_fill_d0a16 13 = .ok (.iload_n 3, 1) := by decide +kernel
theorem dgJ7_fill_d0a16_14 : decode cJ7_fill_d0a16 14 = .ok (.lload_n 1, 1) := by decide +kernel
theorem dgJ7_fill_d0a16_15 : decode cJ7_fill_d0a16 15 = .ok (.lastore, 1) := by decide +kernel
theorem dgJ7_fill_d0a16_16 : decode cJ7_fill_d0a16 16 = .ok (.iinc 3 1, 3) := by decide +kernel
theorem dgJ7_fill_d0a16_19 : decode cJ7_fill_d0a16 19 = .ok (.goto (-13), 3) := by decide +kernel
theorem dgJ7_fill_d0a16_22 : decode cJ7_fill_d0a16 22 = .ok (.return_, 1) := by decide +kernel
def wg_J7_fill_d0a16 : List Cond := [.code yJ7_fill_d0a16 cJ7_fill_d0a16 5 none]
set_option maxHeartbeats 4000000 in
set_option maxRecDepth 100000 in
theorem kg_J7_fill_d0a16 (l : Launch) (dC : Nat → ClassId) (dI : Nat → Nat → Nat) (cI cB cJ cZ : ClassId) (a N : Nat) (hN : N < 2 ^ 31) (f : Nat → Int64) (x : Int64) (sz : Nat) : Met l yJ7_fill_d0a16 wg_J7_fill_d0a16 (({ frames := 0, cells := 0, slots := 0, locals := 0 } : Room)) (va_Pc [.ref a, .long x] (fun U => U.heap.size = sz ∧ va_P (dC, dI) vwCl [(a, .inl (cJ, N, .inr (.inl f)))] U.heap ∧ va_K (dC, dI) vwCl [(cI, .int), (cB, .byte), (cJ, .long), (cZ, .boolean)] U ∧ va_D (fun _ => True) [(a, .inl (cJ, N, .inr (.inl f)))])) (va_Qv (fun (g : Unit) => True) (fun g t => va_P (dC, dI) vwCl [(a, .inl (cJ, N, .inr (.inl (lfill f N x))))] t.heap ∧ va_D (va_A [(a, .inl (cJ, N, .inr (.inl f)))] sz) [(a, .inl (cJ, N, .inr (.inl (lfill f N x))))]) (va_A [(a, .inl (cJ, N, .inr (.inl f)))] sz)) 0 0 (va_A [(a, .inl (cJ, N, .inr (.inl f)))] sz) := by
  refine Met.ofW (cc := cJ7_fill_d0a16) (maxL := 5) (ret := none) (by decide) rfl ?_
  intro p e s m args below meth c s₁ B hml hv
  obtain ⟨rfl, hsz, hP, hK, hD0⟩ := hv
  have hx := B.exec
  have hb := B.bytes
  have hr := B.returns
  have hts := atoms_spec (ws := wg_J7_fill_d0a16) B.pre
  have hown : s.vm.findClass RJ7 = some m.cls := findClass_of_methodNamed B.named
  have hlocks := B.notSynchronized
  subst hsz
  have hD := hD0.self (sz := s.heap.size)
  generalize hAe : va_A [(a, .inl (cJ, N, .inr (.inl f)))] s.heap.size = A at hD ⊢
  have hA : ∀ q : Nat, s.heap.size ≤ q → A q := fun q h => by rw [← hAe]; exact Or.inr h
  have hS : va_S A s.heap s.heap [] := va_S.rf
  have hP : va_P (dC, dI) vwCl [(a, .inl (cJ, N, .inr (.inl f)))] s.heap := hP
  have hl := lv_entry ([.ref a, .long x]) (n := 5) (Nat.le_of_ble_eq_true rfl)
  rw [lg_entry_eq]
  generalize (lg_sl ([.ref a, .long x]) ++ List.replicate (5 - (lg_sl ([.ref a, .long x])).length) Slot.unset).toArray = ls at hl ⊢
  have hl : lv_has ls 5 [(0, .ref a), (1, .long x)] := hl
  refine ow_named (fun QQ hQQ => ?_)
  suffices key9 : ∀ (H : Heap) (locs : List Loc), va_P (dC, dI) vwCl [(a, .inl (cJ, N, .inr (.inl f)))] H → va_S A s.heap H locs → W p l e ({ frames := 0, cells := 0, slots := 0, locals := 0 } : Room) s m ([.ref a, .long x] : List Value).toArray below meth c H locs 0 0 QQ (F0 m 0 ls []) from key9 s.heap [] hP hS
  intro H locs hP hS
  have L6 : ∀ (d i : Nat), i + d = N → ∀ (H : Heap) (locs : List Loc) (ls : Array Slot), va_P (dC, dI) vwCl [(a, .inl (cJ, N, .inr (.inl (lfill f i x))))] H → va_D A [(a, .inl (cJ, N, .inr (.inl (lfill f i x))))] → va_S A s.heap H locs → lv_has ls 5 [(0, .ref a), (1, .long x), (3, .int (nI i)), (4, .int (nI N))] → W p l e ({ frames := 0, cells := 0, slots := 0, locals := 0 } : Room) s m ([.ref a, .long x] : List Value).toArray below meth c H locs 0 0 QQ (F0 m 6 ls []) := by
    intro d
    induction d with
    | zero =>
      intro i hi H locs ls hP hD hS hl 
      have hie : i = N := by omega
      refine lv_iload_n hx hb dgJ7_fill_d0a16_6 rfl (lv_at hl 2 rfl) ?_
      refine lv_iload hx hb dgJ7_fill_d0a16_7 (lv_at hl 3 rfl) ?_
      refine lv_icmp_ge (tgt := 22) hx hb dgJ7_fill_d0a16_9 (by decide) (fun _ => ?_) (fun c9 => absurd (nI_le (a := N) (b := i) (by omega) (by omega)) c9)
      have hP : va_P (dC, dI) vwCl [(a, .inl (cJ, N, .inr (.inl (lfill f N x))))] H := by rw [hie] at hP; exact hP
      have hD : va_D A [(a, .inl (cJ, N, .inr (.inl (lfill f N x))))] := by rw [hie] at hD; exact hD
      rw [hQQ]
      exact W.vret hx hb hr (fun t ht hW => ⟨⟨(), rfl, trivial, by rw [ht]; exact hP, hD⟩, hS.F ht⟩) hS.2.2 dgJ7_fill_d0a16_22
    | succ d ih =>
      intro i hi H locs ls hP hD hS hl 
      refine lv_iload_n hx hb dgJ7_fill_d0a16_6 rfl (lv_at hl 2 rfl) ?_
      refine lv_iload hx hb dgJ7_fill_d0a16_7 (lv_at hl 3 rfl) ?_
      refine lv_icmp_ge (tgt := 22) hx hb dgJ7_fill_d0a16_9 (by decide) (fun c9 => absurd c9 (nI_ge (a := i) (b := N) (by omega) (by omega))) (fun _ => ?_)
      refine lv_aload_n hx hb dgJ7_fill_d0a16_12 rfl (lv_at hl 0 rfl) ?_
      refine lv_iload_n hx hb dgJ7_fill_d0a16_13 rfl (lv_at hl 2 rfl) ?_
      refine lv_lload_n hx hb dgJ7_fill_d0a16_14 rfl (lv_at hl 1 rfl) ?_
      refine ow_lastF (j := i) (x := x) hx hb hK hP hD hS 0 2 rfl rfl (by omega) hN dgJ7_fill_d0a16_15 (fun H locs hP hD hS => ?_)
      have hP : va_P (dC, dI) vwCl [(a, .inl (cJ, N, .inr (.inl (fu (lfill f i x) i x))))] H := hP
      have hD : va_D A [(a, .inl (cJ, N, .inr (.inl (fu (lfill f i x) i x))))] := hD
      have hP : va_P (dC, dI) vwCl [(a, .inl (cJ, N, .inr (.inl (lfill f (i + 1) x))))] H := by rw [← lfill_s f i x]; exact hP
      have hD : va_D A [(a, .inl (cJ, N, .inr (.inl (lfill f (i + 1) x))))] := by rw [← lfill_s f i x]; exact hD
      refine lv_iinc (v := nI (i + 1)) (lv' := [(3, .int (nI (i + 1))), (0, .ref a), (1, .long x), (4, .int (nI N))]) hx hb dgJ7_fill_d0a16_16 hl (k := 2) rfl (nI_1 i) (by decide) rfl (fun ls hl => ?_)
      refine lv_goto (tgt := 6) hx hb dgJ7_fill_d0a16_19 (by decide) ?_
      exact ih (i + 1) (by omega) H locs ls hP hD hS (lv_sub hl [1, 2, 0, 3] rfl)
  refine lv_iconst (v := 0) hx hb dgJ7_fill_d0a16_0 (by decide) ?_
  refine ow_topi (y := nI 0) (by decide) ?_
  refine lv_istore_n (lv' := [(3, .int (nI 0)), (0, .ref a), (1, .long x)]) hx hb dgJ7_fill_d0a16_1 rfl hl (by decide) rfl (fun ls hl => ?_)
  refine lv_aload_n hx hb dgJ7_fill_d0a16_2 rfl (lv_at hl 1 rfl) ?_
  refine va_alen (v := (nI N)) hx hb hK hP 0 2 rfl rfl rfl dgJ7_fill_d0a16_3 ?_
  refine lv_istore (lv' := [(4, .int (nI N)), (3, .int (nI 0)), (0, .ref a), (1, .long x)]) hx hb dgJ7_fill_d0a16_4 hl (by decide) rfl (fun ls hl => ?_)
  have hP : va_P (dC, dI) vwCl [(a, .inl (cJ, N, .inr (.inl (lfill f 0 x))))] H := by rw [lfill_0 f x]; exact hP
  have hD : va_D A [(a, .inl (cJ, N, .inr (.inl (lfill f 0 x))))] := by rw [lfill_0 f x]; exact hD
  exact L6 N 0 (by omega) H locs ls hP hD hS (lv_sub hl [2, 3, 1, 0] rfl)
theorem dgX4_numberRows_0 : decode cX4_numberRows 0 = .ok (.aload_n 0, 1) := by decide +kernel
theorem dgX4_numberRows_1 : decode cX4_numberRows 1 = .ok (.getfield 18, 3) := by decide +kernel
theorem dgX4_numberRows_4 : decode cX4_numberRows 4 = .ok (.iconst 0, 1) := by decide +kernel
theorem dgX4_numberRows_5 : decode cX4_numberRows 5 = .ok (.aload_n 0, 1) := by decide +kernel
theorem dgX4_numberRows_6 : decode cX4_numberRows 6 = .ok (.getfield 55, 3) := by decide +kernel
theorem dgX4_numberRows_9 : decode cX4_numberRows 9 = .ok (.iconst (-1), 1) := by decide +kernel
theorem dgX4_numberRows_10 : decode cX4_numberRows 10 = .ok (.invokestatic 49, 3) := by decide +kernel
theorem dgX4_numberRows_13 : decode cX4_numberRows 13 = .ok (.iconst 0, 1) := by decide +kernel
theorem dgX4_numberRows_14 : decode cX4_numberRows 14 = .ok (.istore 4, 2) := by decide +kernel
theorem dgX4_numberRows_16 : decode cX4_numberRows 16 = .ok (.iconst 0, 1) := by decide +kernel
theorem dgX4_numberRows_17 : decode cX4_numberRows 17 = .ok (.istore 5, 2) := by decide +kernel
theorem dgX4_numberRows_19 : decode cX4_numberRows 19 = .ok (.iload 5, 2) := by decide +kernel
theorem dgX4_numberRows_21 : decode cX4_numberRows 21 = .ok (.iconst 4, 1) := by decide +kernel
theorem dgX4_numberRows_22 : decode cX4_numberRows 22 = .ok (.aload_n 1, 1) := by decide +kernel
theorem dgX4_numberRows_23 : decode cX4_numberRows 23 = .ok (.getfield 45, 3) := by decide +kernel
theorem dgX4_numberRows_26 : decode cX4_numberRows 26 = .ok (.imul, 1) := by decide +kernel
theorem dgX4_numberRows_27 : decode cX4_numberRows 27 = .ok (.if_icmp .ge 65, 3) := by decide +kernel
theorem dgX4_numberRows_30 : decode cX4_numberRows 30 = .ok (.aload_n 0, 1) := by decide +kernel
theorem dgX4_numberRows_31 : decode cX4_numberRows 31 = .ok (.getfield 9, 3) := by decide +kernel
theorem dgX4_numberRows_34 : decode cX4_numberRows 34 = .ok (.iload 5, 2) := by decide +kernel
theorem dgX4_numberRows_36 : decode cX4_numberRows 36 = .ok (.iaload, 1) := by decide +kernel
theorem dgX4_numberRows_37 : decode cX4_numberRows 37 = .ok (.istore 6, 2) := by decide +kernel
theorem dgX4_numberRows_39 : decode cX4_numberRows 39 = .ok (.aload_n 1, 1) := by decide +kernel
theorem dgX4_numberRows_40 : decode cX4_numberRows 40 = .ok (.getfield 83, 3) := by decide +kernel
theorem dgX4_numberRows_43 : decode cX4_numberRows 43 = .ok (.iload 5, 2) := by decide +kernel
theorem dgX4_numberRows_45 : decode cX4_numberRows 45 = .ok (.iconst 1, 1) := by decide +kernel
theorem dgX4_numberRows_46 : decode cX4_numberRows 46 = .ok (.ishr, 1) := by decide +kernel
theorem dgX4_numberRows_47 : decode cX4_numberRows 47 = .ok (.iaload, 1) := by decide +kernel
theorem dgX4_numberRows_48 : decode cX4_numberRows 48 = .ok (.iload_n 2, 1) := by decide +kernel
theorem dgX4_numberRows_49 : decode cX4_numberRows 49 = .ok (.if_icmp .ne 37, 3) := by decide +kernel
theorem dgX4_numberRows_52 : decode cX4_numberRows 52 = .ok (.aload_n 0, 1) := by decide +kernel
theorem dgX4_numberRows_53 : decode cX4_numberRows 53 = .ok (.getfield 15, 3) := by decide +kernel
theorem dgX4_numberRows_56 : decode cX4_numberRows 56 = .ok (.iload 6, 2) := by decide +kernel
theorem dgX4_numberRows_58 : decode cX4_numberRows 58 = .ok (.iaload, 1) := by decide +kernel
theorem dgX4_numberRows_59 : decode cX4_numberRows 59 = .ok (.iload_n 3, 1) := by decide +kernel
theorem dgX4_numberRows_60 : decode cX4_numberRows 60 = .ok (.if_icmp .ne 26, 3) := by decide +kernel
theorem dgX4_numberRows_63 : decode cX4_numberRows 63 = .ok (.aload_n 0, 1) := by decide +kernel
theorem dgX4_numberRows_64 : decode cX4_numberRows 64 = .ok (.getfield 18, 3) := by decide +kernel
theorem dgX4_numberRows_67 : decode cX4_numberRows 67 = .ok (.iload 6, 2) := by decide +kernel
theorem dgX4_numberRows_69 : decode cX4_numberRows 69 = .ok (.iaload, 1) := by decide +kernel
theorem dgX4_numberRows_70 : decode cX4_numberRows 70 = .ok (.iconst (-1), 1) := by decide +kernel
theorem dgX4_numberRows_71 : decode cX4_numberRows 71 = .ok (.if_icmp .ne 15, 3) := by decide +kernel
theorem dgX4_numberRows_74 : decode cX4_numberRows 74 = .ok (.aload_n 0, 1) := by decide +kernel
theorem dgX4_numberRows_75 : decode cX4_numberRows 75 = .ok (.getfield 18, 3) := by decide +kernel
theorem dgX4_numberRows_78 : decode cX4_numberRows 78 = .ok (.iload 6, 2) := by decide +kernel
theorem dgX4_numberRows_80 : decode cX4_numberRows 80 = .ok (.iload 4, 2) := by decide +kernel
theorem dgX4_numberRows_82 : decode cX4_numberRows 82 = .ok (.iastore, 1) := by decide +kernel
theorem dgX4_numberRows_83 : decode cX4_numberRows 83 = .ok (.iinc 4 1, 3) := by decide +kernel
theorem dgX4_numberRows_86 : decode cX4_numberRows 86 = .ok (.iinc 5 1, 3) := by decide +kernel
theorem dgX4_numberRows_89 : decode cX4_numberRows 89 = .ok (.goto (-70), 3) := by decide +kernel
theorem dgX4_numberRows_92 : decode cX4_numberRows 92 = .ok (.iload 4, 2) := by decide +kernel
theorem dgX4_numberRows_94 : decode cX4_numberRows 94 = .ok (.ireturn, 1) := by decide +kernel
def wg_X4_numberRows : List Cond := .code yX4_numberRows cX4_numberRows 7 (some .int) :: (([.fieldLink RX4 18 "KnotHouse$Faces" "row" "[I", .fieldLink RX4 55 "KnotHouse$Faces" "count" "I", .fieldLink RX4 45 "KnotHouse$Net" "crossings" "I", .fieldLink RX4 9 "KnotHouse$Faces" "face" "[I", .fieldLink RX4 83 "KnotHouse$Net" "part" "[I", .fieldLink RX4 15 "KnotHouse$Faces" "colour" "[I"] ++ wsX40 ++ wsX70) ++ (va_wsS RX4 49 yJ7_fill_fda19 wg_J7_fill_fda19 ++ []))
theorem gg_X4_numberRows_0 : GoodIn wg_X4_numberRows (va_wsS RX4 49 yJ7_fill_fda19 wg_J7_fill_fda19) := goodIn_sub (fun _ h => List.mem_cons_of_mem _ (List.mem_append_right _ (List.mem_append_left _ h))) (by decide +kernel)
set_option maxHeartbeats 4000000 in
set_option maxRecDepth 100000 in
theorem kg_X4_numberRows (l : Launch) (dC : Nat → ClassId) (dI : Nat → Nat → Nat) (cI cB cJ cZ : ClassId) (aF : Nat) (ff : Nat → Nat) (aX : Nat) (nx : Nat → Nat) (x8 x9 x10 : Int32) (cn : Nat) (hc : cn ≤ 12) (Fa P9 : Nat → Int32) (fn : Nat → Nat) (cf : Nat) (hcf : cf ≤ 48) (hfn : ∀ k, k < 4 * cn → Fa k = nI (fn k) ∧ fn k < cf) (CO RW : Nat → Int32) (k w : Int32) (sz : Nat) : Met l yX4_numberRows wg_X4_numberRows (({ frames := 2, cells := 0, slots := 0, locals := 60 } : Room)) (va_Pc [.ref aF, .ref aX, .int k, .int w] (fun U => U.heap.size = sz ∧ va_P (dC, dI) vwCl [(aF, .inr (7, [.ref (ff 0), .int (nI cf), .ref (ff 2), .ref (ff 3), .ref (ff 4), .ref (ff 5), .ref (ff 6), .ref (ff 7)])), ((ff 0), .inl (cI, 48, .inl Fa)), ((ff 2), .inl (cI, 48, .inl CO)), ((ff 3), .inl (cI, 48, .inl RW)), (aX, .inr (10, [.ref (nx 0), .ref (nx 1), .ref (nx 2), .ref (nx 3), .ref (nx 4), .ref (nx 5), .ref (nx 6), .int (nI cn), .int x8, .int x9, .int x10])), ((nx 5), .inl (cI, 24, .inl P9))] U.heap ∧ va_K (dC, dI) vwCl [(cI, .int), (cB, .byte), (cJ, .long), (cZ, .boolean)] U ∧ va_D (fun _ => True) [(aF, .inr (7, [.ref (ff 0), .int (nI cf), .ref (ff 2), .ref (ff 3), .ref (ff 4), .ref (ff 5), .ref (ff 6), .ref (ff 7)])), ((ff 0), .inl (cI, 48, .inl Fa)), ((ff 2), .inl (cI, 48, .inl CO)), ((ff 3), .inl (cI, 48, .inl RW)), (aX, .inr (10, [.ref (nx 0), .ref (nx 1), .ref (nx 2), .ref (nx 3), .ref (nx 4), .ref (nx 5), .ref (nx 6), .int (nI cn), .int x8, .int x9, .int x10])), ((nx 5), .inl (cI, 24, .inl P9))])) (va_Qi (fun r (g : Unit) => r = nI (nr_run fn P9 CO k w (np_fill RW 0 cf (-1)) (4 * cn)).2) (fun g t => va_P (dC, dI) vwCl [(aF, .inr (7, [.ref (ff 0), .int (nI cf), .ref (ff 2), .ref (ff 3), .ref (ff 4), .ref (ff 5), .ref (ff 6), .ref (ff 7)])), ((ff 0), .inl (cI, 48, .inl Fa)), ((ff 2), .inl (cI, 48, .inl CO)), ((ff 3), .inl (cI, 48, .inl ((nr_run fn P9 CO k w (np_fill RW 0 cf (-1)) (4 * cn)).1))), (aX, .inr (10, [.ref (nx 0), .ref (nx 1), .ref (nx 2), .ref (nx 3), .ref (nx 4), .ref (nx 5), .ref (nx 6), .int (nI cn), .int x8, .int x9, .int x10])), ((nx 5), .inl (cI, 24, .inl P9))] t.heap ∧ va_D (va_A [(aF, .inr (7, [.ref (ff 0), .int (nI cf), .ref (ff 2), .ref (ff 3), .ref (ff 4), .ref (ff 5), .ref (ff 6), .ref (ff 7)])), ((ff 0), .inl (cI, 48, .inl Fa)), ((ff 2), .inl (cI, 48, .inl CO)), ((ff 3), .inl (cI, 48, .inl RW)), (aX, .inr (10, [.ref (nx 0), .ref (nx 1), .ref (nx 2), .ref (nx 3), .ref (nx 4), .ref (nx 5), .ref (nx 6), .int (nI cn), .int x8, .int x9, .int x10])), ((nx 5), .inl (cI, 24, .inl P9))] sz) [(aF, .inr (7, [.ref (ff 0), .int (nI cf), .ref (ff 2), .ref (ff 3), .ref (ff 4), .ref (ff 5), .ref (ff 6), .ref (ff 7)])), ((ff 0), .inl (cI, 48, .inl Fa)), ((ff 2), .inl (cI, 48, .inl CO)), ((ff 3), .inl (cI, 48, .inl ((nr_run fn P9 CO k w (np_fill RW 0 cf (-1)) (4 * cn)).1))), (aX, .inr (10, [.ref (nx 0), .ref (nx 1), .ref (nx 2), .ref (nx 3), .ref (nx 4), .ref (nx 5), .ref (nx 6), .int (nI cn), .int x8, .int x9, .int x10])), ((nx 5), .inl (cI, 24, .inl P9))]) (va_A [(aF, .inr (7, [.ref (ff 0), .int (nI cf), .ref (ff 2), .ref (ff 3), .ref (ff 4), .ref (ff 5), .ref (ff 6), .ref (ff 7)])), ((ff 0), .inl (cI, 48, .inl Fa)), ((ff 2), .inl (cI, 48, .inl CO)), ((ff 3), .inl (cI, 48, .inl RW)), (aX, .inr (10, [.ref (nx 0), .ref (nx 1), .ref (nx 2), .ref (nx 3), .ref (nx 4), .ref (nx 5), .ref (nx 6), .int (nI cn), .int x8, .int x9, .int x10])), ((nx 5), .inl (cI, 24, .inl P9))] sz)) 0 0 (va_A [(aF, .inr (7, [.ref (ff 0), .int (nI cf), .ref (ff 2), .ref (ff 3), .ref (ff 4), .ref (ff 5), .ref (ff 6), .ref (ff 7)])), ((ff 0), .inl (cI, 48, .inl Fa)), ((ff 2), .inl (cI, 48, .inl CO)), ((ff 3), .inl (cI, 48, .inl RW)), (aX, .inr (10, [.ref (nx 0), .ref (nx 1), .ref (nx 2), .ref (nx 3), .ref (nx 4), .ref (nx 5), .ref (nx 6), .int (nI cn), .int x8, .int x9, .int x10])), ((nx 5), .inl (cI, 24, .inl P9))] sz) := by
  refine Met.ofW (cc := cX4_numberRows) (maxL := 7) (ret := (some .int)) (by decide) rfl ?_
  intro p e s m args below meth c s₁ B hml hv
  obtain ⟨rfl, hsz, hP, hK, hD0⟩ := hv
  have hx := B.exec
  have hb := B.bytes
  have hr := B.returns
  have hts := atoms_spec (ws := wg_X4_numberRows) B.pre
  have hown : s.vm.findClass RX4 = some m.cls := findClass_of_methodNamed B.named
  have hlocks := B.notSynchronized
  subst hsz
  have hD := hD0.self (sz := s.heap.size)
  generalize hAe : va_A [(aF, .inr (7, [.ref (ff 0), .int (nI cf), .ref (ff 2), .ref (ff 3), .ref (ff 4), .ref (ff 5), .ref (ff 6), .ref (ff 7)])), ((ff 0), .inl (cI, 48, .inl Fa)), ((ff 2), .inl (cI, 48, .inl CO)), ((ff 3), .inl (cI, 48, .inl RW)), (aX, .inr (10, [.ref (nx 0), .ref (nx 1), .ref (nx 2), .ref (nx 3), .ref (nx 4), .ref (nx 5), .ref (nx 6), .int (nI cn), .int x8, .int x9, .int x10])), ((nx 5), .inl (cI, 24, .inl P9))] s.heap.size = A at hD ⊢
  have hA : ∀ q : Nat, s.heap.size ≤ q → A q := fun q h => by rw [← hAe]; exact Or.inr h
  have hS : va_S A s.heap s.heap [] := va_S.rf
  have hP : va_P (dC, dI) vwCl [(aF, .inr (7, [.ref (ff 0), .int (nI cf), .ref (ff 2), .ref (ff 3), .ref (ff 4), .ref (ff 5), .ref (ff 6), .ref (ff 7)])), ((ff 0), .inl (cI, 48, .inl Fa)), ((ff 2), .inl (cI, 48, .inl CO)), ((ff 3), .inl (cI, 48, .inl RW)), (aX, .inr (10, [.ref (nx 0), .ref (nx 1), .ref (nx 2), .ref (nx 3), .ref (nx 4), .ref (nx 5), .ref (nx 6), .int (nI cn), .int x8, .int x9, .int x10])), ((nx 5), .inl (cI, 24, .inl P9))] s.heap := hP
  have hl := lv_entry ([.ref aF, .ref aX, .int k, .int w]) (n := 7) (Nat.le_of_ble_eq_true rfl)
  rw [lg_entry_eq]
  generalize (lg_sl ([.ref aF, .ref aX, .int k, .int w]) ++ List.replicate (7 - (lg_sl ([.ref aF, .ref aX, .int k, .int w])).length) Slot.unset).toArray = ls at hl ⊢
  have hl : lv_has ls 7 [(0, .ref aF), (1, .ref aX), (2, .int k), (3, .int w)] := hl
  refine ow_named (fun QQ hQQ => ?_)
  suffices key9 : ∀ (H : Heap) (locs : List Loc), va_P (dC, dI) vwCl [(aF, .inr (7, [.ref (ff 0), .int (nI cf), .ref (ff 2), .ref (ff 3), .ref (ff 4), .ref (ff 5), .ref (ff 6), .ref (ff 7)])), ((ff 0), .inl (cI, 48, .inl Fa)), ((ff 2), .inl (cI, 48, .inl CO)), ((ff 3), .inl (cI, 48, .inl RW)), (aX, .inr (10, [.ref (nx 0), .ref (nx 1), .ref (nx 2), .ref (nx 3), .ref (nx 4), .ref (nx 5), .ref (nx 6), .int (nI cn), .int x8, .int x9, .int x10])), ((nx 5), .inl (cI, 24, .inl P9))] H → va_S A s.heap H locs → W p l e ({ frames := 2, cells := 0, slots := 0, locals := 60 } : Room) s m ([.ref aF, .ref aX, .int k, .int w] : List Value).toArray below meth c H locs 0 0 QQ (F0 m 0 ls []) from key9 s.heap [] hP hS
  intro H locs hP hS
  have L19 : ∀ (d i : Nat), i + d = 4 * cn → ∀ (H : Heap) (locs : List Loc) (ls : Array Slot), va_P (dC, dI) vwCl [(aF, .inr (7, [.ref (ff 0), .int (nI cf), .ref (ff 2), .ref (ff 3), .ref (ff 4), .ref (ff 5), .ref (ff 6), .ref (ff 7)])), ((ff 0), .inl (cI, 48, .inl Fa)), ((ff 2), .inl (cI, 48, .inl CO)), ((ff 3), .inl (cI, 48, .inl ((nr_run fn P9 CO k w (np_fill RW 0 cf (-1)) i).1))), (aX, .inr (10, [.ref (nx 0), .ref (nx 1), .ref (nx 2), .ref (nx 3), .ref (nx 4), .ref (nx 5), .ref (nx 6), .int (nI cn), .int x8, .int x9, .int x10])), ((nx 5), .inl (cI, 24, .inl P9))] H → va_D A [(aF, .inr (7, [.ref (ff 0), .int (nI cf), .ref (ff 2), .ref (ff 3), .ref (ff 4), .ref (ff 5), .ref (ff 6), .ref (ff 7)])), ((ff 0), .inl (cI, 48, .inl Fa)), ((ff 2), .inl (cI, 48, .inl CO)), ((ff 3), .inl (cI, 48, .inl ((nr_run fn P9 CO k w (np_fill RW 0 cf (-1)) i).1))), (aX, .inr (10, [.ref (nx 0), .ref (nx 1), .ref (nx 2), .ref (nx 3), .ref (nx 4), .ref (nx 5), .ref (nx 6), .int (nI cn), .int x8, .int x9, .int x10])), ((nx 5), .inl (cI, 24, .inl P9))] → va_S A s.heap H locs → lv_has ls 7 [(0, .ref aF), (1, .ref aX), (2, .int k), (3, .int w), (4, .int (nI (nr_run fn P9 CO k w (np_fill RW 0 cf (-1)) i).2)), (5, .int (nI i))] → W p l e ({ frames := 2, cells := 0, slots := 0, locals := 60 } : Room) s m ([.ref aF, .ref aX, .int k, .int w] : List Value).toArray below meth c H locs 0 0 QQ (F0 m 19 ls []) := by
    intro d
    induction d with
    | zero =>
      intro i hi H locs ls hP hD hS hl
      have hie : i = 4 * cn := by omega
      rw [hie] at hP hD hl
      refine lv_iload hx hb dgX4_numberRows_19 (lv_at hl 5 rfl) ?_
      refine lv_iconst (v := 4) hx hb dgX4_numberRows_21 (by decide) ?_
      refine lv_aload_n hx hb dgX4_numberRows_22 rfl (lv_at hl 1 rfl) ?_
      refine va_get (D := (dC, dI)) (ci := 10) (v := .int (nI cn)) (C := RX7) (T := TX7) (N := 11) hx hb hts (fun _ h => List.mem_cons_of_mem _ (List.mem_append_left _ (List.mem_append_right _ h))) hown hK hP 4 rfl rfl 7 (by decide) (hts (.fieldLink RX4 45 "KnotHouse$Net" "crossings" "I") (by decide +kernel)) (fun _ h9 => h9) rfl dgX4_numberRows_23 ?_
      refine lv_imul hx hb dgX4_numberRows_26 ?_
      refine ow_topi (y := nI (4 * cn)) (pk_mul 4 cn) ?_
      refine lv_icmp_ge (tgt := 92) hx hb dgX4_numberRows_27 (by decide) (fun _ => ?_) (fun c9 => absurd (nI_le (a := 4 * cn) (b := 4 * cn) (by omega) (by omega)) c9)
      refine lv_iload hx hb dgX4_numberRows_92 (lv_at hl 4 rfl) ?_
      rw [hQQ]
      exact W.iret (v := (nI (nr_run fn P9 CO k w (np_fill RW 0 cf (-1)) (4 * cn)).2)) hx hb hr (fun t ht hW => ⟨⟨(nI (nr_run fn P9 CO k w (np_fill RW 0 cf (-1)) (4 * cn)).2), (), rfl, rfl, by rw [ht]; exact hP, hD⟩, hS.F ht⟩) hS.2.2 dgX4_numberRows_94
    | succ d ih =>
      intro i hi H locs ls hP hD hS hl
      obtain ⟨hf1, hf2⟩ := hfn i (by omega)
      have hnl := nr_le fn P9 CO k w (np_fill RW 0 cf (-1)) i
      refine lv_iload hx hb dgX4_numberRows_19 (lv_at hl 5 rfl) ?_
      refine lv_iconst (v := 4) hx hb dgX4_numberRows_21 (by decide) ?_
      refine lv_aload_n hx hb dgX4_numberRows_22 rfl (lv_at hl 1 rfl) ?_
      refine va_get (D := (dC, dI)) (ci := 10) (v := .int (nI cn)) (C := RX7) (T := TX7) (N := 11) hx hb hts (fun _ h => List.mem_cons_of_mem _ (List.mem_append_left _ (List.mem_append_right _ h))) hown hK hP 4 rfl rfl 7 (by decide) (hts (.fieldLink RX4 45 "KnotHouse$Net" "crossings" "I") (by decide +kernel)) (fun _ h9 => h9) rfl dgX4_numberRows_23 ?_
      refine lv_imul hx hb dgX4_numberRows_26 ?_
      refine ow_topi (y := nI (4 * cn)) (pk_mul 4 cn) ?_
      refine lv_icmp_ge (tgt := 92) hx hb dgX4_numberRows_27 (by decide) (fun c9 => absurd c9 (nI_ge (a := i) (b := 4 * cn) (by omega) (by omega))) (fun _ => ?_)
      refine lv_aload_n hx hb dgX4_numberRows_30 rfl (lv_at hl 0 rfl) ?_
      refine va_get (D := (dC, dI)) (ci := 7) (v := .ref (ff 0)) (C := RX4) (T := TX4) (N := 8) hx hb hts (fun _ h => List.mem_cons_of_mem _ (List.mem_append_left _ (List.mem_append_left _ (List.mem_append_right _ h)))) hown hK hP 0 rfl rfl 0 (by decide) (hts (.fieldLink RX4 9 "KnotHouse$Faces" "face" "[I") (by decide +kernel)) (fun _ h9 => h9) rfl dgX4_numberRows_31 ?_
      refine lv_iload hx hb dgX4_numberRows_34 (lv_at hl 5 rfl) ?_
      refine va_iald hx hb hK hP 1 0 rfl rfl (vp_in_nI (n := i) (N := 48) (by omega) (by decide)) dgX4_numberRows_36 ?_
      refine ow_topi (y := nI (fn i)) ((congrArg Fa (nI_clamp (n := i) (Nat.lt_trans (m := 48) (by omega) (by decide)))).trans (hf1)) ?_
      refine lv_istore (lv' := [(6, .int (nI (fn i))), (0, .ref aF), (1, .ref aX), (2, .int k), (3, .int w), (4, .int (nI (nr_run fn P9 CO k w (np_fill RW 0 cf (-1)) i).2)), (5, .int (nI i))]) hx hb dgX4_numberRows_37 hl (by decide) rfl (fun ls hl => ?_)
      refine lv_aload_n hx hb dgX4_numberRows_39 rfl (lv_at hl 2 rfl) ?_
      refine va_get (D := (dC, dI)) (ci := 10) (v := .ref (nx 5)) (C := RX7) (T := TX7) (N := 11) hx hb hts (fun _ h => List.mem_cons_of_mem _ (List.mem_append_left _ (List.mem_append_right _ h))) hown hK hP 4 rfl rfl 5 (by decide) (hts (.fieldLink RX4 83 "KnotHouse$Net" "part" "[I") (by decide +kernel)) (fun _ h9 => h9) rfl dgX4_numberRows_40 ?_
      refine lv_iload hx hb dgX4_numberRows_43 (lv_at hl 6 rfl) ?_
      refine lv_iconst (v := 1) hx hb dgX4_numberRows_45 (by decide) ?_
      refine lv_ishr hx hb dgX4_numberRows_46 ?_
      refine ow_topi (y := nI (i / 2)) (ow_shr1 (n := i) (by omega)) ?_
      refine va_iald hx hb hK hP 5 0 rfl rfl (vp_in_nI (n := i / 2) (N := 24) (by omega) (by decide)) dgX4_numberRows_47 ?_
      refine ow_topi (y := P9 (i / 2)) (congrArg P9 (nI_clamp (n := i / 2) (Nat.lt_trans (m := 24) (by omega) (by decide)))) ?_
      refine lv_iload_n hx hb dgX4_numberRows_48 rfl (lv_at hl 3 rfl) ?_
      refine lv_icmp_ne (tgt := 86) hx hb dgX4_numberRows_49 (by decide) (fun c1 => ?_) (fun c1 => ?_)
      · have hst : (nr_run fn P9 CO k w (np_fill RW 0 cf (-1)) (i + 1)) = (nr_run fn P9 CO k w (np_fill RW 0 cf (-1)) i) := if_neg (fun h9 => c1 h9.1)
        refine lv_iinc (v := nI (i + 1)) (lv' := [(5, .int (nI (i + 1))), (6, .int (nI (fn i))), (0, .ref aF), (1, .ref aX), (2, .int k), (3, .int w), (4, .int (nI (nr_run fn P9 CO k w (np_fill RW 0 cf (-1)) i).2))]) hx hb dgX4_numberRows_86 hl (k := 6) rfl (nI_1 i) (by decide) rfl (fun ls hl => ?_)
        refine lv_goto (tgt := 19) hx hb dgX4_numberRows_89 (by decide) ?_
        refine ih (i + 1) (by omega) H locs ls ?_ ?_ hS ?_
        · rw [hst]; exact hP
        · rw [hst]; exact hD
        · rw [hst]; exact (lv_sub hl [2, 3, 4, 5, 6, 0] rfl)
      · refine lv_aload_n hx hb dgX4_numberRows_52 rfl (lv_at hl 1 rfl) ?_
        refine va_get (D := (dC, dI)) (ci := 7) (v := .ref (ff 2)) (C := RX4) (T := TX4) (N := 8) hx hb hts (fun _ h => List.mem_cons_of_mem _ (List.mem_append_left _ (List.mem_append_left _ (List.mem_append_right _ h)))) hown hK hP 0 rfl rfl 2 (by decide) (hts (.fieldLink RX4 15 "KnotHouse$Faces" "colour" "[I") (by decide +kernel)) (fun _ h9 => h9) rfl dgX4_numberRows_53 ?_
        refine lv_iload hx hb dgX4_numberRows_56 (lv_at hl 0 rfl) ?_
        refine va_iald hx hb hK hP 2 0 rfl rfl (vp_in_nI (n := fn i) (N := 48) (by omega) (by decide)) dgX4_numberRows_58 ?_
        refine ow_topi (y := CO (fn i)) (congrArg CO (nI_clamp (n := fn i) (Nat.lt_trans (m := 48) (by omega) (by decide)))) ?_
        refine lv_iload_n hx hb dgX4_numberRows_59 rfl (lv_at hl 4 rfl) ?_
        refine lv_icmp_ne (tgt := 86) hx hb dgX4_numberRows_60 (by decide) (fun c2 => ?_) (fun c2 => ?_)
        · have hst : (nr_run fn P9 CO k w (np_fill RW 0 cf (-1)) (i + 1)) = (nr_run fn P9 CO k w (np_fill RW 0 cf (-1)) i) := if_neg (fun h9 => c2 h9.2.1)
          refine lv_iinc (v := nI (i + 1)) (lv' := [(5, .int (nI (i + 1))), (6, .int (nI (fn i))), (0, .ref aF), (1, .ref aX), (2, .int k), (3, .int w), (4, .int (nI (nr_run fn P9 CO k w (np_fill RW 0 cf (-1)) i).2))]) hx hb dgX4_numberRows_86 hl (k := 6) rfl (nI_1 i) (by decide) rfl (fun ls hl => ?_)
          refine lv_goto (tgt := 19) hx hb dgX4_numberRows_89 (by decide) ?_
          refine ih (i + 1) (by omega) H locs ls ?_ ?_ hS ?_
          · rw [hst]; exact hP
          · rw [hst]; exact hD
          · rw [hst]; exact (lv_sub hl [2, 3, 4, 5, 6, 0] rfl)
        · refine lv_aload_n hx hb dgX4_numberRows_63 rfl (lv_at hl 1 rfl) ?_
          refine va_get (D := (dC, dI)) (ci := 7) (v := .ref (ff 3)) (C := RX4) (T := TX4) (N := 8) hx hb hts (fun _ h => List.mem_cons_of_mem _ (List.mem_append_left _ (List.mem_append_left _ (List.mem_append_right _ h)))) hown hK hP 0 rfl rfl 3 (by decide) (hts (.fieldLink RX4 18 "KnotHouse$Faces" "row" "[I") (by decide +kernel)) (fun _ h9 => h9) rfl dgX4_numberRows_64 ?_
          refine lv_iload hx hb dgX4_numberRows_67 (lv_at hl 0 rfl) ?_
          refine va_iald hx hb hK hP 3 0 rfl rfl (vp_in_nI (n := fn i) (N := 48) (by omega) (by decide)) dgX4_numberRows_69 ?_
          refine ow_topi (y := ((nr_run fn P9 CO k w (np_fill RW 0 cf (-1)) i).1) (fn i)) (congrArg ((nr_run fn P9 CO k w (np_fill RW 0 cf (-1)) i).1) (nI_clamp (n := fn i) (Nat.lt_trans (m := 48) (by omega) (by decide)))) ?_
          refine lv_iconst (v := (-1)) hx hb dgX4_numberRows_70 (by decide) ?_
          refine lv_icmp_ne (tgt := 86) hx hb dgX4_numberRows_71 (by decide) (fun c3 => ?_) (fun c3 => ?_)
          · have hst : (nr_run fn P9 CO k w (np_fill RW 0 cf (-1)) (i + 1)) = (nr_run fn P9 CO k w (np_fill RW 0 cf (-1)) i) := if_neg (fun h9 => c3 h9.2.2)
            refine lv_iinc (v := nI (i + 1)) (lv' := [(5, .int (nI (i + 1))), (6, .int (nI (fn i))), (0, .ref aF), (1, .ref aX), (2, .int k), (3, .int w), (4, .int (nI (nr_run fn P9 CO k w (np_fill RW 0 cf (-1)) i).2))]) hx hb dgX4_numberRows_86 hl (k := 6) rfl (nI_1 i) (by decide) rfl (fun ls hl => ?_)
            refine lv_goto (tgt := 19) hx hb dgX4_numberRows_89 (by decide) ?_
            refine ih (i + 1) (by omega) H locs ls ?_ ?_ hS ?_
            · rw [hst]; exact hP
            · rw [hst]; exact hD
            · rw [hst]; exact (lv_sub hl [2, 3, 4, 5, 6, 0] rfl)
          · have hst : (nr_run fn P9 CO k w (np_fill RW 0 cf (-1)) (i + 1)) = (su (nr_run fn P9 CO k w (np_fill RW 0 cf (-1)) i).1 (fn i) (nI (nr_run fn P9 CO k w (np_fill RW 0 cf (-1)) i).2), (nr_run fn P9 CO k w (np_fill RW 0 cf (-1)) i).2 + 1) := if_pos ⟨c1, c2, c3⟩
            refine lv_aload_n hx hb dgX4_numberRows_74 rfl (lv_at hl 1 rfl) ?_
            refine va_get (D := (dC, dI)) (ci := 7) (v := .ref (ff 3)) (C := RX4) (T := TX4) (N := 8) hx hb hts (fun _ h => List.mem_cons_of_mem _ (List.mem_append_left _ (List.mem_append_left _ (List.mem_append_right _ h)))) hown hK hP 0 rfl rfl 3 (by decide) (hts (.fieldLink RX4 18 "KnotHouse$Faces" "row" "[I") (by decide +kernel)) (fun _ h9 => h9) rfl dgX4_numberRows_75 ?_
            refine lv_iload hx hb dgX4_numberRows_78 (lv_at hl 0 rfl) ?_
            refine lv_iload hx hb dgX4_numberRows_80 (lv_at hl 5 rfl) ?_
            refine ow_iastF (j := fn i) (x := nI (nr_run fn P9 CO k w (np_fill RW 0 cf (-1)) i).2) hx hb hK hP hD hS 3 0 rfl rfl (by omega) (by decide) dgX4_numberRows_82 (fun H locs hP hD hS => ?_)
            have hP : va_P (dC, dI) vwCl [(aF, .inr (7, [.ref (ff 0), .int (nI cf), .ref (ff 2), .ref (ff 3), .ref (ff 4), .ref (ff 5), .ref (ff 6), .ref (ff 7)])), ((ff 0), .inl (cI, 48, .inl Fa)), ((ff 2), .inl (cI, 48, .inl CO)), ((ff 3), .inl (cI, 48, .inl (su ((nr_run fn P9 CO k w (np_fill RW 0 cf (-1)) i).1) (fn i) (nI (nr_run fn P9 CO k w (np_fill RW 0 cf (-1)) i).2)))), (aX, .inr (10, [.ref (nx 0), .ref (nx 1), .ref (nx 2), .ref (nx 3), .ref (nx 4), .ref (nx 5), .ref (nx 6), .int (nI cn), .int x8, .int x9, .int x10])), ((nx 5), .inl (cI, 24, .inl P9))] H := hP
            have hD : va_D A [(aF, .inr (7, [.ref (ff 0), .int (nI cf), .ref (ff 2), .ref (ff 3), .ref (ff 4), .ref (ff 5), .ref (ff 6), .ref (ff 7)])), ((ff 0), .inl (cI, 48, .inl Fa)), ((ff 2), .inl (cI, 48, .inl CO)), ((ff 3), .inl (cI, 48, .inl (su ((nr_run fn P9 CO k w (np_fill RW 0 cf (-1)) i).1) (fn i) (nI (nr_run fn P9 CO k w (np_fill RW 0 cf (-1)) i).2)))), (aX, .inr (10, [.ref (nx 0), .ref (nx 1), .ref (nx 2), .ref (nx 3), .ref (nx 4), .ref (nx 5), .ref (nx 6), .int (nI cn), .int x8, .int x9, .int x10])), ((nx 5), .inl (cI, 24, .inl P9))] := hD
            refine lv_iinc (v := nI ((nr_run fn P9 CO k w (np_fill RW 0 cf (-1)) i).2 + 1)) (lv' := [(4, .int (nI ((nr_run fn P9 CO k w (np_fill RW 0 cf (-1)) i).2 + 1))), (6, .int (nI (fn i))), (0, .ref aF), (1, .ref aX), (2, .int k), (3, .int w), (5, .int (nI i))]) hx hb dgX4_numberRows_83 hl (k := 5) rfl (nI_1 (nr_run fn P9 CO k w (np_fill RW 0 cf (-1)) i).2) (by decide) rfl (fun ls hl => ?_)
            refine lv_iinc (v := nI (i + 1)) (lv' := [(5, .int (nI (i + 1))), (4, .int (nI ((nr_run fn P9 CO k w (np_fill RW 0 cf (-1)) i).2 + 1))), (6, .int (nI (fn i))), (0, .ref aF), (1, .ref aX), (2, .int k), (3, .int w)]) hx hb dgX4_numberRows_86 hl (k := 6) rfl (nI_1 i) (by decide) rfl (fun ls hl => ?_)
            refine lv_goto (tgt := 19) hx hb dgX4_numberRows_89 (by decide) ?_
            refine ih (i + 1) (by omega) H locs ls ?_ ?_ hS ?_
            · rw [hst]; exact hP
            · rw [hst]; exact hD
            · rw [hst]; exact (lv_sub hl [3, 4, 5, 6, 1, 0] rfl)
  refine lv_aload_n hx hb dgX4_numberRows_0 rfl (lv_at hl 0 rfl) ?_
  refine va_get (D := (dC, dI)) (ci := 7) (v := .ref (ff 3)) (C := RX4) (T := TX4) (N := 8) hx hb hts (fun _ h => List.mem_cons_of_mem _ (List.mem_append_left _ (List.mem_append_left _ (List.mem_append_right _ h)))) hown hK hP 0 rfl rfl 3 (by decide) (hts (.fieldLink RX4 18 "KnotHouse$Faces" "row" "[I") (by decide +kernel)) (fun _ h9 => h9) rfl dgX4_numberRows_1 ?_
  refine lv_iconst (v := 0) hx hb dgX4_numberRows_4 (by decide) ?_
  refine ow_topi (y := nI 0) (by decide) ?_
  refine lv_aload_n hx hb dgX4_numberRows_5 rfl (lv_at hl 0 rfl) ?_
  refine va_get (D := (dC, dI)) (ci := 7) (v := .int (nI cf)) (C := RX4) (T := TX4) (N := 8) hx hb hts (fun _ h => List.mem_cons_of_mem _ (List.mem_append_left _ (List.mem_append_left _ (List.mem_append_right _ h)))) hown hK hP 0 rfl rfl 1 (by decide) (hts (.fieldLink RX4 55 "KnotHouse$Faces" "count" "I") (by decide +kernel)) (fun _ h9 => h9) rfl dgX4_numberRows_6 ?_
  refine lv_iconst (v := (-1)) hx hb dgX4_numberRows_9 (by decide) ?_
  have hPc := hP.sub (ws' := [((ff 3), .inl (cI, 48, .inl RW))]) [3] rfl
  have hDc := hD.sub (ws' := [((ff 3), .inl (cI, 48, .inl RW))]) [3] (by decide) rfl
  have hFc := va_free (wc := [((ff 3), .inl (cI, 48, .inl RW))]) hD hS hA [3] rfl
  refine va_callv (va_runS (As := [.ref (ff 3), .int (nI 0), .int (nI cf), .int (-1)]) (rest := []) ⟨hx, hb, hml, hown, hts⟩ (kg_J7_fill_fda19 l dC dI cI cB cJ cZ (ff 3) 48 0 cf (by decide) (by omega) hcf RW (-1) H.size) (va_cwS 4 hts gg_X4_numberRows_0 rfl rfl rfl (by decide +kernel) ⟨(Nat.le_of_ble_eq_true rfl), (Nat.le_of_ble_eq_true rfl)⟩) ⟨fun a U g mk q => by obtain ⟨q0, q1, qP, qK, qD⟩ := q; exact ⟨q0, q1, qP, va_K.moved (u := U) (U := U.calling g mk a) (Vm.Alike.refl U.vm) qK, qD⟩, fun U hU hW => ⟨rfl, by rw [hU], by rw [hU]; exact hPc, va_K.moved hW.alike hK, hDc.weaken (fun _ _ _ _ => trivial)⟩⟩ rfl rfl hl.1 rfl (lv_room (Nat.le_of_ble_eq_true rfl)) dgX4_numberRows_10 ⟨(Nat.le_of_ble_eq_true rfl), (Nat.le_of_ble_eq_true rfl)⟩) hS (fun q _ h => hFc q h) hFc (fun u9 t H1 locs ht hvm hw9 hB hz1 hk1 hS => ?_)
  obtain ⟨hP1, hD1⟩ := hB
  rw [ht] at hP1
  obtain ⟨hP, hD⟩ := va_join (wr := [(aF, .inr (7, [.ref (ff 0), .int (nI cf), .ref (ff 2), .ref (ff 3), .ref (ff 4), .ref (ff 5), .ref (ff 6), .ref (ff 7)])), ((ff 0), .inl (cI, 48, .inl Fa)), ((ff 2), .inl (cI, 48, .inl CO)), (aX, .inr (10, [.ref (nx 0), .ref (nx 1), .ref (nx 2), .ref (nx 3), .ref (nx 4), .ref (nx 5), .ref (nx 6), .int (nI cn), .int x8, .int x9, .int x10])), ((nx 5), .inl (cI, 24, .inl P9))]) (w1 := [((ff 3), .inl (cI, 48, .inl (np_fill RW 0 cf (-1))))]) hP hD [3] [0, 1, 2, 4, 5] rfl rfl (by decide) (by decide) hk1 hFc hP1 hD1
  generalize H1 = H at hP hS ⊢
  have hP : va_P (dC, dI) vwCl [(aF, .inr (7, [.ref (ff 0), .int (nI cf), .ref (ff 2), .ref (ff 3), .ref (ff 4), .ref (ff 5), .ref (ff 6), .ref (ff 7)])), ((ff 0), .inl (cI, 48, .inl Fa)), ((ff 2), .inl (cI, 48, .inl CO)), (aX, .inr (10, [.ref (nx 0), .ref (nx 1), .ref (nx 2), .ref (nx 3), .ref (nx 4), .ref (nx 5), .ref (nx 6), .int (nI cn), .int x8, .int x9, .int x10])), ((nx 5), .inl (cI, 24, .inl P9)), ((ff 3), .inl (cI, 48, .inl (np_fill RW 0 cf (-1))))] H := hP
  have hD : va_D A [(aF, .inr (7, [.ref (ff 0), .int (nI cf), .ref (ff 2), .ref (ff 3), .ref (ff 4), .ref (ff 5), .ref (ff 6), .ref (ff 7)])), ((ff 0), .inl (cI, 48, .inl Fa)), ((ff 2), .inl (cI, 48, .inl CO)), (aX, .inr (10, [.ref (nx 0), .ref (nx 1), .ref (nx 2), .ref (nx 3), .ref (nx 4), .ref (nx 5), .ref (nx 6), .int (nI cn), .int x8, .int x9, .int x10])), ((nx 5), .inl (cI, 24, .inl P9)), ((ff 3), .inl (cI, 48, .inl (np_fill RW 0 cf (-1))))] := hD
  have hP := hP.sub (ws' := [(aF, .inr (7, [.ref (ff 0), .int (nI cf), .ref (ff 2), .ref (ff 3), .ref (ff 4), .ref (ff 5), .ref (ff 6), .ref (ff 7)])), ((ff 0), .inl (cI, 48, .inl Fa)), ((ff 2), .inl (cI, 48, .inl CO)), ((ff 3), .inl (cI, 48, .inl (np_fill RW 0 cf (-1)))), (aX, .inr (10, [.ref (nx 0), .ref (nx 1), .ref (nx 2), .ref (nx 3), .ref (nx 4), .ref (nx 5), .ref (nx 6), .int (nI cn), .int x8, .int x9, .int x10])), ((nx 5), .inl (cI, 24, .inl P9))]) [0, 1, 2, 5, 3, 4] rfl
  have hD := hD.sub (ws' := [(aF, .inr (7, [.ref (ff 0), .int (nI cf), .ref (ff 2), .ref (ff 3), .ref (ff 4), .ref (ff 5), .ref (ff 6), .ref (ff 7)])), ((ff 0), .inl (cI, 48, .inl Fa)), ((ff 2), .inl (cI, 48, .inl CO)), ((ff 3), .inl (cI, 48, .inl (np_fill RW 0 cf (-1)))), (aX, .inr (10, [.ref (nx 0), .ref (nx 1), .ref (nx 2), .ref (nx 3), .ref (nx 4), .ref (nx 5), .ref (nx 6), .int (nI cn), .int x8, .int x9, .int x10])), ((nx 5), .inl (cI, 24, .inl P9))]) [0, 1, 2, 5, 3, 4] (by decide) rfl
  refine lv_iconst (v := 0) hx hb dgX4_numberRows_13 (by decide) ?_
  refine ow_topi (y := nI 0) (by decide) ?_
  refine lv_istore (lv' := [(4, .int (nI 0)), (0, .ref aF), (1, .ref aX), (2, .int k), (3, .int w)]) hx hb dgX4_numberRows_14 hl (by decide) rfl (fun ls hl => ?_)
  refine lv_iconst (v := 0) hx hb dgX4_numberRows_16 (by decide) ?_
  refine ow_topi (y := nI 0) (by decide) ?_
  refine lv_istore (lv' := [(5, .int (nI 0)), (4, .int (nI 0)), (0, .ref aF), (1, .ref aX), (2, .int k), (3, .int w)]) hx hb dgX4_numberRows_17 hl (by decide) rfl (fun ls hl => ?_)
  exact L19 (4 * cn) 0 (by omega) H locs ls hP hD hS (lv_sub hl [2, 3, 4, 5, 1, 0] rfl)
theorem dgX4_rarerColour_0 : decode cX4_rarerColour 0 = .ok (.aload_n 0, 1) := by decide +kernel
theorem dgX4_rarerColour_1 : decode cX4_rarerColour 1 = .ok (.aload_n 1, 1) := by decide +kernel
theorem dgX4_rarerColour_2 : decode cX4_rarerColour 2 = .ok (.iload_n 2, 1) := by decide +kernel
theorem dgX4_rarerColour_3 : decode cX4_rarerColour 3 = .ok (.iconst 0, 1) := by decide +kernel
theorem dgX4_rarerColour_4 : decode cX4_rarerColour 4 = .ok (.invokevirtual 86, 3) := by decide +kernel
theorem dgX4_rarerColour_7 : decode cX4_rarerColour 7 = .ok (.istore_n 3, 1) := by decide +kernel
theorem dgX4_rarerColour_8 : decode cX4_rarerColour 8 = .ok (.aload_n 0, 1) := by decide +kernel
theorem dgX4_rarerColour_9 : decode cX4_rarerColour 9 = .ok (.aload_n 1, 1) := by decide +kernel
theorem dgX4_rarerColour_10 : decode cX4_rarerColour 10 = .ok (.iload_n 2, 1) := by decide +kernel
theorem dgX4_rarerColour_11 : decode cX4_rarerColour 11 = .ok (.iconst 1, 1) := by decide +kernel
theorem dgX4_rarerColour_12 : decode cX4_rarerColour 12 = .ok (.invokevirtual 86, 3) := by decide +kernel
theorem dgX4_rarerColour_15 : decode cX4_rarerColour 15 = .ok (.istore 4, 2) := by decide +kernel
theorem dgX4_rarerColour_17 : decode cX4_rarerColour 17 = .ok (.iload_n 3, 1) := by decide +kernel
theorem dgX4_rarerColour_18 : decode cX4_rarerColour 18 = .ok (.iload 4, 2) := by decide +kernel
theorem dgX4_rarerColour_20 : decode cX4_rarerColour 20 = .ok (.if_icmp .gt 7, 3) := by decide +kernel
theorem dgX4_rarerColour_23 : decode cX4_rarerColour 23 = .ok (.iconst 0, 1) := by decide +kernel
theorem dgX4_rarerColour_24 : decode cX4_rarerColour 24 = .ok (.goto 4, 3) := by decide +kernel
theorem dgX4_rarerColour_27 : decode cX4_rarerColour 27 = .ok (.iconst 1, 1) := by decide +kernel
theorem dgX4_rarerColour_28 : decode cX4_rarerColour 28 = .ok (.ireturn, 1) := by decide +kernel
def wg_X4_rarerColour : List Cond := .code yX4_rarerColour cX4_rarerColour 5 (some .int) :: (([] ++ wsX40 ++ wsX70) ++ (wsV RX4 86 RX4 yX4_numberRows wg_X4_numberRows ++ []))
theorem gg_X4_rarerColour_0 : GoodIn wg_X4_rarerColour (wsV RX4 86 RX4 yX4_numberRows wg_X4_numberRows) := goodIn_sub (fun _ h => List.mem_cons_of_mem _ (List.mem_append_right _ (List.mem_append_left _ h))) (by decide +kernel)
set_option maxHeartbeats 4000000 in
set_option maxRecDepth 100000 in
theorem kg_X4_rarerColour (l : Launch) (dC : Nat → ClassId) (dI : Nat → Nat → Nat) (cI cB cJ cZ : ClassId) (aF : Nat) (ff : Nat → Nat) (aX : Nat) (nx : Nat → Nat) (x8 x9 x10 : Int32) (cn : Nat) (hc : cn ≤ 12) (Fa P9 : Nat → Int32) (fn : Nat → Nat) (cf : Nat) (hcf : cf ≤ 48) (hfn : ∀ k, k < 4 * cn → Fa k = nI (fn k) ∧ fn k < cf) (CO RW : Nat → Int32) (k : Int32) (sz : Nat) : Met l yX4_rarerColour wg_X4_rarerColour (({ frames := 3, cells := 0, slots := 0, locals := 100 } : Room)) (va_Pc [.ref aF, .ref aX, .int k] (fun U => U.heap.size = sz ∧ va_P (dC, dI) vwCl [(aF, .inr (7, [.ref (ff 0), .int (nI cf), .ref (ff 2), .ref (ff 3), .ref (ff 4), .ref (ff 5), .ref (ff 6), .ref (ff 7)])), ((ff 0), .inl (cI, 48, .inl Fa)), ((ff 2), .inl (cI, 48, .inl CO)), ((ff 3), .inl (cI, 48, .inl RW)), (aX, .inr (10, [.ref (nx 0), .ref (nx 1), .ref (nx 2), .ref (nx 3), .ref (nx 4), .ref (nx 5), .ref (nx 6), .int (nI cn), .int x8, .int x9, .int x10])), ((nx 5), .inl (cI, 24, .inl P9))] U.heap ∧ va_K (dC, dI) vwCl [(cI, .int), (cB, .byte), (cJ, .long), (cZ, .boolean)] U ∧ va_D (fun _ => True) [(aF, .inr (7, [.ref (ff 0), .int (nI cf), .ref (ff 2), .ref (ff 3), .ref (ff 4), .ref (ff 5), .ref (ff 6), .ref (ff 7)])), ((ff 0), .inl (cI, 48, .inl Fa)), ((ff 2), .inl (cI, 48, .inl CO)), ((ff 3), .inl (cI, 48, .inl RW)), (aX, .inr (10, [.ref (nx 0), .ref (nx 1), .ref (nx 2), .ref (nx 3), .ref (nx 4), .ref (nx 5), .ref (nx 6), .int (nI cn), .int x8, .int x9, .int x10])), ((nx 5), .inl (cI, 24, .inl P9))])) (va_Qi (fun r (g : Unit) => r = (if (nr_run fn P9 CO k 0 (np_fill RW 0 cf (-1)) (4 * cn)).2 ≤ (nr_run fn P9 CO k 1 (np_fill (nr_run fn P9 CO k 0 (np_fill RW 0 cf (-1)) (4 * cn)).1 0 cf (-1)) (4 * cn)).2 then 0 else 1)) (fun g t => va_P (dC, dI) vwCl [(aF, .inr (7, [.ref (ff 0), .int (nI cf), .ref (ff 2), .ref (ff 3), .ref (ff 4), .ref (ff 5), .ref (ff 6), .ref (ff 7)])), ((ff 0), .inl (cI, 48, .inl Fa)), ((ff 2), .inl (cI, 48, .inl CO)), ((ff 3), .inl (cI, 48, .inl ((nr_run fn P9 CO k 1 (np_fill (nr_run fn P9 CO k 0 (np_fill RW 0 cf (-1)) (4 * cn)).1 0 cf (-1)) (4 * cn)).1))), (aX, .inr (10, [.ref (nx 0), .ref (nx 1), .ref (nx 2), .ref (nx 3), .ref (nx 4), .ref (nx 5), .ref (nx 6), .int (nI cn), .int x8, .int x9, .int x10])), ((nx 5), .inl (cI, 24, .inl P9))] t.heap ∧ va_D (va_A [(aF, .inr (7, [.ref (ff 0), .int (nI cf), .ref (ff 2), .ref (ff 3), .ref (ff 4), .ref (ff 5), .ref (ff 6), .ref (ff 7)])), ((ff 0), .inl (cI, 48, .inl Fa)), ((ff 2), .inl (cI, 48, .inl CO)), ((ff 3), .inl (cI, 48, .inl RW)), (aX, .inr (10, [.ref (nx 0), .ref (nx 1), .ref (nx 2), .ref (nx 3), .ref (nx 4), .ref (nx 5), .ref (nx 6), .int (nI cn), .int x8, .int x9, .int x10])), ((nx 5), .inl (cI, 24, .inl P9))] sz) [(aF, .inr (7, [.ref (ff 0), .int (nI cf), .ref (ff 2), .ref (ff 3), .ref (ff 4), .ref (ff 5), .ref (ff 6), .ref (ff 7)])), ((ff 0), .inl (cI, 48, .inl Fa)), ((ff 2), .inl (cI, 48, .inl CO)), ((ff 3), .inl (cI, 48, .inl ((nr_run fn P9 CO k 1 (np_fill (nr_run fn P9 CO k 0 (np_fill RW 0 cf (-1)) (4 * cn)).1 0 cf (-1)) (4 * cn)).1))), (aX, .inr (10, [.ref (nx 0), .ref (nx 1), .ref (nx 2), .ref (nx 3), .ref (nx 4), .ref (nx 5), .ref (nx 6), .int (nI cn), .int x8, .int x9, .int x10])), ((nx 5), .inl (cI, 24, .inl P9))]) (va_A [(aF, .inr (7, [.ref (ff 0), .int (nI cf), .ref (ff 2), .ref (ff 3), .ref (ff 4), .ref (ff 5), .ref (ff 6), .ref (ff 7)])), ((ff 0), .inl (cI, 48, .inl Fa)), ((ff 2), .inl (cI, 48, .inl CO)), ((ff 3), .inl (cI, 48, .inl RW)), (aX, .inr (10, [.ref (nx 0), .ref (nx 1), .ref (nx 2), .ref (nx 3), .ref (nx 4), .ref (nx 5), .ref (nx 6), .int (nI cn), .int x8, .int x9, .int x10])), ((nx 5), .inl (cI, 24, .inl P9))] sz)) 0 0 (va_A [(aF, .inr (7, [.ref (ff 0), .int (nI cf), .ref (ff 2), .ref (ff 3), .ref (ff 4), .ref (ff 5), .ref (ff 6), .ref (ff 7)])), ((ff 0), .inl (cI, 48, .inl Fa)), ((ff 2), .inl (cI, 48, .inl CO)), ((ff 3), .inl (cI, 48, .inl RW)), (aX, .inr (10, [.ref (nx 0), .ref (nx 1), .ref (nx 2), .ref (nx 3), .ref (nx 4), .ref (nx 5), .ref (nx 6), .int (nI cn), .int x8, .int x9, .int x10])), ((nx 5), .inl (cI, 24, .inl P9))] sz) := by
  refine Met.ofW (cc := cX4_rarerColour) (maxL := 5) (ret := (some .int)) (by decide) rfl ?_
  intro p e s m args below meth c s₁ B hml hv
  obtain ⟨rfl, hsz, hP, hK, hD0⟩ := hv
  have hx := B.exec
  have hb := B.bytes
  have hr := B.returns
  have hts := atoms_spec (ws := wg_X4_rarerColour) B.pre
  have hown : s.vm.findClass RX4 = some m.cls := findClass_of_methodNamed B.named
  have hlocks := B.notSynchronized
  subst hsz
  have hD := hD0.self (sz := s.heap.size)
  generalize hAe : va_A [(aF, .inr (7, [.ref (ff 0), .int (nI cf), .ref (ff 2), .ref (ff 3), .ref (ff 4), .ref (ff 5), .ref (ff 6), .ref (ff 7)])), ((ff 0), .inl (cI, 48, .inl Fa)), ((ff 2), .inl (cI, 48, .inl CO)), ((ff 3), .inl (cI, 48, .inl RW)), (aX, .inr (10, [.ref (nx 0), .ref (nx 1), .ref (nx 2), .ref (nx 3), .ref (nx 4), .ref (nx 5), .ref (nx 6), .int (nI cn), .int x8, .int x9, .int x10])), ((nx 5), .inl (cI, 24, .inl P9))] s.heap.size = A at hD ⊢
  have hA : ∀ q : Nat, s.heap.size ≤ q → A q := fun q h => by rw [← hAe]; exact Or.inr h
  have hS : va_S A s.heap s.heap [] := va_S.rf
  have hP : va_P (dC, dI) vwCl [(aF, .inr (7, [.ref (ff 0), .int (nI cf), .ref (ff 2), .ref (ff 3), .ref (ff 4), .ref (ff 5), .ref (ff 6), .ref (ff 7)])), ((ff 0), .inl (cI, 48, .inl Fa)), ((ff 2), .inl (cI, 48, .inl CO)), ((ff 3), .inl (cI, 48, .inl RW)), (aX, .inr (10, [.ref (nx 0), .ref (nx 1), .ref (nx 2), .ref (nx 3), .ref (nx 4), .ref (nx 5), .ref (nx 6), .int (nI cn), .int x8, .int x9, .int x10])), ((nx 5), .inl (cI, 24, .inl P9))] s.heap := hP
  have hl := lv_entry ([.ref aF, .ref aX, .int k]) (n := 5) (Nat.le_of_ble_eq_true rfl)
  rw [lg_entry_eq]
  generalize (lg_sl ([.ref aF, .ref aX, .int k]) ++ List.replicate (5 - (lg_sl ([.ref aF, .ref aX, .int k])).length) Slot.unset).toArray = ls at hl ⊢
  have hl : lv_has ls 5 [(0, .ref aF), (1, .ref aX), (2, .int k)] := hl
  refine ow_named (fun QQ hQQ => ?_)
  suffices key9 : ∀ (H : Heap) (locs : List Loc), va_P (dC, dI) vwCl [(aF, .inr (7, [.ref (ff 0), .int (nI cf), .ref (ff 2), .ref (ff 3), .ref (ff 4), .ref (ff 5), .ref (ff 6), .ref (ff 7)])), ((ff 0), .inl (cI, 48, .inl Fa)), ((ff 2), .inl (cI, 48, .inl CO)), ((ff 3), .inl (cI, 48, .inl RW)), (aX, .inr (10, [.ref (nx 0), .ref (nx 1), .ref (nx 2), .ref (nx 3), .ref (nx 4), .ref (nx 5), .ref (nx 6), .int (nI cn), .int x8, .int x9, .int x10])), ((nx 5), .inl (cI, 24, .inl P9))] H → va_S A s.heap H locs → W p l e ({ frames := 3, cells := 0, slots := 0, locals := 100 } : Room) s m ([.ref aF, .ref aX, .int k] : List Value).toArray below meth c H locs 0 0 QQ (F0 m 0 ls []) from key9 s.heap [] hP hS
  intro H locs hP hS
  refine lv_aload_n hx hb dgX4_rarerColour_0 rfl (lv_at hl 0 rfl) ?_
  refine lv_aload_n hx hb dgX4_rarerColour_1 rfl (lv_at hl 1 rfl) ?_
  refine lv_iload_n hx hb dgX4_rarerColour_2 rfl (lv_at hl 2 rfl) ?_
  refine lv_iconst (v := 0) hx hb dgX4_rarerColour_3 (by decide) ?_
  have hPc := hP.sub (ws' := [(aF, .inr (7, [.ref (ff 0), .int (nI cf), .ref (ff 2), .ref (ff 3), .ref (ff 4), .ref (ff 5), .ref (ff 6), .ref (ff 7)])), ((ff 0), .inl (cI, 48, .inl Fa)), ((ff 2), .inl (cI, 48, .inl CO)), ((ff 3), .inl (cI, 48, .inl RW)), (aX, .inr (10, [.ref (nx 0), .ref (nx 1), .ref (nx 2), .ref (nx 3), .ref (nx 4), .ref (nx 5), .ref (nx 6), .int (nI cn), .int x8, .int x9, .int x10])), ((nx 5), .inl (cI, 24, .inl P9))]) [0, 1, 2, 3, 4, 5] rfl
  have hDc := hD.sub (ws' := [(aF, .inr (7, [.ref (ff 0), .int (nI cf), .ref (ff 2), .ref (ff 3), .ref (ff 4), .ref (ff 5), .ref (ff 6), .ref (ff 7)])), ((ff 0), .inl (cI, 48, .inl Fa)), ((ff 2), .inl (cI, 48, .inl CO)), ((ff 3), .inl (cI, 48, .inl RW)), (aX, .inr (10, [.ref (nx 0), .ref (nx 1), .ref (nx 2), .ref (nx 3), .ref (nx 4), .ref (nx 5), .ref (nx 6), .int (nI cn), .int x8, .int x9, .int x10])), ((nx 5), .inl (cI, 24, .inl P9))]) [0, 1, 2, 3, 4, 5] (by decide) rfl
  have hFc := va_free (wc := [(aF, .inr (7, [.ref (ff 0), .int (nI cf), .ref (ff 2), .ref (ff 3), .ref (ff 4), .ref (ff 5), .ref (ff 6), .ref (ff 7)])), ((ff 0), .inl (cI, 48, .inl Fa)), ((ff 2), .inl (cI, 48, .inl CO)), ((ff 3), .inl (cI, 48, .inl RW)), (aX, .inr (10, [.ref (nx 0), .ref (nx 1), .ref (nx 2), .ref (nx 3), .ref (nx 4), .ref (nx 5), .ref (nx 6), .int (nI cn), .int x8, .int x9, .int x10])), ((nx 5), .inl (cI, 24, .inl P9))]) hD hS hA [0, 1, 2, 3, 4, 5] rfl
  refine va_calli (va_runV (As := [.ref aX, .int k, .int 0]) (rest := []) ⟨hx, hb, hml, hown, hts⟩ (kg_X4_numberRows l dC dI cI cB cJ cZ aF ff aX nx x8 x9 x10 cn hc Fa P9 fn cf hcf hfn CO RW k 0 H.size) (cwV 3 hts gg_X4_rarerColour_0 rfl rfl rfl (by decide +kernel) ⟨(Nat.le_of_ble_eq_true rfl), (Nat.le_of_ble_eq_true rfl)⟩) ⟨fun a U g mk q => by obtain ⟨q0, q1, qP, qK, qD⟩ := q; exact ⟨q0, q1, qP, va_K.moved (u := U) (U := U.calling g mk a) (Vm.Alike.refl U.vm) qK, qD⟩, va_recv hK hPc (ci := 7) (q0 := 0) rfl rfl, fun U hU hW => ⟨rfl, by rw [hU], by rw [hU]; exact hPc, va_K.moved hW.alike hK, hDc.weaken (fun _ _ _ _ => trivial)⟩⟩ rfl rfl hl.1 rfl (lv_room (Nat.le_of_ble_eq_true rfl)) dgX4_rarerColour_4 ⟨(Nat.le_of_ble_eq_true rfl), (Nat.le_of_ble_eq_true rfl)⟩) hS (fun q _ h => hFc q h) hFc (fun ra1 u9 t H1 locs ht hvm hw hB hz1 hk1 hS => ?_)
  obtain ⟨hP1, hD1⟩ := hB
  rw [ht] at hP1
  obtain ⟨hP, hD⟩ := va_join (wr := []) (w1 := [(aF, .inr (7, [.ref (ff 0), .int (nI cf), .ref (ff 2), .ref (ff 3), .ref (ff 4), .ref (ff 5), .ref (ff 6), .ref (ff 7)])), ((ff 0), .inl (cI, 48, .inl Fa)), ((ff 2), .inl (cI, 48, .inl CO)), ((ff 3), .inl (cI, 48, .inl ((nr_run fn P9 CO k 0 (np_fill RW 0 cf (-1)) (4 * cn)).1))), (aX, .inr (10, [.ref (nx 0), .ref (nx 1), .ref (nx 2), .ref (nx 3), .ref (nx 4), .ref (nx 5), .ref (nx 6), .int (nI cn), .int x8, .int x9, .int x10])), ((nx 5), .inl (cI, 24, .inl P9))]) hP hD [0, 1, 2, 3, 4, 5] [] rfl rfl (by decide) (by decide) hk1 hFc hP1 hD1
  generalize H1 = H at hP hS ⊢
  have hP : va_P (dC, dI) vwCl [(aF, .inr (7, [.ref (ff 0), .int (nI cf), .ref (ff 2), .ref (ff 3), .ref (ff 4), .ref (ff 5), .ref (ff 6), .ref (ff 7)])), ((ff 0), .inl (cI, 48, .inl Fa)), ((ff 2), .inl (cI, 48, .inl CO)), ((ff 3), .inl (cI, 48, .inl ((nr_run fn P9 CO k 0 (np_fill RW 0 cf (-1)) (4 * cn)).1))), (aX, .inr (10, [.ref (nx 0), .ref (nx 1), .ref (nx 2), .ref (nx 3), .ref (nx 4), .ref (nx 5), .ref (nx 6), .int (nI cn), .int x8, .int x9, .int x10])), ((nx 5), .inl (cI, 24, .inl P9))] H := hP
  have hD : va_D A [(aF, .inr (7, [.ref (ff 0), .int (nI cf), .ref (ff 2), .ref (ff 3), .ref (ff 4), .ref (ff 5), .ref (ff 6), .ref (ff 7)])), ((ff 0), .inl (cI, 48, .inl Fa)), ((ff 2), .inl (cI, 48, .inl CO)), ((ff 3), .inl (cI, 48, .inl ((nr_run fn P9 CO k 0 (np_fill RW 0 cf (-1)) (4 * cn)).1))), (aX, .inr (10, [.ref (nx 0), .ref (nx 1), .ref (nx 2), .ref (nx 3), .ref (nx 4), .ref (nx 5), .ref (nx 6), .int (nI cn), .int x8, .int x9, .int x10])), ((nx 5), .inl (cI, 24, .inl P9))] := hD
  obtain rfl : ra1 = nI (nr_run fn P9 CO k 0 (np_fill RW 0 cf (-1)) (4 * cn)).2 := hw
  refine lv_istore_n (lv' := [(3, .int (nI (nr_run fn P9 CO k 0 (np_fill RW 0 cf (-1)) (4 * cn)).2)), (0, .ref aF), (1, .ref aX), (2, .int k)]) hx hb dgX4_rarerColour_7 rfl hl (by decide) rfl (fun ls hl => ?_)
  refine lv_aload_n hx hb dgX4_rarerColour_8 rfl (lv_at hl 1 rfl) ?_
  refine lv_aload_n hx hb dgX4_rarerColour_9 rfl (lv_at hl 2 rfl) ?_
  refine lv_iload_n hx hb dgX4_rarerColour_10 rfl (lv_at hl 3 rfl) ?_
  refine lv_iconst (v := 1) hx hb dgX4_rarerColour_11 (by decide) ?_
  have hPc := hP.sub (ws' := [(aF, .inr (7, [.ref (ff 0), .int (nI cf), .ref (ff 2), .ref (ff 3), .ref (ff 4), .ref (ff 5), .ref (ff 6), .ref (ff 7)])), ((ff 0), .inl (cI, 48, .inl Fa)), ((ff 2), .inl (cI, 48, .inl CO)), ((ff 3), .inl (cI, 48, .inl ((nr_run fn P9 CO k 0 (np_fill RW 0 cf (-1)) (4 * cn)).1))), (aX, .inr (10, [.ref (nx 0), .ref (nx 1), .ref (nx 2), .ref (nx 3), .ref (nx 4), .ref (nx 5), .ref (nx 6), .int (nI cn), .int x8, .int x9, .int x10])), ((nx 5), .inl (cI, 24, .inl P9))]) [0, 1, 2, 3, 4, 5] rfl
  have hDc := hD.sub (ws' := [(aF, .inr (7, [.ref (ff 0), .int (nI cf), .ref (ff 2), .ref (ff 3), .ref (ff 4), .ref (ff 5), .ref (ff 6), .ref (ff 7)])), ((ff 0), .inl (cI, 48, .inl Fa)), ((ff 2), .inl (cI, 48, .inl CO)), ((ff 3), .inl (cI, 48, .inl ((nr_run fn P9 CO k 0 (np_fill RW 0 cf (-1)) (4 * cn)).1))), (aX, .inr (10, [.ref (nx 0), .ref (nx 1), .ref (nx 2), .ref (nx 3), .ref (nx 4), .ref (nx 5), .ref (nx 6), .int (nI cn), .int x8, .int x9, .int x10])), ((nx 5), .inl (cI, 24, .inl P9))]) [0, 1, 2, 3, 4, 5] (by decide) rfl
  have hFc := va_free (wc := [(aF, .inr (7, [.ref (ff 0), .int (nI cf), .ref (ff 2), .ref (ff 3), .ref (ff 4), .ref (ff 5), .ref (ff 6), .ref (ff 7)])), ((ff 0), .inl (cI, 48, .inl Fa)), ((ff 2), .inl (cI, 48, .inl CO)), ((ff 3), .inl (cI, 48, .inl ((nr_run fn P9 CO k 0 (np_fill RW 0 cf (-1)) (4 * cn)).1))), (aX, .inr (10, [.ref (nx 0), .ref (nx 1), .ref (nx 2), .ref (nx 3), .ref (nx 4), .ref (nx 5), .ref (nx 6), .int (nI cn), .int x8, .int x9, .int x10])), ((nx 5), .inl (cI, 24, .inl P9))]) hD hS hA [0, 1, 2, 3, 4, 5] rfl
  refine va_calli (va_runV (As := [.ref aX, .int k, .int 1]) (rest := []) ⟨hx, hb, hml, hown, hts⟩ (kg_X4_numberRows l dC dI cI cB cJ cZ aF ff aX nx x8 x9 x10 cn hc Fa P9 fn cf hcf hfn CO (nr_run fn P9 CO k 0 (np_fill RW 0 cf (-1)) (4 * cn)).1 k 1 H.size) (cwV 3 hts gg_X4_rarerColour_0 rfl rfl rfl (by decide +kernel) ⟨(Nat.le_of_ble_eq_true rfl), (Nat.le_of_ble_eq_true rfl)⟩) ⟨fun a U g mk q => by obtain ⟨q0, q1, qP, qK, qD⟩ := q; exact ⟨q0, q1, qP, va_K.moved (u := U) (U := U.calling g mk a) (Vm.Alike.refl U.vm) qK, qD⟩, va_recv hK hPc (ci := 7) (q0 := 0) rfl rfl, fun U hU hW => ⟨rfl, by rw [hU], by rw [hU]; exact hPc, va_K.moved hW.alike hK, hDc.weaken (fun _ _ _ _ => trivial)⟩⟩ rfl rfl hl.1 rfl (lv_room (Nat.le_of_ble_eq_true rfl)) dgX4_rarerColour_12 ⟨(Nat.le_of_ble_eq_true rfl), (Nat.le_of_ble_eq_true rfl)⟩) hS (fun q _ h => hFc q h) hFc (fun ra2 u9 t H1 locs ht hvm hw hB hz1 hk1 hS => ?_)
  obtain ⟨hP1, hD1⟩ := hB
  rw [ht] at hP1
  obtain ⟨hP, hD⟩ := va_join (wr := []) (w1 := [(aF, .inr (7, [.ref (ff 0), .int (nI cf), .ref (ff 2), .ref (ff 3), .ref (ff 4), .ref (ff 5), .ref (ff 6), .ref (ff 7)])), ((ff 0), .inl (cI, 48, .inl Fa)), ((ff 2), .inl (cI, 48, .inl CO)), ((ff 3), .inl (cI, 48, .inl ((nr_run fn P9 CO k 1 (np_fill (nr_run fn P9 CO k 0 (np_fill RW 0 cf (-1)) (4 * cn)).1 0 cf (-1)) (4 * cn)).1))), (aX, .inr (10, [.ref (nx 0), .ref (nx 1), .ref (nx 2), .ref (nx 3), .ref (nx 4), .ref (nx 5), .ref (nx 6), .int (nI cn), .int x8, .int x9, .int x10])), ((nx 5), .inl (cI, 24, .inl P9))]) hP hD [0, 1, 2, 3, 4, 5] [] rfl rfl (by decide) (by decide) hk1 hFc hP1 hD1
  generalize H1 = H at hP hS ⊢
  have hP : va_P (dC, dI) vwCl [(aF, .inr (7, [.ref (ff 0), .int (nI cf), .ref (ff 2), .ref (ff 3), .ref (ff 4), .ref (ff 5), .ref (ff 6), .ref (ff 7)])), ((ff 0), .inl (cI, 48, .inl Fa)), ((ff 2), .inl (cI, 48, .inl CO)), ((ff 3), .inl (cI, 48, .inl ((nr_run fn P9 CO k 1 (np_fill (nr_run fn P9 CO k 0 (np_fill RW 0 cf (-1)) (4 * cn)).1 0 cf (-1)) (4 * cn)).1))), (aX, .inr (10, [.ref (nx 0), .ref (nx 1), .ref (nx 2), .ref (nx 3), .ref (nx 4), .ref (nx 5), .ref (nx 6), .int (nI cn), .int x8, .int x9, .int x10])), ((nx 5), .inl (cI, 24, .inl P9))] H := hP
  have hD : va_D A [(aF, .inr (7, [.ref (ff 0), .int (nI cf), .ref (ff 2), .ref (ff 3), .ref (ff 4), .ref (ff 5), .ref (ff 6), .ref (ff 7)])), ((ff 0), .inl (cI, 48, .inl Fa)), ((ff 2), .inl (cI, 48, .inl CO)), ((ff 3), .inl (cI, 48, .inl ((nr_run fn P9 CO k 1 (np_fill (nr_run fn P9 CO k 0 (np_fill RW 0 cf (-1)) (4 * cn)).1 0 cf (-1)) (4 * cn)).1))), (aX, .inr (10, [.ref (nx 0), .ref (nx 1), .ref (nx 2), .ref (nx 3), .ref (nx 4), .ref (nx 5), .ref (nx 6), .int (nI cn), .int x8, .int x9, .int x10])), ((nx 5), .inl (cI, 24, .inl P9))] := hD
  obtain rfl : ra2 = nI (nr_run fn P9 CO k 1 (np_fill (nr_run fn P9 CO k 0 (np_fill RW 0 cf (-1)) (4 * cn)).1 0 cf (-1)) (4 * cn)).2 := hw
  have h1 := nr_le fn P9 CO k 0 (np_fill RW 0 cf (-1)) (4 * cn)
  have h2 := nr_le fn P9 CO k 1 (np_fill (nr_run fn P9 CO k 0 (np_fill RW 0 cf (-1)) (4 * cn)).1 0 cf (-1)) (4 * cn)
  refine lv_istore (lv' := [(4, .int (nI (nr_run fn P9 CO k 1 (np_fill (nr_run fn P9 CO k 0 (np_fill RW 0 cf (-1)) (4 * cn)).1 0 cf (-1)) (4 * cn)).2)), (3, .int (nI (nr_run fn P9 CO k 0 (np_fill RW 0 cf (-1)) (4 * cn)).2)), (0, .ref aF), (1, .ref aX), (2, .int k)]) hx hb dgX4_rarerColour_15 hl (by decide) rfl (fun ls hl => ?_)
  refine lv_iload_n hx hb dgX4_rarerColour_17 rfl (lv_at hl 1 rfl) ?_
  refine lv_iload hx hb dgX4_rarerColour_18 (lv_at hl 0 rfl) ?_
  rcases Nat.lt_or_ge (nr_run fn P9 CO k 1 (np_fill (nr_run fn P9 CO k 0 (np_fill RW 0 cf (-1)) (4 * cn)).1 0 cf (-1)) (4 * cn)).2 (nr_run fn P9 CO k 0 (np_fill RW 0 cf (-1)) (4 * cn)).2 with h3 | h3
  · refine lv_icmp_gt (tgt := 27) hx hb dgX4_rarerColour_20 (by decide) (fun _ => ?_) (fun c9 => absurd (nI_lt (a := (nr_run fn P9 CO k 1 (np_fill (nr_run fn P9 CO k 0 (np_fill RW 0 cf (-1)) (4 * cn)).1 0 cf (-1)) (4 * cn)).2) (b := (nr_run fn P9 CO k 0 (np_fill RW 0 cf (-1)) (4 * cn)).2) h3 (by omega)) c9)
    refine lv_iconst (v := 1) hx hb dgX4_rarerColour_27 (by decide) ?_
    rw [hQQ]
    exact W.iret (v := 1) hx hb hr (fun t ht hW => ⟨⟨1, (), rfl, (if_neg (Nat.not_le.mpr h3)).symm, by rw [ht]; exact hP, hD⟩, hS.F ht⟩) hS.2.2 dgX4_rarerColour_28
  · refine lv_icmp_gt (tgt := 27) hx hb dgX4_rarerColour_20 (by decide) (fun c9 => absurd c9 (nI_nlt (a := (nr_run fn P9 CO k 1 (np_fill (nr_run fn P9 CO k 0 (np_fill RW 0 cf (-1)) (4 * cn)).1 0 cf (-1)) (4 * cn)).2) (b := (nr_run fn P9 CO k 0 (np_fill RW 0 cf (-1)) (4 * cn)).2) h3 (by omega))) (fun _ => ?_)
    refine lv_iconst (v := 0) hx hb dgX4_rarerColour_23 (by decide) ?_
    refine lv_goto (tgt := 28) hx hb dgX4_rarerColour_24 (by decide) ?_
    rw [hQQ]
    exact W.iret (v := 0) hx hb hr (fun t ht hW => ⟨⟨0, (), rfl, (if_pos h3).symm, by rw [ht]; exact hP, hD⟩, hS.F ht⟩) hS.2.2 dgX4_rarerColour_28
theorem dgX4_paint_0 : decode cX4_paint 0 = .ok (.iconst 0, 1) := by decide +kernel
theorem dgX4_paint_1 : decode cX4_paint 1 = .ok (.istore_n 3, 1) := by decide +kernel
theorem dgX4_paint_2 : decode cX4_paint 2 = .ok (.iconst 1, 1) := by decide +kernel
theorem dgX4_paint_3 : decode cX4_paint 3 = .ok (.istore 4, 2) := by decide +kernel
theorem dgX4_paint_5 : decode cX4_paint 5 = .ok (.iconst 0, 1) := by decide +kernel
theorem dgX4_paint_6 : decode cX4_paint 6 = .ok (.istore 5, 2) := by decide +kernel
theorem dgX4_paint_8 : decode cX4_paint 8 = .ok (.iload 5, 2) := by decide +kernel
theorem dgX4_paint_10 : decode cX4_paint 10 = .ok (.bipush 48, 2) := by decide +kernel
theorem dgX4_paint_12 : decode cX4_paint 12 = .ok (.if_icmp .ge 174, 3) := by decide +kernel
theorem dgX4_paint_15 : decode cX4_paint 15 = .ok (.iload 4, 2) := by decide +kernel
theorem dgX4_paint_17 : decode cX4_paint 17 = .ok (.ifCond .eq 169, 3) := by decide +kernel
theorem dgX4_paint_20 : decode cX4_paint 20 = .ok (.iconst 0, 1) := by decide +kernel
theorem dgX4_paint_21 : decode cX4_paint 21 = .ok (.istore 4, 2) := by decide +kernel
theorem dgX4_paint_23 : decode cX4_paint 23 = .ok (.iconst 0, 1) := by decide +kernel
theorem dgX4_paint_24 : decode cX4_paint 24 = .ok (.istore 6, 2) := by decide +kernel
theorem dgX4_paint_26 : decode cX4_paint 26 = .ok (.iload 6, 2) := by decide +kernel
theorem dgX4_paint_28 : decode cX4_paint 28 = .ok (.iconst 2, 1) := by decide +kernel
theorem dgX4_paint_29 : decode cX4_paint 29 = .ok (.aload_n 1, 1) := by decide +kernel
theorem dgX4_paint_30 : decode cX4_paint 30 = .ok (.getfield 45, 3) := by decide +kernel
theorem dgX4_paint_33 : decode cX4_paint 33 = .ok (.imul, 1) := by decide +kernel
theorem dgX4_paint_34 : decode cX4_paint 34 = .ok (.if_icmp .ge 146, 3) := by decide +kernel
theorem dgX4_paint_37 : decode cX4_paint 37 = .ok (.aload_n 1, 1) := by decide +kernel
theorem dgX4_paint_38 : decode cX4_paint 38 = .ok (.getfield 83, 3) := by decide +kernel
theorem dgX4_paint_41 : decode cX4_paint 41 = .ok (.iload 6, 2) := by decide +kernel
theorem dgX4_paint_43 : decode cX4_paint 43 = .ok (.iaload, 1) := by decide +kernel
theorem dgX4_paint_44 : decode cX4_paint 44 = .ok (.iload_n 2, 1) := by decide +kernel
theorem dgX4_paint_45 : decode cX4_paint 45 = .ok (.if_icmp .eq 6, 3) := by decide +kernel
theorem dgX4_paint_48 : decode cX4_paint 48 = .ok (.goto 126, 3) := by decide +kernel
theorem dgX4_paint_51 : decode cX4_paint 51 = .ok (.aload_n 0, 1) := by decide +kernel
theorem dgX4_paint_52 : decode cX4_paint 52 = .ok (.getfield 9, 3) := by decide +kernel
theorem dgX4_paint_55 : decode cX4_paint 55 = .ok (.iconst 2, 1) := by decide +kernel
theorem dgX4_paint_56 : decode cX4_paint 56 = .ok (.iload 6, 2) := by decide +kernel
theorem dgX4_paint_58 : decode cX4_paint 58 = .ok (.imul, 1) := by decide +kernel
theorem dgX4_paint_59 : decode cX4_paint 59 = .ok (.iaload, 1) := by decide +kernel
theorem dgX4_paint_60 : decode cX4_paint 60 = .ok (.istore 7, 2) := by decide +kernel
theorem dgX4_paint_62 : decode cX4_paint 62 = .ok (.aload_n 0, 1) := by decide +kernel
theorem dgX4_paint_63 : decode cX4_paint 63 = .ok (.getfield 9, 3) := by decide +kernel
theorem dgX4_paint_66 : decode cX4_paint 66 = .ok (.iconst 2, 1) := by decide +kernel
theorem dgX4_paint_67 : decode cX4_paint 67 = .ok (.iload 6, 2) := by decide +kernel
theorem dgX4_paint_69 : decode cX4_paint 69 = .ok (.imul, 1) := by decide +kernel
theorem dgX4_paint_70 : decode cX4_paint 70 = .ok (.iconst 1, 1) := by decide +kernel
theorem dgX4_paint_71 : decode cX4_paint 71 = .ok (.iadd, 1) := by decide +kernel
theorem dgX4_paint_72 : decode cX4_paint 72 = .ok (.iaload, 1) := by decide +kernel
theorem dgX4_paint_73 : decode cX4_paint 73 = .ok (.istore 8, 2) := by decide +kernel
theorem dgX4_paint_75 : decode cX4_paint 75 = .ok (.iload_n 3, 1) := by decide +kernel
theorem dgX4_paint_76 : decode cX4_paint 76 = .ok (.ifCond .ne 13, 3) := by decide +kernel
theorem dgX4_paint_79 : decode cX4_paint 79 = .ok (.aload_n 0, 1) := by decide +kernel
theorem dgX4_paint_80 : decode cX4_paint 80 = .ok (.getfield 15, 3) := by decide +kernel
theorem dgX4_paint_83 : decode cX4_paint 83 = .ok (.iload 7, 2) := by decide +kernel
theorem dgX4_paint_85 : decode cX4_paint 85 = .ok (.iconst 0, 1) := by decide +kernel
theorem dgX4_paint_86 : decode cX4_paint 86 = .ok (.iastore, 1) := by decide +kernel
theorem dgX4_paint_87 : decode cX4_paint 87 = .ok (.iconst 1, 1) := by decide +kernel
theorem dgX4_paint_88 : decode cX4_paint 88 = .ok (.istore_n 3, 1) := by decide +kernel
theorem dgX4_paint_89 : decode cX4_paint 89 = .ok (.aload_n 0, 1) := by decide +kernel
theorem dgX4_paint_90 : decode cX4_paint 90 = .ok (.getfield 15, 3) := by decide +kernel
theorem dgX4_paint_93 : decode cX4_paint 93 = .ok (.iload 7, 2) := by decide +kernel
theorem dgX4_paint_95 : decode cX4_paint 95 = .ok (.iaload, 1) := by decide +kernel
theorem dgX4_paint_96 : decode cX4_paint 96 = .ok (.iconst (-1), 1) := by decide +kernel
theorem dgX4_paint_97 : decode cX4_paint 97 = .ok (.if_icmp .eq 36, 3) := by decide +kernel
theorem dgX4_paint_100 : decode cX4_paint 100 = .ok (.aload_n 0, 1) := by decide +kernel
theorem dgX4_paint_101 : decode cX4_paint 101 = .ok (.getfield 15, 3) := by decide +kernel
theorem dgX4_paint_104 : decode cX4_paint 104 = .ok (.iload 8, 2) := by decide +kernel
theorem dgX4_paint_106 : decode cX4_paint 106 = .ok (.iaload, 1) := by decide +kernel
theorem dgX4_paint_107 : decode cX4_paint 107 = .ok (.iconst (-1), 1) := by decide +kernel
theorem dgX4_paint_108 : decode cX4_paint 108 = .ok (.if_icmp .ne 25, 3) := by decide +kernel
theorem dgX4_paint_111 : decode cX4_paint 111 = .ok (.aload_n 0, 1) := by decide +kernel
theorem dgX4_paint_112 : decode cX4_paint 112 = .ok (.getfield 15, 3) := by decide +kernel
theorem dgX4_paint_115 : decode cX4_paint 115 = .ok (.iload 8, 2) := by decide +kernel
theorem dgX4_paint_117 : decode cX4_paint 117 = .ok (.iconst 1, 1) := by decide +kernel
theorem dgX4_paint_118 : decode cX4_paint 118 = .ok (.aload_n 0, 1) := by decide +kernel
theorem dgX4_paint_119 : decode cX4_paint 119 = .ok (.getfield 15, 3) := by decide +kernel
theorem dgX4_paint_122 : decode cX4_paint 122 = .ok (.iload 7, 2) := by decide +kernel
theorem dgX4_paint_124 : decode cX4_paint 124 = .ok (.iaload, 1) := by decide +kernel
theorem dgX4_paint_125 : decode cX4_paint 125 = .ok (.isub, 1) := by decide +kernel
theorem dgX4_paint_126 : decode cX4_paint 126 = .ok (.iastore, 1) := by decide +kernel
theorem dgX4_paint_127 : decode cX4_paint 127 = .ok (.iconst 1, 1) := by decide +kernel
theorem dgX4_paint_128 : decode cX4_paint 128 = .ok (.istore 4, 2) := by decide +kernel
theorem dgX4_paint_130 : decode cX4_paint 130 = .ok (.goto 44, 3) := by decide +kernel
theorem dgX4_paint_133 : decode cX4_paint 133 = .ok (.aload_n 0, 1) := by decide +kernel
theorem dgX4_paint_134 : decode cX4_paint 134 = .ok (.getfield 15, 3) := by decide +kernel
theorem dgX4_paint_137 : decode cX4_paint 137 = .ok (.iload 7, 2) := by decide +kernel
theorem dgX4_paint_139 : decode cX4_paint 139 = .ok (.iaload, 1) := by decide +kernel
theorem dgX4_paint_140 : decode cX4_paint 140 = .ok (.iconst (-1), 1) := by decide +kernel
theorem dgX4_paint_141 : decode cX4_paint 141 = .ok (.if_icmp .ne 33, 3) := by decide +kernel
theorem dgX4_paint_144 : decode cX4_paint 144 = .ok (.aload_n 0, 1) := by decide +kernel
theorem dgX4_paint_145 : decode cX4_paint 145 = .ok (.getfield 15, 3) := by decide +kernel
theorem dgX4_paint_148 : decode cX4_paint 148 = .ok (.iload 8, 2) := by decide +kernel
theorem dgX4_paint_150 : decode cX4_paint 150 = .ok (.iaload, 1) := by decide +kernel
theorem dgX4_paint_151 : decode cX4_paint 151 = .ok (.iconst (-1), 1) := by decide +kernel
theorem dgX4_paint_152 : decode cX4_paint 152 = .ok (.if_icmp .eq 22, 3) := by decide +kernel
theorem dgX4_paint_155 : decode cX4_paint 155 = .ok (.aload_n 0, 1) := by decide +kernel
theorem dgX4_paint_156 : decode cX4_paint 156 = .ok (.getfield 15, 3) := by decide +kernel
theorem dgX4_paint_159 : decode cX4_paint 159 = .ok (.iload 7, 2) := by decide +kernel
theorem dgX4_paint_161 : decode cX4_paint 161 = .ok (.iconst 1, 1) := by decide +kernel
theorem dgX4_paint_162 : decode cX4_paint 162 = .ok (.aload_n 0, 1) := by decide +kernel
theorem dgX4_paint_163 : decode cX4_paint 163 = .ok (.getfield 15, 3) := by decide +kernel
theorem dgX4_paint_166 : decode cX4_paint 166 = .ok (.iload 8, 2) := by decide +kernel
theorem dgX4_paint_168 : decode cX4_paint 168 = .ok (.iaload, 1) := by decide +kernel
theorem dgX4_paint_169 : decode cX4_paint 169 = .ok (.isub, 1) := by decide +kernel
theorem dgX4_paint_170 : decode cX4_paint 170 = .ok (.iastore, 1) := by decide +kernel
theorem dgX4_paint_171 : decode cX4_paint 171 = .ok (.iconst 1, 1) := by decide +kernel
theorem dgX4_paint_172 : decode cX4_paint 172 = .ok (.istore 4, 2) := by decide +kernel
theorem dgX4_paint_174 : decode cX4_paint 174 = .ok (.iinc 6 1, 3) := by decide +kernel
theorem dgX4_paint_177 : decode cX4_paint 177 = .ok (.goto (-151), 3) := by decide +kernel
theorem dgX4_paint_180 : decode cX4_paint 180 = .ok (.iinc 5 1, 3) := by decide +kernel
theorem dgX4_paint_183 : decode cX4_paint 183 = .ok (.goto (-175), 3) := by decide +kernel
theorem dgX4_paint_186 : decode cX4_paint 186 = .ok (.return_, 1) := by decide +kernel
def wg_X4_paint : List Cond := .code yX4_paint cX4_paint 9 none :: (([.fieldLink RX4 45 "KnotHouse$Net" "crossings" "I", .fieldLink RX4 83 "KnotHouse$Net" "part" "[I", .fieldLink RX4 9 "KnotHouse$Faces" "face" "[I", .fieldLink RX4 15 "KnotHouse$Faces" "colour" "[I"] ++ wsX40 ++ wsX70) ++ [])
set_option maxHeartbeats 4000000 in
set_option maxRecDepth 100000 in
theorem kg_X4_paint (l : Launch) (dC : Nat → ClassId) (dI : Nat → Nat → Nat) (cI cB cJ cZ : ClassId) (aF : Nat) (ff : Nat → Nat) (aX : Nat) (nx : Nat → Nat) (x8 x9 x10 : Int32) (cn : Nat) (hc : cn ≤ 12) (Fa P9 : Nat → Int32) (fn : Nat → Nat) (cf : Nat) (hcf : cf ≤ 48) (hfn : ∀ k, k < 4 * cn → Fa k = nI (fn k) ∧ fn k < cf) (CO : Nat → Int32) (k : Int32) (sz : Nat) : Met l yX4_paint wg_X4_paint (({ frames := 0, cells := 0, slots := 0, locals := 0 } : Room)) (va_Pc [.ref aF, .ref aX, .int k] (fun U => U.heap.size = sz ∧ va_P (dC, dI) vwCl [(aF, .inr (7, [.ref (ff 0), .int (nI cf), .ref (ff 2), .ref (ff 3), .ref (ff 4), .ref (ff 5), .ref (ff 6), .ref (ff 7)])), ((ff 0), .inl (cI, 48, .inl Fa)), ((ff 2), .inl (cI, 48, .inl CO)), (aX, .inr (10, [.ref (nx 0), .ref (nx 1), .ref (nx 2), .ref (nx 3), .ref (nx 4), .ref (nx 5), .ref (nx 6), .int (nI cn), .int x8, .int x9, .int x10])), ((nx 5), .inl (cI, 24, .inl P9))] U.heap ∧ va_K (dC, dI) vwCl [(cI, .int), (cB, .byte), (cJ, .long), (cZ, .boolean)] U ∧ va_D (fun _ => True) [(aF, .inr (7, [.ref (ff 0), .int (nI cf), .ref (ff 2), .ref (ff 3), .ref (ff 4), .ref (ff 5), .ref (ff 6), .ref (ff 7)])), ((ff 0), .inl (cI, 48, .inl Fa)), ((ff 2), .inl (cI, 48, .inl CO)), (aX, .inr (10, [.ref (nx 0), .ref (nx 1), .ref (nx 2), .ref (nx 3), .ref (nx 4), .ref (nx 5), .ref (nx 6), .int (nI cn), .int x8, .int x9, .int x10])), ((nx 5), .inl (cI, 24, .inl P9))])) (va_Qv (fun (g : Unit) => True) (fun g t => va_P (dC, dI) vwCl [(aF, .inr (7, [.ref (ff 0), .int (nI cf), .ref (ff 2), .ref (ff 3), .ref (ff 4), .ref (ff 5), .ref (ff 6), .ref (ff 7)])), ((ff 0), .inl (cI, 48, .inl Fa)), ((ff 2), .inl (cI, 48, .inl ((pn_ou fn P9 k (2 * cn) 48 (CO, false, true)).1))), (aX, .inr (10, [.ref (nx 0), .ref (nx 1), .ref (nx 2), .ref (nx 3), .ref (nx 4), .ref (nx 5), .ref (nx 6), .int (nI cn), .int x8, .int x9, .int x10])), ((nx 5), .inl (cI, 24, .inl P9))] t.heap ∧ va_D (va_A [(aF, .inr (7, [.ref (ff 0), .int (nI cf), .ref (ff 2), .ref (ff 3), .ref (ff 4), .ref (ff 5), .ref (ff 6), .ref (ff 7)])), ((ff 0), .inl (cI, 48, .inl Fa)), ((ff 2), .inl (cI, 48, .inl CO)), (aX, .inr (10, [.ref (nx 0), .ref (nx 1), .ref (nx 2), .ref (nx 3), .ref (nx 4), .ref (nx 5), .ref (nx 6), .int (nI cn), .int x8, .int x9, .int x10])), ((nx 5), .inl (cI, 24, .inl P9))] sz) [(aF, .inr (7, [.ref (ff 0), .int (nI cf), .ref (ff 2), .ref (ff 3), .ref (ff 4), .ref (ff 5), .ref (ff 6), .ref (ff 7)])), ((ff 0), .inl (cI, 48, .inl Fa)), ((ff 2), .inl (cI, 48, .inl ((pn_ou fn P9 k (2 * cn) 48 (CO, false, true)).1))), (aX, .inr (10, [.ref (nx 0), .ref (nx 1), .ref (nx 2), .ref (nx 3), .ref (nx 4), .ref (nx 5), .ref (nx 6), .int (nI cn), .int x8, .int x9, .int x10])), ((nx 5), .inl (cI, 24, .inl P9))]) (va_A [(aF, .inr (7, [.ref (ff 0), .int (nI cf), .ref (ff 2), .ref (ff 3), .ref (ff 4), .ref (ff 5), .ref (ff 6), .ref (ff 7)])), ((ff 0), .inl (cI, 48, .inl Fa)), ((ff 2), .inl (cI, 48, .inl CO)), (aX, .inr (10, [.ref (nx 0), .ref (nx 1), .ref (nx 2), .ref (nx 3), .ref (nx 4), .ref (nx 5), .ref (nx 6), .int (nI cn), .int x8, .int x9, .int x10])), ((nx 5), .inl (cI, 24, .inl P9))] sz)) 0 0 (va_A [(aF, .inr (7, [.ref (ff 0), .int (nI cf), .ref (ff 2), .ref (ff 3), .ref (ff 4), .ref (ff 5), .ref (ff 6), .ref (ff 7)])), ((ff 0), .inl (cI, 48, .inl Fa)), ((ff 2), .inl (cI, 48, .inl CO)), (aX, .inr (10, [.ref (nx 0), .ref (nx 1), .ref (nx 2), .ref (nx 3), .ref (nx 4), .ref (nx 5), .ref (nx 6), .int (nI cn), .int x8, .int x9, .int x10])), ((nx 5), .inl (cI, 24, .inl P9))] sz) := by
  refine Met.ofW (cc := cX4_paint) (maxL := 9) (ret := none) (by decide) rfl ?_
  intro p e s m args below meth c s₁ B hml hv
  obtain ⟨rfl, hsz, hP, hK, hD0⟩ := hv
  have hx := B.exec
  have hb := B.bytes
  have hr := B.returns
  have hts := atoms_spec (ws := wg_X4_paint) B.pre
  have hown : s.vm.findClass RX4 = some m.cls := findClass_of_methodNamed B.named
  have hlocks := B.notSynchronized
  subst hsz
  have hD := hD0.self (sz := s.heap.size)
  generalize hAe : va_A [(aF, .inr (7, [.ref (ff 0), .int (nI cf), .ref (ff 2), .ref (ff 3), .ref (ff 4), .ref (ff 5), .ref (ff 6), .ref (ff 7)])), ((ff 0), .inl (cI, 48, .inl Fa)), ((ff 2), .inl (cI, 48, .inl CO)), (aX, .inr (10, [.ref (nx 0), .ref (nx 1), .ref (nx 2), .ref (nx 3), .ref (nx 4), .ref (nx 5), .ref (nx 6), .int (nI cn), .int x8, .int x9, .int x10])), ((nx 5), .inl (cI, 24, .inl P9))] s.heap.size = A at hD ⊢
  have hA : ∀ q : Nat, s.heap.size ≤ q → A q := fun q h => by rw [← hAe]; exact Or.inr h
  have hS : va_S A s.heap s.heap [] := va_S.rf
  have hP : va_P (dC, dI) vwCl [(aF, .inr (7, [.ref (ff 0), .int (nI cf), .ref (ff 2), .ref (ff 3), .ref (ff 4), .ref (ff 5), .ref (ff 6), .ref (ff 7)])), ((ff 0), .inl (cI, 48, .inl Fa)), ((ff 2), .inl (cI, 48, .inl CO)), (aX, .inr (10, [.ref (nx 0), .ref (nx 1), .ref (nx 2), .ref (nx 3), .ref (nx 4), .ref (nx 5), .ref (nx 6), .int (nI cn), .int x8, .int x9, .int x10])), ((nx 5), .inl (cI, 24, .inl P9))] s.heap := hP
  have hl := lv_entry ([.ref aF, .ref aX, .int k]) (n := 9) (Nat.le_of_ble_eq_true rfl)
  rw [lg_entry_eq]
  generalize (lg_sl ([.ref aF, .ref aX, .int k]) ++ List.replicate (9 - (lg_sl ([.ref aF, .ref aX, .int k])).length) Slot.unset).toArray = ls at hl ⊢
  have hl : lv_has ls 9 [(0, .ref aF), (1, .ref aX), (2, .int k)] := hl
  refine ow_named (fun QQ hQQ => ?_)
  suffices key9 : ∀ (H : Heap) (locs : List Loc), va_P (dC, dI) vwCl [(aF, .inr (7, [.ref (ff 0), .int (nI cf), .ref (ff 2), .ref (ff 3), .ref (ff 4), .ref (ff 5), .ref (ff 6), .ref (ff 7)])), ((ff 0), .inl (cI, 48, .inl Fa)), ((ff 2), .inl (cI, 48, .inl CO)), (aX, .inr (10, [.ref (nx 0), .ref (nx 1), .ref (nx 2), .ref (nx 3), .ref (nx 4), .ref (nx 5), .ref (nx 6), .int (nI cn), .int x8, .int x9, .int x10])), ((nx 5), .inl (cI, 24, .inl P9))] H → va_S A s.heap H locs → W p l e ({ frames := 0, cells := 0, slots := 0, locals := 0 } : Room) s m ([.ref aF, .ref aX, .int k] : List Value).toArray below meth c H locs 0 0 QQ (F0 m 0 ls []) from key9 s.heap [] hP hS
  intro H locs hP hS
  obtain ⟨RES, hRES⟩ : ∃ X, X = (pn_ou fn P9 k (2 * cn) 48 (CO, false, true)) := ⟨_, rfl⟩
  have L8 : ∀ (d i : Nat) (q : ow_PN), i + d = 48 → RES = pn_ou fn P9 k (2 * cn) d q → ∀ (H : Heap) (locs : List Loc) (ls : Array Slot), va_P (dC, dI) vwCl [(aF, .inr (7, [.ref (ff 0), .int (nI cf), .ref (ff 2), .ref (ff 3), .ref (ff 4), .ref (ff 5), .ref (ff 6), .ref (ff 7)])), ((ff 0), .inl (cI, 48, .inl Fa)), ((ff 2), .inl (cI, 48, .inl q.1)), (aX, .inr (10, [.ref (nx 0), .ref (nx 1), .ref (nx 2), .ref (nx 3), .ref (nx 4), .ref (nx 5), .ref (nx 6), .int (nI cn), .int x8, .int x9, .int x10])), ((nx 5), .inl (cI, 24, .inl P9))] H → va_D A [(aF, .inr (7, [.ref (ff 0), .int (nI cf), .ref (ff 2), .ref (ff 3), .ref (ff 4), .ref (ff 5), .ref (ff 6), .ref (ff 7)])), ((ff 0), .inl (cI, 48, .inl Fa)), ((ff 2), .inl (cI, 48, .inl q.1)), (aX, .inr (10, [.ref (nx 0), .ref (nx 1), .ref (nx 2), .ref (nx 3), .ref (nx 4), .ref (nx 5), .ref (nx 6), .int (nI cn), .int x8, .int x9, .int x10])), ((nx 5), .inl (cI, 24, .inl P9))] → va_S A s.heap H locs → lv_has ls 9 [(0, .ref aF), (1, .ref aX), (2, .int k), (3, .int (bI q.2.1)), (4, .int (bI q.2.2)), (5, .int (nI i))] → W p l e ({ frames := 0, cells := 0, slots := 0, locals := 0 } : Room) s m ([.ref aF, .ref aX, .int k] : List Value).toArray below meth c H locs 0 0 QQ (F0 m 8 ls []) := by
    intro d
    induction d with
    | zero =>
      intro i q hi hQ H locs ls hP hD hS hl
      refine lv_iload hx hb dgX4_paint_8 (lv_at hl 5 rfl) ?_
      refine lv_bipush (v := 48) hx hb dgX4_paint_10 (by decide) ?_
      refine lv_icmp_ge (tgt := 186) hx hb dgX4_paint_12 (by decide) (fun _ => ?_) (fun c9 => absurd (nI_le (a := 48) (b := i) (by omega) (by omega)) c9)
      have hQ : RES = q := hQ
      have hP : va_P (dC, dI) vwCl [(aF, .inr (7, [.ref (ff 0), .int (nI cf), .ref (ff 2), .ref (ff 3), .ref (ff 4), .ref (ff 5), .ref (ff 6), .ref (ff 7)])), ((ff 0), .inl (cI, 48, .inl Fa)), ((ff 2), .inl (cI, 48, .inl ((pn_ou fn P9 k (2 * cn) 48 (CO, false, true)).1))), (aX, .inr (10, [.ref (nx 0), .ref (nx 1), .ref (nx 2), .ref (nx 3), .ref (nx 4), .ref (nx 5), .ref (nx 6), .int (nI cn), .int x8, .int x9, .int x10])), ((nx 5), .inl (cI, 24, .inl P9))] H := by rw [← hRES, hQ]; exact hP
      have hD : va_D A [(aF, .inr (7, [.ref (ff 0), .int (nI cf), .ref (ff 2), .ref (ff 3), .ref (ff 4), .ref (ff 5), .ref (ff 6), .ref (ff 7)])), ((ff 0), .inl (cI, 48, .inl Fa)), ((ff 2), .inl (cI, 48, .inl ((pn_ou fn P9 k (2 * cn) 48 (CO, false, true)).1))), (aX, .inr (10, [.ref (nx 0), .ref (nx 1), .ref (nx 2), .ref (nx 3), .ref (nx 4), .ref (nx 5), .ref (nx 6), .int (nI cn), .int x8, .int x9, .int x10])), ((nx 5), .inl (cI, 24, .inl P9))] := by rw [← hRES, hQ]; exact hD
      rw [hQQ]
      exact W.vret hx hb hr (fun t ht hW => ⟨⟨(), rfl, trivial, by rw [ht]; exact hP, hD⟩, hS.F ht⟩) hS.2.2 dgX4_paint_186
    | succ d ih =>
      intro i q hi hQ H locs ls hP hD hS hl
      rw [pn_ou] at hQ
      refine lv_iload hx hb dgX4_paint_8 (lv_at hl 5 rfl) ?_
      refine lv_bipush (v := 48) hx hb dgX4_paint_10 (by decide) ?_
      refine lv_icmp_ge (tgt := 186) hx hb dgX4_paint_12 (by decide) (fun c9 => absurd c9 (nI_ge (a := i) (b := 48) (by omega) (by omega))) (fun _ => ?_)
      refine lv_iload hx hb dgX4_paint_15 (lv_at hl 4 rfl) ?_
      cases hch : q.2.2 with
      | false =>
        rw [hch] at hQ
        refine lv_if_eq (tgt := 186) hx hb dgX4_paint_17 (by decide) (fun _ => ?_) (fun c9 => absurd (rfl) c9)
        have hQ : RES = q := hQ
        have hP : va_P (dC, dI) vwCl [(aF, .inr (7, [.ref (ff 0), .int (nI cf), .ref (ff 2), .ref (ff 3), .ref (ff 4), .ref (ff 5), .ref (ff 6), .ref (ff 7)])), ((ff 0), .inl (cI, 48, .inl Fa)), ((ff 2), .inl (cI, 48, .inl ((pn_ou fn P9 k (2 * cn) 48 (CO, false, true)).1))), (aX, .inr (10, [.ref (nx 0), .ref (nx 1), .ref (nx 2), .ref (nx 3), .ref (nx 4), .ref (nx 5), .ref (nx 6), .int (nI cn), .int x8, .int x9, .int x10])), ((nx 5), .inl (cI, 24, .inl P9))] H := by rw [← hRES, hQ]; exact hP
        have hD : va_D A [(aF, .inr (7, [.ref (ff 0), .int (nI cf), .ref (ff 2), .ref (ff 3), .ref (ff 4), .ref (ff 5), .ref (ff 6), .ref (ff 7)])), ((ff 0), .inl (cI, 48, .inl Fa)), ((ff 2), .inl (cI, 48, .inl ((pn_ou fn P9 k (2 * cn) 48 (CO, false, true)).1))), (aX, .inr (10, [.ref (nx 0), .ref (nx 1), .ref (nx 2), .ref (nx 3), .ref (nx 4), .ref (nx 5), .ref (nx 6), .int (nI cn), .int x8, .int x9, .int x10])), ((nx 5), .inl (cI, 24, .inl P9))] := by rw [← hRES, hQ]; exact hD
        rw [hQQ]
        exact W.vret hx hb hr (fun t ht hW => ⟨⟨(), rfl, trivial, by rw [ht]; exact hP, hD⟩, hS.F ht⟩) hS.2.2 dgX4_paint_186
      | true =>
        rw [hch] at hQ
        have hQ : RES = pn_ou fn P9 k (2 * cn) d (pn_in fn P9 k (2 * cn) 0 (q.1, q.2.1, false)) := hQ
        generalize hIe : pn_in fn P9 k (2 * cn) 0 (q.1, q.2.1, false) = IN at hQ
        refine lv_if_eq (tgt := 186) hx hb dgX4_paint_17 (by decide) (fun c9 => absurd c9 (by decide)) (fun _ => ?_)
        refine lv_iconst (v := 0) hx hb dgX4_paint_20 (by decide) ?_
        refine lv_istore (lv' := [(4, .int 0), (0, .ref aF), (1, .ref aX), (2, .int k), (3, .int (bI q.2.1)), (5, .int (nI i))]) hx hb dgX4_paint_21 hl (by decide) rfl (fun ls hl => ?_)
        refine lv_iconst (v := 0) hx hb dgX4_paint_23 (by decide) ?_
        refine ow_topi (y := nI 0) (by decide) ?_
        refine lv_istore (lv' := [(6, .int (nI 0)), (4, .int 0), (0, .ref aF), (1, .ref aX), (2, .int k), (3, .int (bI q.2.1)), (5, .int (nI i))]) hx hb dgX4_paint_24 hl (by decide) rfl (fun ls hl => ?_)
        have L26 : ∀ (d2 j : Nat) (t9 : ow_PN), j + d2 = 2 * cn → IN = pn_in fn P9 k d2 j t9 → ∀ (H : Heap) (locs : List Loc) (ls : Array Slot), va_P (dC, dI) vwCl [(aF, .inr (7, [.ref (ff 0), .int (nI cf), .ref (ff 2), .ref (ff 3), .ref (ff 4), .ref (ff 5), .ref (ff 6), .ref (ff 7)])), ((ff 0), .inl (cI, 48, .inl Fa)), ((ff 2), .inl (cI, 48, .inl t9.1)), (aX, .inr (10, [.ref (nx 0), .ref (nx 1), .ref (nx 2), .ref (nx 3), .ref (nx 4), .ref (nx 5), .ref (nx 6), .int (nI cn), .int x8, .int x9, .int x10])), ((nx 5), .inl (cI, 24, .inl P9))] H → va_D A [(aF, .inr (7, [.ref (ff 0), .int (nI cf), .ref (ff 2), .ref (ff 3), .ref (ff 4), .ref (ff 5), .ref (ff 6), .ref (ff 7)])), ((ff 0), .inl (cI, 48, .inl Fa)), ((ff 2), .inl (cI, 48, .inl t9.1)), (aX, .inr (10, [.ref (nx 0), .ref (nx 1), .ref (nx 2), .ref (nx 3), .ref (nx 4), .ref (nx 5), .ref (nx 6), .int (nI cn), .int x8, .int x9, .int x10])), ((nx 5), .inl (cI, 24, .inl P9))] → va_S A s.heap H locs → lv_has ls 9 [(0, .ref aF), (1, .ref aX), (2, .int k), (3, .int (bI t9.2.1)), (4, .int (bI t9.2.2)), (5, .int (nI i)), (6, .int (nI j))] → W p l e ({ frames := 0, cells := 0, slots := 0, locals := 0 } : Room) s m ([.ref aF, .ref aX, .int k] : List Value).toArray below meth c H locs 0 0 QQ (F0 m 26 ls []) := by
          intro d2
          induction d2 with
          | zero =>
            intro j t9 hj hI H locs ls hP hD hS hl
            have hI : IN = t9 := hI
            rw [hI] at hQ
            refine lv_iload hx hb dgX4_paint_26 (lv_at hl 6 rfl) ?_
            refine lv_iconst (v := 2) hx hb dgX4_paint_28 (by decide) ?_
            refine lv_aload_n hx hb dgX4_paint_29 rfl (lv_at hl 1 rfl) ?_
            refine va_get (D := (dC, dI)) (ci := 10) (v := .int (nI cn)) (C := RX7) (T := TX7) (N := 11) hx hb hts (fun _ h => List.mem_cons_of_mem _ (List.mem_append_left _ (List.mem_append_right _ h))) hown hK hP 3 rfl rfl 7 (by decide) (hts (.fieldLink RX4 45 "KnotHouse$Net" "crossings" "I") (by decide +kernel)) (fun _ h9 => h9) rfl dgX4_paint_30 ?_
            refine lv_imul hx hb dgX4_paint_33 ?_
            refine ow_topi (y := nI (2 * cn)) (pk_mul 2 cn) ?_
            refine lv_icmp_ge (tgt := 180) hx hb dgX4_paint_34 (by decide) (fun _ => ?_) (fun c9 => absurd (nI_le (a := 2 * cn) (b := j) (by omega) (by omega)) c9)
            refine lv_iinc (v := nI (i + 1)) (lv' := [(5, .int (nI (i + 1))), (0, .ref aF), (1, .ref aX), (2, .int k), (3, .int (bI t9.2.1)), (4, .int (bI t9.2.2)), (6, .int (nI j))]) hx hb dgX4_paint_180 hl (k := 5) rfl (nI_1 i) (by decide) rfl (fun ls hl => ?_)
            refine lv_goto (tgt := 8) hx hb dgX4_paint_183 (by decide) ?_
            exact ih (i + 1) t9 (by omega) hQ H locs ls hP hD hS (lv_sub hl [1, 2, 3, 4, 5, 0] rfl)
          | succ d2 ih2 =>
            intro j t9 hj hI H locs ls hP hD hS hl
            have hI : IN = pn_in fn P9 k d2 (j + 1) (pn_1 fn P9 k j t9) := hI
            refine lv_iload hx hb dgX4_paint_26 (lv_at hl 6 rfl) ?_
            refine lv_iconst (v := 2) hx hb dgX4_paint_28 (by decide) ?_
            refine lv_aload_n hx hb dgX4_paint_29 rfl (lv_at hl 1 rfl) ?_
            refine va_get (D := (dC, dI)) (ci := 10) (v := .int (nI cn)) (C := RX7) (T := TX7) (N := 11) hx hb hts (fun _ h => List.mem_cons_of_mem _ (List.mem_append_left _ (List.mem_append_right _ h))) hown hK hP 3 rfl rfl 7 (by decide) (hts (.fieldLink RX4 45 "KnotHouse$Net" "crossings" "I") (by decide +kernel)) (fun _ h9 => h9) rfl dgX4_paint_30 ?_
            refine lv_imul hx hb dgX4_paint_33 ?_
            refine ow_topi (y := nI (2 * cn)) (pk_mul 2 cn) ?_
            refine lv_icmp_ge (tgt := 180) hx hb dgX4_paint_34 (by decide) (fun c9 => absurd c9 (nI_ge (a := j) (b := 2 * cn) (by omega) (by omega))) (fun _ => ?_)
            refine lv_aload_n hx hb dgX4_paint_37 rfl (lv_at hl 1 rfl) ?_
            refine va_get (D := (dC, dI)) (ci := 10) (v := .ref (nx 5)) (C := RX7) (T := TX7) (N := 11) hx hb hts (fun _ h => List.mem_cons_of_mem _ (List.mem_append_left _ (List.mem_append_right _ h))) hown hK hP 3 rfl rfl 5 (by decide) (hts (.fieldLink RX4 83 "KnotHouse$Net" "part" "[I") (by decide +kernel)) (fun _ h9 => h9) rfl dgX4_paint_38 ?_
            refine lv_iload hx hb dgX4_paint_41 (lv_at hl 6 rfl) ?_
            refine va_iald hx hb hK hP 4 0 rfl rfl (vp_in_nI (n := j) (N := 24) (by omega) (by decide)) dgX4_paint_43 ?_
            refine ow_topi (y := P9 j) (congrArg P9 (nI_clamp (n := j) (Nat.lt_trans (m := 24) (by omega) (by decide)))) ?_
            refine lv_iload_n hx hb dgX4_paint_44 rfl (lv_at hl 2 rfl) ?_
            refine lv_icmp_eq (tgt := 51) hx hb dgX4_paint_45 (by decide) (fun c1 => ?_) (fun c1 => ?_)
            · obtain ⟨hL1, hL2⟩ := hfn (2 * j) (by omega)
              obtain ⟨hR1, hR2⟩ := hfn (2 * j + 1) (by omega)
              have hst : pn_1 fn P9 k j t9 = pn_2 (pn_b t9 (fn (2 * j))) (fn (2 * j)) (fn (2 * j + 1)) t9.2.2 := if_pos c1
              rw [hst] at hI
              generalize hLe : fn (2 * j) = L at hI hL1 hL2
              generalize hRe : fn (2 * j + 1) = R at hI hR1 hR2
              refine lv_aload_n hx hb dgX4_paint_51 rfl (lv_at hl 0 rfl) ?_
              refine va_get (D := (dC, dI)) (ci := 7) (v := .ref (ff 0)) (C := RX4) (T := TX4) (N := 8) hx hb hts (fun _ h => List.mem_cons_of_mem _ (List.mem_append_left _ (List.mem_append_left _ (List.mem_append_right _ h)))) hown hK hP 0 rfl rfl 0 (by decide) (hts (.fieldLink RX4 9 "KnotHouse$Faces" "face" "[I") (by decide +kernel)) (fun _ h9 => h9) rfl dgX4_paint_52 ?_
              refine lv_iconst (v := 2) hx hb dgX4_paint_55 (by decide) ?_
              refine lv_iload hx hb dgX4_paint_56 (lv_at hl 6 rfl) ?_
              refine lv_imul hx hb dgX4_paint_58 ?_
              refine ow_topi (y := nI (2 * j)) (pk_mul 2 j) ?_
              refine va_iald hx hb hK hP 1 0 rfl rfl (vp_in_nI (n := 2 * j) (N := 48) (by omega) (by decide)) dgX4_paint_59 ?_
              refine ow_topi (y := nI L) ((congrArg Fa (nI_clamp (n := 2 * j) (Nat.lt_trans (m := 48) (by omega) (by decide)))).trans (hL1)) ?_
              refine lv_istore (lv' := [(7, .int (nI L)), (0, .ref aF), (1, .ref aX), (2, .int k), (3, .int (bI t9.2.1)), (4, .int (bI t9.2.2)), (5, .int (nI i)), (6, .int (nI j))]) hx hb dgX4_paint_60 hl (by decide) rfl (fun ls hl => ?_)
              refine lv_aload_n hx hb dgX4_paint_62 rfl (lv_at hl 1 rfl) ?_
              refine va_get (D := (dC, dI)) (ci := 7) (v := .ref (ff 0)) (C := RX4) (T := TX4) (N := 8) hx hb hts (fun _ h => List.mem_cons_of_mem _ (List.mem_append_left _ (List.mem_append_left _ (List.mem_append_right _ h)))) hown hK hP 0 rfl rfl 0 (by decide) (hts (.fieldLink RX4 9 "KnotHouse$Faces" "face" "[I") (by decide +kernel)) (fun _ h9 => h9) rfl dgX4_paint_63 ?_
              refine lv_iconst (v := 2) hx hb dgX4_paint_66 (by decide) ?_
              refine lv_iload hx hb dgX4_paint_67 (lv_at hl 7 rfl) ?_
              refine lv_imul hx hb dgX4_paint_69 ?_
              refine ow_topi (y := nI (2 * j)) (pk_mul 2 j) ?_
              refine lv_iconst (v := 1) hx hb dgX4_paint_70 (by decide) ?_
              refine lv_iadd hx hb dgX4_paint_71 ?_
              refine ow_topi (y := nI (2 * j + 1)) (nI_1 (2 * j)) ?_
              refine va_iald hx hb hK hP 1 0 rfl rfl (vp_in_nI (n := 2 * j + 1) (N := 48) (by omega) (by decide)) dgX4_paint_72 ?_
              refine ow_topi (y := nI R) ((congrArg Fa (nI_clamp (n := 2 * j + 1) (Nat.lt_trans (m := 48) (by omega) (by decide)))).trans (hR1)) ?_
              refine lv_istore (lv' := [(8, .int (nI R)), (7, .int (nI L)), (0, .ref aF), (1, .ref aX), (2, .int k), (3, .int (bI t9.2.1)), (4, .int (bI t9.2.2)), (5, .int (nI i)), (6, .int (nI j))]) hx hb dgX4_paint_73 hl (by decide) rfl (fun ls hl => ?_)
              refine lv_iload_n hx hb dgX4_paint_75 rfl (lv_at hl 5 rfl) ?_
              have K89 : ∀ (C9 : Nat → Int32), IN = pn_in fn P9 k d2 (j + 1) (pn_2 C9 L R t9.2.2) → ∀ (H : Heap) (locs : List Loc) (ls : Array Slot), va_P (dC, dI) vwCl [(aF, .inr (7, [.ref (ff 0), .int (nI cf), .ref (ff 2), .ref (ff 3), .ref (ff 4), .ref (ff 5), .ref (ff 6), .ref (ff 7)])), ((ff 0), .inl (cI, 48, .inl Fa)), ((ff 2), .inl (cI, 48, .inl C9)), (aX, .inr (10, [.ref (nx 0), .ref (nx 1), .ref (nx 2), .ref (nx 3), .ref (nx 4), .ref (nx 5), .ref (nx 6), .int (nI cn), .int x8, .int x9, .int x10])), ((nx 5), .inl (cI, 24, .inl P9))] H → va_D A [(aF, .inr (7, [.ref (ff 0), .int (nI cf), .ref (ff 2), .ref (ff 3), .ref (ff 4), .ref (ff 5), .ref (ff 6), .ref (ff 7)])), ((ff 0), .inl (cI, 48, .inl Fa)), ((ff 2), .inl (cI, 48, .inl C9)), (aX, .inr (10, [.ref (nx 0), .ref (nx 1), .ref (nx 2), .ref (nx 3), .ref (nx 4), .ref (nx 5), .ref (nx 6), .int (nI cn), .int x8, .int x9, .int x10])), ((nx 5), .inl (cI, 24, .inl P9))] → va_S A s.heap H locs → lv_has ls 9 [(0, .ref aF), (1, .ref aX), (2, .int k), (3, .int 1), (4, .int (bI t9.2.2)), (5, .int (nI i)), (6, .int (nI j)), (7, .int (nI L)), (8, .int (nI R))] → W p l e ({ frames := 0, cells := 0, slots := 0, locals := 0 } : Room) s m ([.ref aF, .ref aX, .int k] : List Value).toArray below meth c H locs 0 0 QQ (F0 m 89 ls []) := by
                intro C9 hI H locs ls hP hD hS hl
                refine lv_aload_n hx hb dgX4_paint_89 rfl (lv_at hl 0 rfl) ?_
                refine va_get (D := (dC, dI)) (ci := 7) (v := .ref (ff 2)) (C := RX4) (T := TX4) (N := 8) hx hb hts (fun _ h => List.mem_cons_of_mem _ (List.mem_append_left _ (List.mem_append_left _ (List.mem_append_right _ h)))) hown hK hP 0 rfl rfl 2 (by decide) (hts (.fieldLink RX4 15 "KnotHouse$Faces" "colour" "[I") (by decide +kernel)) (fun _ h9 => h9) rfl dgX4_paint_90 ?_
                refine lv_iload hx hb dgX4_paint_93 (lv_at hl 7 rfl) ?_
                refine va_iald hx hb hK hP 2 0 rfl rfl (vp_in_nI (n := L) (N := 48) (by omega) (by decide)) dgX4_paint_95 ?_
                refine ow_topi (y := C9 L) (congrArg C9 (nI_clamp (n := L) (Nat.lt_trans (m := 48) (by omega) (by decide)))) ?_
                refine lv_iconst (v := (-1)) hx hb dgX4_paint_96 (by decide) ?_
                refine lv_icmp_eq (tgt := 133) hx hb dgX4_paint_97 (by decide) (fun c2 => ?_) (fun c2 => ?_)
                · refine lv_aload_n hx hb dgX4_paint_133 rfl (lv_at hl 0 rfl) ?_
                  refine va_get (D := (dC, dI)) (ci := 7) (v := .ref (ff 2)) (C := RX4) (T := TX4) (N := 8) hx hb hts (fun _ h => List.mem_cons_of_mem _ (List.mem_append_left _ (List.mem_append_left _ (List.mem_append_right _ h)))) hown hK hP 0 rfl rfl 2 (by decide) (hts (.fieldLink RX4 15 "KnotHouse$Faces" "colour" "[I") (by decide +kernel)) (fun _ h9 => h9) rfl dgX4_paint_134 ?_
                  refine lv_iload hx hb dgX4_paint_137 (lv_at hl 7 rfl) ?_
                  refine va_iald hx hb hK hP 2 0 rfl rfl (vp_in_nI (n := L) (N := 48) (by omega) (by decide)) dgX4_paint_139 ?_
                  refine ow_topi (y := C9 L) (congrArg C9 (nI_clamp (n := L) (Nat.lt_trans (m := 48) (by omega) (by decide)))) ?_
                  refine lv_iconst (v := (-1)) hx hb dgX4_paint_140 (by decide) ?_
                  refine lv_icmp_ne (tgt := 174) hx hb dgX4_paint_141 (by decide) (fun c9 => absurd c9 (not_not_intro c2)) (fun _ => ?_)
                  refine lv_aload_n hx hb dgX4_paint_144 rfl (lv_at hl 0 rfl) ?_
                  refine va_get (D := (dC, dI)) (ci := 7) (v := .ref (ff 2)) (C := RX4) (T := TX4) (N := 8) hx hb hts (fun _ h => List.mem_cons_of_mem _ (List.mem_append_left _ (List.mem_append_left _ (List.mem_append_right _ h)))) hown hK hP 0 rfl rfl 2 (by decide) (hts (.fieldLink RX4 15 "KnotHouse$Faces" "colour" "[I") (by decide +kernel)) (fun _ h9 => h9) rfl dgX4_paint_145 ?_
                  refine lv_iload hx hb dgX4_paint_148 (lv_at hl 8 rfl) ?_
                  refine va_iald hx hb hK hP 2 0 rfl rfl (vp_in_nI (n := R) (N := 48) (by omega) (by decide)) dgX4_paint_150 ?_
                  refine ow_topi (y := C9 R) (congrArg C9 (nI_clamp (n := R) (Nat.lt_trans (m := 48) (by omega) (by decide)))) ?_
                  refine lv_iconst (v := (-1)) hx hb dgX4_paint_151 (by decide) ?_
                  refine lv_icmp_eq (tgt := 174) hx hb dgX4_paint_152 (by decide) (fun c3 => ?_) (fun c3 => ?_)
                  · have hp2 : pn_2 C9 L R t9.2.2 = (C9, true, t9.2.2) := (if_neg (fun h9 => h9.1 c2)).trans (if_neg (fun h9 => h9.2 c3))
                    rw [hp2] at hI
                    refine lv_iinc (v := nI (j + 1)) (lv' := [(6, .int (nI (j + 1))), (0, .ref aF), (1, .ref aX), (2, .int k), (3, .int 1), (4, .int (bI t9.2.2)), (5, .int (nI i)), (7, .int (nI L)), (8, .int (nI R))]) hx hb dgX4_paint_174 hl (k := 6) rfl (nI_1 j) (by decide) rfl (fun ls hl => ?_)
                    refine lv_goto (tgt := 26) hx hb dgX4_paint_177 (by decide) ?_
                    exact ih2 (j + 1) (C9, true, t9.2.2) (by omega) hI H locs ls hP hD hS (lv_sub hl [1, 2, 3, 4, 5, 6, 0] rfl)
                  · have hp2 : pn_2 C9 L R t9.2.2 = (su C9 L (1 - C9 R), true, true) := (if_neg (fun h9 => h9.1 c2)).trans (if_pos ⟨c2, c3⟩)
                    rw [hp2] at hI
                    refine lv_aload_n hx hb dgX4_paint_155 rfl (lv_at hl 0 rfl) ?_
                    refine va_get (D := (dC, dI)) (ci := 7) (v := .ref (ff 2)) (C := RX4) (T := TX4) (N := 8) hx hb hts (fun _ h => List.mem_cons_of_mem _ (List.mem_append_left _ (List.mem_append_left _ (List.mem_append_right _ h)))) hown hK hP 0 rfl rfl 2 (by decide) (hts (.fieldLink RX4 15 "KnotHouse$Faces" "colour" "[I") (by decide +kernel)) (fun _ h9 => h9) rfl dgX4_paint_156 ?_
                    refine lv_iload hx hb dgX4_paint_159 (lv_at hl 7 rfl) ?_
                    refine lv_iconst (v := 1) hx hb dgX4_paint_161 (by decide) ?_
                    refine lv_aload_n hx hb dgX4_paint_162 rfl (lv_at hl 0 rfl) ?_
                    refine va_get (D := (dC, dI)) (ci := 7) (v := .ref (ff 2)) (C := RX4) (T := TX4) (N := 8) hx hb hts (fun _ h => List.mem_cons_of_mem _ (List.mem_append_left _ (List.mem_append_left _ (List.mem_append_right _ h)))) hown hK hP 0 rfl rfl 2 (by decide) (hts (.fieldLink RX4 15 "KnotHouse$Faces" "colour" "[I") (by decide +kernel)) (fun _ h9 => h9) rfl dgX4_paint_163 ?_
                    refine lv_iload hx hb dgX4_paint_166 (lv_at hl 8 rfl) ?_
                    refine va_iald hx hb hK hP 2 0 rfl rfl (vp_in_nI (n := R) (N := 48) (by omega) (by decide)) dgX4_paint_168 ?_
                    refine ow_topi (y := C9 R) (congrArg C9 (nI_clamp (n := R) (Nat.lt_trans (m := 48) (by omega) (by decide)))) ?_
                    refine lv_isub hx hb dgX4_paint_169 ?_
                    refine ow_iastF (j := L) (x := 1 - C9 R) hx hb hK hP hD hS 2 0 rfl rfl (by omega) (by decide) dgX4_paint_170 (fun H locs hP hD hS => ?_)
                    have hP : va_P (dC, dI) vwCl [(aF, .inr (7, [.ref (ff 0), .int (nI cf), .ref (ff 2), .ref (ff 3), .ref (ff 4), .ref (ff 5), .ref (ff 6), .ref (ff 7)])), ((ff 0), .inl (cI, 48, .inl Fa)), ((ff 2), .inl (cI, 48, .inl (su C9 L (1 - C9 R)))), (aX, .inr (10, [.ref (nx 0), .ref (nx 1), .ref (nx 2), .ref (nx 3), .ref (nx 4), .ref (nx 5), .ref (nx 6), .int (nI cn), .int x8, .int x9, .int x10])), ((nx 5), .inl (cI, 24, .inl P9))] H := hP
                    have hD : va_D A [(aF, .inr (7, [.ref (ff 0), .int (nI cf), .ref (ff 2), .ref (ff 3), .ref (ff 4), .ref (ff 5), .ref (ff 6), .ref (ff 7)])), ((ff 0), .inl (cI, 48, .inl Fa)), ((ff 2), .inl (cI, 48, .inl (su C9 L (1 - C9 R)))), (aX, .inr (10, [.ref (nx 0), .ref (nx 1), .ref (nx 2), .ref (nx 3), .ref (nx 4), .ref (nx 5), .ref (nx 6), .int (nI cn), .int x8, .int x9, .int x10])), ((nx 5), .inl (cI, 24, .inl P9))] := hD
                    refine lv_iconst (v := 1) hx hb dgX4_paint_171 (by decide) ?_
                    refine lv_istore (lv' := [(4, .int 1), (0, .ref aF), (1, .ref aX), (2, .int k), (3, .int 1), (5, .int (nI i)), (6, .int (nI j)), (7, .int (nI L)), (8, .int (nI R))]) hx hb dgX4_paint_172 hl (by decide) rfl (fun ls hl => ?_)
                    refine lv_iinc (v := nI (j + 1)) (lv' := [(6, .int (nI (j + 1))), (4, .int 1), (0, .ref aF), (1, .ref aX), (2, .int k), (3, .int 1), (5, .int (nI i)), (7, .int (nI L)), (8, .int (nI R))]) hx hb dgX4_paint_174 hl (k := 6) rfl (nI_1 j) (by decide) rfl (fun ls hl => ?_)
                    refine lv_goto (tgt := 26) hx hb dgX4_paint_177 (by decide) ?_
                    exact ih2 (j + 1) (su C9 L (1 - C9 R), true, true) (by omega) hI H locs ls hP hD hS (lv_sub hl [2, 3, 4, 5, 1, 6, 0] rfl)
                · refine lv_aload_n hx hb dgX4_paint_100 rfl (lv_at hl 0 rfl) ?_
                  refine va_get (D := (dC, dI)) (ci := 7) (v := .ref (ff 2)) (C := RX4) (T := TX4) (N := 8) hx hb hts (fun _ h => List.mem_cons_of_mem _ (List.mem_append_left _ (List.mem_append_left _ (List.mem_append_right _ h)))) hown hK hP 0 rfl rfl 2 (by decide) (hts (.fieldLink RX4 15 "KnotHouse$Faces" "colour" "[I") (by decide +kernel)) (fun _ h9 => h9) rfl dgX4_paint_101 ?_
                  refine lv_iload hx hb dgX4_paint_104 (lv_at hl 8 rfl) ?_
                  refine va_iald hx hb hK hP 2 0 rfl rfl (vp_in_nI (n := R) (N := 48) (by omega) (by decide)) dgX4_paint_106 ?_
                  refine ow_topi (y := C9 R) (congrArg C9 (nI_clamp (n := R) (Nat.lt_trans (m := 48) (by omega) (by decide)))) ?_
                  refine lv_iconst (v := (-1)) hx hb dgX4_paint_107 (by decide) ?_
                  refine lv_icmp_ne (tgt := 133) hx hb dgX4_paint_108 (by decide) (fun c4 => ?_) (fun c4 => ?_)
                  · have hp2 : pn_2 C9 L R t9.2.2 = (C9, true, t9.2.2) := (if_neg (fun h9 => c4 h9.2)).trans (if_neg (fun h9 => c2 h9.1))
                    rw [hp2] at hI
                    refine lv_aload_n hx hb dgX4_paint_133 rfl (lv_at hl 0 rfl) ?_
                    refine va_get (D := (dC, dI)) (ci := 7) (v := .ref (ff 2)) (C := RX4) (T := TX4) (N := 8) hx hb hts (fun _ h => List.mem_cons_of_mem _ (List.mem_append_left _ (List.mem_append_left _ (List.mem_append_right _ h)))) hown hK hP 0 rfl rfl 2 (by decide) (hts (.fieldLink RX4 15 "KnotHouse$Faces" "colour" "[I") (by decide +kernel)) (fun _ h9 => h9) rfl dgX4_paint_134 ?_
                    refine lv_iload hx hb dgX4_paint_137 (lv_at hl 7 rfl) ?_
                    refine va_iald hx hb hK hP 2 0 rfl rfl (vp_in_nI (n := L) (N := 48) (by omega) (by decide)) dgX4_paint_139 ?_
                    refine ow_topi (y := C9 L) (congrArg C9 (nI_clamp (n := L) (Nat.lt_trans (m := 48) (by omega) (by decide)))) ?_
                    refine lv_iconst (v := (-1)) hx hb dgX4_paint_140 (by decide) ?_
                    refine lv_icmp_ne (tgt := 174) hx hb dgX4_paint_141 (by decide) (fun _ => ?_) (fun c9 => absurd c9 (c2))
                    refine lv_iinc (v := nI (j + 1)) (lv' := [(6, .int (nI (j + 1))), (0, .ref aF), (1, .ref aX), (2, .int k), (3, .int 1), (4, .int (bI t9.2.2)), (5, .int (nI i)), (7, .int (nI L)), (8, .int (nI R))]) hx hb dgX4_paint_174 hl (k := 6) rfl (nI_1 j) (by decide) rfl (fun ls hl => ?_)
                    refine lv_goto (tgt := 26) hx hb dgX4_paint_177 (by decide) ?_
                    exact ih2 (j + 1) (C9, true, t9.2.2) (by omega) hI H locs ls hP hD hS (lv_sub hl [1, 2, 3, 4, 5, 6, 0] rfl)
                  · have hp2 : pn_2 C9 L R t9.2.2 = (su C9 R (1 - C9 L), true, true) := if_pos ⟨c2, c4⟩
                    rw [hp2] at hI
                    refine lv_aload_n hx hb dgX4_paint_111 rfl (lv_at hl 0 rfl) ?_
                    refine va_get (D := (dC, dI)) (ci := 7) (v := .ref (ff 2)) (C := RX4) (T := TX4) (N := 8) hx hb hts (fun _ h => List.mem_cons_of_mem _ (List.mem_append_left _ (List.mem_append_left _ (List.mem_append_right _ h)))) hown hK hP 0 rfl rfl 2 (by decide) (hts (.fieldLink RX4 15 "KnotHouse$Faces" "colour" "[I") (by decide +kernel)) (fun _ h9 => h9) rfl dgX4_paint_112 ?_
                    refine lv_iload hx hb dgX4_paint_115 (lv_at hl 8 rfl) ?_
                    refine lv_iconst (v := 1) hx hb dgX4_paint_117 (by decide) ?_
                    refine lv_aload_n hx hb dgX4_paint_118 rfl (lv_at hl 0 rfl) ?_
                    refine va_get (D := (dC, dI)) (ci := 7) (v := .ref (ff 2)) (C := RX4) (T := TX4) (N := 8) hx hb hts (fun _ h => List.mem_cons_of_mem _ (List.mem_append_left _ (List.mem_append_left _ (List.mem_append_right _ h)))) hown hK hP 0 rfl rfl 2 (by decide) (hts (.fieldLink RX4 15 "KnotHouse$Faces" "colour" "[I") (by decide +kernel)) (fun _ h9 => h9) rfl dgX4_paint_119 ?_
                    refine lv_iload hx hb dgX4_paint_122 (lv_at hl 7 rfl) ?_
                    refine va_iald hx hb hK hP 2 0 rfl rfl (vp_in_nI (n := L) (N := 48) (by omega) (by decide)) dgX4_paint_124 ?_
                    refine ow_topi (y := C9 L) (congrArg C9 (nI_clamp (n := L) (Nat.lt_trans (m := 48) (by omega) (by decide)))) ?_
                    refine lv_isub hx hb dgX4_paint_125 ?_
                    refine ow_iastF (j := R) (x := 1 - C9 L) hx hb hK hP hD hS 2 0 rfl rfl (by omega) (by decide) dgX4_paint_126 (fun H locs hP hD hS => ?_)
                    have hP : va_P (dC, dI) vwCl [(aF, .inr (7, [.ref (ff 0), .int (nI cf), .ref (ff 2), .ref (ff 3), .ref (ff 4), .ref (ff 5), .ref (ff 6), .ref (ff 7)])), ((ff 0), .inl (cI, 48, .inl Fa)), ((ff 2), .inl (cI, 48, .inl (su C9 R (1 - C9 L)))), (aX, .inr (10, [.ref (nx 0), .ref (nx 1), .ref (nx 2), .ref (nx 3), .ref (nx 4), .ref (nx 5), .ref (nx 6), .int (nI cn), .int x8, .int x9, .int x10])), ((nx 5), .inl (cI, 24, .inl P9))] H := hP
                    have hD : va_D A [(aF, .inr (7, [.ref (ff 0), .int (nI cf), .ref (ff 2), .ref (ff 3), .ref (ff 4), .ref (ff 5), .ref (ff 6), .ref (ff 7)])), ((ff 0), .inl (cI, 48, .inl Fa)), ((ff 2), .inl (cI, 48, .inl (su C9 R (1 - C9 L)))), (aX, .inr (10, [.ref (nx 0), .ref (nx 1), .ref (nx 2), .ref (nx 3), .ref (nx 4), .ref (nx 5), .ref (nx 6), .int (nI cn), .int x8, .int x9, .int x10])), ((nx 5), .inl (cI, 24, .inl P9))] := hD
                    refine lv_iconst (v := 1) hx hb dgX4_paint_127 (by decide) ?_
                    refine lv_istore (lv' := [(4, .int 1), (0, .ref aF), (1, .ref aX), (2, .int k), (3, .int 1), (5, .int (nI i)), (6, .int (nI j)), (7, .int (nI L)), (8, .int (nI R))]) hx hb dgX4_paint_128 hl (by decide) rfl (fun ls hl => ?_)
                    refine lv_goto (tgt := 174) hx hb dgX4_paint_130 (by decide) ?_
                    refine lv_iinc (v := nI (j + 1)) (lv' := [(6, .int (nI (j + 1))), (4, .int 1), (0, .ref aF), (1, .ref aX), (2, .int k), (3, .int 1), (5, .int (nI i)), (7, .int (nI L)), (8, .int (nI R))]) hx hb dgX4_paint_174 hl (k := 6) rfl (nI_1 j) (by decide) rfl (fun ls hl => ?_)
                    refine lv_goto (tgt := 26) hx hb dgX4_paint_177 (by decide) ?_
                    exact ih2 (j + 1) (su C9 R (1 - C9 L), true, true) (by omega) hI H locs ls hP hD hS (lv_sub hl [2, 3, 4, 5, 1, 6, 0] rfl)
              cases hbg : t9.2.1 with
              | false =>
                have hpb : pn_b t9 L = su t9.1 L 0 := by rw [pn_b, hbg]; rfl
                rw [hpb] at hI
                refine lv_if_ne (tgt := 89) hx hb dgX4_paint_76 (by decide) (fun c9 => absurd c9 (not_not_intro rfl)) (fun _ => ?_)
                refine lv_aload_n hx hb dgX4_paint_79 rfl (lv_at hl 2 rfl) ?_
                refine va_get (D := (dC, dI)) (ci := 7) (v := .ref (ff 2)) (C := RX4) (T := TX4) (N := 8) hx hb hts (fun _ h => List.mem_cons_of_mem _ (List.mem_append_left _ (List.mem_append_left _ (List.mem_append_right _ h)))) hown hK hP 0 rfl rfl 2 (by decide) (hts (.fieldLink RX4 15 "KnotHouse$Faces" "colour" "[I") (by decide +kernel)) (fun _ h9 => h9) rfl dgX4_paint_80 ?_
                refine lv_iload hx hb dgX4_paint_83 (lv_at hl 1 rfl) ?_
                refine lv_iconst (v := 0) hx hb dgX4_paint_85 (by decide) ?_
                refine ow_iastF (j := L) (x := 0) hx hb hK hP hD hS 2 0 rfl rfl (by omega) (by decide) dgX4_paint_86 (fun H locs hP hD hS => ?_)
                have hP : va_P (dC, dI) vwCl [(aF, .inr (7, [.ref (ff 0), .int (nI cf), .ref (ff 2), .ref (ff 3), .ref (ff 4), .ref (ff 5), .ref (ff 6), .ref (ff 7)])), ((ff 0), .inl (cI, 48, .inl Fa)), ((ff 2), .inl (cI, 48, .inl (su t9.1 L 0))), (aX, .inr (10, [.ref (nx 0), .ref (nx 1), .ref (nx 2), .ref (nx 3), .ref (nx 4), .ref (nx 5), .ref (nx 6), .int (nI cn), .int x8, .int x9, .int x10])), ((nx 5), .inl (cI, 24, .inl P9))] H := hP
                have hD : va_D A [(aF, .inr (7, [.ref (ff 0), .int (nI cf), .ref (ff 2), .ref (ff 3), .ref (ff 4), .ref (ff 5), .ref (ff 6), .ref (ff 7)])), ((ff 0), .inl (cI, 48, .inl Fa)), ((ff 2), .inl (cI, 48, .inl (su t9.1 L 0))), (aX, .inr (10, [.ref (nx 0), .ref (nx 1), .ref (nx 2), .ref (nx 3), .ref (nx 4), .ref (nx 5), .ref (nx 6), .int (nI cn), .int x8, .int x9, .int x10])), ((nx 5), .inl (cI, 24, .inl P9))] := hD
                refine lv_iconst (v := 1) hx hb dgX4_paint_87 (by decide) ?_
                refine lv_istore_n (lv' := [(3, .int 1), (8, .int (nI R)), (7, .int (nI L)), (0, .ref aF), (1, .ref aX), (2, .int k), (4, .int (bI t9.2.2)), (5, .int (nI i)), (6, .int (nI j))]) hx hb dgX4_paint_88 rfl hl (by decide) rfl (fun ls hl => ?_)
                exact K89 _ hI H locs ls hP hD hS (lv_sub hl [3, 4, 5, 0, 6, 7, 8, 2, 1] rfl)
              | true =>
                have hpb : pn_b t9 L = t9.1 := by rw [pn_b, hbg]; rfl
                rw [hpb] at hI
                have hl : lv_has ls 9 [(8, .int (nI R)), (7, .int (nI L)), (0, .ref aF), (1, .ref aX), (2, .int k), (3, .int 1), (4, .int (bI t9.2.2)), (5, .int (nI i)), (6, .int (nI j))] := by rw [hbg] at hl; exact hl
                refine lv_if_ne (tgt := 89) hx hb dgX4_paint_76 (by decide) (fun _ => ?_) (fun c9 => absurd c9 (by decide))
                exact K89 _ hI H locs ls hP hD hS (lv_sub hl [2, 3, 4, 5, 6, 7, 8, 1, 0] rfl)
            · have hst : pn_1 fn P9 k j t9 = t9 := if_neg c1
              rw [hst] at hI
              refine lv_goto (tgt := 174) hx hb dgX4_paint_48 (by decide) ?_
              refine lv_iinc (v := nI (j + 1)) (lv' := [(6, .int (nI (j + 1))), (0, .ref aF), (1, .ref aX), (2, .int k), (3, .int (bI t9.2.1)), (4, .int (bI t9.2.2)), (5, .int (nI i))]) hx hb dgX4_paint_174 hl (k := 6) rfl (nI_1 j) (by decide) rfl (fun ls hl => ?_)
              refine lv_goto (tgt := 26) hx hb dgX4_paint_177 (by decide) ?_
              exact ih2 (j + 1) t9 (by omega) hI H locs ls hP hD hS (lv_sub hl [1, 2, 3, 4, 5, 6, 0] rfl)
        exact L26 (2 * cn) 0 (q.1, q.2.1, false) (by omega) hIe.symm H locs ls hP hD hS (lv_sub hl [2, 3, 4, 5, 1, 6, 0] rfl)
  refine lv_iconst (v := 0) hx hb dgX4_paint_0 (by decide) ?_
  refine lv_istore_n (lv' := [(3, .int 0), (0, .ref aF), (1, .ref aX), (2, .int k)]) hx hb dgX4_paint_1 rfl hl (by decide) rfl (fun ls hl => ?_)
  refine lv_iconst (v := 1) hx hb dgX4_paint_2 (by decide) ?_
  refine lv_istore (lv' := [(4, .int 1), (3, .int 0), (0, .ref aF), (1, .ref aX), (2, .int k)]) hx hb dgX4_paint_3 hl (by decide) rfl (fun ls hl => ?_)
  refine lv_iconst (v := 0) hx hb dgX4_paint_5 (by decide) ?_
  refine ow_topi (y := nI 0) (by decide) ?_
  refine lv_istore (lv' := [(5, .int (nI 0)), (4, .int 1), (3, .int 0), (0, .ref aF), (1, .ref aX), (2, .int k)]) hx hb dgX4_paint_6 hl (by decide) rfl (fun ls hl => ?_)
  exact L8 48 0 (CO, false, true) (by omega) hRES H locs ls hP hD hS (lv_sub hl [3, 4, 5, 2, 1, 0] rfl)
