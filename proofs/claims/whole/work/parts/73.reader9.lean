/-! rows of bytes of any sign -/
section BYF
variable {p : Program} {l : Launch} {e : Env} {R : Room} {s : State} {m : MethodId} {args : Array Value} {below : List Frame} {meth : Method} {c : Code} {H : Heap} {locs : List Loc} {cells slots : Nat} {Q : State → Prop}
variable {cc : ByteArray} {pc : Nat} {ls : Array Slot} {rest : List Value} {D : va_G} {cl : List vw_C} {A : Nat → Prop} {a : Nat} {tys : List (ClassId × FieldType)} {ws : va_W} {H0 : Heap}
theorem ow_bastF (hexec : p.tables.exec = Jvm.exec) (hb : c.code = cc) (hK : va_K D cl tys s) (hP : va_P D cl ws H) (hD : va_D A ws) (hS : va_S A H0 H locs) (q0 t0 : Nat) {cA : ClassId} {n j : Nat} {z : Int32} {f : Nat → Int32} (ha : ws[q0]? = some (a, .inl (cA, n, .inl f))) (ht : tys[t0]? = some (cA, .byte)) (hjn : j < n) (hn : n < 2 ^ 31) (hdg : decode cc pc = .ok (.bastore, 1))
    (kk : ∀ (H1 : Heap) (locs1 : List Loc), va_P D cl (ws.set q0 (a, .inl (cA, n, .inl (su f j z.toInt8.toInt32)))) H1 → va_D A (ws.set q0 (a, .inl (cA, n, .inl (su f j z.toInt8.toInt32)))) → va_S A H0 H1 locs1 → W p l e R s m args below meth c H1 locs1 cells slots Q (F0 m (pc + 1) ls rest)) : W p l e R s m args below meth c H locs cells slots Q (F0 m pc ls (.int z.toInt8.toInt32 :: .int (nI j) :: .ref a :: rest)) := by
  refine va_bast hexec hb hK hP hD hS q0 t0 ha ht (vp_in_nI hjn hn) hdg (fun H1 locs1 h1 h2 h3 => ?_)
  rw [nI_clamp (by omega), pk_vb] at h1 h2
  have hu : upd f j z.toInt8.toInt32 = su f j z.toInt8.toInt32 := by
    funext k
    by_cases e : k = j
    · rw [e]; exact pk_us.trans (if_pos rfl).symm
    · exact (pk_un e).trans (if_neg e).symm
  rw [hu] at h1 h2
  exact kk H1 locs1 h1 h2 h3
end BYF
def rd_ci (ci : Nat) (fi : Option Nat) : Nat := match fi with | none => ci + 1 | some _ => ci
def rd_S (S : ow_NP) (la : Nat) (fi : Option Nat) : ow_NP := match fi with | none => S | some f => nl S la f
/-! bytes taken from a number -/
def tk_b (x : Int32) (sh : Int32) : Int32 := (x >>> (sh &&& 31)).toInt8.toInt32
def tk_1 (x sh : Int32) (q : (Nat → Int32) × Nat) : (Nat → Int32) × Nat := if q.2 < 400 then (su q.1 q.2 (tk_b x sh), q.2 + 1) else q
def tk_4 (x : Int32) (q : (Nat → Int32) × Nat) : (Nat → Int32) × Nat := tk_1 x 0 (tk_1 x 8 (tk_1 x 16 (tk_1 x 24 q)))
theorem tk_1_le {x sh : Int32} {q : (Nat → Int32) × Nat} (h : q.2 ≤ 400) : (tk_1 x sh q).2 ≤ 400 := by
  unfold tk_1
  split
  · rename_i h1
    exact h1
  · exact h
theorem tk_4_le {x : Int32} {q : (Nat → Int32) × Nat} (h : q.2 ≤ 400) : (tk_4 x q).2 ≤ 400 := tk_1_le (tk_1_le (tk_1_le (tk_1_le h)))
theorem tk_1_no {x sh : Int32} {q : (Nat → Int32) × Nat} (h : ¬ q.2 < 400) : tk_1 x sh q = q := if_neg h
theorem tk_1_y {x sh : Int32} {q : (Nat → Int32) × Nat} (h : q.2 < 400) : tk_1 x sh q = (su q.1 q.2 (tk_b x sh), q.2 + 1) := if_pos h
/-! letters read from a tape -/
def rb_val (x : Int32) (ns : Nat) : Option Int32 := if 0 ≤ x - 97 ∧ x - 97 < nI ns - 1 then some (x - 97 + 1).toInt8.toInt32 else if 0 ≤ x - 65 ∧ x - 65 < nI ns - 1 then some (-(x - 65 + 1)).toInt8.toInt32 else none
def rb_run (tp : Nat → Int32) (ns into : Nat) : Nat → Nat → (Nat → Int32) → (Nat → Int32) × Option Nat
  | 0, _, f => (f, none)
  | d + 1, i, f => if 16 ≤ i then (f, some i) else match rb_val (tp i) ns with
    | none => (f, some i)
    | some y => rb_run tp ns into d (i + 1) (su f (into + i) y)
/-! the least begin of a visit whose mate did not come -/
def fl_lo (bg : Nat → Int32) (c : Nat) : Nat → Int32
  | 0 => -1
  | i + 1 => if ¬ bg i = -1 ∧ bg (mt i) = -1 ∧ (fl_lo bg c i = -1 ∨ bg i < fl_lo bg c i) then bg i else fl_lo bg c i
theorem dgX9_take_0 : decode cX9_take 0 = .ok (.bipush 24, 2) := by decide +kernel
theorem dgX9_take_2 : decode cX9_take 2 = .ok (.istore_n 2, 1) := by decide +kernel
theorem dgX9_take_3 : decode cX9_take 3 = .ok (.iload_n 2, 1) := by decide +kernel
theorem dgX9_take_4 : decode cX9_take 4 = .ok (.ifCond .lt 42, 3) := by decide +kernel
theorem dgX9_take_7 : decode cX9_take 7 = .ok (.aload_n 0, 1) := by decide +kernel
theorem dgX9_take_8 : decode cX9_take 8 = .ok (.getfield 22, 3) := by decide +kernel
theorem dgX9_take_11 : decode cX9_take 11 = .ok (.sipush 400, 3) := by decide +kernel
theorem dgX9_take_14 : decode cX9_take 14 = .ok (.if_icmp .ge 32, 3) := by decide +kernel
theorem dgX9_take_17 : decode cX9_take 17 = .ok (.aload_n 0, 1) := by decide +kernel
theorem dgX9_take_18 : decode cX9_take 18 = .ok (.getfield 9, 3) := by decide +kernel
theorem dgX9_take_21 : decode cX9_take 21 = .ok (.aload_n 0, 1) := by decide +kernel
theorem dgX9_take_22 : decode cX9_take 22 = .ok (.getfield 22, 3) := by decide +kernel
theorem dgX9_take_25 : decode cX9_take 25 = .ok (.iload_n 1, 1) := by decide +kernel
theorem dgX9_take_26 : decode cX9_take 26 = .ok (.iload_n 2, 1) := by decide +kernel
theorem dgX9_take_27 : decode cX9_take 27 = .ok (.ishr, 1) := by decide +kernel
theorem dgX9_take_28 : decode cX9_take 28 = .ok (.i2b, 1) := by decide +kernel
theorem dgX9_take_29 : decode cX9_take 29 = .ok (.bastore, 1) := by decide +kernel
theorem dgX9_take_30 : decode cX9_take 30 = .ok (.aload_n 0, 1) := by decide +kernel
theorem dgX9_take_31 : decode cX9_take 31 = .ok (.dup, 1) := by decide +kernel
theorem dgX9_take_32 : decode cX9_take 32 = .ok (.getfield 22, 3) := by decide +kernel
theorem dgX9_take_35 : decode cX9_take 35 = .ok (.iconst 1, 1) := by decide +kernel
theorem dgX9_take_36 : decode cX9_take 36 = .ok (.iadd, 1) := by decide +kernel
theorem dgX9_take_37 : decode cX9_take 37 = .ok (.putfield 22, 3) := by decide +kernel
theorem dgX9_take_40 : decode cX9_take 40 = .ok (.iinc 2 (-8), 3) := by decide +kernel
theorem dgX9_take_43 : decode cX9_take 43 = .ok (.goto (-40), 3) := by decide +kernel
theorem dgX9_take_46 : decode cX9_take 46 = .ok (.return_, 1) := by decide +kernel
def wg_X9_take : List Cond := .code yX9_take cX9_take 3 none :: (([.fieldLink RX9 22 "KnotHouse$Reader" "length" "I", .fieldLink RX9 9 "KnotHouse$Reader" "tape" "[B"] ++ wsX90) ++ [])
set_option maxHeartbeats 4000000 in
set_option maxRecDepth 100000 in
theorem kg_X9_take (l : Launch) (dC : Nat → ClassId) (dI : Nat → Nat → Nat) (cI cB cJ cZ : ClassId) (aR : Nat) (rx : Nat → Nat) (q0 : (Nat → Int32) × Nat) (hq : q0.2 ≤ 400) (x4 x5 x : Int32) (sz : Nat) : Met l yX9_take wg_X9_take (({ frames := 0, cells := 0, slots := 0, locals := 0 } : Room)) (va_Pc [.ref aR, .int x] (fun U => U.heap.size = sz ∧ va_P (dC, dI) vwCl [(aR, .inr (12, [.int (nI q0.2), .ref (rx 0), .ref (rx 1), .ref (rx 2), .int x4, .int x5])), ((rx 0), .inl (cB, 400, .inl q0.1))] U.heap ∧ va_K (dC, dI) vwCl [(cI, .int), (cB, .byte), (cJ, .long), (cZ, .boolean)] U ∧ va_D (fun _ => True) [(aR, .inr (12, [.int (nI q0.2), .ref (rx 0), .ref (rx 1), .ref (rx 2), .int x4, .int x5])), ((rx 0), .inl (cB, 400, .inl q0.1))])) (va_Qv (fun (g : Unit) => True) (fun g t => va_P (dC, dI) vwCl [(aR, .inr (12, [.int (nI (tk_4 x q0).2), .ref (rx 0), .ref (rx 1), .ref (rx 2), .int x4, .int x5])), ((rx 0), .inl (cB, 400, .inl ((tk_4 x q0).1)))] t.heap ∧ va_D (va_A [(aR, .inr (12, [.int (nI q0.2), .ref (rx 0), .ref (rx 1), .ref (rx 2), .int x4, .int x5])), ((rx 0), .inl (cB, 400, .inl q0.1))] sz) [(aR, .inr (12, [.int (nI (tk_4 x q0).2), .ref (rx 0), .ref (rx 1), .ref (rx 2), .int x4, .int x5])), ((rx 0), .inl (cB, 400, .inl ((tk_4 x q0).1)))]) (va_A [(aR, .inr (12, [.int (nI q0.2), .ref (rx 0), .ref (rx 1), .ref (rx 2), .int x4, .int x5])), ((rx 0), .inl (cB, 400, .inl q0.1))] sz)) 0 0 (va_A [(aR, .inr (12, [.int (nI q0.2), .ref (rx 0), .ref (rx 1), .ref (rx 2), .int x4, .int x5])), ((rx 0), .inl (cB, 400, .inl q0.1))] sz) := by
  refine Met.ofW (cc := cX9_take) (maxL := 3) (ret := none) (by decide) rfl ?_
  intro p e s m args below meth c s₁ B hml hv
  obtain ⟨rfl, hsz, hP, hK, hD0⟩ := hv
  have hx := B.exec
  have hb := B.bytes
  have hr := B.returns
  have hts := atoms_spec (ws := wg_X9_take) B.pre
  have hown : s.vm.findClass RX9 = some m.cls := findClass_of_methodNamed B.named
  have hlocks := B.notSynchronized
  subst hsz
  have hD := hD0.self (sz := s.heap.size)
  generalize hAe : va_A [(aR, .inr (12, [.int (nI q0.2), .ref (rx 0), .ref (rx 1), .ref (rx 2), .int x4, .int x5])), ((rx 0), .inl (cB, 400, .inl q0.1))] s.heap.size = A at hD ⊢
  have hA : ∀ q : Nat, s.heap.size ≤ q → A q := fun q h => by rw [← hAe]; exact Or.inr h
  have hS : va_S A s.heap s.heap [] := va_S.rf
  have hP : va_P (dC, dI) vwCl [(aR, .inr (12, [.int (nI q0.2), .ref (rx 0), .ref (rx 1), .ref (rx 2), .int x4, .int x5])), ((rx 0), .inl (cB, 400, .inl q0.1))] s.heap := hP
  have hl := lv_entry ([.ref aR, .int x]) (n := 3) (Nat.le_of_ble_eq_true rfl)
  rw [lg_entry_eq]
  generalize (lg_sl ([.ref aR, .int x]) ++ List.replicate (3 - (lg_sl ([.ref aR, .int x])).length) Slot.unset).toArray = ls at hl ⊢
  have hl : lv_has ls 3 [(0, .ref aR), (1, .int x)] := hl
  refine ow_named (fun QQ hQQ => ?_)
  suffices key9 : ∀ (H : Heap) (locs : List Loc), va_P (dC, dI) vwCl [(aR, .inr (12, [.int (nI q0.2), .ref (rx 0), .ref (rx 1), .ref (rx 2), .int x4, .int x5])), ((rx 0), .inl (cB, 400, .inl q0.1))] H → va_S A s.heap H locs → W p l e ({ frames := 0, cells := 0, slots := 0, locals := 0 } : Room) s m ([.ref aR, .int x] : List Value).toArray below meth c H locs 0 0 QQ (F0 m 0 ls []) from key9 s.heap [] hP hS
  intro H locs hP hS
  refine lv_bipush (v := 24) hx hb dgX9_take_0 (by decide) ?_
  refine lv_istore_n (lv' := [(2, .int 24), (0, .ref aR), (1, .int x)]) hx hb dgX9_take_2 rfl hl (by decide) rfl (fun ls hl => ?_)
  refine lv_iload_n hx hb dgX9_take_3 rfl (lv_at hl 0 rfl) ?_
  refine lv_if_lt (tgt := 46) hx hb dgX9_take_4 (by decide) (fun c9 => absurd c9 (by decide)) (fun _ => ?_)
  refine lv_aload_n hx hb dgX9_take_7 rfl (lv_at hl 1 rfl) ?_
  refine va_get (D := (dC, dI)) (ci := 12) (v := .int (nI q0.2)) (C := RX9) (T := TX9) (N := 6) hx hb hts (fun _ h => List.mem_cons_of_mem _ (List.mem_append_left _ (List.mem_append_right _ h))) hown hK hP 0 rfl rfl 0 (by decide) (hts (.fieldLink RX9 22 "KnotHouse$Reader" "length" "I") (by decide +kernel)) (fun _ h9 => h9) rfl dgX9_take_8 ?_
  refine lv_sipush (v := 400) hx hb dgX9_take_11 (by decide) ?_
  rcases Nat.lt_or_ge (q0).2 400 with h0 | h0
  · refine lv_icmp_ge (tgt := 46) hx hb dgX9_take_14 (by decide) (fun c9 => absurd c9 (nI_ge (a := (q0).2) (b := 400) h0 (by decide))) (fun _ => ?_)
    refine lv_aload_n hx hb dgX9_take_17 rfl (lv_at hl 1 rfl) ?_
    refine va_get (D := (dC, dI)) (ci := 12) (v := .ref (rx 0)) (C := RX9) (T := TX9) (N := 6) hx hb hts (fun _ h => List.mem_cons_of_mem _ (List.mem_append_left _ (List.mem_append_right _ h))) hown hK hP 0 rfl rfl 1 (by decide) (hts (.fieldLink RX9 9 "KnotHouse$Reader" "tape" "[B") (by decide +kernel)) (fun _ h9 => h9) rfl dgX9_take_18 ?_
    refine lv_aload_n hx hb dgX9_take_21 rfl (lv_at hl 1 rfl) ?_
    refine va_get (D := (dC, dI)) (ci := 12) (v := .int (nI q0.2)) (C := RX9) (T := TX9) (N := 6) hx hb hts (fun _ h => List.mem_cons_of_mem _ (List.mem_append_left _ (List.mem_append_right _ h))) hown hK hP 0 rfl rfl 0 (by decide) (hts (.fieldLink RX9 22 "KnotHouse$Reader" "length" "I") (by decide +kernel)) (fun _ h9 => h9) rfl dgX9_take_22 ?_
    refine lv_iload_n hx hb dgX9_take_25 rfl (lv_at hl 2 rfl) ?_
    refine lv_iload_n hx hb dgX9_take_26 rfl (lv_at hl 0 rfl) ?_
    refine lv_ishr hx hb dgX9_take_27 ?_
    refine lv_i2b hx hb dgX9_take_28 rfl ?_
    refine ow_bastF (j := (q0).2) (z := x >>> (24 &&& 31)) hx hb hK hP hD hS 1 1 rfl rfl h0 (by decide) dgX9_take_29 (fun H locs hP hD hS => ?_)
    have hP : va_P (dC, dI) vwCl [(aR, .inr (12, [.int (nI q0.2), .ref (rx 0), .ref (rx 1), .ref (rx 2), .int x4, .int x5])), ((rx 0), .inl (cB, 400, .inl (su q0.1 ((q0).2) (x >>> (24 &&& 31)).toInt8.toInt32)))] H := hP
    have hD : va_D A [(aR, .inr (12, [.int (nI q0.2), .ref (rx 0), .ref (rx 1), .ref (rx 2), .int x4, .int x5])), ((rx 0), .inl (cB, 400, .inl (su q0.1 ((q0).2) (x >>> (24 &&& 31)).toInt8.toInt32)))] := hD
    refine lv_aload_n hx hb dgX9_take_30 rfl (lv_at hl 1 rfl) ?_
    refine lv_dup hx hb dgX9_take_31 rfl ?_
    refine va_get (D := (dC, dI)) (ci := 12) (v := .int (nI q0.2)) (C := RX9) (T := TX9) (N := 6) hx hb hts (fun _ h => List.mem_cons_of_mem _ (List.mem_append_left _ (List.mem_append_right _ h))) hown hK hP 0 rfl rfl 0 (by decide) (hts (.fieldLink RX9 22 "KnotHouse$Reader" "length" "I") (by decide +kernel)) (fun _ h9 => h9) rfl dgX9_take_32 ?_
    refine lv_iconst (v := 1) hx hb dgX9_take_35 (by decide) ?_
    refine lv_iadd hx hb dgX9_take_36 ?_
    refine ow_topi (y := nI ((q0).2 + 1)) (nI_1 (q0).2) ?_
    refine va_put (D := (dC, dI)) (ci := 12) (v := .int (nI ((q0).2 + 1))) (ty := .int) (C := RX9) (T := TX9) (N := 6) hx hb hts (fun _ h => List.mem_cons_of_mem _ (List.mem_append_left _ (List.mem_append_right _ h))) tyX9 tyX9_ok nmX9 hown hK hP hD hS 0 rfl rfl 0 (by decide) (hts (.fieldLink RX9 22 "KnotHouse$Reader" "length" "I") (by decide +kernel)) (fun _ h9 => h9) rfl (by decide +kernel) rfl rfl (Nat.le_of_ble_eq_true rfl) dgX9_take_37 (fun H locs hP hD hS => ?_)
    have hP : va_P (dC, dI) vwCl [(aR, .inr (12, [.int (nI ((q0).2 + 1)), .ref (rx 0), .ref (rx 1), .ref (rx 2), .int x4, .int x5])), ((rx 0), .inl (cB, 400, .inl (su q0.1 ((q0).2) (x >>> (24 &&& 31)).toInt8.toInt32)))] H := hP
    have hD : va_D A [(aR, .inr (12, [.int (nI ((q0).2 + 1)), .ref (rx 0), .ref (rx 1), .ref (rx 2), .int x4, .int x5])), ((rx 0), .inl (cB, 400, .inl (su q0.1 ((q0).2) (x >>> (24 &&& 31)).toInt8.toInt32)))] := hD
    refine lv_iinc (v := 16) (lv' := [(2, .int 16), (0, .ref aR), (1, .int x)]) hx hb dgX9_take_40 hl (k := 0) rfl (by decide) (by decide) rfl (fun ls hl => ?_)
    refine lv_goto (tgt := 3) hx hb dgX9_take_43 (by decide) ?_
    have hP : va_P (dC, dI) vwCl [(aR, .inr (12, [.int (nI (su (q0).1 (q0).2 (tk_b x 24), (q0).2 + 1).2), .ref (rx 0), .ref (rx 1), .ref (rx 2), .int x4, .int x5])), ((rx 0), .inl (cB, 400, .inl ((su (q0).1 (q0).2 (tk_b x 24), (q0).2 + 1).1)))] H := hP
    have hD : va_D A [(aR, .inr (12, [.int (nI (su (q0).1 (q0).2 (tk_b x 24), (q0).2 + 1).2), .ref (rx 0), .ref (rx 1), .ref (rx 2), .int x4, .int x5])), ((rx 0), .inl (cB, 400, .inl ((su (q0).1 (q0).2 (tk_b x 24), (q0).2 + 1).1)))] := hD
    refine lv_iload_n hx hb dgX9_take_3 rfl (lv_at hl 0 rfl) ?_
    refine lv_if_lt (tgt := 46) hx hb dgX9_take_4 (by decide) (fun c9 => absurd c9 (by decide)) (fun _ => ?_)
    refine lv_aload_n hx hb dgX9_take_7 rfl (lv_at hl 1 rfl) ?_
    refine va_get (D := (dC, dI)) (ci := 12) (v := .int (nI (su (q0).1 (q0).2 (tk_b x 24), (q0).2 + 1).2)) (C := RX9) (T := TX9) (N := 6) hx hb hts (fun _ h => List.mem_cons_of_mem _ (List.mem_append_left _ (List.mem_append_right _ h))) hown hK hP 0 rfl rfl 0 (by decide) (hts (.fieldLink RX9 22 "KnotHouse$Reader" "length" "I") (by decide +kernel)) (fun _ h9 => h9) rfl dgX9_take_8 ?_
    refine lv_sipush (v := 400) hx hb dgX9_take_11 (by decide) ?_
    rcases Nat.lt_or_ge ((su (q0).1 (q0).2 (tk_b x 24), (q0).2 + 1)).2 400 with h1 | h1
    · refine lv_icmp_ge (tgt := 46) hx hb dgX9_take_14 (by decide) (fun c9 => absurd c9 (nI_ge (a := ((su (q0).1 (q0).2 (tk_b x 24), (q0).2 + 1)).2) (b := 400) h1 (by decide))) (fun _ => ?_)
      refine lv_aload_n hx hb dgX9_take_17 rfl (lv_at hl 1 rfl) ?_
      refine va_get (D := (dC, dI)) (ci := 12) (v := .ref (rx 0)) (C := RX9) (T := TX9) (N := 6) hx hb hts (fun _ h => List.mem_cons_of_mem _ (List.mem_append_left _ (List.mem_append_right _ h))) hown hK hP 0 rfl rfl 1 (by decide) (hts (.fieldLink RX9 9 "KnotHouse$Reader" "tape" "[B") (by decide +kernel)) (fun _ h9 => h9) rfl dgX9_take_18 ?_
      refine lv_aload_n hx hb dgX9_take_21 rfl (lv_at hl 1 rfl) ?_
      refine va_get (D := (dC, dI)) (ci := 12) (v := .int (nI (su (q0).1 (q0).2 (tk_b x 24), (q0).2 + 1).2)) (C := RX9) (T := TX9) (N := 6) hx hb hts (fun _ h => List.mem_cons_of_mem _ (List.mem_append_left _ (List.mem_append_right _ h))) hown hK hP 0 rfl rfl 0 (by decide) (hts (.fieldLink RX9 22 "KnotHouse$Reader" "length" "I") (by decide +kernel)) (fun _ h9 => h9) rfl dgX9_take_22 ?_
      refine lv_iload_n hx hb dgX9_take_25 rfl (lv_at hl 2 rfl) ?_
      refine lv_iload_n hx hb dgX9_take_26 rfl (lv_at hl 0 rfl) ?_
      refine lv_ishr hx hb dgX9_take_27 ?_
      refine lv_i2b hx hb dgX9_take_28 rfl ?_
      refine ow_bastF (j := ((su (q0).1 (q0).2 (tk_b x 24), (q0).2 + 1)).2) (z := x >>> (16 &&& 31)) hx hb hK hP hD hS 1 1 rfl rfl h1 (by decide) dgX9_take_29 (fun H locs hP hD hS => ?_)
      have hP : va_P (dC, dI) vwCl [(aR, .inr (12, [.int (nI (su (q0).1 (q0).2 (tk_b x 24), (q0).2 + 1).2), .ref (rx 0), .ref (rx 1), .ref (rx 2), .int x4, .int x5])), ((rx 0), .inl (cB, 400, .inl (su ((su (q0).1 (q0).2 (tk_b x 24), (q0).2 + 1).1) (((su (q0).1 (q0).2 (tk_b x 24), (q0).2 + 1)).2) (x >>> (16 &&& 31)).toInt8.toInt32)))] H := hP
      have hD : va_D A [(aR, .inr (12, [.int (nI (su (q0).1 (q0).2 (tk_b x 24), (q0).2 + 1).2), .ref (rx 0), .ref (rx 1), .ref (rx 2), .int x4, .int x5])), ((rx 0), .inl (cB, 400, .inl (su ((su (q0).1 (q0).2 (tk_b x 24), (q0).2 + 1).1) (((su (q0).1 (q0).2 (tk_b x 24), (q0).2 + 1)).2) (x >>> (16 &&& 31)).toInt8.toInt32)))] := hD
      refine lv_aload_n hx hb dgX9_take_30 rfl (lv_at hl 1 rfl) ?_
      refine lv_dup hx hb dgX9_take_31 rfl ?_
      refine va_get (D := (dC, dI)) (ci := 12) (v := .int (nI (su (q0).1 (q0).2 (tk_b x 24), (q0).2 + 1).2)) (C := RX9) (T := TX9) (N := 6) hx hb hts (fun _ h => List.mem_cons_of_mem _ (List.mem_append_left _ (List.mem_append_right _ h))) hown hK hP 0 rfl rfl 0 (by decide) (hts (.fieldLink RX9 22 "KnotHouse$Reader" "length" "I") (by decide +kernel)) (fun _ h9 => h9) rfl dgX9_take_32 ?_
      refine lv_iconst (v := 1) hx hb dgX9_take_35 (by decide) ?_
      refine lv_iadd hx hb dgX9_take_36 ?_
      refine ow_topi (y := nI (((su (q0).1 (q0).2 (tk_b x 24), (q0).2 + 1)).2 + 1)) (nI_1 ((su (q0).1 (q0).2 (tk_b x 24), (q0).2 + 1)).2) ?_
      refine va_put (D := (dC, dI)) (ci := 12) (v := .int (nI (((su (q0).1 (q0).2 (tk_b x 24), (q0).2 + 1)).2 + 1))) (ty := .int) (C := RX9) (T := TX9) (N := 6) hx hb hts (fun _ h => List.mem_cons_of_mem _ (List.mem_append_left _ (List.mem_append_right _ h))) tyX9 tyX9_ok nmX9 hown hK hP hD hS 0 rfl rfl 0 (by decide) (hts (.fieldLink RX9 22 "KnotHouse$Reader" "length" "I") (by decide +kernel)) (fun _ h9 => h9) rfl (by decide +kernel) rfl rfl (Nat.le_of_ble_eq_true rfl) dgX9_take_37 (fun H locs hP hD hS => ?_)
      have hP : va_P (dC, dI) vwCl [(aR, .inr (12, [.int (nI (((su (q0).1 (q0).2 (tk_b x 24), (q0).2 + 1)).2 + 1)), .ref (rx 0), .ref (rx 1), .ref (rx 2), .int x4, .int x5])), ((rx 0), .inl (cB, 400, .inl (su ((su (q0).1 (q0).2 (tk_b x 24), (q0).2 + 1).1) (((su (q0).1 (q0).2 (tk_b x 24), (q0).2 + 1)).2) (x >>> (16 &&& 31)).toInt8.toInt32)))] H := hP
      have hD : va_D A [(aR, .inr (12, [.int (nI (((su (q0).1 (q0).2 (tk_b x 24), (q0).2 + 1)).2 + 1)), .ref (rx 0), .ref (rx 1), .ref (rx 2), .int x4, .int x5])), ((rx 0), .inl (cB, 400, .inl (su ((su (q0).1 (q0).2 (tk_b x 24), (q0).2 + 1).1) (((su (q0).1 (q0).2 (tk_b x 24), (q0).2 + 1)).2) (x >>> (16 &&& 31)).toInt8.toInt32)))] := hD
      refine lv_iinc (v := 8) (lv' := [(2, .int 8), (0, .ref aR), (1, .int x)]) hx hb dgX9_take_40 hl (k := 0) rfl (by decide) (by decide) rfl (fun ls hl => ?_)
      refine lv_goto (tgt := 3) hx hb dgX9_take_43 (by decide) ?_
      have hP : va_P (dC, dI) vwCl [(aR, .inr (12, [.int (nI (su ((su (q0).1 (q0).2 (tk_b x 24), (q0).2 + 1)).1 ((su (q0).1 (q0).2 (tk_b x 24), (q0).2 + 1)).2 (tk_b x 16), ((su (q0).1 (q0).2 (tk_b x 24), (q0).2 + 1)).2 + 1).2), .ref (rx 0), .ref (rx 1), .ref (rx 2), .int x4, .int x5])), ((rx 0), .inl (cB, 400, .inl ((su ((su (q0).1 (q0).2 (tk_b x 24), (q0).2 + 1)).1 ((su (q0).1 (q0).2 (tk_b x 24), (q0).2 + 1)).2 (tk_b x 16), ((su (q0).1 (q0).2 (tk_b x 24), (q0).2 + 1)).2 + 1).1)))] H := hP
      have hD : va_D A [(aR, .inr (12, [.int (nI (su ((su (q0).1 (q0).2 (tk_b x 24), (q0).2 + 1)).1 ((su (q0).1 (q0).2 (tk_b x 24), (q0).2 + 1)).2 (tk_b x 16), ((su (q0).1 (q0).2 (tk_b x 24), (q0).2 + 1)).2 + 1).2), .ref (rx 0), .ref (rx 1), .ref (rx 2), .int x4, .int x5])), ((rx 0), .inl (cB, 400, .inl ((su ((su (q0).1 (q0).2 (tk_b x 24), (q0).2 + 1)).1 ((su (q0).1 (q0).2 (tk_b x 24), (q0).2 + 1)).2 (tk_b x 16), ((su (q0).1 (q0).2 (tk_b x 24), (q0).2 + 1)).2 + 1).1)))] := hD
      refine lv_iload_n hx hb dgX9_take_3 rfl (lv_at hl 0 rfl) ?_
      refine lv_if_lt (tgt := 46) hx hb dgX9_take_4 (by decide) (fun c9 => absurd c9 (by decide)) (fun _ => ?_)
      refine lv_aload_n hx hb dgX9_take_7 rfl (lv_at hl 1 rfl) ?_
      refine va_get (D := (dC, dI)) (ci := 12) (v := .int (nI (su ((su (q0).1 (q0).2 (tk_b x 24), (q0).2 + 1)).1 ((su (q0).1 (q0).2 (tk_b x 24), (q0).2 + 1)).2 (tk_b x 16), ((su (q0).1 (q0).2 (tk_b x 24), (q0).2 + 1)).2 + 1).2)) (C := RX9) (T := TX9) (N := 6) hx hb hts (fun _ h => List.mem_cons_of_mem _ (List.mem_append_left _ (List.mem_append_right _ h))) hown hK hP 0 rfl rfl 0 (by decide) (hts (.fieldLink RX9 22 "KnotHouse$Reader" "length" "I") (by decide +kernel)) (fun _ h9 => h9) rfl dgX9_take_8 ?_
      refine lv_sipush (v := 400) hx hb dgX9_take_11 (by decide) ?_
      rcases Nat.lt_or_ge ((su ((su (q0).1 (q0).2 (tk_b x 24), (q0).2 + 1)).1 ((su (q0).1 (q0).2 (tk_b x 24), (q0).2 + 1)).2 (tk_b x 16), ((su (q0).1 (q0).2 (tk_b x 24), (q0).2 + 1)).2 + 1)).2 400 with h2 | h2
      · refine lv_icmp_ge (tgt := 46) hx hb dgX9_take_14 (by decide) (fun c9 => absurd c9 (nI_ge (a := ((su ((su (q0).1 (q0).2 (tk_b x 24), (q0).2 + 1)).1 ((su (q0).1 (q0).2 (tk_b x 24), (q0).2 + 1)).2 (tk_b x 16), ((su (q0).1 (q0).2 (tk_b x 24), (q0).2 + 1)).2 + 1)).2) (b := 400) h2 (by decide))) (fun _ => ?_)
        refine lv_aload_n hx hb dgX9_take_17 rfl (lv_at hl 1 rfl) ?_
        refine va_get (D := (dC, dI)) (ci := 12) (v := .ref (rx 0)) (C := RX9) (T := TX9) (N := 6) hx hb hts (fun _ h => List.mem_cons_of_mem _ (List.mem_append_left _ (List.mem_append_right _ h))) hown hK hP 0 rfl rfl 1 (by decide) (hts (.fieldLink RX9 9 "KnotHouse$Reader" "tape" "[B") (by decide +kernel)) (fun _ h9 => h9) rfl dgX9_take_18 ?_
        refine lv_aload_n hx hb dgX9_take_21 rfl (lv_at hl 1 rfl) ?_
        refine va_get (D := (dC, dI)) (ci := 12) (v := .int (nI (su ((su (q0).1 (q0).2 (tk_b x 24), (q0).2 + 1)).1 ((su (q0).1 (q0).2 (tk_b x 24), (q0).2 + 1)).2 (tk_b x 16), ((su (q0).1 (q0).2 (tk_b x 24), (q0).2 + 1)).2 + 1).2)) (C := RX9) (T := TX9) (N := 6) hx hb hts (fun _ h => List.mem_cons_of_mem _ (List.mem_append_left _ (List.mem_append_right _ h))) hown hK hP 0 rfl rfl 0 (by decide) (hts (.fieldLink RX9 22 "KnotHouse$Reader" "length" "I") (by decide +kernel)) (fun _ h9 => h9) rfl dgX9_take_22 ?_
        refine lv_iload_n hx hb dgX9_take_25 rfl (lv_at hl 2 rfl) ?_
        refine lv_iload_n hx hb dgX9_take_26 rfl (lv_at hl 0 rfl) ?_
        refine lv_ishr hx hb dgX9_take_27 ?_
        refine lv_i2b hx hb dgX9_take_28 rfl ?_
        refine ow_bastF (j := ((su ((su (q0).1 (q0).2 (tk_b x 24), (q0).2 + 1)).1 ((su (q0).1 (q0).2 (tk_b x 24), (q0).2 + 1)).2 (tk_b x 16), ((su (q0).1 (q0).2 (tk_b x 24), (q0).2 + 1)).2 + 1)).2) (z := x >>> (8 &&& 31)) hx hb hK hP hD hS 1 1 rfl rfl h2 (by decide) dgX9_take_29 (fun H locs hP hD hS => ?_)
        have hP : va_P (dC, dI) vwCl [(aR, .inr (12, [.int (nI (su ((su (q0).1 (q0).2 (tk_b x 24), (q0).2 + 1)).1 ((su (q0).1 (q0).2 (tk_b x 24), (q0).2 + 1)).2 (tk_b x 16), ((su (q0).1 (q0).2 (tk_b x 24), (q0).2 + 1)).2 + 1).2), .ref (rx 0), .ref (rx 1), .ref (rx 2), .int x4, .int x5])), ((rx 0), .inl (cB, 400, .inl (su ((su ((su (q0).1 (q0).2 (tk_b x 24), (q0).2 + 1)).1 ((su (q0).1 (q0).2 (tk_b x 24), (q0).2 + 1)).2 (tk_b x 16), ((su (q0).1 (q0).2 (tk_b x 24), (q0).2 + 1)).2 + 1).1) (((su ((su (q0).1 (q0).2 (tk_b x 24), (q0).2 + 1)).1 ((su (q0).1 (q0).2 (tk_b x 24), (q0).2 + 1)).2 (tk_b x 16), ((su (q0).1 (q0).2 (tk_b x 24), (q0).2 + 1)).2 + 1)).2) (x >>> (8 &&& 31)).toInt8.toInt32)))] H := hP
        have hD : va_D A [(aR, .inr (12, [.int (nI (su ((su (q0).1 (q0).2 (tk_b x 24), (q0).2 + 1)).1 ((su (q0).1 (q0).2 (tk_b x 24), (q0).2 + 1)).2 (tk_b x 16), ((su (q0).1 (q0).2 (tk_b x 24), (q0).2 + 1)).2 + 1).2), .ref (rx 0), .ref (rx 1), .ref (rx 2), .int x4, .int x5])), ((rx 0), .inl (cB, 400, .inl (su ((su ((su (q0).1 (q0).2 (tk_b x 24), (q0).2 + 1)).1 ((su (q0).1 (q0).2 (tk_b x 24), (q0).2 + 1)).2 (tk_b x 16), ((su (q0).1 (q0).2 (tk_b x 24), (q0).2 + 1)).2 + 1).1) (((su ((su (q0).1 (q0).2 (tk_b x 24), (q0).2 + 1)).1 ((su (q0).1 (q0).2 (tk_b x 24), (q0).2 + 1)).2 (tk_b x 16), ((su (q0).1 (q0).2 (tk_b x 24), (q0).2 + 1)).2 + 1)).2) (x >>> (8 &&& 31)).toInt8.toInt32)))] := hD
        refine lv_aload_n hx hb dgX9_take_30 rfl (lv_at hl 1 rfl) ?_
        refine lv_dup hx hb dgX9_take_31 rfl ?_
        refine va_get (D := (dC, dI)) (ci := 12) (v := .int (nI (su ((su (q0).1 (q0).2 (tk_b x 24), (q0).2 + 1)).1 ((su (q0).1 (q0).2 (tk_b x 24), (q0).2 + 1)).2 (tk_b x 16), ((su (q0).1 (q0).2 (tk_b x 24), (q0).2 + 1)).2 + 1).2)) (C := RX9) (T := TX9) (N := 6) hx hb hts (fun _ h => List.mem_cons_of_mem _ (List.mem_append_left _ (List.mem_append_right _ h))) hown hK hP 0 rfl rfl 0 (by decide) (hts (.fieldLink RX9 22 "KnotHouse$Reader" "length" "I") (by decide +kernel)) (fun _ h9 => h9) rfl dgX9_take_32 ?_
        refine lv_iconst (v := 1) hx hb dgX9_take_35 (by decide) ?_
        refine lv_iadd hx hb dgX9_take_36 ?_
        refine ow_topi (y := nI (((su ((su (q0).1 (q0).2 (tk_b x 24), (q0).2 + 1)).1 ((su (q0).1 (q0).2 (tk_b x 24), (q0).2 + 1)).2 (tk_b x 16), ((su (q0).1 (q0).2 (tk_b x 24), (q0).2 + 1)).2 + 1)).2 + 1)) (nI_1 ((su ((su (q0).1 (q0).2 (tk_b x 24), (q0).2 + 1)).1 ((su (q0).1 (q0).2 (tk_b x 24), (q0).2 + 1)).2 (tk_b x 16), ((su (q0).1 (q0).2 (tk_b x 24), (q0).2 + 1)).2 + 1)).2) ?_
        refine va_put (D := (dC, dI)) (ci := 12) (v := .int (nI (((su ((su (q0).1 (q0).2 (tk_b x 24), (q0).2 + 1)).1 ((su (q0).1 (q0).2 (tk_b x 24), (q0).2 + 1)).2 (tk_b x 16), ((su (q0).1 (q0).2 (tk_b x 24), (q0).2 + 1)).2 + 1)).2 + 1))) (ty := .int) (C := RX9) (T := TX9) (N := 6) hx hb hts (fun _ h => List.mem_cons_of_mem _ (List.mem_append_left _ (List.mem_append_right _ h))) tyX9 tyX9_ok nmX9 hown hK hP hD hS 0 rfl rfl 0 (by decide) (hts (.fieldLink RX9 22 "KnotHouse$Reader" "length" "I") (by decide +kernel)) (fun _ h9 => h9) rfl (by decide +kernel) rfl rfl (Nat.le_of_ble_eq_true rfl) dgX9_take_37 (fun H locs hP hD hS => ?_)
        have hP : va_P (dC, dI) vwCl [(aR, .inr (12, [.int (nI (((su ((su (q0).1 (q0).2 (tk_b x 24), (q0).2 + 1)).1 ((su (q0).1 (q0).2 (tk_b x 24), (q0).2 + 1)).2 (tk_b x 16), ((su (q0).1 (q0).2 (tk_b x 24), (q0).2 + 1)).2 + 1)).2 + 1)), .ref (rx 0), .ref (rx 1), .ref (rx 2), .int x4, .int x5])), ((rx 0), .inl (cB, 400, .inl (su ((su ((su (q0).1 (q0).2 (tk_b x 24), (q0).2 + 1)).1 ((su (q0).1 (q0).2 (tk_b x 24), (q0).2 + 1)).2 (tk_b x 16), ((su (q0).1 (q0).2 (tk_b x 24), (q0).2 + 1)).2 + 1).1) (((su ((su (q0).1 (q0).2 (tk_b x 24), (q0).2 + 1)).1 ((su (q0).1 (q0).2 (tk_b x 24), (q0).2 + 1)).2 (tk_b x 16), ((su (q0).1 (q0).2 (tk_b x 24), (q0).2 + 1)).2 + 1)).2) (x >>> (8 &&& 31)).toInt8.toInt32)))] H := hP
        have hD : va_D A [(aR, .inr (12, [.int (nI (((su ((su (q0).1 (q0).2 (tk_b x 24), (q0).2 + 1)).1 ((su (q0).1 (q0).2 (tk_b x 24), (q0).2 + 1)).2 (tk_b x 16), ((su (q0).1 (q0).2 (tk_b x 24), (q0).2 + 1)).2 + 1)).2 + 1)), .ref (rx 0), .ref (rx 1), .ref (rx 2), .int x4, .int x5])), ((rx 0), .inl (cB, 400, .inl (su ((su ((su (q0).1 (q0).2 (tk_b x 24), (q0).2 + 1)).1 ((su (q0).1 (q0).2 (tk_b x 24), (q0).2 + 1)).2 (tk_b x 16), ((su (q0).1 (q0).2 (tk_b x 24), (q0).2 + 1)).2 + 1).1) (((su ((su (q0).1 (q0).2 (tk_b x 24), (q0).2 + 1)).1 ((su (q0).1 (q0).2 (tk_b x 24), (q0).2 + 1)).2 (tk_b x 16), ((su (q0).1 (q0).2 (tk_b x 24), (q0).2 + 1)).2 + 1)).2) (x >>> (8 &&& 31)).toInt8.toInt32)))] := hD
        refine lv_iinc (v := 0) (lv' := [(2, .int 0), (0, .ref aR), (1, .int x)]) hx hb dgX9_take_40 hl (k := 0) rfl (by decide) (by decide) rfl (fun ls hl => ?_)
        refine lv_goto (tgt := 3) hx hb dgX9_take_43 (by decide) ?_
        have hP : va_P (dC, dI) vwCl [(aR, .inr (12, [.int (nI (su ((su ((su (q0).1 (q0).2 (tk_b x 24), (q0).2 + 1)).1 ((su (q0).1 (q0).2 (tk_b x 24), (q0).2 + 1)).2 (tk_b x 16), ((su (q0).1 (q0).2 (tk_b x 24), (q0).2 + 1)).2 + 1)).1 ((su ((su (q0).1 (q0).2 (tk_b x 24), (q0).2 + 1)).1 ((su (q0).1 (q0).2 (tk_b x 24), (q0).2 + 1)).2 (tk_b x 16), ((su (q0).1 (q0).2 (tk_b x 24), (q0).2 + 1)).2 + 1)).2 (tk_b x 8), ((su ((su (q0).1 (q0).2 (tk_b x 24), (q0).2 + 1)).1 ((su (q0).1 (q0).2 (tk_b x 24), (q0).2 + 1)).2 (tk_b x 16), ((su (q0).1 (q0).2 (tk_b x 24), (q0).2 + 1)).2 + 1)).2 + 1).2), .ref (rx 0), .ref (rx 1), .ref (rx 2), .int x4, .int x5])), ((rx 0), .inl (cB, 400, .inl ((su ((su ((su (q0).1 (q0).2 (tk_b x 24), (q0).2 + 1)).1 ((su (q0).1 (q0).2 (tk_b x 24), (q0).2 + 1)).2 (tk_b x 16), ((su (q0).1 (q0).2 (tk_b x 24), (q0).2 + 1)).2 + 1)).1 ((su ((su (q0).1 (q0).2 (tk_b x 24), (q0).2 + 1)).1 ((su (q0).1 (q0).2 (tk_b x 24), (q0).2 + 1)).2 (tk_b x 16), ((su (q0).1 (q0).2 (tk_b x 24), (q0).2 + 1)).2 + 1)).2 (tk_b x 8), ((su ((su (q0).1 (q0).2 (tk_b x 24), (q0).2 + 1)).1 ((su (q0).1 (q0).2 (tk_b x 24), (q0).2 + 1)).2 (tk_b x 16), ((su (q0).1 (q0).2 (tk_b x 24), (q0).2 + 1)).2 + 1)).2 + 1).1)))] H := hP
        have hD : va_D A [(aR, .inr (12, [.int (nI (su ((su ((su (q0).1 (q0).2 (tk_b x 24), (q0).2 + 1)).1 ((su (q0).1 (q0).2 (tk_b x 24), (q0).2 + 1)).2 (tk_b x 16), ((su (q0).1 (q0).2 (tk_b x 24), (q0).2 + 1)).2 + 1)).1 ((su ((su (q0).1 (q0).2 (tk_b x 24), (q0).2 + 1)).1 ((su (q0).1 (q0).2 (tk_b x 24), (q0).2 + 1)).2 (tk_b x 16), ((su (q0).1 (q0).2 (tk_b x 24), (q0).2 + 1)).2 + 1)).2 (tk_b x 8), ((su ((su (q0).1 (q0).2 (tk_b x 24), (q0).2 + 1)).1 ((su (q0).1 (q0).2 (tk_b x 24), (q0).2 + 1)).2 (tk_b x 16), ((su (q0).1 (q0).2 (tk_b x 24), (q0).2 + 1)).2 + 1)).2 + 1).2), .ref (rx 0), .ref (rx 1), .ref (rx 2), .int x4, .int x5])), ((rx 0), .inl (cB, 400, .inl ((su ((su ((su (q0).1 (q0).2 (tk_b x 24), (q0).2 + 1)).1 ((su (q0).1 (q0).2 (tk_b x 24), (q0).2 + 1)).2 (tk_b x 16), ((su (q0).1 (q0).2 (tk_b x 24), (q0).2 + 1)).2 + 1)).1 ((su ((su (q0).1 (q0).2 (tk_b x 24), (q0).2 + 1)).1 ((su (q0).1 (q0).2 (tk_b x 24), (q0).2 + 1)).2 (tk_b x 16), ((su (q0).1 (q0).2 (tk_b x 24), (q0).2 + 1)).2 + 1)).2 (tk_b x 8), ((su ((su (q0).1 (q0).2 (tk_b x 24), (q0).2 + 1)).1 ((su (q0).1 (q0).2 (tk_b x 24), (q0).2 + 1)).2 (tk_b x 16), ((su (q0).1 (q0).2 (tk_b x 24), (q0).2 + 1)).2 + 1)).2 + 1).1)))] := hD
        refine lv_iload_n hx hb dgX9_take_3 rfl (lv_at hl 0 rfl) ?_
        refine lv_if_lt (tgt := 46) hx hb dgX9_take_4 (by decide) (fun c9 => absurd c9 (by decide)) (fun _ => ?_)
        refine lv_aload_n hx hb dgX9_take_7 rfl (lv_at hl 1 rfl) ?_
        refine va_get (D := (dC, dI)) (ci := 12) (v := .int (nI (su ((su ((su (q0).1 (q0).2 (tk_b x 24), (q0).2 + 1)).1 ((su (q0).1 (q0).2 (tk_b x 24), (q0).2 + 1)).2 (tk_b x 16), ((su (q0).1 (q0).2 (tk_b x 24), (q0).2 + 1)).2 + 1)).1 ((su ((su (q0).1 (q0).2 (tk_b x 24), (q0).2 + 1)).1 ((su (q0).1 (q0).2 (tk_b x 24), (q0).2 + 1)).2 (tk_b x 16), ((su (q0).1 (q0).2 (tk_b x 24), (q0).2 + 1)).2 + 1)).2 (tk_b x 8), ((su ((su (q0).1 (q0).2 (tk_b x 24), (q0).2 + 1)).1 ((su (q0).1 (q0).2 (tk_b x 24), (q0).2 + 1)).2 (tk_b x 16), ((su (q0).1 (q0).2 (tk_b x 24), (q0).2 + 1)).2 + 1)).2 + 1).2)) (C := RX9) (T := TX9) (N := 6) hx hb hts (fun _ h => List.mem_cons_of_mem _ (List.mem_append_left _ (List.mem_append_right _ h))) hown hK hP 0 rfl rfl 0 (by decide) (hts (.fieldLink RX9 22 "KnotHouse$Reader" "length" "I") (by decide +kernel)) (fun _ h9 => h9) rfl dgX9_take_8 ?_
        refine lv_sipush (v := 400) hx hb dgX9_take_11 (by decide) ?_
        rcases Nat.lt_or_ge ((su ((su ((su (q0).1 (q0).2 (tk_b x 24), (q0).2 + 1)).1 ((su (q0).1 (q0).2 (tk_b x 24), (q0).2 + 1)).2 (tk_b x 16), ((su (q0).1 (q0).2 (tk_b x 24), (q0).2 + 1)).2 + 1)).1 ((su ((su (q0).1 (q0).2 (tk_b x 24), (q0).2 + 1)).1 ((su (q0).1 (q0).2 (tk_b x 24), (q0).2 + 1)).2 (tk_b x 16), ((su (q0).1 (q0).2 (tk_b x 24), (q0).2 + 1)).2 + 1)).2 (tk_b x 8), ((su ((su (q0).1 (q0).2 (tk_b x 24), (q0).2 + 1)).1 ((su (q0).1 (q0).2 (tk_b x 24), (q0).2 + 1)).2 (tk_b x 16), ((su (q0).1 (q0).2 (tk_b x 24), (q0).2 + 1)).2 + 1)).2 + 1)).2 400 with h3 | h3
        · refine lv_icmp_ge (tgt := 46) hx hb dgX9_take_14 (by decide) (fun c9 => absurd c9 (nI_ge (a := ((su ((su ((su (q0).1 (q0).2 (tk_b x 24), (q0).2 + 1)).1 ((su (q0).1 (q0).2 (tk_b x 24), (q0).2 + 1)).2 (tk_b x 16), ((su (q0).1 (q0).2 (tk_b x 24), (q0).2 + 1)).2 + 1)).1 ((su ((su (q0).1 (q0).2 (tk_b x 24), (q0).2 + 1)).1 ((su (q0).1 (q0).2 (tk_b x 24), (q0).2 + 1)).2 (tk_b x 16), ((su (q0).1 (q0).2 (tk_b x 24), (q0).2 + 1)).2 + 1)).2 (tk_b x 8), ((su ((su (q0).1 (q0).2 (tk_b x 24), (q0).2 + 1)).1 ((su (q0).1 (q0).2 (tk_b x 24), (q0).2 + 1)).2 (tk_b x 16), ((su (q0).1 (q0).2 (tk_b x 24), (q0).2 + 1)).2 + 1)).2 + 1)).2) (b := 400) h3 (by decide))) (fun _ => ?_)
          refine lv_aload_n hx hb dgX9_take_17 rfl (lv_at hl 1 rfl) ?_
          refine va_get (D := (dC, dI)) (ci := 12) (v := .ref (rx 0)) (C := RX9) (T := TX9) (N := 6) hx hb hts (fun _ h => List.mem_cons_of_mem _ (List.mem_append_left _ (List.mem_append_right _ h))) hown hK hP 0 rfl rfl 1 (by decide) (hts (.fieldLink RX9 9 "KnotHouse$Reader" "tape" "[B") (by decide +kernel)) (fun _ h9 => h9) rfl dgX9_take_18 ?_
          refine lv_aload_n hx hb dgX9_take_21 rfl (lv_at hl 1 rfl) ?_
          refine va_get (D := (dC, dI)) (ci := 12) (v := .int (nI (su ((su ((su (q0).1 (q0).2 (tk_b x 24), (q0).2 + 1)).1 ((su (q0).1 (q0).2 (tk_b x 24), (q0).2 + 1)).2 (tk_b x 16), ((su (q0).1 (q0).2 (tk_b x 24), (q0).2 + 1)).2 + 1)).1 ((su ((su (q0).1 (q0).2 (tk_b x 24), (q0).2 + 1)).1 ((su (q0).1 (q0).2 (tk_b x 24), (q0).2 + 1)).2 (tk_b x 16), ((su (q0).1 (q0).2 (tk_b x 24), (q0).2 + 1)).2 + 1)).2 (tk_b x 8), ((su ((su (q0).1 (q0).2 (tk_b x 24), (q0).2 + 1)).1 ((su (q0).1 (q0).2 (tk_b x 24), (q0).2 + 1)).2 (tk_b x 16), ((su (q0).1 (q0).2 (tk_b x 24), (q0).2 + 1)).2 + 1)).2 + 1).2)) (C := RX9) (T := TX9) (N := 6) hx hb hts (fun _ h => List.mem_cons_of_mem _ (List.mem_append_left _ (List.mem_append_right _ h))) hown hK hP 0 rfl rfl 0 (by decide) (hts (.fieldLink RX9 22 "KnotHouse$Reader" "length" "I") (by decide +kernel)) (fun _ h9 => h9) rfl dgX9_take_22 ?_
          refine lv_iload_n hx hb dgX9_take_25 rfl (lv_at hl 2 rfl) ?_
          refine lv_iload_n hx hb dgX9_take_26 rfl (lv_at hl 0 rfl) ?_
          refine lv_ishr hx hb dgX9_take_27 ?_
          refine lv_i2b hx hb dgX9_take_28 rfl ?_
          refine ow_bastF (j := ((su ((su ((su (q0).1 (q0).2 (tk_b x 24), (q0).2 + 1)).1 ((su (q0).1 (q0).2 (tk_b x 24), (q0).2 + 1)).2 (tk_b x 16), ((su (q0).1 (q0).2 (tk_b x 24), (q0).2 + 1)).2 + 1)).1 ((su ((su (q0).1 (q0).2 (tk_b x 24), (q0).2 + 1)).1 ((su (q0).1 (q0).2 (tk_b x 24), (q0).2 + 1)).2 (tk_b x 16), ((su (q0).1 (q0).2 (tk_b x 24), (q0).2 + 1)).2 + 1)).2 (tk_b x 8), ((su ((su (q0).1 (q0).2 (tk_b x 24), (q0).2 + 1)).1 ((su (q0).1 (q0).2 (tk_b x 24), (q0).2 + 1)).2 (tk_b x 16), ((su (q0).1 (q0).2 (tk_b x 24), (q0).2 + 1)).2 + 1)).2 + 1)).2) (z := x >>> (0 &&& 31)) hx hb hK hP hD hS 1 1 rfl rfl h3 (by decide) dgX9_take_29 (fun H locs hP hD hS => ?_)
          have hP : va_P (dC, dI) vwCl [(aR, .inr (12, [.int (nI (su ((su ((su (q0).1 (q0).2 (tk_b x 24), (q0).2 + 1)).1 ((su (q0).1 (q0).2 (tk_b x 24), (q0).2 + 1)).2 (tk_b x 16), ((su (q0).1 (q0).2 (tk_b x 24), (q0).2 + 1)).2 + 1)).1 ((su ((su (q0).1 (q0).2 (tk_b x 24), (q0).2 + 1)).1 ((su (q0).1 (q0).2 (tk_b x 24), (q0).2 + 1)).2 (tk_b x 16), ((su (q0).1 (q0).2 (tk_b x 24), (q0).2 + 1)).2 + 1)).2 (tk_b x 8), ((su ((su (q0).1 (q0).2 (tk_b x 24), (q0).2 + 1)).1 ((su (q0).1 (q0).2 (tk_b x 24), (q0).2 + 1)).2 (tk_b x 16), ((su (q0).1 (q0).2 (tk_b x 24), (q0).2 + 1)).2 + 1)).2 + 1).2), .ref (rx 0), .ref (rx 1), .ref (rx 2), .int x4, .int x5])), ((rx 0), .inl (cB, 400, .inl (su ((su ((su ((su (q0).1 (q0).2 (tk_b x 24), (q0).2 + 1)).1 ((su (q0).1 (q0).2 (tk_b x 24), (q0).2 + 1)).2 (tk_b x 16), ((su (q0).1 (q0).2 (tk_b x 24), (q0).2 + 1)).2 + 1)).1 ((su ((su (q0).1 (q0).2 (tk_b x 24), (q0).2 + 1)).1 ((su (q0).1 (q0).2 (tk_b x 24), (q0).2 + 1)).2 (tk_b x 16), ((su (q0).1 (q0).2 (tk_b x 24), (q0).2 + 1)).2 + 1)).2 (tk_b x 8), ((su ((su (q0).1 (q0).2 (tk_b x 24), (q0).2 + 1)).1 ((su (q0).1 (q0).2 (tk_b x 24), (q0).2 + 1)).2 (tk_b x 16), ((su (q0).1 (q0).2 (tk_b x 24), (q0).2 + 1)).2 + 1)).2 + 1).1) (((su ((su ((su (q0).1 (q0).2 (tk_b x 24), (q0).2 + 1)).1 ((su (q0).1 (q0).2 (tk_b x 24), (q0).2 + 1)).2 (tk_b x 16), ((su (q0).1 (q0).2 (tk_b x 24), (q0).2 + 1)).2 + 1)).1 ((su ((su (q0).1 (q0).2 (tk_b x 24), (q0).2 + 1)).1 ((su (q0).1 (q0).2 (tk_b x 24), (q0).2 + 1)).2 (tk_b x 16), ((su (q0).1 (q0).2 (tk_b x 24), (q0).2 + 1)).2 + 1)).2 (tk_b x 8), ((su ((su (q0).1 (q0).2 (tk_b x 24), (q0).2 + 1)).1 ((su (q0).1 (q0).2 (tk_b x 24), (q0).2 + 1)).2 (tk_b x 16), ((su (q0).1 (q0).2 (tk_b x 24), (q0).2 + 1)).2 + 1)).2 + 1)).2) (x >>> (0 &&& 31)).toInt8.toInt32)))] H := hP
          have hD : va_D A [(aR, .inr (12, [.int (nI (su ((su ((su (q0).1 (q0).2 (tk_b x 24), (q0).2 + 1)).1 ((su (q0).1 (q0).2 (tk_b x 24), (q0).2 + 1)).2 (tk_b x 16), ((su (q0).1 (q0).2 (tk_b x 24), (q0).2 + 1)).2 + 1)).1 ((su ((su (q0).1 (q0).2 (tk_b x 24), (q0).2 + 1)).1 ((su (q0).1 (q0).2 (tk_b x 24), (q0).2 + 1)).2 (tk_b x 16), ((su (q0).1 (q0).2 (tk_b x 24), (q0).2 + 1)).2 + 1)).2 (tk_b x 8), ((su ((su (q0).1 (q0).2 (tk_b x 24), (q0).2 + 1)).1 ((su (q0).1 (q0).2 (tk_b x 24), (q0).2 + 1)).2 (tk_b x 16), ((su (q0).1 (q0).2 (tk_b x 24), (q0).2 + 1)).2 + 1)).2 + 1).2), .ref (rx 0), .ref (rx 1), .ref (rx 2), .int x4, .int x5])), ((rx 0), .inl (cB, 400, .inl (su ((su ((su ((su (q0).1 (q0).2 (tk_b x 24), (q0).2 + 1)).1 ((su (q0).1 (q0).2 (tk_b x 24), (q0).2 + 1)).2 (tk_b x 16), ((su (q0).1 (q0).2 (tk_b x 24), (q0).2 + 1)).2 + 1)).1 ((su ((su (q0).1 (q0).2 (tk_b x 24), (q0).2 + 1)).1 ((su (q0).1 (q0).2 (tk_b x 24), (q0).2 + 1)).2 (tk_b x 16), ((su (q0).1 (q0).2 (tk_b x 24), (q0).2 + 1)).2 + 1)).2 (tk_b x 8), ((su ((su (q0).1 (q0).2 (tk_b x 24), (q0).2 + 1)).1 ((su (q0).1 (q0).2 (tk_b x 24), (q0).2 + 1)).2 (tk_b x 16), ((su (q0).1 (q0).2 (tk_b x 24), (q0).2 + 1)).2 + 1)).2 + 1).1) (((su ((su ((su (q0).1 (q0).2 (tk_b x 24), (q0).2 + 1)).1 ((su (q0).1 (q0).2 (tk_b x 24), (q0).2 + 1)).2 (tk_b x 16), ((su (q0).1 (q0).2 (tk_b x 24), (q0).2 + 1)).2 + 1)).1 ((su ((su (q0).1 (q0).2 (tk_b x 24), (q0).2 + 1)).1 ((su (q0).1 (q0).2 (tk_b x 24), (q0).2 + 1)).2 (tk_b x 16), ((su (q0).1 (q0).2 (tk_b x 24), (q0).2 + 1)).2 + 1)).2 (tk_b x 8), ((su ((su (q0).1 (q0).2 (tk_b x 24), (q0).2 + 1)).1 ((su (q0).1 (q0).2 (tk_b x 24), (q0).2 + 1)).2 (tk_b x 16), ((su (q0).1 (q0).2 (tk_b x 24), (q0).2 + 1)).2 + 1)).2 + 1)).2) (x >>> (0 &&& 31)).toInt8.toInt32)))] := hD
          refine lv_aload_n hx hb dgX9_take_30 rfl (lv_at hl 1 rfl) ?_
          refine lv_dup hx hb dgX9_take_31 rfl ?_
          refine va_get (D := (dC, dI)) (ci := 12) (v := .int (nI (su ((su ((su (q0).1 (q0).2 (tk_b x 24), (q0).2 + 1)).1 ((su (q0).1 (q0).2 (tk_b x 24), (q0).2 + 1)).2 (tk_b x 16), ((su (q0).1 (q0).2 (tk_b x 24), (q0).2 + 1)).2 + 1)).1 ((su ((su (q0).1 (q0).2 (tk_b x 24), (q0).2 + 1)).1 ((su (q0).1 (q0).2 (tk_b x 24), (q0).2 + 1)).2 (tk_b x 16), ((su (q0).1 (q0).2 (tk_b x 24), (q0).2 + 1)).2 + 1)).2 (tk_b x 8), ((su ((su (q0).1 (q0).2 (tk_b x 24), (q0).2 + 1)).1 ((su (q0).1 (q0).2 (tk_b x 24), (q0).2 + 1)).2 (tk_b x 16), ((su (q0).1 (q0).2 (tk_b x 24), (q0).2 + 1)).2 + 1)).2 + 1).2)) (C := RX9) (T := TX9) (N := 6) hx hb hts (fun _ h => List.mem_cons_of_mem _ (List.mem_append_left _ (List.mem_append_right _ h))) hown hK hP 0 rfl rfl 0 (by decide) (hts (.fieldLink RX9 22 "KnotHouse$Reader" "length" "I") (by decide +kernel)) (fun _ h9 => h9) rfl dgX9_take_32 ?_
          refine lv_iconst (v := 1) hx hb dgX9_take_35 (by decide) ?_
          refine lv_iadd hx hb dgX9_take_36 ?_
          refine ow_topi (y := nI (((su ((su ((su (q0).1 (q0).2 (tk_b x 24), (q0).2 + 1)).1 ((su (q0).1 (q0).2 (tk_b x 24), (q0).2 + 1)).2 (tk_b x 16), ((su (q0).1 (q0).2 (tk_b x 24), (q0).2 + 1)).2 + 1)).1 ((su ((su (q0).1 (q0).2 (tk_b x 24), (q0).2 + 1)).1 ((su (q0).1 (q0).2 (tk_b x 24), (q0).2 + 1)).2 (tk_b x 16), ((su (q0).1 (q0).2 (tk_b x 24), (q0).2 + 1)).2 + 1)).2 (tk_b x 8), ((su ((su (q0).1 (q0).2 (tk_b x 24), (q0).2 + 1)).1 ((su (q0).1 (q0).2 (tk_b x 24), (q0).2 + 1)).2 (tk_b x 16), ((su (q0).1 (q0).2 (tk_b x 24), (q0).2 + 1)).2 + 1)).2 + 1)).2 + 1)) (nI_1 ((su ((su ((su (q0).1 (q0).2 (tk_b x 24), (q0).2 + 1)).1 ((su (q0).1 (q0).2 (tk_b x 24), (q0).2 + 1)).2 (tk_b x 16), ((su (q0).1 (q0).2 (tk_b x 24), (q0).2 + 1)).2 + 1)).1 ((su ((su (q0).1 (q0).2 (tk_b x 24), (q0).2 + 1)).1 ((su (q0).1 (q0).2 (tk_b x 24), (q0).2 + 1)).2 (tk_b x 16), ((su (q0).1 (q0).2 (tk_b x 24), (q0).2 + 1)).2 + 1)).2 (tk_b x 8), ((su ((su (q0).1 (q0).2 (tk_b x 24), (q0).2 + 1)).1 ((su (q0).1 (q0).2 (tk_b x 24), (q0).2 + 1)).2 (tk_b x 16), ((su (q0).1 (q0).2 (tk_b x 24), (q0).2 + 1)).2 + 1)).2 + 1)).2) ?_
          refine va_put (D := (dC, dI)) (ci := 12) (v := .int (nI (((su ((su ((su (q0).1 (q0).2 (tk_b x 24), (q0).2 + 1)).1 ((su (q0).1 (q0).2 (tk_b x 24), (q0).2 + 1)).2 (tk_b x 16), ((su (q0).1 (q0).2 (tk_b x 24), (q0).2 + 1)).2 + 1)).1 ((su ((su (q0).1 (q0).2 (tk_b x 24), (q0).2 + 1)).1 ((su (q0).1 (q0).2 (tk_b x 24), (q0).2 + 1)).2 (tk_b x 16), ((su (q0).1 (q0).2 (tk_b x 24), (q0).2 + 1)).2 + 1)).2 (tk_b x 8), ((su ((su (q0).1 (q0).2 (tk_b x 24), (q0).2 + 1)).1 ((su (q0).1 (q0).2 (tk_b x 24), (q0).2 + 1)).2 (tk_b x 16), ((su (q0).1 (q0).2 (tk_b x 24), (q0).2 + 1)).2 + 1)).2 + 1)).2 + 1))) (ty := .int) (C := RX9) (T := TX9) (N := 6) hx hb hts (fun _ h => List.mem_cons_of_mem _ (List.mem_append_left _ (List.mem_append_right _ h))) tyX9 tyX9_ok nmX9 hown hK hP hD hS 0 rfl rfl 0 (by decide) (hts (.fieldLink RX9 22 "KnotHouse$Reader" "length" "I") (by decide +kernel)) (fun _ h9 => h9) rfl (by decide +kernel) rfl rfl (Nat.le_of_ble_eq_true rfl) dgX9_take_37 (fun H locs hP hD hS => ?_)
          have hP : va_P (dC, dI) vwCl [(aR, .inr (12, [.int (nI (((su ((su ((su (q0).1 (q0).2 (tk_b x 24), (q0).2 + 1)).1 ((su (q0).1 (q0).2 (tk_b x 24), (q0).2 + 1)).2 (tk_b x 16), ((su (q0).1 (q0).2 (tk_b x 24), (q0).2 + 1)).2 + 1)).1 ((su ((su (q0).1 (q0).2 (tk_b x 24), (q0).2 + 1)).1 ((su (q0).1 (q0).2 (tk_b x 24), (q0).2 + 1)).2 (tk_b x 16), ((su (q0).1 (q0).2 (tk_b x 24), (q0).2 + 1)).2 + 1)).2 (tk_b x 8), ((su ((su (q0).1 (q0).2 (tk_b x 24), (q0).2 + 1)).1 ((su (q0).1 (q0).2 (tk_b x 24), (q0).2 + 1)).2 (tk_b x 16), ((su (q0).1 (q0).2 (tk_b x 24), (q0).2 + 1)).2 + 1)).2 + 1)).2 + 1)), .ref (rx 0), .ref (rx 1), .ref (rx 2), .int x4, .int x5])), ((rx 0), .inl (cB, 400, .inl (su ((su ((su ((su (q0).1 (q0).2 (tk_b x 24), (q0).2 + 1)).1 ((su (q0).1 (q0).2 (tk_b x 24), (q0).2 + 1)).2 (tk_b x 16), ((su (q0).1 (q0).2 (tk_b x 24), (q0).2 + 1)).2 + 1)).1 ((su ((su (q0).1 (q0).2 (tk_b x 24), (q0).2 + 1)).1 ((su (q0).1 (q0).2 (tk_b x 24), (q0).2 + 1)).2 (tk_b x 16), ((su (q0).1 (q0).2 (tk_b x 24), (q0).2 + 1)).2 + 1)).2 (tk_b x 8), ((su ((su (q0).1 (q0).2 (tk_b x 24), (q0).2 + 1)).1 ((su (q0).1 (q0).2 (tk_b x 24), (q0).2 + 1)).2 (tk_b x 16), ((su (q0).1 (q0).2 (tk_b x 24), (q0).2 + 1)).2 + 1)).2 + 1).1) (((su ((su ((su (q0).1 (q0).2 (tk_b x 24), (q0).2 + 1)).1 ((su (q0).1 (q0).2 (tk_b x 24), (q0).2 + 1)).2 (tk_b x 16), ((su (q0).1 (q0).2 (tk_b x 24), (q0).2 + 1)).2 + 1)).1 ((su ((su (q0).1 (q0).2 (tk_b x 24), (q0).2 + 1)).1 ((su (q0).1 (q0).2 (tk_b x 24), (q0).2 + 1)).2 (tk_b x 16), ((su (q0).1 (q0).2 (tk_b x 24), (q0).2 + 1)).2 + 1)).2 (tk_b x 8), ((su ((su (q0).1 (q0).2 (tk_b x 24), (q0).2 + 1)).1 ((su (q0).1 (q0).2 (tk_b x 24), (q0).2 + 1)).2 (tk_b x 16), ((su (q0).1 (q0).2 (tk_b x 24), (q0).2 + 1)).2 + 1)).2 + 1)).2) (x >>> (0 &&& 31)).toInt8.toInt32)))] H := hP
          have hD : va_D A [(aR, .inr (12, [.int (nI (((su ((su ((su (q0).1 (q0).2 (tk_b x 24), (q0).2 + 1)).1 ((su (q0).1 (q0).2 (tk_b x 24), (q0).2 + 1)).2 (tk_b x 16), ((su (q0).1 (q0).2 (tk_b x 24), (q0).2 + 1)).2 + 1)).1 ((su ((su (q0).1 (q0).2 (tk_b x 24), (q0).2 + 1)).1 ((su (q0).1 (q0).2 (tk_b x 24), (q0).2 + 1)).2 (tk_b x 16), ((su (q0).1 (q0).2 (tk_b x 24), (q0).2 + 1)).2 + 1)).2 (tk_b x 8), ((su ((su (q0).1 (q0).2 (tk_b x 24), (q0).2 + 1)).1 ((su (q0).1 (q0).2 (tk_b x 24), (q0).2 + 1)).2 (tk_b x 16), ((su (q0).1 (q0).2 (tk_b x 24), (q0).2 + 1)).2 + 1)).2 + 1)).2 + 1)), .ref (rx 0), .ref (rx 1), .ref (rx 2), .int x4, .int x5])), ((rx 0), .inl (cB, 400, .inl (su ((su ((su ((su (q0).1 (q0).2 (tk_b x 24), (q0).2 + 1)).1 ((su (q0).1 (q0).2 (tk_b x 24), (q0).2 + 1)).2 (tk_b x 16), ((su (q0).1 (q0).2 (tk_b x 24), (q0).2 + 1)).2 + 1)).1 ((su ((su (q0).1 (q0).2 (tk_b x 24), (q0).2 + 1)).1 ((su (q0).1 (q0).2 (tk_b x 24), (q0).2 + 1)).2 (tk_b x 16), ((su (q0).1 (q0).2 (tk_b x 24), (q0).2 + 1)).2 + 1)).2 (tk_b x 8), ((su ((su (q0).1 (q0).2 (tk_b x 24), (q0).2 + 1)).1 ((su (q0).1 (q0).2 (tk_b x 24), (q0).2 + 1)).2 (tk_b x 16), ((su (q0).1 (q0).2 (tk_b x 24), (q0).2 + 1)).2 + 1)).2 + 1).1) (((su ((su ((su (q0).1 (q0).2 (tk_b x 24), (q0).2 + 1)).1 ((su (q0).1 (q0).2 (tk_b x 24), (q0).2 + 1)).2 (tk_b x 16), ((su (q0).1 (q0).2 (tk_b x 24), (q0).2 + 1)).2 + 1)).1 ((su ((su (q0).1 (q0).2 (tk_b x 24), (q0).2 + 1)).1 ((su (q0).1 (q0).2 (tk_b x 24), (q0).2 + 1)).2 (tk_b x 16), ((su (q0).1 (q0).2 (tk_b x 24), (q0).2 + 1)).2 + 1)).2 (tk_b x 8), ((su ((su (q0).1 (q0).2 (tk_b x 24), (q0).2 + 1)).1 ((su (q0).1 (q0).2 (tk_b x 24), (q0).2 + 1)).2 (tk_b x 16), ((su (q0).1 (q0).2 (tk_b x 24), (q0).2 + 1)).2 + 1)).2 + 1)).2) (x >>> (0 &&& 31)).toInt8.toInt32)))] := hD
          refine lv_iinc (v := (-8)) (lv' := [(2, .int (-8)), (0, .ref aR), (1, .int x)]) hx hb dgX9_take_40 hl (k := 0) rfl (by decide) (by decide) rfl (fun ls hl => ?_)
          refine lv_goto (tgt := 3) hx hb dgX9_take_43 (by decide) ?_
          have hP : va_P (dC, dI) vwCl [(aR, .inr (12, [.int (nI (su ((su ((su ((su (q0).1 (q0).2 (tk_b x 24), (q0).2 + 1)).1 ((su (q0).1 (q0).2 (tk_b x 24), (q0).2 + 1)).2 (tk_b x 16), ((su (q0).1 (q0).2 (tk_b x 24), (q0).2 + 1)).2 + 1)).1 ((su ((su (q0).1 (q0).2 (tk_b x 24), (q0).2 + 1)).1 ((su (q0).1 (q0).2 (tk_b x 24), (q0).2 + 1)).2 (tk_b x 16), ((su (q0).1 (q0).2 (tk_b x 24), (q0).2 + 1)).2 + 1)).2 (tk_b x 8), ((su ((su (q0).1 (q0).2 (tk_b x 24), (q0).2 + 1)).1 ((su (q0).1 (q0).2 (tk_b x 24), (q0).2 + 1)).2 (tk_b x 16), ((su (q0).1 (q0).2 (tk_b x 24), (q0).2 + 1)).2 + 1)).2 + 1)).1 ((su ((su ((su (q0).1 (q0).2 (tk_b x 24), (q0).2 + 1)).1 ((su (q0).1 (q0).2 (tk_b x 24), (q0).2 + 1)).2 (tk_b x 16), ((su (q0).1 (q0).2 (tk_b x 24), (q0).2 + 1)).2 + 1)).1 ((su ((su (q0).1 (q0).2 (tk_b x 24), (q0).2 + 1)).1 ((su (q0).1 (q0).2 (tk_b x 24), (q0).2 + 1)).2 (tk_b x 16), ((su (q0).1 (q0).2 (tk_b x 24), (q0).2 + 1)).2 + 1)).2 (tk_b x 8), ((su ((su (q0).1 (q0).2 (tk_b x 24), (q0).2 + 1)).1 ((su (q0).1 (q0).2 (tk_b x 24), (q0).2 + 1)).2 (tk_b x 16), ((su (q0).1 (q0).2 (tk_b x 24), (q0).2 + 1)).2 + 1)).2 + 1)).2 (tk_b x 0), ((su ((su ((su (q0).1 (q0).2 (tk_b x 24), (q0).2 + 1)).1 ((su (q0).1 (q0).2 (tk_b x 24), (q0).2 + 1)).2 (tk_b x 16), ((su (q0).1 (q0).2 (tk_b x 24), (q0).2 + 1)).2 + 1)).1 ((su ((su (q0).1 (q0).2 (tk_b x 24), (q0).2 + 1)).1 ((su (q0).1 (q0).2 (tk_b x 24), (q0).2 + 1)).2 (tk_b x 16), ((su (q0).1 (q0).2 (tk_b x 24), (q0).2 + 1)).2 + 1)).2 (tk_b x 8), ((su ((su (q0).1 (q0).2 (tk_b x 24), (q0).2 + 1)).1 ((su (q0).1 (q0).2 (tk_b x 24), (q0).2 + 1)).2 (tk_b x 16), ((su (q0).1 (q0).2 (tk_b x 24), (q0).2 + 1)).2 + 1)).2 + 1)).2 + 1).2), .ref (rx 0), .ref (rx 1), .ref (rx 2), .int x4, .int x5])), ((rx 0), .inl (cB, 400, .inl ((su ((su ((su ((su (q0).1 (q0).2 (tk_b x 24), (q0).2 + 1)).1 ((su (q0).1 (q0).2 (tk_b x 24), (q0).2 + 1)).2 (tk_b x 16), ((su (q0).1 (q0).2 (tk_b x 24), (q0).2 + 1)).2 + 1)).1 ((su ((su (q0).1 (q0).2 (tk_b x 24), (q0).2 + 1)).1 ((su (q0).1 (q0).2 (tk_b x 24), (q0).2 + 1)).2 (tk_b x 16), ((su (q0).1 (q0).2 (tk_b x 24), (q0).2 + 1)).2 + 1)).2 (tk_b x 8), ((su ((su (q0).1 (q0).2 (tk_b x 24), (q0).2 + 1)).1 ((su (q0).1 (q0).2 (tk_b x 24), (q0).2 + 1)).2 (tk_b x 16), ((su (q0).1 (q0).2 (tk_b x 24), (q0).2 + 1)).2 + 1)).2 + 1)).1 ((su ((su ((su (q0).1 (q0).2 (tk_b x 24), (q0).2 + 1)).1 ((su (q0).1 (q0).2 (tk_b x 24), (q0).2 + 1)).2 (tk_b x 16), ((su (q0).1 (q0).2 (tk_b x 24), (q0).2 + 1)).2 + 1)).1 ((su ((su (q0).1 (q0).2 (tk_b x 24), (q0).2 + 1)).1 ((su (q0).1 (q0).2 (tk_b x 24), (q0).2 + 1)).2 (tk_b x 16), ((su (q0).1 (q0).2 (tk_b x 24), (q0).2 + 1)).2 + 1)).2 (tk_b x 8), ((su ((su (q0).1 (q0).2 (tk_b x 24), (q0).2 + 1)).1 ((su (q0).1 (q0).2 (tk_b x 24), (q0).2 + 1)).2 (tk_b x 16), ((su (q0).1 (q0).2 (tk_b x 24), (q0).2 + 1)).2 + 1)).2 + 1)).2 (tk_b x 0), ((su ((su ((su (q0).1 (q0).2 (tk_b x 24), (q0).2 + 1)).1 ((su (q0).1 (q0).2 (tk_b x 24), (q0).2 + 1)).2 (tk_b x 16), ((su (q0).1 (q0).2 (tk_b x 24), (q0).2 + 1)).2 + 1)).1 ((su ((su (q0).1 (q0).2 (tk_b x 24), (q0).2 + 1)).1 ((su (q0).1 (q0).2 (tk_b x 24), (q0).2 + 1)).2 (tk_b x 16), ((su (q0).1 (q0).2 (tk_b x 24), (q0).2 + 1)).2 + 1)).2 (tk_b x 8), ((su ((su (q0).1 (q0).2 (tk_b x 24), (q0).2 + 1)).1 ((su (q0).1 (q0).2 (tk_b x 24), (q0).2 + 1)).2 (tk_b x 16), ((su (q0).1 (q0).2 (tk_b x 24), (q0).2 + 1)).2 + 1)).2 + 1)).2 + 1).1)))] H := hP
          have hD : va_D A [(aR, .inr (12, [.int (nI (su ((su ((su ((su (q0).1 (q0).2 (tk_b x 24), (q0).2 + 1)).1 ((su (q0).1 (q0).2 (tk_b x 24), (q0).2 + 1)).2 (tk_b x 16), ((su (q0).1 (q0).2 (tk_b x 24), (q0).2 + 1)).2 + 1)).1 ((su ((su (q0).1 (q0).2 (tk_b x 24), (q0).2 + 1)).1 ((su (q0).1 (q0).2 (tk_b x 24), (q0).2 + 1)).2 (tk_b x 16), ((su (q0).1 (q0).2 (tk_b x 24), (q0).2 + 1)).2 + 1)).2 (tk_b x 8), ((su ((su (q0).1 (q0).2 (tk_b x 24), (q0).2 + 1)).1 ((su (q0).1 (q0).2 (tk_b x 24), (q0).2 + 1)).2 (tk_b x 16), ((su (q0).1 (q0).2 (tk_b x 24), (q0).2 + 1)).2 + 1)).2 + 1)).1 ((su ((su ((su (q0).1 (q0).2 (tk_b x 24), (q0).2 + 1)).1 ((su (q0).1 (q0).2 (tk_b x 24), (q0).2 + 1)).2 (tk_b x 16), ((su (q0).1 (q0).2 (tk_b x 24), (q0).2 + 1)).2 + 1)).1 ((su ((su (q0).1 (q0).2 (tk_b x 24), (q0).2 + 1)).1 ((su (q0).1 (q0).2 (tk_b x 24), (q0).2 + 1)).2 (tk_b x 16), ((su (q0).1 (q0).2 (tk_b x 24), (q0).2 + 1)).2 + 1)).2 (tk_b x 8), ((su ((su (q0).1 (q0).2 (tk_b x 24), (q0).2 + 1)).1 ((su (q0).1 (q0).2 (tk_b x 24), (q0).2 + 1)).2 (tk_b x 16), ((su (q0).1 (q0).2 (tk_b x 24), (q0).2 + 1)).2 + 1)).2 + 1)).2 (tk_b x 0), ((su ((su ((su (q0).1 (q0).2 (tk_b x 24), (q0).2 + 1)).1 ((su (q0).1 (q0).2 (tk_b x 24), (q0).2 + 1)).2 (tk_b x 16), ((su (q0).1 (q0).2 (tk_b x 24), (q0).2 + 1)).2 + 1)).1 ((su ((su (q0).1 (q0).2 (tk_b x 24), (q0).2 + 1)).1 ((su (q0).1 (q0).2 (tk_b x 24), (q0).2 + 1)).2 (tk_b x 16), ((su (q0).1 (q0).2 (tk_b x 24), (q0).2 + 1)).2 + 1)).2 (tk_b x 8), ((su ((su (q0).1 (q0).2 (tk_b x 24), (q0).2 + 1)).1 ((su (q0).1 (q0).2 (tk_b x 24), (q0).2 + 1)).2 (tk_b x 16), ((su (q0).1 (q0).2 (tk_b x 24), (q0).2 + 1)).2 + 1)).2 + 1)).2 + 1).2), .ref (rx 0), .ref (rx 1), .ref (rx 2), .int x4, .int x5])), ((rx 0), .inl (cB, 400, .inl ((su ((su ((su ((su (q0).1 (q0).2 (tk_b x 24), (q0).2 + 1)).1 ((su (q0).1 (q0).2 (tk_b x 24), (q0).2 + 1)).2 (tk_b x 16), ((su (q0).1 (q0).2 (tk_b x 24), (q0).2 + 1)).2 + 1)).1 ((su ((su (q0).1 (q0).2 (tk_b x 24), (q0).2 + 1)).1 ((su (q0).1 (q0).2 (tk_b x 24), (q0).2 + 1)).2 (tk_b x 16), ((su (q0).1 (q0).2 (tk_b x 24), (q0).2 + 1)).2 + 1)).2 (tk_b x 8), ((su ((su (q0).1 (q0).2 (tk_b x 24), (q0).2 + 1)).1 ((su (q0).1 (q0).2 (tk_b x 24), (q0).2 + 1)).2 (tk_b x 16), ((su (q0).1 (q0).2 (tk_b x 24), (q0).2 + 1)).2 + 1)).2 + 1)).1 ((su ((su ((su (q0).1 (q0).2 (tk_b x 24), (q0).2 + 1)).1 ((su (q0).1 (q0).2 (tk_b x 24), (q0).2 + 1)).2 (tk_b x 16), ((su (q0).1 (q0).2 (tk_b x 24), (q0).2 + 1)).2 + 1)).1 ((su ((su (q0).1 (q0).2 (tk_b x 24), (q0).2 + 1)).1 ((su (q0).1 (q0).2 (tk_b x 24), (q0).2 + 1)).2 (tk_b x 16), ((su (q0).1 (q0).2 (tk_b x 24), (q0).2 + 1)).2 + 1)).2 (tk_b x 8), ((su ((su (q0).1 (q0).2 (tk_b x 24), (q0).2 + 1)).1 ((su (q0).1 (q0).2 (tk_b x 24), (q0).2 + 1)).2 (tk_b x 16), ((su (q0).1 (q0).2 (tk_b x 24), (q0).2 + 1)).2 + 1)).2 + 1)).2 (tk_b x 0), ((su ((su ((su (q0).1 (q0).2 (tk_b x 24), (q0).2 + 1)).1 ((su (q0).1 (q0).2 (tk_b x 24), (q0).2 + 1)).2 (tk_b x 16), ((su (q0).1 (q0).2 (tk_b x 24), (q0).2 + 1)).2 + 1)).1 ((su ((su (q0).1 (q0).2 (tk_b x 24), (q0).2 + 1)).1 ((su (q0).1 (q0).2 (tk_b x 24), (q0).2 + 1)).2 (tk_b x 16), ((su (q0).1 (q0).2 (tk_b x 24), (q0).2 + 1)).2 + 1)).2 (tk_b x 8), ((su ((su (q0).1 (q0).2 (tk_b x 24), (q0).2 + 1)).1 ((su (q0).1 (q0).2 (tk_b x 24), (q0).2 + 1)).2 (tk_b x 16), ((su (q0).1 (q0).2 (tk_b x 24), (q0).2 + 1)).2 + 1)).2 + 1)).2 + 1).1)))] := hD
          refine lv_iload_n hx hb dgX9_take_3 rfl (lv_at hl 0 rfl) ?_
          refine lv_if_lt (tgt := 46) hx hb dgX9_take_4 (by decide) (fun _ => ?_) (fun c9 => absurd (by decide) c9)
          have hP : va_P (dC, dI) vwCl [(aR, .inr (12, [.int (nI (tk_4 x q0).2), .ref (rx 0), .ref (rx 1), .ref (rx 2), .int x4, .int x5])), ((rx 0), .inl (cB, 400, .inl ((tk_4 x q0).1)))] H := by rw [show tk_4 x q0 = (su ((su ((su ((su (q0).1 (q0).2 (tk_b x 24), (q0).2 + 1)).1 ((su (q0).1 (q0).2 (tk_b x 24), (q0).2 + 1)).2 (tk_b x 16), ((su (q0).1 (q0).2 (tk_b x 24), (q0).2 + 1)).2 + 1)).1 ((su ((su (q0).1 (q0).2 (tk_b x 24), (q0).2 + 1)).1 ((su (q0).1 (q0).2 (tk_b x 24), (q0).2 + 1)).2 (tk_b x 16), ((su (q0).1 (q0).2 (tk_b x 24), (q0).2 + 1)).2 + 1)).2 (tk_b x 8), ((su ((su (q0).1 (q0).2 (tk_b x 24), (q0).2 + 1)).1 ((su (q0).1 (q0).2 (tk_b x 24), (q0).2 + 1)).2 (tk_b x 16), ((su (q0).1 (q0).2 (tk_b x 24), (q0).2 + 1)).2 + 1)).2 + 1)).1 ((su ((su ((su (q0).1 (q0).2 (tk_b x 24), (q0).2 + 1)).1 ((su (q0).1 (q0).2 (tk_b x 24), (q0).2 + 1)).2 (tk_b x 16), ((su (q0).1 (q0).2 (tk_b x 24), (q0).2 + 1)).2 + 1)).1 ((su ((su (q0).1 (q0).2 (tk_b x 24), (q0).2 + 1)).1 ((su (q0).1 (q0).2 (tk_b x 24), (q0).2 + 1)).2 (tk_b x 16), ((su (q0).1 (q0).2 (tk_b x 24), (q0).2 + 1)).2 + 1)).2 (tk_b x 8), ((su ((su (q0).1 (q0).2 (tk_b x 24), (q0).2 + 1)).1 ((su (q0).1 (q0).2 (tk_b x 24), (q0).2 + 1)).2 (tk_b x 16), ((su (q0).1 (q0).2 (tk_b x 24), (q0).2 + 1)).2 + 1)).2 + 1)).2 (tk_b x 0), ((su ((su ((su (q0).1 (q0).2 (tk_b x 24), (q0).2 + 1)).1 ((su (q0).1 (q0).2 (tk_b x 24), (q0).2 + 1)).2 (tk_b x 16), ((su (q0).1 (q0).2 (tk_b x 24), (q0).2 + 1)).2 + 1)).1 ((su ((su (q0).1 (q0).2 (tk_b x 24), (q0).2 + 1)).1 ((su (q0).1 (q0).2 (tk_b x 24), (q0).2 + 1)).2 (tk_b x 16), ((su (q0).1 (q0).2 (tk_b x 24), (q0).2 + 1)).2 + 1)).2 (tk_b x 8), ((su ((su (q0).1 (q0).2 (tk_b x 24), (q0).2 + 1)).1 ((su (q0).1 (q0).2 (tk_b x 24), (q0).2 + 1)).2 (tk_b x 16), ((su (q0).1 (q0).2 (tk_b x 24), (q0).2 + 1)).2 + 1)).2 + 1)).2 + 1) from by rw [tk_4, tk_1_y (q := q0) h0, tk_1_y (q := (su (q0).1 (q0).2 (tk_b x 24), (q0).2 + 1)) h1, tk_1_y (q := (su ((su (q0).1 (q0).2 (tk_b x 24), (q0).2 + 1)).1 ((su (q0).1 (q0).2 (tk_b x 24), (q0).2 + 1)).2 (tk_b x 16), ((su (q0).1 (q0).2 (tk_b x 24), (q0).2 + 1)).2 + 1)) h2, tk_1_y (q := (su ((su ((su (q0).1 (q0).2 (tk_b x 24), (q0).2 + 1)).1 ((su (q0).1 (q0).2 (tk_b x 24), (q0).2 + 1)).2 (tk_b x 16), ((su (q0).1 (q0).2 (tk_b x 24), (q0).2 + 1)).2 + 1)).1 ((su ((su (q0).1 (q0).2 (tk_b x 24), (q0).2 + 1)).1 ((su (q0).1 (q0).2 (tk_b x 24), (q0).2 + 1)).2 (tk_b x 16), ((su (q0).1 (q0).2 (tk_b x 24), (q0).2 + 1)).2 + 1)).2 (tk_b x 8), ((su ((su (q0).1 (q0).2 (tk_b x 24), (q0).2 + 1)).1 ((su (q0).1 (q0).2 (tk_b x 24), (q0).2 + 1)).2 (tk_b x 16), ((su (q0).1 (q0).2 (tk_b x 24), (q0).2 + 1)).2 + 1)).2 + 1)) h3]]; exact hP
          have hD : va_D A [(aR, .inr (12, [.int (nI (tk_4 x q0).2), .ref (rx 0), .ref (rx 1), .ref (rx 2), .int x4, .int x5])), ((rx 0), .inl (cB, 400, .inl ((tk_4 x q0).1)))] := by rw [show tk_4 x q0 = (su ((su ((su ((su (q0).1 (q0).2 (tk_b x 24), (q0).2 + 1)).1 ((su (q0).1 (q0).2 (tk_b x 24), (q0).2 + 1)).2 (tk_b x 16), ((su (q0).1 (q0).2 (tk_b x 24), (q0).2 + 1)).2 + 1)).1 ((su ((su (q0).1 (q0).2 (tk_b x 24), (q0).2 + 1)).1 ((su (q0).1 (q0).2 (tk_b x 24), (q0).2 + 1)).2 (tk_b x 16), ((su (q0).1 (q0).2 (tk_b x 24), (q0).2 + 1)).2 + 1)).2 (tk_b x 8), ((su ((su (q0).1 (q0).2 (tk_b x 24), (q0).2 + 1)).1 ((su (q0).1 (q0).2 (tk_b x 24), (q0).2 + 1)).2 (tk_b x 16), ((su (q0).1 (q0).2 (tk_b x 24), (q0).2 + 1)).2 + 1)).2 + 1)).1 ((su ((su ((su (q0).1 (q0).2 (tk_b x 24), (q0).2 + 1)).1 ((su (q0).1 (q0).2 (tk_b x 24), (q0).2 + 1)).2 (tk_b x 16), ((su (q0).1 (q0).2 (tk_b x 24), (q0).2 + 1)).2 + 1)).1 ((su ((su (q0).1 (q0).2 (tk_b x 24), (q0).2 + 1)).1 ((su (q0).1 (q0).2 (tk_b x 24), (q0).2 + 1)).2 (tk_b x 16), ((su (q0).1 (q0).2 (tk_b x 24), (q0).2 + 1)).2 + 1)).2 (tk_b x 8), ((su ((su (q0).1 (q0).2 (tk_b x 24), (q0).2 + 1)).1 ((su (q0).1 (q0).2 (tk_b x 24), (q0).2 + 1)).2 (tk_b x 16), ((su (q0).1 (q0).2 (tk_b x 24), (q0).2 + 1)).2 + 1)).2 + 1)).2 (tk_b x 0), ((su ((su ((su (q0).1 (q0).2 (tk_b x 24), (q0).2 + 1)).1 ((su (q0).1 (q0).2 (tk_b x 24), (q0).2 + 1)).2 (tk_b x 16), ((su (q0).1 (q0).2 (tk_b x 24), (q0).2 + 1)).2 + 1)).1 ((su ((su (q0).1 (q0).2 (tk_b x 24), (q0).2 + 1)).1 ((su (q0).1 (q0).2 (tk_b x 24), (q0).2 + 1)).2 (tk_b x 16), ((su (q0).1 (q0).2 (tk_b x 24), (q0).2 + 1)).2 + 1)).2 (tk_b x 8), ((su ((su (q0).1 (q0).2 (tk_b x 24), (q0).2 + 1)).1 ((su (q0).1 (q0).2 (tk_b x 24), (q0).2 + 1)).2 (tk_b x 16), ((su (q0).1 (q0).2 (tk_b x 24), (q0).2 + 1)).2 + 1)).2 + 1)).2 + 1) from by rw [tk_4, tk_1_y (q := q0) h0, tk_1_y (q := (su (q0).1 (q0).2 (tk_b x 24), (q0).2 + 1)) h1, tk_1_y (q := (su ((su (q0).1 (q0).2 (tk_b x 24), (q0).2 + 1)).1 ((su (q0).1 (q0).2 (tk_b x 24), (q0).2 + 1)).2 (tk_b x 16), ((su (q0).1 (q0).2 (tk_b x 24), (q0).2 + 1)).2 + 1)) h2, tk_1_y (q := (su ((su ((su (q0).1 (q0).2 (tk_b x 24), (q0).2 + 1)).1 ((su (q0).1 (q0).2 (tk_b x 24), (q0).2 + 1)).2 (tk_b x 16), ((su (q0).1 (q0).2 (tk_b x 24), (q0).2 + 1)).2 + 1)).1 ((su ((su (q0).1 (q0).2 (tk_b x 24), (q0).2 + 1)).1 ((su (q0).1 (q0).2 (tk_b x 24), (q0).2 + 1)).2 (tk_b x 16), ((su (q0).1 (q0).2 (tk_b x 24), (q0).2 + 1)).2 + 1)).2 (tk_b x 8), ((su ((su (q0).1 (q0).2 (tk_b x 24), (q0).2 + 1)).1 ((su (q0).1 (q0).2 (tk_b x 24), (q0).2 + 1)).2 (tk_b x 16), ((su (q0).1 (q0).2 (tk_b x 24), (q0).2 + 1)).2 + 1)).2 + 1)) h3]]; exact hD
          rw [hQQ]
          exact W.vret hx hb hr (fun t ht hW => ⟨⟨(), rfl, trivial, by rw [ht]; exact hP, hD⟩, hS.F ht⟩) hS.2.2 dgX9_take_46
        · refine lv_icmp_ge (tgt := 46) hx hb dgX9_take_14 (by decide) (fun _ => ?_) (fun c9 => absurd (nI_le (a := 400) (b := ((su ((su ((su (q0).1 (q0).2 (tk_b x 24), (q0).2 + 1)).1 ((su (q0).1 (q0).2 (tk_b x 24), (q0).2 + 1)).2 (tk_b x 16), ((su (q0).1 (q0).2 (tk_b x 24), (q0).2 + 1)).2 + 1)).1 ((su ((su (q0).1 (q0).2 (tk_b x 24), (q0).2 + 1)).1 ((su (q0).1 (q0).2 (tk_b x 24), (q0).2 + 1)).2 (tk_b x 16), ((su (q0).1 (q0).2 (tk_b x 24), (q0).2 + 1)).2 + 1)).2 (tk_b x 8), ((su ((su (q0).1 (q0).2 (tk_b x 24), (q0).2 + 1)).1 ((su (q0).1 (q0).2 (tk_b x 24), (q0).2 + 1)).2 (tk_b x 16), ((su (q0).1 (q0).2 (tk_b x 24), (q0).2 + 1)).2 + 1)).2 + 1)).2) h3 (by omega)) c9)
          have hP : va_P (dC, dI) vwCl [(aR, .inr (12, [.int (nI (tk_4 x q0).2), .ref (rx 0), .ref (rx 1), .ref (rx 2), .int x4, .int x5])), ((rx 0), .inl (cB, 400, .inl ((tk_4 x q0).1)))] H := by rw [show tk_4 x q0 = (su ((su ((su (q0).1 (q0).2 (tk_b x 24), (q0).2 + 1)).1 ((su (q0).1 (q0).2 (tk_b x 24), (q0).2 + 1)).2 (tk_b x 16), ((su (q0).1 (q0).2 (tk_b x 24), (q0).2 + 1)).2 + 1)).1 ((su ((su (q0).1 (q0).2 (tk_b x 24), (q0).2 + 1)).1 ((su (q0).1 (q0).2 (tk_b x 24), (q0).2 + 1)).2 (tk_b x 16), ((su (q0).1 (q0).2 (tk_b x 24), (q0).2 + 1)).2 + 1)).2 (tk_b x 8), ((su ((su (q0).1 (q0).2 (tk_b x 24), (q0).2 + 1)).1 ((su (q0).1 (q0).2 (tk_b x 24), (q0).2 + 1)).2 (tk_b x 16), ((su (q0).1 (q0).2 (tk_b x 24), (q0).2 + 1)).2 + 1)).2 + 1) from by rw [tk_4, tk_1_y (q := q0) h0, tk_1_y (q := (su (q0).1 (q0).2 (tk_b x 24), (q0).2 + 1)) h1, tk_1_y (q := (su ((su (q0).1 (q0).2 (tk_b x 24), (q0).2 + 1)).1 ((su (q0).1 (q0).2 (tk_b x 24), (q0).2 + 1)).2 (tk_b x 16), ((su (q0).1 (q0).2 (tk_b x 24), (q0).2 + 1)).2 + 1)) h2, tk_1_no (q := (su ((su ((su (q0).1 (q0).2 (tk_b x 24), (q0).2 + 1)).1 ((su (q0).1 (q0).2 (tk_b x 24), (q0).2 + 1)).2 (tk_b x 16), ((su (q0).1 (q0).2 (tk_b x 24), (q0).2 + 1)).2 + 1)).1 ((su ((su (q0).1 (q0).2 (tk_b x 24), (q0).2 + 1)).1 ((su (q0).1 (q0).2 (tk_b x 24), (q0).2 + 1)).2 (tk_b x 16), ((su (q0).1 (q0).2 (tk_b x 24), (q0).2 + 1)).2 + 1)).2 (tk_b x 8), ((su ((su (q0).1 (q0).2 (tk_b x 24), (q0).2 + 1)).1 ((su (q0).1 (q0).2 (tk_b x 24), (q0).2 + 1)).2 (tk_b x 16), ((su (q0).1 (q0).2 (tk_b x 24), (q0).2 + 1)).2 + 1)).2 + 1)) (Nat.not_lt.mpr h3)]]; exact hP
          have hD : va_D A [(aR, .inr (12, [.int (nI (tk_4 x q0).2), .ref (rx 0), .ref (rx 1), .ref (rx 2), .int x4, .int x5])), ((rx 0), .inl (cB, 400, .inl ((tk_4 x q0).1)))] := by rw [show tk_4 x q0 = (su ((su ((su (q0).1 (q0).2 (tk_b x 24), (q0).2 + 1)).1 ((su (q0).1 (q0).2 (tk_b x 24), (q0).2 + 1)).2 (tk_b x 16), ((su (q0).1 (q0).2 (tk_b x 24), (q0).2 + 1)).2 + 1)).1 ((su ((su (q0).1 (q0).2 (tk_b x 24), (q0).2 + 1)).1 ((su (q0).1 (q0).2 (tk_b x 24), (q0).2 + 1)).2 (tk_b x 16), ((su (q0).1 (q0).2 (tk_b x 24), (q0).2 + 1)).2 + 1)).2 (tk_b x 8), ((su ((su (q0).1 (q0).2 (tk_b x 24), (q0).2 + 1)).1 ((su (q0).1 (q0).2 (tk_b x 24), (q0).2 + 1)).2 (tk_b x 16), ((su (q0).1 (q0).2 (tk_b x 24), (q0).2 + 1)).2 + 1)).2 + 1) from by rw [tk_4, tk_1_y (q := q0) h0, tk_1_y (q := (su (q0).1 (q0).2 (tk_b x 24), (q0).2 + 1)) h1, tk_1_y (q := (su ((su (q0).1 (q0).2 (tk_b x 24), (q0).2 + 1)).1 ((su (q0).1 (q0).2 (tk_b x 24), (q0).2 + 1)).2 (tk_b x 16), ((su (q0).1 (q0).2 (tk_b x 24), (q0).2 + 1)).2 + 1)) h2, tk_1_no (q := (su ((su ((su (q0).1 (q0).2 (tk_b x 24), (q0).2 + 1)).1 ((su (q0).1 (q0).2 (tk_b x 24), (q0).2 + 1)).2 (tk_b x 16), ((su (q0).1 (q0).2 (tk_b x 24), (q0).2 + 1)).2 + 1)).1 ((su ((su (q0).1 (q0).2 (tk_b x 24), (q0).2 + 1)).1 ((su (q0).1 (q0).2 (tk_b x 24), (q0).2 + 1)).2 (tk_b x 16), ((su (q0).1 (q0).2 (tk_b x 24), (q0).2 + 1)).2 + 1)).2 (tk_b x 8), ((su ((su (q0).1 (q0).2 (tk_b x 24), (q0).2 + 1)).1 ((su (q0).1 (q0).2 (tk_b x 24), (q0).2 + 1)).2 (tk_b x 16), ((su (q0).1 (q0).2 (tk_b x 24), (q0).2 + 1)).2 + 1)).2 + 1)) (Nat.not_lt.mpr h3)]]; exact hD
          rw [hQQ]
          exact W.vret hx hb hr (fun t ht hW => ⟨⟨(), rfl, trivial, by rw [ht]; exact hP, hD⟩, hS.F ht⟩) hS.2.2 dgX9_take_46
      · refine lv_icmp_ge (tgt := 46) hx hb dgX9_take_14 (by decide) (fun _ => ?_) (fun c9 => absurd (nI_le (a := 400) (b := ((su ((su (q0).1 (q0).2 (tk_b x 24), (q0).2 + 1)).1 ((su (q0).1 (q0).2 (tk_b x 24), (q0).2 + 1)).2 (tk_b x 16), ((su (q0).1 (q0).2 (tk_b x 24), (q0).2 + 1)).2 + 1)).2) h2 (by omega)) c9)
        have hP : va_P (dC, dI) vwCl [(aR, .inr (12, [.int (nI (tk_4 x q0).2), .ref (rx 0), .ref (rx 1), .ref (rx 2), .int x4, .int x5])), ((rx 0), .inl (cB, 400, .inl ((tk_4 x q0).1)))] H := by rw [show tk_4 x q0 = (su ((su (q0).1 (q0).2 (tk_b x 24), (q0).2 + 1)).1 ((su (q0).1 (q0).2 (tk_b x 24), (q0).2 + 1)).2 (tk_b x 16), ((su (q0).1 (q0).2 (tk_b x 24), (q0).2 + 1)).2 + 1) from by rw [tk_4, tk_1_y (q := q0) h0, tk_1_y (q := (su (q0).1 (q0).2 (tk_b x 24), (q0).2 + 1)) h1, tk_1_no (q := (su ((su (q0).1 (q0).2 (tk_b x 24), (q0).2 + 1)).1 ((su (q0).1 (q0).2 (tk_b x 24), (q0).2 + 1)).2 (tk_b x 16), ((su (q0).1 (q0).2 (tk_b x 24), (q0).2 + 1)).2 + 1)) (Nat.not_lt.mpr h2), tk_1_no (q := (su ((su (q0).1 (q0).2 (tk_b x 24), (q0).2 + 1)).1 ((su (q0).1 (q0).2 (tk_b x 24), (q0).2 + 1)).2 (tk_b x 16), ((su (q0).1 (q0).2 (tk_b x 24), (q0).2 + 1)).2 + 1)) (Nat.not_lt.mpr h2)]]; exact hP
        have hD : va_D A [(aR, .inr (12, [.int (nI (tk_4 x q0).2), .ref (rx 0), .ref (rx 1), .ref (rx 2), .int x4, .int x5])), ((rx 0), .inl (cB, 400, .inl ((tk_4 x q0).1)))] := by rw [show tk_4 x q0 = (su ((su (q0).1 (q0).2 (tk_b x 24), (q0).2 + 1)).1 ((su (q0).1 (q0).2 (tk_b x 24), (q0).2 + 1)).2 (tk_b x 16), ((su (q0).1 (q0).2 (tk_b x 24), (q0).2 + 1)).2 + 1) from by rw [tk_4, tk_1_y (q := q0) h0, tk_1_y (q := (su (q0).1 (q0).2 (tk_b x 24), (q0).2 + 1)) h1, tk_1_no (q := (su ((su (q0).1 (q0).2 (tk_b x 24), (q0).2 + 1)).1 ((su (q0).1 (q0).2 (tk_b x 24), (q0).2 + 1)).2 (tk_b x 16), ((su (q0).1 (q0).2 (tk_b x 24), (q0).2 + 1)).2 + 1)) (Nat.not_lt.mpr h2), tk_1_no (q := (su ((su (q0).1 (q0).2 (tk_b x 24), (q0).2 + 1)).1 ((su (q0).1 (q0).2 (tk_b x 24), (q0).2 + 1)).2 (tk_b x 16), ((su (q0).1 (q0).2 (tk_b x 24), (q0).2 + 1)).2 + 1)) (Nat.not_lt.mpr h2)]]; exact hD
        rw [hQQ]
        exact W.vret hx hb hr (fun t ht hW => ⟨⟨(), rfl, trivial, by rw [ht]; exact hP, hD⟩, hS.F ht⟩) hS.2.2 dgX9_take_46
    · refine lv_icmp_ge (tgt := 46) hx hb dgX9_take_14 (by decide) (fun _ => ?_) (fun c9 => absurd (nI_le (a := 400) (b := ((su (q0).1 (q0).2 (tk_b x 24), (q0).2 + 1)).2) h1 (by omega)) c9)
      have hP : va_P (dC, dI) vwCl [(aR, .inr (12, [.int (nI (tk_4 x q0).2), .ref (rx 0), .ref (rx 1), .ref (rx 2), .int x4, .int x5])), ((rx 0), .inl (cB, 400, .inl ((tk_4 x q0).1)))] H := by rw [show tk_4 x q0 = (su (q0).1 (q0).2 (tk_b x 24), (q0).2 + 1) from by rw [tk_4, tk_1_y (q := q0) h0, tk_1_no (q := (su (q0).1 (q0).2 (tk_b x 24), (q0).2 + 1)) (Nat.not_lt.mpr h1), tk_1_no (q := (su (q0).1 (q0).2 (tk_b x 24), (q0).2 + 1)) (Nat.not_lt.mpr h1), tk_1_no (q := (su (q0).1 (q0).2 (tk_b x 24), (q0).2 + 1)) (Nat.not_lt.mpr h1)]]; exact hP
      have hD : va_D A [(aR, .inr (12, [.int (nI (tk_4 x q0).2), .ref (rx 0), .ref (rx 1), .ref (rx 2), .int x4, .int x5])), ((rx 0), .inl (cB, 400, .inl ((tk_4 x q0).1)))] := by rw [show tk_4 x q0 = (su (q0).1 (q0).2 (tk_b x 24), (q0).2 + 1) from by rw [tk_4, tk_1_y (q := q0) h0, tk_1_no (q := (su (q0).1 (q0).2 (tk_b x 24), (q0).2 + 1)) (Nat.not_lt.mpr h1), tk_1_no (q := (su (q0).1 (q0).2 (tk_b x 24), (q0).2 + 1)) (Nat.not_lt.mpr h1), tk_1_no (q := (su (q0).1 (q0).2 (tk_b x 24), (q0).2 + 1)) (Nat.not_lt.mpr h1)]]; exact hD
      rw [hQQ]
      exact W.vret hx hb hr (fun t ht hW => ⟨⟨(), rfl, trivial, by rw [ht]; exact hP, hD⟩, hS.F ht⟩) hS.2.2 dgX9_take_46
  · refine lv_icmp_ge (tgt := 46) hx hb dgX9_take_14 (by decide) (fun _ => ?_) (fun c9 => absurd (nI_le (a := 400) (b := (q0).2) h0 (by omega)) c9)
    have hP : va_P (dC, dI) vwCl [(aR, .inr (12, [.int (nI (tk_4 x q0).2), .ref (rx 0), .ref (rx 1), .ref (rx 2), .int x4, .int x5])), ((rx 0), .inl (cB, 400, .inl ((tk_4 x q0).1)))] H := by rw [show tk_4 x q0 = q0 from by rw [tk_4, tk_1_no (q := q0) (Nat.not_lt.mpr h0), tk_1_no (q := q0) (Nat.not_lt.mpr h0), tk_1_no (q := q0) (Nat.not_lt.mpr h0), tk_1_no (q := q0) (Nat.not_lt.mpr h0)]]; exact hP
    have hD : va_D A [(aR, .inr (12, [.int (nI (tk_4 x q0).2), .ref (rx 0), .ref (rx 1), .ref (rx 2), .int x4, .int x5])), ((rx 0), .inl (cB, 400, .inl ((tk_4 x q0).1)))] := by rw [show tk_4 x q0 = q0 from by rw [tk_4, tk_1_no (q := q0) (Nat.not_lt.mpr h0), tk_1_no (q := q0) (Nat.not_lt.mpr h0), tk_1_no (q := q0) (Nat.not_lt.mpr h0), tk_1_no (q := q0) (Nat.not_lt.mpr h0)]]; exact hD
    rw [hQQ]
    exact W.vret hx hb hr (fun t ht hW => ⟨⟨(), rfl, trivial, by rw [ht]; exact hP, hD⟩, hS.F ht⟩) hS.2.2 dgX9_take_46
theorem dgX9_readBraid_0 : decode cX9_readBraid 0 = .ok (.iconst 0, 1) := by decide +kernel
theorem dgX9_readBraid_1 : decode cX9_readBraid 1 = .ok (.istore 4, 2) := by decide +kernel
theorem dgX9_readBraid_3 : decode cX9_readBraid 3 = .ok (.iload 4, 2) := by decide +kernel
theorem dgX9_readBraid_5 : decode cX9_readBraid 5 = .ok (.aload_n 0, 1) := by decide +kernel
theorem dgX9_readBraid_6 : decode cX9_readBraid 6 = .ok (.getfield 22, 3) := by decide +kernel
theorem dgX9_readBraid_9 : decode cX9_readBraid 9 = .ok (.if_icmp .ge 101, 3) := by decide +kernel
theorem dgX9_readBraid_12 : decode cX9_readBraid 12 = .ok (.aload_n 0, 1) := by decide +kernel
theorem dgX9_readBraid_13 : decode cX9_readBraid 13 = .ok (.getfield 9, 3) := by decide +kernel
theorem dgX9_readBraid_16 : decode cX9_readBraid 16 = .ok (.iload 4, 2) := by decide +kernel
theorem dgX9_readBraid_18 : decode cX9_readBraid 18 = .ok (.baload, 1) := by decide +kernel
theorem dgX9_readBraid_19 : decode cX9_readBraid 19 = .ok (.bipush 97, 2) := by decide +kernel
theorem dgX9_readBraid_21 : decode cX9_readBraid 21 = .ok (.isub, 1) := by decide +kernel
theorem dgX9_readBraid_22 : decode cX9_readBraid 22 = .ok (.istore 5, 2) := by decide +kernel
theorem dgX9_readBraid_24 : decode cX9_readBraid 24 = .ok (.aload_n 0, 1) := by decide +kernel
theorem dgX9_readBraid_25 : decode cX9_readBraid 25 = .ok (.getfield 9, 3) := by decide +kernel
theorem dgX9_readBraid_28 : decode cX9_readBraid 28 = .ok (.iload 4, 2) := by decide +kernel
theorem dgX9_readBraid_30 : decode cX9_readBraid 30 = .ok (.baload, 1) := by decide +kernel
theorem dgX9_readBraid_31 : decode cX9_readBraid 31 = .ok (.bipush 65, 2) := by decide +kernel
theorem dgX9_readBraid_33 : decode cX9_readBraid 33 = .ok (.isub, 1) := by decide +kernel
theorem dgX9_readBraid_34 : decode cX9_readBraid 34 = .ok (.istore 6, 2) := by decide +kernel
theorem dgX9_readBraid_36 : decode cX9_readBraid 36 = .ok (.iload 4, 2) := by decide +kernel
theorem dgX9_readBraid_38 : decode cX9_readBraid 38 = .ok (.bipush 16, 2) := by decide +kernel
theorem dgX9_readBraid_40 : decode cX9_readBraid 40 = .ok (.if_icmp .lt 6, 3) := by decide +kernel
theorem dgX9_readBraid_43 : decode cX9_readBraid 43 = .ok (.iload 4, 2) := by decide +kernel
theorem dgX9_readBraid_45 : decode cX9_readBraid 45 = .ok (.ireturn, 1) := by decide +kernel
theorem dgX9_readBraid_46 : decode cX9_readBraid 46 = .ok (.iload 5, 2) := by decide +kernel
theorem dgX9_readBraid_48 : decode cX9_readBraid 48 = .ok (.ifCond .lt 25, 3) := by decide +kernel
theorem dgX9_readBraid_51 : decode cX9_readBraid 51 = .ok (.iload 5, 2) := by decide +kernel
theorem dgX9_readBraid_53 : decode cX9_readBraid 53 = .ok (.iload_n 1, 1) := by decide +kernel
theorem dgX9_readBraid_54 : decode cX9_readBraid 54 = .ok (.iconst 1, 1) := by decide +kernel
theorem dgX9_readBraid_55 : decode cX9_readBraid 55 = .ok (.isub, 1) := by decide +kernel
theorem dgX9_readBraid_56 : decode cX9_readBraid 56 = .ok (.if_icmp .ge 17, 3) := by decide +kernel
theorem dgX9_readBraid_59 : decode cX9_readBraid 59 = .ok (.aload_n 2, 1) := by decide +kernel
theorem dgX9_readBraid_60 : decode cX9_readBraid 60 = .ok (.iload_n 3, 1) := by decide +kernel
theorem dgX9_readBraid_61 : decode cX9_readBraid 61 = .ok (.iload 4, 2) := by decide +kernel
theorem dgX9_readBraid_63 : decode cX9_readBraid 63 = .ok (.iadd, 1) := by decide +kernel
theorem dgX9_readBraid_64 : decode cX9_readBraid 64 = .ok (.iload 5, 2) := by decide +kernel
theorem dgX9_readBraid_66 : decode cX9_readBraid 66 = .ok (.iconst 1, 1) := by decide +kernel
theorem dgX9_readBraid_67 : decode cX9_readBraid 67 = .ok (.iadd, 1) := by decide +kernel
theorem dgX9_readBraid_68 : decode cX9_readBraid 68 = .ok (.i2b, 1) := by decide +kernel
theorem dgX9_readBraid_69 : decode cX9_readBraid 69 = .ok (.bastore, 1) := by decide +kernel
theorem dgX9_readBraid_70 : decode cX9_readBraid 70 = .ok (.goto 34, 3) := by decide +kernel
theorem dgX9_readBraid_73 : decode cX9_readBraid 73 = .ok (.iload 6, 2) := by decide +kernel
theorem dgX9_readBraid_75 : decode cX9_readBraid 75 = .ok (.ifCond .lt 26, 3) := by decide +kernel
theorem dgX9_readBraid_78 : decode cX9_readBraid 78 = .ok (.iload 6, 2) := by decide +kernel
theorem dgX9_readBraid_80 : decode cX9_readBraid 80 = .ok (.iload_n 1, 1) := by decide +kernel
theorem dgX9_readBraid_81 : decode cX9_readBraid 81 = .ok (.iconst 1, 1) := by decide +kernel
theorem dgX9_readBraid_82 : decode cX9_readBraid 82 = .ok (.isub, 1) := by decide +kernel
theorem dgX9_readBraid_83 : decode cX9_readBraid 83 = .ok (.if_icmp .ge 18, 3) := by decide +kernel
theorem dgX9_readBraid_86 : decode cX9_readBraid 86 = .ok (.aload_n 2, 1) := by decide +kernel
theorem dgX9_readBraid_87 : decode cX9_readBraid 87 = .ok (.iload_n 3, 1) := by decide +kernel
theorem dgX9_readBraid_88 : decode cX9_readBraid 88 = .ok (.iload 4, 2) := by decide +kernel
theorem dgX9_readBraid_90 : decode cX9_readBraid 90 = .ok (.iadd, 1) := by decide +kernel
theorem dgX9_readBraid_91 : decode cX9_readBraid 91 = .ok (.iload 6, 2) := by decide +kernel
theorem dgX9_readBraid_93 : decode cX9_readBraid 93 = .ok (.iconst 1, 1) := by decide +kernel
theorem dgX9_readBraid_94 : decode cX9_readBraid 94 = .ok (.iadd, 1) := by decide +kernel
theorem dgX9_readBraid_95 : decode cX9_readBraid 95 = .ok (.ineg, 1) := by decide +kernel
theorem dgX9_readBraid_96 : decode cX9_readBraid 96 = .ok (.i2b, 1) := by decide +kernel
theorem dgX9_readBraid_97 : decode cX9_readBraid 97 = .ok (.bastore, 1) := by decide +kernel
theorem dgX9_readBraid_98 : decode cX9_readBraid 98 = .ok (.goto 6, 3) := by decide +kernel
theorem dgX9_readBraid_101 : decode cX9_readBraid 101 = .ok (.iload 4, 2) := by decide +kernel
theorem dgX9_readBraid_103 : decode cX9_readBraid 103 = .ok (.ireturn, 1) := by decide +kernel
theorem dgX9_readBraid_104 : decode cX9_readBraid 104 = .ok (.iinc 4 1, 3) := by decide +kernel
theorem dgX9_readBraid_107 : decode cX9_readBraid 107 = .ok (.goto (-104), 3) := by decide +kernel
theorem dgX9_readBraid_110 : decode cX9_readBraid 110 = .ok (.iconst (-1), 1) := by decide +kernel
theorem dgX9_readBraid_111 : decode cX9_readBraid 111 = .ok (.ireturn, 1) := by decide +kernel
def wg_X9_readBraid : List Cond := .code yX9_readBraid cX9_readBraid 7 (some .int) :: (([.fieldLink RX9 22 "KnotHouse$Reader" "length" "I", .fieldLink RX9 9 "KnotHouse$Reader" "tape" "[B"] ++ wsX90) ++ [])
set_option maxHeartbeats 4000000 in
set_option maxRecDepth 100000 in
theorem kg_X9_readBraid (l : Launch) (dC : Nat → ClassId) (dI : Nat → Nat → Nat) (cI cB cJ cZ : ClassId) (aR : Nat) (rx : Nat → Nat) (tp : Nat → Int32) (n : Nat) (hn : n ≤ 400) (x4 x5 : Int32) (aL nL : Nat) (Lt : Nat → Int32) (ns into : Nat) (hnL : nL < 2 ^ 24) (hin : into + 16 ≤ nL) (sz : Nat) : Met l yX9_readBraid wg_X9_readBraid (({ frames := 0, cells := 0, slots := 0, locals := 0 } : Room)) (va_Pc [.ref aR, .int (nI ns), .ref aL, .int (nI into)] (fun U => U.heap.size = sz ∧ va_P (dC, dI) vwCl [(aR, .inr (12, [.int (nI n), .ref (rx 0), .ref (rx 1), .ref (rx 2), .int x4, .int x5])), ((rx 0), .inl (cB, 400, .inl tp)), (aL, .inl (cB, nL, .inl Lt))] U.heap ∧ va_K (dC, dI) vwCl [(cI, .int), (cB, .byte), (cJ, .long), (cZ, .boolean)] U ∧ va_D (fun _ => True) [(aR, .inr (12, [.int (nI n), .ref (rx 0), .ref (rx 1), .ref (rx 2), .int x4, .int x5])), ((rx 0), .inl (cB, 400, .inl tp)), (aL, .inl (cB, nL, .inl Lt))])) (va_Qi (fun r (g : Unit) => r = onI (rb_run tp ns into n 0 Lt).2) (fun g t => va_P (dC, dI) vwCl [(aR, .inr (12, [.int (nI n), .ref (rx 0), .ref (rx 1), .ref (rx 2), .int x4, .int x5])), ((rx 0), .inl (cB, 400, .inl tp)), (aL, .inl (cB, nL, .inl ((rb_run tp ns into n 0 Lt).1)))] t.heap ∧ va_D (va_A [(aR, .inr (12, [.int (nI n), .ref (rx 0), .ref (rx 1), .ref (rx 2), .int x4, .int x5])), ((rx 0), .inl (cB, 400, .inl tp)), (aL, .inl (cB, nL, .inl Lt))] sz) [(aR, .inr (12, [.int (nI n), .ref (rx 0), .ref (rx 1), .ref (rx 2), .int x4, .int x5])), ((rx 0), .inl (cB, 400, .inl tp)), (aL, .inl (cB, nL, .inl ((rb_run tp ns into n 0 Lt).1)))]) (va_A [(aR, .inr (12, [.int (nI n), .ref (rx 0), .ref (rx 1), .ref (rx 2), .int x4, .int x5])), ((rx 0), .inl (cB, 400, .inl tp)), (aL, .inl (cB, nL, .inl Lt))] sz)) 0 0 (va_A [(aR, .inr (12, [.int (nI n), .ref (rx 0), .ref (rx 1), .ref (rx 2), .int x4, .int x5])), ((rx 0), .inl (cB, 400, .inl tp)), (aL, .inl (cB, nL, .inl Lt))] sz) := by
  refine Met.ofW (cc := cX9_readBraid) (maxL := 7) (ret := (some .int)) (by decide) rfl ?_
  intro p e s m args below meth c s₁ B hml hv
  obtain ⟨rfl, hsz, hP, hK, hD0⟩ := hv
  have hx := B.exec
  have hb := B.bytes
  have hr := B.returns
  have hts := atoms_spec (ws := wg_X9_readBraid) B.pre
  have hown : s.vm.findClass RX9 = some m.cls := findClass_of_methodNamed B.named
  have hlocks := B.notSynchronized
  subst hsz
  have hD := hD0.self (sz := s.heap.size)
  generalize hAe : va_A [(aR, .inr (12, [.int (nI n), .ref (rx 0), .ref (rx 1), .ref (rx 2), .int x4, .int x5])), ((rx 0), .inl (cB, 400, .inl tp)), (aL, .inl (cB, nL, .inl Lt))] s.heap.size = A at hD ⊢
  have hA : ∀ q : Nat, s.heap.size ≤ q → A q := fun q h => by rw [← hAe]; exact Or.inr h
  have hS : va_S A s.heap s.heap [] := va_S.rf
  have hP : va_P (dC, dI) vwCl [(aR, .inr (12, [.int (nI n), .ref (rx 0), .ref (rx 1), .ref (rx 2), .int x4, .int x5])), ((rx 0), .inl (cB, 400, .inl tp)), (aL, .inl (cB, nL, .inl Lt))] s.heap := hP
  have hl := lv_entry ([.ref aR, .int (nI ns), .ref aL, .int (nI into)]) (n := 7) (Nat.le_of_ble_eq_true rfl)
  rw [lg_entry_eq]
  generalize (lg_sl ([.ref aR, .int (nI ns), .ref aL, .int (nI into)]) ++ List.replicate (7 - (lg_sl ([.ref aR, .int (nI ns), .ref aL, .int (nI into)])).length) Slot.unset).toArray = ls at hl ⊢
  have hl : lv_has ls 7 [(0, .ref aR), (1, .int (nI ns)), (2, .ref aL), (3, .int (nI into))] := hl
  refine ow_named (fun QQ hQQ => ?_)
  suffices key9 : ∀ (H : Heap) (locs : List Loc), va_P (dC, dI) vwCl [(aR, .inr (12, [.int (nI n), .ref (rx 0), .ref (rx 1), .ref (rx 2), .int x4, .int x5])), ((rx 0), .inl (cB, 400, .inl tp)), (aL, .inl (cB, nL, .inl Lt))] H → va_S A s.heap H locs → W p l e ({ frames := 0, cells := 0, slots := 0, locals := 0 } : Room) s m ([.ref aR, .int (nI ns), .ref aL, .int (nI into)] : List Value).toArray below meth c H locs 0 0 QQ (F0 m 0 ls []) from key9 s.heap [] hP hS
  intro H locs hP hS
  have L3 : ∀ (d i : Nat) (f : Nat → Int32), i + d = n → (rb_run tp ns into n 0 Lt) = rb_run tp ns into d i f → ∀ (H : Heap) (locs : List Loc) (ls : Array Slot), va_P (dC, dI) vwCl [(aR, .inr (12, [.int (nI n), .ref (rx 0), .ref (rx 1), .ref (rx 2), .int x4, .int x5])), ((rx 0), .inl (cB, 400, .inl tp)), (aL, .inl (cB, nL, .inl f))] H → va_D A [(aR, .inr (12, [.int (nI n), .ref (rx 0), .ref (rx 1), .ref (rx 2), .int x4, .int x5])), ((rx 0), .inl (cB, 400, .inl tp)), (aL, .inl (cB, nL, .inl f))] → va_S A s.heap H locs → lv_has ls 7 [(0, .ref aR), (1, .int (nI ns)), (2, .ref aL), (3, .int (nI into)), (4, .int (nI i))] → W p l e ({ frames := 0, cells := 0, slots := 0, locals := 0 } : Room) s m ([.ref aR, .int (nI ns), .ref aL, .int (nI into)] : List Value).toArray below meth c H locs 0 0 QQ (F0 m 3 ls []) := by
    intro d
    induction d with
    | zero =>
      intro i f hi hq H locs ls hP hD hS hl
      refine lv_iload hx hb dgX9_readBraid_3 (lv_at hl 4 rfl) ?_
      refine lv_aload_n hx hb dgX9_readBraid_5 rfl (lv_at hl 0 rfl) ?_
      refine va_get (D := (dC, dI)) (ci := 12) (v := .int (nI n)) (C := RX9) (T := TX9) (N := 6) hx hb hts (fun _ h => List.mem_cons_of_mem _ (List.mem_append_left _ (List.mem_append_right _ h))) hown hK hP 0 rfl rfl 0 (by decide) (hts (.fieldLink RX9 22 "KnotHouse$Reader" "length" "I") (by decide +kernel)) (fun _ h9 => h9) rfl dgX9_readBraid_6 ?_
      refine lv_icmp_ge (tgt := 110) hx hb dgX9_readBraid_9 (by decide) (fun _ => ?_) (fun c9 => absurd (nI_le (a := n) (b := i) (by omega) (by omega)) c9)
      refine lv_iconst (v := (-1)) hx hb dgX9_readBraid_110 (by decide) ?_
      have hP : va_P (dC, dI) vwCl [(aR, .inr (12, [.int (nI n), .ref (rx 0), .ref (rx 1), .ref (rx 2), .int x4, .int x5])), ((rx 0), .inl (cB, 400, .inl tp)), (aL, .inl (cB, nL, .inl ((rb_run tp ns into n 0 Lt).1)))] H := by rw [show (rb_run tp ns into n 0 Lt) = (f, none) from hq]; exact hP
      have hD : va_D A [(aR, .inr (12, [.int (nI n), .ref (rx 0), .ref (rx 1), .ref (rx 2), .int x4, .int x5])), ((rx 0), .inl (cB, 400, .inl tp)), (aL, .inl (cB, nL, .inl ((rb_run tp ns into n 0 Lt).1)))] := by rw [show (rb_run tp ns into n 0 Lt) = (f, none) from hq]; exact hD
      rw [hQQ]
      exact W.iret (v := (-1)) hx hb hr (fun t ht hW => ⟨⟨(-1), (), rfl, by rw [hq]; rfl, by rw [ht]; exact hP, hD⟩, hS.F ht⟩) hS.2.2 dgX9_readBraid_111
    | succ d ih =>
      intro i f hi hq H locs ls hP hD hS hl
      rw [rb_run] at hq
      refine lv_iload hx hb dgX9_readBraid_3 (lv_at hl 4 rfl) ?_
      refine lv_aload_n hx hb dgX9_readBraid_5 rfl (lv_at hl 0 rfl) ?_
      refine va_get (D := (dC, dI)) (ci := 12) (v := .int (nI n)) (C := RX9) (T := TX9) (N := 6) hx hb hts (fun _ h => List.mem_cons_of_mem _ (List.mem_append_left _ (List.mem_append_right _ h))) hown hK hP 0 rfl rfl 0 (by decide) (hts (.fieldLink RX9 22 "KnotHouse$Reader" "length" "I") (by decide +kernel)) (fun _ h9 => h9) rfl dgX9_readBraid_6 ?_
      refine lv_icmp_ge (tgt := 110) hx hb dgX9_readBraid_9 (by decide) (fun c9 => absurd c9 (nI_ge (a := i) (b := n) (by omega) (by omega))) (fun _ => ?_)
      refine lv_aload_n hx hb dgX9_readBraid_12 rfl (lv_at hl 0 rfl) ?_
      refine va_get (D := (dC, dI)) (ci := 12) (v := .ref (rx 0)) (C := RX9) (T := TX9) (N := 6) hx hb hts (fun _ h => List.mem_cons_of_mem _ (List.mem_append_left _ (List.mem_append_right _ h))) hown hK hP 0 rfl rfl 1 (by decide) (hts (.fieldLink RX9 9 "KnotHouse$Reader" "tape" "[B") (by decide +kernel)) (fun _ h9 => h9) rfl dgX9_readBraid_13 ?_
      refine lv_iload hx hb dgX9_readBraid_16 (lv_at hl 4 rfl) ?_
      refine va_bald hx hb hK hP 1 1 rfl rfl (vp_in_nI (n := i) (N := 400) (by omega) (by decide)) dgX9_readBraid_18 ?_
      refine ow_topi (y := tp i) (congrArg tp (nI_clamp (n := i) (Nat.lt_trans (m := 400) (by omega) (by decide)))) ?_
      refine lv_bipush (v := 97) hx hb dgX9_readBraid_19 (by decide) ?_
      refine lv_isub hx hb dgX9_readBraid_21 ?_
      refine lv_istore (lv' := [(5, .int ((tp i) - 97)), (0, .ref aR), (1, .int (nI ns)), (2, .ref aL), (3, .int (nI into)), (4, .int (nI i))]) hx hb dgX9_readBraid_22 hl (by decide) rfl (fun ls hl => ?_)
      refine lv_aload_n hx hb dgX9_readBraid_24 rfl (lv_at hl 1 rfl) ?_
      refine va_get (D := (dC, dI)) (ci := 12) (v := .ref (rx 0)) (C := RX9) (T := TX9) (N := 6) hx hb hts (fun _ h => List.mem_cons_of_mem _ (List.mem_append_left _ (List.mem_append_right _ h))) hown hK hP 0 rfl rfl 1 (by decide) (hts (.fieldLink RX9 9 "KnotHouse$Reader" "tape" "[B") (by decide +kernel)) (fun _ h9 => h9) rfl dgX9_readBraid_25 ?_
      refine lv_iload hx hb dgX9_readBraid_28 (lv_at hl 5 rfl) ?_
      refine va_bald hx hb hK hP 1 1 rfl rfl (vp_in_nI (n := i) (N := 400) (by omega) (by decide)) dgX9_readBraid_30 ?_
      refine ow_topi (y := tp i) (congrArg tp (nI_clamp (n := i) (Nat.lt_trans (m := 400) (by omega) (by decide)))) ?_
      refine lv_bipush (v := 65) hx hb dgX9_readBraid_31 (by decide) ?_
      refine lv_isub hx hb dgX9_readBraid_33 ?_
      refine lv_istore (lv' := [(6, .int ((tp i) - 65)), (5, .int ((tp i) - 97)), (0, .ref aR), (1, .int (nI ns)), (2, .ref aL), (3, .int (nI into)), (4, .int (nI i))]) hx hb dgX9_readBraid_34 hl (by decide) rfl (fun ls hl => ?_)
      refine lv_iload hx hb dgX9_readBraid_36 (lv_at hl 6 rfl) ?_
      refine lv_bipush (v := 16) hx hb dgX9_readBraid_38 (by decide) ?_
      rcases Nat.lt_or_ge i 16 with h16 | h16
      · rw [if_neg (Nat.not_le.mpr h16)] at hq
        refine lv_icmp_lt (tgt := 46) hx hb dgX9_readBraid_40 (by decide) (fun _ => ?_) (fun c9 => absurd (nI_lt (a := i) (b := 16) h16 (by decide)) c9)
        refine lv_iload hx hb dgX9_readBraid_46 (lv_at hl 1 rfl) ?_
        rcases Decidable.em (0 ≤ tp i - 97 ∧ tp i - 97 < nI ns - 1) with ha | ha
        · rw [rb_val, if_pos ha] at hq
          refine lv_if_lt (tgt := 73) hx hb dgX9_readBraid_48 (by decide) (fun c9 => absurd c9 (Int32.not_lt.mpr ha.1)) (fun _ => ?_)
          refine lv_iload hx hb dgX9_readBraid_51 (lv_at hl 1 rfl) ?_
          refine lv_iload_n hx hb dgX9_readBraid_53 rfl (lv_at hl 3 rfl) ?_
          refine lv_iconst (v := 1) hx hb dgX9_readBraid_54 (by decide) ?_
          refine lv_isub hx hb dgX9_readBraid_55 ?_
          refine lv_icmp_ge (tgt := 73) hx hb dgX9_readBraid_56 (by decide) (fun c9 => absurd c9 (Int32.not_le.mpr ha.2)) (fun _ => ?_)
          refine lv_aload_n hx hb dgX9_readBraid_59 rfl (lv_at hl 4 rfl) ?_
          refine lv_iload_n hx hb dgX9_readBraid_60 rfl (lv_at hl 5 rfl) ?_
          refine lv_iload hx hb dgX9_readBraid_61 (lv_at hl 6 rfl) ?_
          refine lv_iadd hx hb dgX9_readBraid_63 ?_
          refine ow_topi (y := nI (into + i)) (nI_add into i) ?_
          refine lv_iload hx hb dgX9_readBraid_64 (lv_at hl 1 rfl) ?_
          refine lv_iconst (v := 1) hx hb dgX9_readBraid_66 (by decide) ?_
          refine lv_iadd hx hb dgX9_readBraid_67 ?_
          refine lv_i2b hx hb dgX9_readBraid_68 rfl ?_
          refine ow_bastF (j := into + i) (z := tp i - 97 + 1) hx hb hK hP hD hS 2 1 rfl rfl (by omega) (by omega) dgX9_readBraid_69 (fun H locs hP hD hS => ?_)
          have hP : va_P (dC, dI) vwCl [(aR, .inr (12, [.int (nI n), .ref (rx 0), .ref (rx 1), .ref (rx 2), .int x4, .int x5])), ((rx 0), .inl (cB, 400, .inl tp)), (aL, .inl (cB, nL, .inl (su f (into + i) (tp i - 97 + 1).toInt8.toInt32)))] H := hP
          have hD : va_D A [(aR, .inr (12, [.int (nI n), .ref (rx 0), .ref (rx 1), .ref (rx 2), .int x4, .int x5])), ((rx 0), .inl (cB, 400, .inl tp)), (aL, .inl (cB, nL, .inl (su f (into + i) (tp i - 97 + 1).toInt8.toInt32)))] := hD
          refine lv_goto (tgt := 104) hx hb dgX9_readBraid_70 (by decide) ?_
          refine lv_iinc (v := nI (i + 1)) (lv' := [(4, .int (nI (i + 1))), (6, .int ((tp i) - 65)), (5, .int ((tp i) - 97)), (0, .ref aR), (1, .int (nI ns)), (2, .ref aL), (3, .int (nI into))]) hx hb dgX9_readBraid_104 hl (k := 6) rfl (nI_1 i) (by decide) rfl (fun ls hl => ?_)
          refine lv_goto (tgt := 3) hx hb dgX9_readBraid_107 (by decide) ?_
          exact ih (i + 1) _ (by omega) hq H locs ls hP hD hS (lv_sub hl [3, 4, 5, 6, 0] rfl)
        · rw [rb_val, if_neg ha] at hq
          rcases Decidable.em (tp i - 97 < 0) with hd8 | hd8
          · refine lv_if_lt (tgt := 73) hx hb dgX9_readBraid_48 (by decide) (fun _ => ?_) (fun c9 => absurd (hd8) c9)
            rcases Decidable.em (0 ≤ tp i - 65 ∧ tp i - 65 < nI ns - 1) with hc9 | hc9
            · rw [if_pos hc9] at hq
              refine lv_iload hx hb dgX9_readBraid_73 (lv_at hl 0 rfl) ?_
              refine lv_if_lt (tgt := 101) hx hb dgX9_readBraid_75 (by decide) (fun c9 => absurd c9 (Int32.not_lt.mpr hc9.1)) (fun _ => ?_)
              refine lv_iload hx hb dgX9_readBraid_78 (lv_at hl 0 rfl) ?_
              refine lv_iload_n hx hb dgX9_readBraid_80 rfl (lv_at hl 3 rfl) ?_
              refine lv_iconst (v := 1) hx hb dgX9_readBraid_81 (by decide) ?_
              refine lv_isub hx hb dgX9_readBraid_82 ?_
              refine lv_icmp_ge (tgt := 101) hx hb dgX9_readBraid_83 (by decide) (fun c9 => absurd c9 (Int32.not_le.mpr hc9.2)) (fun _ => ?_)
              refine lv_aload_n hx hb dgX9_readBraid_86 rfl (lv_at hl 4 rfl) ?_
              refine lv_iload_n hx hb dgX9_readBraid_87 rfl (lv_at hl 5 rfl) ?_
              refine lv_iload hx hb dgX9_readBraid_88 (lv_at hl 6 rfl) ?_
              refine lv_iadd hx hb dgX9_readBraid_90 ?_
              refine ow_topi (y := nI (into + i)) (nI_add into i) ?_
              refine lv_iload hx hb dgX9_readBraid_91 (lv_at hl 0 rfl) ?_
              refine lv_iconst (v := 1) hx hb dgX9_readBraid_93 (by decide) ?_
              refine lv_iadd hx hb dgX9_readBraid_94 ?_
              refine lv_ineg hx hb dgX9_readBraid_95 ?_
              refine lv_i2b hx hb dgX9_readBraid_96 rfl ?_
              refine ow_bastF (j := into + i) (z := -(tp i - 65 + 1)) hx hb hK hP hD hS 2 1 rfl rfl (by omega) (by omega) dgX9_readBraid_97 (fun H locs hP hD hS => ?_)
              have hP : va_P (dC, dI) vwCl [(aR, .inr (12, [.int (nI n), .ref (rx 0), .ref (rx 1), .ref (rx 2), .int x4, .int x5])), ((rx 0), .inl (cB, 400, .inl tp)), (aL, .inl (cB, nL, .inl (su f (into + i) (-(tp i - 65 + 1)).toInt8.toInt32)))] H := hP
              have hD : va_D A [(aR, .inr (12, [.int (nI n), .ref (rx 0), .ref (rx 1), .ref (rx 2), .int x4, .int x5])), ((rx 0), .inl (cB, 400, .inl tp)), (aL, .inl (cB, nL, .inl (su f (into + i) (-(tp i - 65 + 1)).toInt8.toInt32)))] := hD
              refine lv_goto (tgt := 104) hx hb dgX9_readBraid_98 (by decide) ?_
              refine lv_iinc (v := nI (i + 1)) (lv' := [(4, .int (nI (i + 1))), (6, .int ((tp i) - 65)), (5, .int ((tp i) - 97)), (0, .ref aR), (1, .int (nI ns)), (2, .ref aL), (3, .int (nI into))]) hx hb dgX9_readBraid_104 hl (k := 6) rfl (nI_1 i) (by decide) rfl (fun ls hl => ?_)
              refine lv_goto (tgt := 3) hx hb dgX9_readBraid_107 (by decide) ?_
              exact ih (i + 1) _ (by omega) hq H locs ls hP hD hS (lv_sub hl [3, 4, 5, 6, 0] rfl)
            · rw [if_neg hc9] at hq
              refine lv_iload hx hb dgX9_readBraid_73 (lv_at hl 0 rfl) ?_
              rcases Decidable.em (tp i - 65 < 0) with hd9 | hd9
              · refine lv_if_lt (tgt := 101) hx hb dgX9_readBraid_75 (by decide) (fun _ => ?_) (fun c9 => absurd (hd9) c9)
                refine lv_iload hx hb dgX9_readBraid_101 (lv_at hl 6 rfl) ?_
                have hP : va_P (dC, dI) vwCl [(aR, .inr (12, [.int (nI n), .ref (rx 0), .ref (rx 1), .ref (rx 2), .int x4, .int x5])), ((rx 0), .inl (cB, 400, .inl tp)), (aL, .inl (cB, nL, .inl ((rb_run tp ns into n 0 Lt).1)))] H := by rw [show (rb_run tp ns into n 0 Lt) = (f, some i) from hq]; exact hP
                have hD : va_D A [(aR, .inr (12, [.int (nI n), .ref (rx 0), .ref (rx 1), .ref (rx 2), .int x4, .int x5])), ((rx 0), .inl (cB, 400, .inl tp)), (aL, .inl (cB, nL, .inl ((rb_run tp ns into n 0 Lt).1)))] := by rw [show (rb_run tp ns into n 0 Lt) = (f, some i) from hq]; exact hD
                rw [hQQ]
                exact W.iret (v := (nI i)) hx hb hr (fun t ht hW => ⟨⟨(nI i), (), rfl, by rw [hq]; rfl, by rw [ht]; exact hP, hD⟩, hS.F ht⟩) hS.2.2 dgX9_readBraid_103
              · refine lv_if_lt (tgt := 101) hx hb dgX9_readBraid_75 (by decide) (fun c9 => absurd c9 (hd9)) (fun _ => ?_)
                refine lv_iload hx hb dgX9_readBraid_78 (lv_at hl 0 rfl) ?_
                refine lv_iload_n hx hb dgX9_readBraid_80 rfl (lv_at hl 3 rfl) ?_
                refine lv_iconst (v := 1) hx hb dgX9_readBraid_81 (by decide) ?_
                refine lv_isub hx hb dgX9_readBraid_82 ?_
                refine lv_icmp_ge (tgt := 101) hx hb dgX9_readBraid_83 (by decide) (fun _ => ?_) (fun c9 => absurd (Int32.not_lt.mp (fun h9 => hc9 ⟨Int32.not_lt.mp hd9, h9⟩)) c9)
                refine lv_iload hx hb dgX9_readBraid_101 (lv_at hl 6 rfl) ?_
                have hP : va_P (dC, dI) vwCl [(aR, .inr (12, [.int (nI n), .ref (rx 0), .ref (rx 1), .ref (rx 2), .int x4, .int x5])), ((rx 0), .inl (cB, 400, .inl tp)), (aL, .inl (cB, nL, .inl ((rb_run tp ns into n 0 Lt).1)))] H := by rw [show (rb_run tp ns into n 0 Lt) = (f, some i) from hq]; exact hP
                have hD : va_D A [(aR, .inr (12, [.int (nI n), .ref (rx 0), .ref (rx 1), .ref (rx 2), .int x4, .int x5])), ((rx 0), .inl (cB, 400, .inl tp)), (aL, .inl (cB, nL, .inl ((rb_run tp ns into n 0 Lt).1)))] := by rw [show (rb_run tp ns into n 0 Lt) = (f, some i) from hq]; exact hD
                rw [hQQ]
                exact W.iret (v := (nI i)) hx hb hr (fun t ht hW => ⟨⟨(nI i), (), rfl, by rw [hq]; rfl, by rw [ht]; exact hP, hD⟩, hS.F ht⟩) hS.2.2 dgX9_readBraid_103
          · refine lv_if_lt (tgt := 73) hx hb dgX9_readBraid_48 (by decide) (fun c9 => absurd c9 (hd8)) (fun _ => ?_)
            refine lv_iload hx hb dgX9_readBraid_51 (lv_at hl 1 rfl) ?_
            refine lv_iload_n hx hb dgX9_readBraid_53 rfl (lv_at hl 3 rfl) ?_
            refine lv_iconst (v := 1) hx hb dgX9_readBraid_54 (by decide) ?_
            refine lv_isub hx hb dgX9_readBraid_55 ?_
            refine lv_icmp_ge (tgt := 73) hx hb dgX9_readBraid_56 (by decide) (fun _ => ?_) (fun c9 => absurd (Int32.not_lt.mp (fun h9 => ha ⟨Int32.not_lt.mp hd8, h9⟩)) c9)
            rcases Decidable.em (0 ≤ tp i - 65 ∧ tp i - 65 < nI ns - 1) with hc9 | hc9
            · rw [if_pos hc9] at hq
              refine lv_iload hx hb dgX9_readBraid_73 (lv_at hl 0 rfl) ?_
              refine lv_if_lt (tgt := 101) hx hb dgX9_readBraid_75 (by decide) (fun c9 => absurd c9 (Int32.not_lt.mpr hc9.1)) (fun _ => ?_)
              refine lv_iload hx hb dgX9_readBraid_78 (lv_at hl 0 rfl) ?_
              refine lv_iload_n hx hb dgX9_readBraid_80 rfl (lv_at hl 3 rfl) ?_
              refine lv_iconst (v := 1) hx hb dgX9_readBraid_81 (by decide) ?_
              refine lv_isub hx hb dgX9_readBraid_82 ?_
              refine lv_icmp_ge (tgt := 101) hx hb dgX9_readBraid_83 (by decide) (fun c9 => absurd c9 (Int32.not_le.mpr hc9.2)) (fun _ => ?_)
              refine lv_aload_n hx hb dgX9_readBraid_86 rfl (lv_at hl 4 rfl) ?_
              refine lv_iload_n hx hb dgX9_readBraid_87 rfl (lv_at hl 5 rfl) ?_
              refine lv_iload hx hb dgX9_readBraid_88 (lv_at hl 6 rfl) ?_
              refine lv_iadd hx hb dgX9_readBraid_90 ?_
              refine ow_topi (y := nI (into + i)) (nI_add into i) ?_
              refine lv_iload hx hb dgX9_readBraid_91 (lv_at hl 0 rfl) ?_
              refine lv_iconst (v := 1) hx hb dgX9_readBraid_93 (by decide) ?_
              refine lv_iadd hx hb dgX9_readBraid_94 ?_
              refine lv_ineg hx hb dgX9_readBraid_95 ?_
              refine lv_i2b hx hb dgX9_readBraid_96 rfl ?_
              refine ow_bastF (j := into + i) (z := -(tp i - 65 + 1)) hx hb hK hP hD hS 2 1 rfl rfl (by omega) (by omega) dgX9_readBraid_97 (fun H locs hP hD hS => ?_)
              have hP : va_P (dC, dI) vwCl [(aR, .inr (12, [.int (nI n), .ref (rx 0), .ref (rx 1), .ref (rx 2), .int x4, .int x5])), ((rx 0), .inl (cB, 400, .inl tp)), (aL, .inl (cB, nL, .inl (su f (into + i) (-(tp i - 65 + 1)).toInt8.toInt32)))] H := hP
              have hD : va_D A [(aR, .inr (12, [.int (nI n), .ref (rx 0), .ref (rx 1), .ref (rx 2), .int x4, .int x5])), ((rx 0), .inl (cB, 400, .inl tp)), (aL, .inl (cB, nL, .inl (su f (into + i) (-(tp i - 65 + 1)).toInt8.toInt32)))] := hD
              refine lv_goto (tgt := 104) hx hb dgX9_readBraid_98 (by decide) ?_
              refine lv_iinc (v := nI (i + 1)) (lv' := [(4, .int (nI (i + 1))), (6, .int ((tp i) - 65)), (5, .int ((tp i) - 97)), (0, .ref aR), (1, .int (nI ns)), (2, .ref aL), (3, .int (nI into))]) hx hb dgX9_readBraid_104 hl (k := 6) rfl (nI_1 i) (by decide) rfl (fun ls hl => ?_)
              refine lv_goto (tgt := 3) hx hb dgX9_readBraid_107 (by decide) ?_
              exact ih (i + 1) _ (by omega) hq H locs ls hP hD hS (lv_sub hl [3, 4, 5, 6, 0] rfl)
            · rw [if_neg hc9] at hq
              refine lv_iload hx hb dgX9_readBraid_73 (lv_at hl 0 rfl) ?_
              rcases Decidable.em (tp i - 65 < 0) with hd9 | hd9
              · refine lv_if_lt (tgt := 101) hx hb dgX9_readBraid_75 (by decide) (fun _ => ?_) (fun c9 => absurd (hd9) c9)
                refine lv_iload hx hb dgX9_readBraid_101 (lv_at hl 6 rfl) ?_
                have hP : va_P (dC, dI) vwCl [(aR, .inr (12, [.int (nI n), .ref (rx 0), .ref (rx 1), .ref (rx 2), .int x4, .int x5])), ((rx 0), .inl (cB, 400, .inl tp)), (aL, .inl (cB, nL, .inl ((rb_run tp ns into n 0 Lt).1)))] H := by rw [show (rb_run tp ns into n 0 Lt) = (f, some i) from hq]; exact hP
                have hD : va_D A [(aR, .inr (12, [.int (nI n), .ref (rx 0), .ref (rx 1), .ref (rx 2), .int x4, .int x5])), ((rx 0), .inl (cB, 400, .inl tp)), (aL, .inl (cB, nL, .inl ((rb_run tp ns into n 0 Lt).1)))] := by rw [show (rb_run tp ns into n 0 Lt) = (f, some i) from hq]; exact hD
                rw [hQQ]
                exact W.iret (v := (nI i)) hx hb hr (fun t ht hW => ⟨⟨(nI i), (), rfl, by rw [hq]; rfl, by rw [ht]; exact hP, hD⟩, hS.F ht⟩) hS.2.2 dgX9_readBraid_103
              · refine lv_if_lt (tgt := 101) hx hb dgX9_readBraid_75 (by decide) (fun c9 => absurd c9 (hd9)) (fun _ => ?_)
                refine lv_iload hx hb dgX9_readBraid_78 (lv_at hl 0 rfl) ?_
                refine lv_iload_n hx hb dgX9_readBraid_80 rfl (lv_at hl 3 rfl) ?_
                refine lv_iconst (v := 1) hx hb dgX9_readBraid_81 (by decide) ?_
                refine lv_isub hx hb dgX9_readBraid_82 ?_
                refine lv_icmp_ge (tgt := 101) hx hb dgX9_readBraid_83 (by decide) (fun _ => ?_) (fun c9 => absurd (Int32.not_lt.mp (fun h9 => hc9 ⟨Int32.not_lt.mp hd9, h9⟩)) c9)
                refine lv_iload hx hb dgX9_readBraid_101 (lv_at hl 6 rfl) ?_
                have hP : va_P (dC, dI) vwCl [(aR, .inr (12, [.int (nI n), .ref (rx 0), .ref (rx 1), .ref (rx 2), .int x4, .int x5])), ((rx 0), .inl (cB, 400, .inl tp)), (aL, .inl (cB, nL, .inl ((rb_run tp ns into n 0 Lt).1)))] H := by rw [show (rb_run tp ns into n 0 Lt) = (f, some i) from hq]; exact hP
                have hD : va_D A [(aR, .inr (12, [.int (nI n), .ref (rx 0), .ref (rx 1), .ref (rx 2), .int x4, .int x5])), ((rx 0), .inl (cB, 400, .inl tp)), (aL, .inl (cB, nL, .inl ((rb_run tp ns into n 0 Lt).1)))] := by rw [show (rb_run tp ns into n 0 Lt) = (f, some i) from hq]; exact hD
                rw [hQQ]
                exact W.iret (v := (nI i)) hx hb hr (fun t ht hW => ⟨⟨(nI i), (), rfl, by rw [hq]; rfl, by rw [ht]; exact hP, hD⟩, hS.F ht⟩) hS.2.2 dgX9_readBraid_103
      · rw [if_pos h16] at hq
        refine lv_icmp_lt (tgt := 46) hx hb dgX9_readBraid_40 (by decide) (fun c9 => absurd c9 (nI_nlt (a := i) (b := 16) h16 (by omega))) (fun _ => ?_)
        refine lv_iload hx hb dgX9_readBraid_43 (lv_at hl 6 rfl) ?_
        have hP : va_P (dC, dI) vwCl [(aR, .inr (12, [.int (nI n), .ref (rx 0), .ref (rx 1), .ref (rx 2), .int x4, .int x5])), ((rx 0), .inl (cB, 400, .inl tp)), (aL, .inl (cB, nL, .inl ((rb_run tp ns into n 0 Lt).1)))] H := by rw [show (rb_run tp ns into n 0 Lt) = (f, some i) from hq]; exact hP
        have hD : va_D A [(aR, .inr (12, [.int (nI n), .ref (rx 0), .ref (rx 1), .ref (rx 2), .int x4, .int x5])), ((rx 0), .inl (cB, 400, .inl tp)), (aL, .inl (cB, nL, .inl ((rb_run tp ns into n 0 Lt).1)))] := by rw [show (rb_run tp ns into n 0 Lt) = (f, some i) from hq]; exact hD
        rw [hQQ]
        exact W.iret (v := (nI i)) hx hb hr (fun t ht hW => ⟨⟨(nI i), (), rfl, by rw [hq]; rfl, by rw [ht]; exact hP, hD⟩, hS.F ht⟩) hS.2.2 dgX9_readBraid_45
  refine lv_iconst (v := 0) hx hb dgX9_readBraid_0 (by decide) ?_
  refine ow_topi (y := nI 0) (by decide) ?_
  refine lv_istore (lv' := [(4, .int (nI 0)), (0, .ref aR), (1, .int (nI ns)), (2, .ref aL), (3, .int (nI into))]) hx hb dgX9_readBraid_1 hl (by decide) rfl (fun ls hl => ?_)
  exact L3 n 0 Lt (by omega) rfl H locs ls hP hD hS (lv_sub hl [1, 2, 3, 4, 0] rfl)
theorem dgX9_finish_0 : decode cX9_finish 0 = .ok (.iload_n 1, 1) := by decide +kernel
theorem dgX9_finish_1 : decode cX9_finish 1 = .ok (.iconst (-1), 1) := by decide +kernel
theorem dgX9_finish_2 : decode cX9_finish 2 = .ok (.if_icmp .ne 16, 3) := by decide +kernel
theorem dgX9_finish_5 : decode cX9_finish 5 = .ok (.aload_n 0, 1) := by decide +kernel
theorem dgX9_finish_6 : decode cX9_finish 6 = .ok (.dup, 1) := by decide +kernel
theorem dgX9_finish_7 : decode cX9_finish 7 = .ok (.getfield 60, 3) := by decide +kernel
theorem dgX9_finish_10 : decode cX9_finish 10 = .ok (.iconst 1, 1) := by decide +kernel
theorem dgX9_finish_11 : decode cX9_finish 11 = .ok (.iadd, 1) := by decide +kernel
theorem dgX9_finish_12 : decode cX9_finish 12 = .ok (.putfield 60, 3) := by decide +kernel
theorem dgX9_finish_15 : decode cX9_finish 15 = .ok (.goto 9, 3) := by decide +kernel
theorem dgX9_finish_18 : decode cX9_finish 18 = .ok (.aload_n 0, 1) := by decide +kernel
theorem dgX9_finish_19 : decode cX9_finish 19 = .ok (.iload_n 2, 1) := by decide +kernel
theorem dgX9_finish_20 : decode cX9_finish 20 = .ok (.iload_n 1, 1) := by decide +kernel
theorem dgX9_finish_21 : decode cX9_finish 21 = .ok (.invokevirtual 52, 3) := by decide +kernel
theorem dgX9_finish_24 : decode cX9_finish 24 = .ok (.return_, 1) := by decide +kernel
def wg_X9_finish : List Cond := .code yX9_finish cX9_finish 3 none :: (([.fieldLink RX9 60 "KnotHouse$Net" "circles" "I"] ++ wsX70) ++ (wsV RX9 52 RX7 yX7_link wg_X7_link ++ []))
theorem gg_X9_finish_0 : GoodIn wg_X9_finish (wsV RX9 52 RX7 yX7_link wg_X7_link) := goodIn_sub (fun _ h => List.mem_cons_of_mem _ (List.mem_append_right _ (List.mem_append_left _ h))) (by decide +kernel)
set_option maxHeartbeats 4000000 in
set_option maxRecDepth 100000 in
theorem kg_X9_finish (l : Launch) (dC : Nat → ClassId) (dI : Nat → Nat → Nat) (cI cB cJ cZ : ClassId) (aX : Nat) (nx : Nat → Nat) (x7 x9 x10 : Int32) (S : ow_NP) (ci la : Nat) (fi : Option Nat) (hfi : ∀ f, fi = some f → f < 24 ∧ la < 24) (lz : Int32) (hla : ∀ f, fi = some f → lz = nI la) (sz : Nat) : Met l yX9_finish wg_X9_finish (({ frames := 1, cells := 0, slots := 0, locals := 30 } : Room)) (va_Pc [.ref aX, .int (onI fi), .int lz] (fun U => U.heap.size = sz ∧ va_P (dC, dI) vwCl [(aX, .inr (10, [.ref (nx 0), .ref (nx 1), .ref (nx 2), .ref (nx 3), .ref (nx 4), .ref (nx 5), .ref (nx 6), .int x7, .int (nI ci), .int x9, .int x10])), ((nx 0), .inl (cI, 24, .inl (ow_nI S.1))), ((nx 1), .inl (cI, 24, .inl (ow_nI S.2)))] U.heap ∧ va_K (dC, dI) vwCl [(cI, .int), (cB, .byte), (cJ, .long), (cZ, .boolean)] U ∧ va_D (fun _ => True) [(aX, .inr (10, [.ref (nx 0), .ref (nx 1), .ref (nx 2), .ref (nx 3), .ref (nx 4), .ref (nx 5), .ref (nx 6), .int x7, .int (nI ci), .int x9, .int x10])), ((nx 0), .inl (cI, 24, .inl (ow_nI S.1))), ((nx 1), .inl (cI, 24, .inl (ow_nI S.2)))])) (va_Qv (fun (g : Unit) => True) (fun g t => va_P (dC, dI) vwCl [(aX, .inr (10, [.ref (nx 0), .ref (nx 1), .ref (nx 2), .ref (nx 3), .ref (nx 4), .ref (nx 5), .ref (nx 6), .int x7, .int (nI (rd_ci ci fi)), .int x9, .int x10])), ((nx 0), .inl (cI, 24, .inl (ow_nI (rd_S S la fi).1))), ((nx 1), .inl (cI, 24, .inl (ow_nI (rd_S S la fi).2)))] t.heap ∧ va_D (va_A [(aX, .inr (10, [.ref (nx 0), .ref (nx 1), .ref (nx 2), .ref (nx 3), .ref (nx 4), .ref (nx 5), .ref (nx 6), .int x7, .int (nI ci), .int x9, .int x10])), ((nx 0), .inl (cI, 24, .inl (ow_nI S.1))), ((nx 1), .inl (cI, 24, .inl (ow_nI S.2)))] sz) [(aX, .inr (10, [.ref (nx 0), .ref (nx 1), .ref (nx 2), .ref (nx 3), .ref (nx 4), .ref (nx 5), .ref (nx 6), .int x7, .int (nI (rd_ci ci fi)), .int x9, .int x10])), ((nx 0), .inl (cI, 24, .inl (ow_nI (rd_S S la fi).1))), ((nx 1), .inl (cI, 24, .inl (ow_nI (rd_S S la fi).2)))]) (va_A [(aX, .inr (10, [.ref (nx 0), .ref (nx 1), .ref (nx 2), .ref (nx 3), .ref (nx 4), .ref (nx 5), .ref (nx 6), .int x7, .int (nI ci), .int x9, .int x10])), ((nx 0), .inl (cI, 24, .inl (ow_nI S.1))), ((nx 1), .inl (cI, 24, .inl (ow_nI S.2)))] sz)) 0 0 (va_A [(aX, .inr (10, [.ref (nx 0), .ref (nx 1), .ref (nx 2), .ref (nx 3), .ref (nx 4), .ref (nx 5), .ref (nx 6), .int x7, .int (nI ci), .int x9, .int x10])), ((nx 0), .inl (cI, 24, .inl (ow_nI S.1))), ((nx 1), .inl (cI, 24, .inl (ow_nI S.2)))] sz) := by
  refine Met.ofW (cc := cX9_finish) (maxL := 3) (ret := none) (by decide) rfl ?_
  intro p e s m args below meth c s₁ B hml hv
  obtain ⟨rfl, hsz, hP, hK, hD0⟩ := hv
  have hx := B.exec
  have hb := B.bytes
  have hr := B.returns
  have hts := atoms_spec (ws := wg_X9_finish) B.pre
  have hown : s.vm.findClass RX9 = some m.cls := findClass_of_methodNamed B.named
  have hlocks := B.notSynchronized
  subst hsz
  have hD := hD0.self (sz := s.heap.size)
  generalize hAe : va_A [(aX, .inr (10, [.ref (nx 0), .ref (nx 1), .ref (nx 2), .ref (nx 3), .ref (nx 4), .ref (nx 5), .ref (nx 6), .int x7, .int (nI ci), .int x9, .int x10])), ((nx 0), .inl (cI, 24, .inl (ow_nI S.1))), ((nx 1), .inl (cI, 24, .inl (ow_nI S.2)))] s.heap.size = A at hD ⊢
  have hA : ∀ q : Nat, s.heap.size ≤ q → A q := fun q h => by rw [← hAe]; exact Or.inr h
  have hS : va_S A s.heap s.heap [] := va_S.rf
  have hP : va_P (dC, dI) vwCl [(aX, .inr (10, [.ref (nx 0), .ref (nx 1), .ref (nx 2), .ref (nx 3), .ref (nx 4), .ref (nx 5), .ref (nx 6), .int x7, .int (nI ci), .int x9, .int x10])), ((nx 0), .inl (cI, 24, .inl (ow_nI S.1))), ((nx 1), .inl (cI, 24, .inl (ow_nI S.2)))] s.heap := hP
  have hl := lv_entry ([.ref aX, .int (onI fi), .int lz]) (n := 3) (Nat.le_of_ble_eq_true rfl)
  rw [lg_entry_eq]
  generalize (lg_sl ([.ref aX, .int (onI fi), .int lz]) ++ List.replicate (3 - (lg_sl ([.ref aX, .int (onI fi), .int lz])).length) Slot.unset).toArray = ls at hl ⊢
  have hl : lv_has ls 3 [(0, .ref aX), (1, .int (onI fi)), (2, .int lz)] := hl
  refine ow_named (fun QQ hQQ => ?_)
  suffices key9 : ∀ (H : Heap) (locs : List Loc), va_P (dC, dI) vwCl [(aX, .inr (10, [.ref (nx 0), .ref (nx 1), .ref (nx 2), .ref (nx 3), .ref (nx 4), .ref (nx 5), .ref (nx 6), .int x7, .int (nI ci), .int x9, .int x10])), ((nx 0), .inl (cI, 24, .inl (ow_nI S.1))), ((nx 1), .inl (cI, 24, .inl (ow_nI S.2)))] H → va_S A s.heap H locs → W p l e ({ frames := 1, cells := 0, slots := 0, locals := 30 } : Room) s m ([.ref aX, .int (onI fi), .int lz] : List Value).toArray below meth c H locs 0 0 QQ (F0 m 0 ls []) from key9 s.heap [] hP hS
  intro H locs hP hS
  cases fi with
  | none =>
    refine lv_iload_n hx hb dgX9_finish_0 rfl (lv_at hl 1 rfl) ?_
    refine lv_iconst (v := (-1)) hx hb dgX9_finish_1 (by decide) ?_
    refine lv_icmp_ne (tgt := 18) hx hb dgX9_finish_2 (by decide) (fun c9 => absurd c9 (not_not_intro rfl)) (fun _ => ?_)
    refine lv_aload_n hx hb dgX9_finish_5 rfl (lv_at hl 0 rfl) ?_
    refine lv_dup hx hb dgX9_finish_6 rfl ?_
    refine va_get (D := (dC, dI)) (ci := 10) (v := .int (nI ci)) (C := RX7) (T := TX7) (N := 11) hx hb hts (fun _ h => List.mem_cons_of_mem _ (List.mem_append_left _ (List.mem_append_right _ h))) hown hK hP 0 rfl rfl 8 (by decide) (hts (.fieldLink RX9 60 "KnotHouse$Net" "circles" "I") (by decide +kernel)) (fun _ h9 => h9) rfl dgX9_finish_7 ?_
    refine lv_iconst (v := 1) hx hb dgX9_finish_10 (by decide) ?_
    refine lv_iadd hx hb dgX9_finish_11 ?_
    refine ow_topi (y := nI (ci + 1)) (nI_1 (ci)) ?_
    refine va_put (D := (dC, dI)) (ci := 10) (v := .int (nI (ci + 1))) (ty := .int) (C := RX7) (T := TX7) (N := 11) hx hb hts (fun _ h => List.mem_cons_of_mem _ (List.mem_append_left _ (List.mem_append_right _ h))) tyX7 tyX7_ok nmX7 hown hK hP hD hS 0 rfl rfl 8 (by decide) (hts (.fieldLink RX9 60 "KnotHouse$Net" "circles" "I") (by decide +kernel)) (fun _ h9 => h9) rfl (by decide +kernel) rfl rfl (Nat.le_of_ble_eq_true rfl) dgX9_finish_12 (fun H locs hP hD hS => ?_)
    have hP : va_P (dC, dI) vwCl [(aX, .inr (10, [.ref (nx 0), .ref (nx 1), .ref (nx 2), .ref (nx 3), .ref (nx 4), .ref (nx 5), .ref (nx 6), .int x7, .int (nI (ci + 1)), .int x9, .int x10])), ((nx 0), .inl (cI, 24, .inl (ow_nI S.1))), ((nx 1), .inl (cI, 24, .inl (ow_nI S.2)))] H := hP
    have hD : va_D A [(aX, .inr (10, [.ref (nx 0), .ref (nx 1), .ref (nx 2), .ref (nx 3), .ref (nx 4), .ref (nx 5), .ref (nx 6), .int x7, .int (nI (ci + 1)), .int x9, .int x10])), ((nx 0), .inl (cI, 24, .inl (ow_nI S.1))), ((nx 1), .inl (cI, 24, .inl (ow_nI S.2)))] := hD
    refine lv_goto (tgt := 24) hx hb dgX9_finish_15 (by decide) ?_
    rw [hQQ]
    exact W.vret hx hb hr (fun t ht hW => ⟨⟨(), rfl, trivial, by rw [ht]; exact hP, hD⟩, hS.F ht⟩) hS.2.2 dgX9_finish_24
  | some f =>
    obtain ⟨hf24, hl24⟩ := hfi f rfl
    have hla := hla f rfl
    have hl : lv_has ls 3 [(0, .ref aX), (1, .int (nI f)), (2, .int (nI la))] := by rw [← hla]; exact hl
    refine lv_iload_n hx hb dgX9_finish_0 rfl (lv_at hl 1 rfl) ?_
    refine lv_iconst (v := (-1)) hx hb dgX9_finish_1 (by decide) ?_
    refine lv_icmp_ne (tgt := 18) hx hb dgX9_finish_2 (by decide) (fun _ => ?_) (fun c9 => absurd c9 (nI_nm1 (by omega)))
    refine lv_aload_n hx hb dgX9_finish_18 rfl (lv_at hl 0 rfl) ?_
    refine lv_iload_n hx hb dgX9_finish_19 rfl (lv_at hl 2 rfl) ?_
    refine lv_iload_n hx hb dgX9_finish_20 rfl (lv_at hl 1 rfl) ?_
    have hPc := hP.sub (ws' := [(aX, .inr (10, [.ref (nx 0), .ref (nx 1), .ref (nx 2), .ref (nx 3), .ref (nx 4), .ref (nx 5), .ref (nx 6), .int x7, .int (nI ci), .int x9, .int x10])), ((nx 0), .inl (cI, 24, .inl (ow_nI S.1))), ((nx 1), .inl (cI, 24, .inl (ow_nI S.2)))]) [0, 1, 2] rfl
    have hDc := hD.sub (ws' := [(aX, .inr (10, [.ref (nx 0), .ref (nx 1), .ref (nx 2), .ref (nx 3), .ref (nx 4), .ref (nx 5), .ref (nx 6), .int x7, .int (nI ci), .int x9, .int x10])), ((nx 0), .inl (cI, 24, .inl (ow_nI S.1))), ((nx 1), .inl (cI, 24, .inl (ow_nI S.2)))]) [0, 1, 2] (by decide) rfl
    have hFc := va_free (wc := [(aX, .inr (10, [.ref (nx 0), .ref (nx 1), .ref (nx 2), .ref (nx 3), .ref (nx 4), .ref (nx 5), .ref (nx 6), .int x7, .int (nI ci), .int x9, .int x10])), ((nx 0), .inl (cI, 24, .inl (ow_nI S.1))), ((nx 1), .inl (cI, 24, .inl (ow_nI S.2)))]) hD hS hA [0, 1, 2] rfl
    refine va_callv (va_runV (As := [.int (nI la), .int (nI f)]) (rest := []) ⟨hx, hb, hml, hown, hts⟩ (kg_X7_link l dC dI cI cB cJ cZ aX nx x7 (nI ci) x9 x10 S la f hl24 hf24 H.size) (cwV 2 hts gg_X9_finish_0 rfl rfl rfl (by decide +kernel) ⟨(Nat.le_of_ble_eq_true rfl), (Nat.le_of_ble_eq_true rfl)⟩) ⟨fun a U g mk q => by obtain ⟨q0, q1, qP, qK, qD⟩ := q; exact ⟨q0, q1, qP, va_K.moved (u := U) (U := U.calling g mk a) (Vm.Alike.refl U.vm) qK, qD⟩, va_recv hK hPc (ci := 10) (q0 := 0) rfl rfl, fun U hU hW => ⟨rfl, by rw [hU], by rw [hU]; exact hPc, va_K.moved hW.alike hK, hDc.weaken (fun _ _ _ _ => trivial)⟩⟩ rfl rfl hl.1 rfl (lv_room (Nat.le_of_ble_eq_true rfl)) dgX9_finish_21 ⟨(Nat.le_of_ble_eq_true rfl), (Nat.le_of_ble_eq_true rfl)⟩) hS (fun q _ h => hFc q h) hFc (fun u9 t H1 locs ht hvm hw hB hz1 hk1 hS => ?_)
    obtain ⟨hP1, hD1⟩ := hB
    rw [ht] at hP1
    obtain ⟨hP, hD⟩ := va_join (wr := []) (w1 := [(aX, .inr (10, [.ref (nx 0), .ref (nx 1), .ref (nx 2), .ref (nx 3), .ref (nx 4), .ref (nx 5), .ref (nx 6), .int x7, .int (nI ci), .int x9, .int x10])), ((nx 0), .inl (cI, 24, .inl (ow_nI (nl S la f).1))), ((nx 1), .inl (cI, 24, .inl (ow_nI (nl S la f).2)))]) hP hD [0, 1, 2] [] rfl rfl (by decide) (by decide) hk1 hFc hP1 hD1
    generalize H1 = H at hP hS ⊢
    have hP : va_P (dC, dI) vwCl [(aX, .inr (10, [.ref (nx 0), .ref (nx 1), .ref (nx 2), .ref (nx 3), .ref (nx 4), .ref (nx 5), .ref (nx 6), .int x7, .int (nI ci), .int x9, .int x10])), ((nx 0), .inl (cI, 24, .inl (ow_nI (nl S la f).1))), ((nx 1), .inl (cI, 24, .inl (ow_nI (nl S la f).2)))] H := hP
    have hD : va_D A [(aX, .inr (10, [.ref (nx 0), .ref (nx 1), .ref (nx 2), .ref (nx 3), .ref (nx 4), .ref (nx 5), .ref (nx 6), .int x7, .int (nI ci), .int x9, .int x10])), ((nx 0), .inl (cI, 24, .inl (ow_nI (nl S la f).1))), ((nx 1), .inl (cI, 24, .inl (ow_nI (nl S la f).2)))] := hD
    rw [hQQ]
    exact W.vret hx hb hr (fun t ht hW => ⟨⟨(), rfl, trivial, by rw [ht]; exact hP, hD⟩, hS.F ht⟩) hS.2.2 dgX9_finish_24
theorem dgX9_firstLonely_0 : decode cX9_firstLonely 0 = .ok (.iconst (-1), 1) := by decide +kernel
theorem dgX9_firstLonely_1 : decode cX9_firstLonely 1 = .ok (.istore_n 2, 1) := by decide +kernel
theorem dgX9_firstLonely_2 : decode cX9_firstLonely 2 = .ok (.iconst 0, 1) := by decide +kernel
theorem dgX9_firstLonely_3 : decode cX9_firstLonely 3 = .ok (.istore_n 3, 1) := by decide +kernel
theorem dgX9_firstLonely_4 : decode cX9_firstLonely 4 = .ok (.iload_n 3, 1) := by decide +kernel
theorem dgX9_firstLonely_5 : decode cX9_firstLonely 5 = .ok (.iconst 2, 1) := by decide +kernel
theorem dgX9_firstLonely_6 : decode cX9_firstLonely 6 = .ok (.aload_n 1, 1) := by decide +kernel
theorem dgX9_firstLonely_7 : decode cX9_firstLonely 7 = .ok (.getfield 66, 3) := by decide +kernel
theorem dgX9_firstLonely_10 : decode cX9_firstLonely 10 = .ok (.imul, 1) := by decide +kernel
theorem dgX9_firstLonely_11 : decode cX9_firstLonely 11 = .ok (.if_icmp .ge 53, 3) := by decide +kernel
theorem dgX9_firstLonely_14 : decode cX9_firstLonely 14 = .ok (.aload_n 0, 1) := by decide +kernel
theorem dgX9_firstLonely_15 : decode cX9_firstLonely 15 = .ok (.getfield 19, 3) := by decide +kernel
theorem dgX9_firstLonely_18 : decode cX9_firstLonely 18 = .ok (.iload_n 3, 1) := by decide +kernel
theorem dgX9_firstLonely_19 : decode cX9_firstLonely 19 = .ok (.iaload, 1) := by decide +kernel
theorem dgX9_firstLonely_20 : decode cX9_firstLonely 20 = .ok (.iconst (-1), 1) := by decide +kernel
theorem dgX9_firstLonely_21 : decode cX9_firstLonely 21 = .ok (.if_icmp .eq 37, 3) := by decide +kernel
theorem dgX9_firstLonely_24 : decode cX9_firstLonely 24 = .ok (.aload_n 0, 1) := by decide +kernel
theorem dgX9_firstLonely_25 : decode cX9_firstLonely 25 = .ok (.getfield 19, 3) := by decide +kernel
theorem dgX9_firstLonely_28 : decode cX9_firstLonely 28 = .ok (.iload_n 3, 1) := by decide +kernel
theorem dgX9_firstLonely_29 : decode cX9_firstLonely 29 = .ok (.iconst 1, 1) := by decide +kernel
theorem dgX9_firstLonely_30 : decode cX9_firstLonely 30 = .ok (.ixor, 1) := by decide +kernel
theorem dgX9_firstLonely_31 : decode cX9_firstLonely 31 = .ok (.iaload, 1) := by decide +kernel
theorem dgX9_firstLonely_32 : decode cX9_firstLonely 32 = .ok (.iconst (-1), 1) := by decide +kernel
theorem dgX9_firstLonely_33 : decode cX9_firstLonely 33 = .ok (.if_icmp .ne 25, 3) := by decide +kernel
theorem dgX9_firstLonely_36 : decode cX9_firstLonely 36 = .ok (.iload_n 2, 1) := by decide +kernel
theorem dgX9_firstLonely_37 : decode cX9_firstLonely 37 = .ok (.iconst (-1), 1) := by decide +kernel
theorem dgX9_firstLonely_38 : decode cX9_firstLonely 38 = .ok (.if_icmp .eq 13, 3) := by decide +kernel
theorem dgX9_firstLonely_41 : decode cX9_firstLonely 41 = .ok (.aload_n 0, 1) := by decide +kernel
theorem dgX9_firstLonely_42 : decode cX9_firstLonely 42 = .ok (.getfield 19, 3) := by decide +kernel
theorem dgX9_firstLonely_45 : decode cX9_firstLonely 45 = .ok (.iload_n 3, 1) := by decide +kernel
theorem dgX9_firstLonely_46 : decode cX9_firstLonely 46 = .ok (.iaload, 1) := by decide +kernel
theorem dgX9_firstLonely_47 : decode cX9_firstLonely 47 = .ok (.iload_n 2, 1) := by decide +kernel
theorem dgX9_firstLonely_48 : decode cX9_firstLonely 48 = .ok (.if_icmp .ge 10, 3) := by decide +kernel
theorem dgX9_firstLonely_51 : decode cX9_firstLonely 51 = .ok (.aload_n 0, 1) := by decide +kernel
theorem dgX9_firstLonely_52 : decode cX9_firstLonely 52 = .ok (.getfield 19, 3) := by decide +kernel
theorem dgX9_firstLonely_55 : decode cX9_firstLonely 55 = .ok (.iload_n 3, 1) := by decide +kernel
theorem dgX9_firstLonely_56 : decode cX9_firstLonely 56 = .ok (.iaload, 1) := by decide +kernel
theorem dgX9_firstLonely_57 : decode cX9_firstLonely 57 = .ok (.istore_n 2, 1) := by decide +kernel
theorem dgX9_firstLonely_58 : decode cX9_firstLonely 58 = .ok (.iinc 3 1, 3) := by decide +kernel
theorem dgX9_firstLonely_61 : decode cX9_firstLonely 61 = .ok (.goto (-57), 3) := by decide +kernel
theorem dgX9_firstLonely_64 : decode cX9_firstLonely 64 = .ok (.iload_n 2, 1) := by decide +kernel
theorem dgX9_firstLonely_65 : decode cX9_firstLonely 65 = .ok (.ireturn, 1) := by decide +kernel
def wg_X9_firstLonely : List Cond := .code yX9_firstLonely cX9_firstLonely 4 (some .int) :: (([.fieldLink RX9 66 "KnotHouse$Net" "crossings" "I", .fieldLink RX9 19 "KnotHouse$Reader" "begins" "[I"] ++ wsX90 ++ wsX70) ++ [])
set_option maxHeartbeats 4000000 in
set_option maxRecDepth 100000 in
theorem kg_X9_firstLonely (l : Launch) (dC : Nat → ClassId) (dI : Nat → Nat → Nat) (cI cB cJ cZ : ClassId) (aR : Nat) (rx : Nat → Nat) (x0 x4 x5 : Int32) (bg : Nat → Int32) (aX : Nat) (nx : Nat → Nat) (x8 x9 x10 : Int32) (cn : Nat) (hc : cn ≤ 12) : Met l yX9_firstLonely wg_X9_firstLonely (({ frames := 0, cells := 0, slots := 0, locals := 0 } : Room)) (va_Pc [.ref aR, .ref aX] (fun U => va_P (dC, dI) vwCl [(aR, .inr (12, [.int x0, .ref (rx 0), .ref (rx 1), .ref (rx 2), .int x4, .int x5])), ((rx 2), .inl (cI, 24, .inl bg)), (aX, .inr (10, [.ref (nx 0), .ref (nx 1), .ref (nx 2), .ref (nx 3), .ref (nx 4), .ref (nx 5), .ref (nx 6), .int (nI cn), .int x8, .int x9, .int x10]))] U.heap ∧ va_K (dC, dI) vwCl [(cI, .int), (cB, .byte), (cJ, .long), (cZ, .boolean)] U)) (va_Qi (fun r (_ : Unit) => r = fl_lo bg cn (2 * cn)) (fun _ _ => True) (fun _ => False)) 0 0 (fun _ => False) := by
  refine Met.ofW (cc := cX9_firstLonely) (maxL := 4) (ret := (some .int)) (by decide) rfl ?_
  intro p e s m args below meth c s₁ B hml hv
  obtain ⟨rfl, hP, hK⟩ := hv
  have hx := B.exec
  have hb := B.bytes
  have hr := B.returns
  have hts := atoms_spec (ws := wg_X9_firstLonely) B.pre
  have hown : s.vm.findClass RX9 = some m.cls := findClass_of_methodNamed B.named
  have hlocks := B.notSynchronized
  have hS : va_S (fun _ => False) s.heap s.heap [] := va_S.rf
  have hP : va_P (dC, dI) vwCl [(aR, .inr (12, [.int x0, .ref (rx 0), .ref (rx 1), .ref (rx 2), .int x4, .int x5])), ((rx 2), .inl (cI, 24, .inl bg)), (aX, .inr (10, [.ref (nx 0), .ref (nx 1), .ref (nx 2), .ref (nx 3), .ref (nx 4), .ref (nx 5), .ref (nx 6), .int (nI cn), .int x8, .int x9, .int x10]))] s.heap := hP
  have hl := lv_entry ([.ref aR, .ref aX]) (n := 4) (Nat.le_of_ble_eq_true rfl)
  rw [lg_entry_eq]
  generalize (lg_sl ([.ref aR, .ref aX]) ++ List.replicate (4 - (lg_sl ([.ref aR, .ref aX])).length) Slot.unset).toArray = ls at hl ⊢
  have hl : lv_has ls 4 [(0, .ref aR), (1, .ref aX)] := hl
  refine ow_named (fun QQ hQQ => ?_)
  have L4 : ∀ (d i : Nat), i + d = 2 * cn → ∀ (H : Heap) (locs : List Loc) (ls : Array Slot), va_P (dC, dI) vwCl [(aR, .inr (12, [.int x0, .ref (rx 0), .ref (rx 1), .ref (rx 2), .int x4, .int x5])), ((rx 2), .inl (cI, 24, .inl bg)), (aX, .inr (10, [.ref (nx 0), .ref (nx 1), .ref (nx 2), .ref (nx 3), .ref (nx 4), .ref (nx 5), .ref (nx 6), .int (nI cn), .int x8, .int x9, .int x10]))] H → va_S (fun _ => False) s.heap H locs → lv_has ls 4 [(0, .ref aR), (1, .ref aX), (2, .int (fl_lo bg cn i)), (3, .int (nI i))] → W p l e ({ frames := 0, cells := 0, slots := 0, locals := 0 } : Room) s m ([.ref aR, .ref aX] : List Value).toArray below meth c H locs 0 0 QQ (F0 m 4 ls []) := by
    intro d
    induction d with
    | zero =>
      intro i hi H locs ls hP hS hl
      have hie : i = 2 * cn := by omega
      refine lv_iload_n hx hb dgX9_firstLonely_4 rfl (lv_at hl 3 rfl) ?_
      refine lv_iconst (v := 2) hx hb dgX9_firstLonely_5 (by decide) ?_
      refine lv_aload_n hx hb dgX9_firstLonely_6 rfl (lv_at hl 1 rfl) ?_
      refine va_get (D := (dC, dI)) (ci := 10) (v := .int (nI cn)) (C := RX7) (T := TX7) (N := 11) hx hb hts (fun _ h => List.mem_cons_of_mem _ (List.mem_append_left _ (List.mem_append_right _ h))) hown hK hP 2 rfl rfl 7 (by decide) (hts (.fieldLink RX9 66 "KnotHouse$Net" "crossings" "I") (by decide +kernel)) (fun _ h9 => h9) rfl dgX9_firstLonely_7 ?_
      refine lv_imul hx hb dgX9_firstLonely_10 ?_
      refine ow_topi (y := nI (2 * cn)) (pk_mul 2 cn) ?_
      refine lv_icmp_ge (tgt := 64) hx hb dgX9_firstLonely_11 (by decide) (fun _ => ?_) (fun c9 => absurd (nI_le (a := 2 * cn) (b := i) (by omega) (by omega)) c9)
      refine lv_iload_n hx hb dgX9_firstLonely_64 rfl (lv_at hl 2 rfl) ?_
      rw [hQQ]
      exact W.iret (v := (fl_lo bg cn i)) hx hb hr (fun t ht hW => ⟨⟨(fl_lo bg cn i), (), rfl, by rw [hie], trivial⟩, hS.F ht⟩) hS.2.2 dgX9_firstLonely_65
    | succ d ih =>
      intro i hi H locs ls hP hS hl
      have hm24 := mt_24 (q := i) (by omega)
      refine lv_iload_n hx hb dgX9_firstLonely_4 rfl (lv_at hl 3 rfl) ?_
      refine lv_iconst (v := 2) hx hb dgX9_firstLonely_5 (by decide) ?_
      refine lv_aload_n hx hb dgX9_firstLonely_6 rfl (lv_at hl 1 rfl) ?_
      refine va_get (D := (dC, dI)) (ci := 10) (v := .int (nI cn)) (C := RX7) (T := TX7) (N := 11) hx hb hts (fun _ h => List.mem_cons_of_mem _ (List.mem_append_left _ (List.mem_append_right _ h))) hown hK hP 2 rfl rfl 7 (by decide) (hts (.fieldLink RX9 66 "KnotHouse$Net" "crossings" "I") (by decide +kernel)) (fun _ h9 => h9) rfl dgX9_firstLonely_7 ?_
      refine lv_imul hx hb dgX9_firstLonely_10 ?_
      refine ow_topi (y := nI (2 * cn)) (pk_mul 2 cn) ?_
      refine lv_icmp_ge (tgt := 64) hx hb dgX9_firstLonely_11 (by decide) (fun c9 => absurd c9 (nI_ge (a := i) (b := 2 * cn) (by omega) (by omega))) (fun _ => ?_)
      refine lv_aload_n hx hb dgX9_firstLonely_14 rfl (lv_at hl 0 rfl) ?_
      refine va_get (D := (dC, dI)) (ci := 12) (v := .ref (rx 2)) (C := RX9) (T := TX9) (N := 6) hx hb hts (fun _ h => List.mem_cons_of_mem _ (List.mem_append_left _ (List.mem_append_left _ (List.mem_append_right _ h)))) hown hK hP 0 rfl rfl 3 (by decide) (hts (.fieldLink RX9 19 "KnotHouse$Reader" "begins" "[I") (by decide +kernel)) (fun _ h9 => h9) rfl dgX9_firstLonely_15 ?_
      refine lv_iload_n hx hb dgX9_firstLonely_18 rfl (lv_at hl 3 rfl) ?_
      refine va_iald hx hb hK hP 1 0 rfl rfl (vp_in_nI (n := i) (N := 24) (by omega) (by decide)) dgX9_firstLonely_19 ?_
      refine ow_topi (y := bg i) (congrArg bg (nI_clamp (n := i) (Nat.lt_trans (m := 24) (by omega) (by decide)))) ?_
      refine lv_iconst (v := (-1)) hx hb dgX9_firstLonely_20 (by decide) ?_
      refine lv_icmp_eq (tgt := 58) hx hb dgX9_firstLonely_21 (by decide) (fun c1 => ?_) (fun c1 => ?_)
      · refine lv_iinc (v := nI (i + 1)) (lv' := [(3, .int (nI (i + 1))), (0, .ref aR), (1, .ref aX), (2, .int (fl_lo bg cn i))]) hx hb dgX9_firstLonely_58 hl (k := 3) rfl (nI_1 i) (by decide) rfl (fun ls hl => ?_)
        refine lv_goto (tgt := 4) hx hb dgX9_firstLonely_61 (by decide) ?_
        have hst : fl_lo bg cn (i + 1) = (fl_lo bg cn i) := if_neg (fun h9 => h9.1 c1)
        refine ih (i + 1) (by omega) H locs ls hP hS ?_
        rw [hst]
        exact (lv_sub hl [1, 2, 3, 0] rfl)
      · refine lv_aload_n hx hb dgX9_firstLonely_24 rfl (lv_at hl 0 rfl) ?_
        refine va_get (D := (dC, dI)) (ci := 12) (v := .ref (rx 2)) (C := RX9) (T := TX9) (N := 6) hx hb hts (fun _ h => List.mem_cons_of_mem _ (List.mem_append_left _ (List.mem_append_left _ (List.mem_append_right _ h)))) hown hK hP 0 rfl rfl 3 (by decide) (hts (.fieldLink RX9 19 "KnotHouse$Reader" "begins" "[I") (by decide +kernel)) (fun _ h9 => h9) rfl dgX9_firstLonely_25 ?_
        refine lv_iload_n hx hb dgX9_firstLonely_28 rfl (lv_at hl 3 rfl) ?_
        refine lv_iconst (v := 1) hx hb dgX9_firstLonely_29 (by decide) ?_
        refine lv_ixor hx hb dgX9_firstLonely_30 ?_
        refine ow_topi (y := nI (mt i)) (mt_xor (by omega)) ?_
        refine va_iald hx hb hK hP 1 0 rfl rfl (vp_in_nI (n := mt i) (N := 24) hm24 (by decide)) dgX9_firstLonely_31 ?_
        refine ow_topi (y := bg (mt i)) (congrArg bg (nI_clamp (n := mt i) (Nat.lt_trans (m := 24) hm24 (by decide)))) ?_
        refine lv_iconst (v := (-1)) hx hb dgX9_firstLonely_32 (by decide) ?_
        refine lv_icmp_ne (tgt := 58) hx hb dgX9_firstLonely_33 (by decide) (fun c2 => ?_) (fun c2 => ?_)
        · refine lv_iinc (v := nI (i + 1)) (lv' := [(3, .int (nI (i + 1))), (0, .ref aR), (1, .ref aX), (2, .int (fl_lo bg cn i))]) hx hb dgX9_firstLonely_58 hl (k := 3) rfl (nI_1 i) (by decide) rfl (fun ls hl => ?_)
          refine lv_goto (tgt := 4) hx hb dgX9_firstLonely_61 (by decide) ?_
          have hst : fl_lo bg cn (i + 1) = (fl_lo bg cn i) := if_neg (fun h9 => c2 h9.2.1)
          refine ih (i + 1) (by omega) H locs ls hP hS ?_
          rw [hst]
          exact (lv_sub hl [1, 2, 3, 0] rfl)
        · refine lv_iload_n hx hb dgX9_firstLonely_36 rfl (lv_at hl 2 rfl) ?_
          refine lv_iconst (v := (-1)) hx hb dgX9_firstLonely_37 (by decide) ?_
          refine lv_icmp_eq (tgt := 51) hx hb dgX9_firstLonely_38 (by decide) (fun c3 => ?_) (fun c3 => ?_)
          · refine lv_aload_n hx hb dgX9_firstLonely_51 rfl (lv_at hl 0 rfl) ?_
            refine va_get (D := (dC, dI)) (ci := 12) (v := .ref (rx 2)) (C := RX9) (T := TX9) (N := 6) hx hb hts (fun _ h => List.mem_cons_of_mem _ (List.mem_append_left _ (List.mem_append_left _ (List.mem_append_right _ h)))) hown hK hP 0 rfl rfl 3 (by decide) (hts (.fieldLink RX9 19 "KnotHouse$Reader" "begins" "[I") (by decide +kernel)) (fun _ h9 => h9) rfl dgX9_firstLonely_52 ?_
            refine lv_iload_n hx hb dgX9_firstLonely_55 rfl (lv_at hl 3 rfl) ?_
            refine va_iald hx hb hK hP 1 0 rfl rfl (vp_in_nI (n := i) (N := 24) (by omega) (by decide)) dgX9_firstLonely_56 ?_
            refine ow_topi (y := bg i) (congrArg bg (nI_clamp (n := i) (Nat.lt_trans (m := 24) (by omega) (by decide)))) ?_
            refine lv_istore_n (lv' := [(2, .int (bg i)), (0, .ref aR), (1, .ref aX), (3, .int (nI i))]) hx hb dgX9_firstLonely_57 rfl hl (by decide) rfl (fun ls hl => ?_)
            refine lv_iinc (v := nI (i + 1)) (lv' := [(3, .int (nI (i + 1))), (2, .int (bg i)), (0, .ref aR), (1, .ref aX)]) hx hb dgX9_firstLonely_58 hl (k := 3) rfl (nI_1 i) (by decide) rfl (fun ls hl => ?_)
            refine lv_goto (tgt := 4) hx hb dgX9_firstLonely_61 (by decide) ?_
            have hst : fl_lo bg cn (i + 1) = bg i := if_pos (⟨c1, c2, Or.inl c3⟩)
            refine ih (i + 1) (by omega) H locs ls hP hS ?_
            rw [hst]
            exact (lv_sub hl [2, 3, 1, 0] rfl)
          · refine lv_aload_n hx hb dgX9_firstLonely_41 rfl (lv_at hl 0 rfl) ?_
            refine va_get (D := (dC, dI)) (ci := 12) (v := .ref (rx 2)) (C := RX9) (T := TX9) (N := 6) hx hb hts (fun _ h => List.mem_cons_of_mem _ (List.mem_append_left _ (List.mem_append_left _ (List.mem_append_right _ h)))) hown hK hP 0 rfl rfl 3 (by decide) (hts (.fieldLink RX9 19 "KnotHouse$Reader" "begins" "[I") (by decide +kernel)) (fun _ h9 => h9) rfl dgX9_firstLonely_42 ?_
            refine lv_iload_n hx hb dgX9_firstLonely_45 rfl (lv_at hl 3 rfl) ?_
            refine va_iald hx hb hK hP 1 0 rfl rfl (vp_in_nI (n := i) (N := 24) (by omega) (by decide)) dgX9_firstLonely_46 ?_
            refine ow_topi (y := bg i) (congrArg bg (nI_clamp (n := i) (Nat.lt_trans (m := 24) (by omega) (by decide)))) ?_
            refine lv_iload_n hx hb dgX9_firstLonely_47 rfl (lv_at hl 2 rfl) ?_
            refine lv_icmp_ge (tgt := 58) hx hb dgX9_firstLonely_48 (by decide) (fun c4 => ?_) (fun c4 => ?_)
            · refine lv_iinc (v := nI (i + 1)) (lv' := [(3, .int (nI (i + 1))), (0, .ref aR), (1, .ref aX), (2, .int (fl_lo bg cn i))]) hx hb dgX9_firstLonely_58 hl (k := 3) rfl (nI_1 i) (by decide) rfl (fun ls hl => ?_)
              refine lv_goto (tgt := 4) hx hb dgX9_firstLonely_61 (by decide) ?_
              have hst : fl_lo bg cn (i + 1) = (fl_lo bg cn i) := if_neg (fun h9 => h9.2.2.elim c3 (fun h8 => Int32.not_lt.mpr c4 h8))
              refine ih (i + 1) (by omega) H locs ls hP hS ?_
              rw [hst]
              exact (lv_sub hl [1, 2, 3, 0] rfl)
            · refine lv_aload_n hx hb dgX9_firstLonely_51 rfl (lv_at hl 0 rfl) ?_
              refine va_get (D := (dC, dI)) (ci := 12) (v := .ref (rx 2)) (C := RX9) (T := TX9) (N := 6) hx hb hts (fun _ h => List.mem_cons_of_mem _ (List.mem_append_left _ (List.mem_append_left _ (List.mem_append_right _ h)))) hown hK hP 0 rfl rfl 3 (by decide) (hts (.fieldLink RX9 19 "KnotHouse$Reader" "begins" "[I") (by decide +kernel)) (fun _ h9 => h9) rfl dgX9_firstLonely_52 ?_
              refine lv_iload_n hx hb dgX9_firstLonely_55 rfl (lv_at hl 3 rfl) ?_
              refine va_iald hx hb hK hP 1 0 rfl rfl (vp_in_nI (n := i) (N := 24) (by omega) (by decide)) dgX9_firstLonely_56 ?_
              refine ow_topi (y := bg i) (congrArg bg (nI_clamp (n := i) (Nat.lt_trans (m := 24) (by omega) (by decide)))) ?_
              refine lv_istore_n (lv' := [(2, .int (bg i)), (0, .ref aR), (1, .ref aX), (3, .int (nI i))]) hx hb dgX9_firstLonely_57 rfl hl (by decide) rfl (fun ls hl => ?_)
              refine lv_iinc (v := nI (i + 1)) (lv' := [(3, .int (nI (i + 1))), (2, .int (bg i)), (0, .ref aR), (1, .ref aX)]) hx hb dgX9_firstLonely_58 hl (k := 3) rfl (nI_1 i) (by decide) rfl (fun ls hl => ?_)
              refine lv_goto (tgt := 4) hx hb dgX9_firstLonely_61 (by decide) ?_
              have hst : fl_lo bg cn (i + 1) = bg i := if_pos (⟨c1, c2, Or.inr (Int32.not_le.mp c4)⟩)
              refine ih (i + 1) (by omega) H locs ls hP hS ?_
              rw [hst]
              exact (lv_sub hl [2, 3, 1, 0] rfl)
  refine lv_iconst (v := (-1)) hx hb dgX9_firstLonely_0 (by decide) ?_
  refine lv_istore_n (lv' := [(2, .int (-1)), (0, .ref aR), (1, .ref aX)]) hx hb dgX9_firstLonely_1 rfl hl (by decide) rfl (fun ls hl => ?_)
  refine lv_iconst (v := 0) hx hb dgX9_firstLonely_2 (by decide) ?_
  refine ow_topi (y := nI 0) (by decide) ?_
  refine lv_istore_n (lv' := [(3, .int (nI 0)), (2, .int (-1)), (0, .ref aR), (1, .ref aX)]) hx hb dgX9_firstLonely_3 rfl hl (by decide) rfl (fun ls hl => ?_)
  exact L4 (2 * cn) 0 (by omega) s.heap [] ls hP hS (lv_sub hl [2, 3, 1, 0] rfl)
