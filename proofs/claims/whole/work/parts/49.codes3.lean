/-! rows of bytes that are numbers below 128 -/
theorem ow_narb {w : Nat} (h : w < 128) : vp_nar .byte (nI w) = nI w := by
  have key : ∀ i : Fin 128, vp_nar .byte (nI i.1) = nI i.1 := by decide +kernel
  exact key ⟨w, h⟩
theorem ow_fitb {w : Nat} (h : w < 128) : fits .byte (.int (nI w)) = true := by
  have key : ∀ i : Fin 128, fits .byte (.int (nI i.1)) = true := by decide +kernel
  exact key ⟨w, h⟩
theorem ow_sub0 {a b : Nat} (ha : a < 2 ^ 31) (hb : b < 2 ^ 31) (h : nI a - nI b = 0) : a = b := by
  have h1 : nI a - nI b + nI b = 0 + nI b := by rw [h]
  rw [Int32.sub_add_cancel, Int32.zero_add] at h1
  exact ow_nI_inj ha hb h1
theorem ow_min {a b : Nat} (ha : a < 2 ^ 31) (hb : b < 2 ^ 31) : (if nI b < nI a then nI b else nI a) = nI (min a b) := by
  rcases Nat.lt_or_ge b a with h | h
  · rw [if_pos (nI_lt h ha), Nat.min_eq_right (Nat.le_of_lt h)]
  · rw [if_neg (nI_nlt h hb), Nat.min_eq_left h]
def ow_b128 (C : Nat → Nat) : Prop := ∀ k, C k < 128
theorem nu_b128 {C : Nat → Nat} {j w : Nat} (h : ow_b128 C) (hw : w < 128) : ow_b128 (nu C j w) := by
  intro k
  show (if k = j then w else C k) < 128
  split
  · exact hw
  · exact h k
theorem cpy_b128 {C E : Nat → Nat} {a b n : Nat} (h : ow_b128 C) (hE : ow_b128 E) : ow_b128 (va_cpy C E a b n) := by
  intro k
  show (if b ≤ k ∧ k < b + n then C (a + (k - b)) else E k) < 128
  split
  · exact h _
  · exact hE k
section BYT
variable {p : Program} {l : Launch} {e : Env} {R : Room} {s : State} {m : MethodId} {args : Array Value} {below : List Frame} {meth : Method} {c : Code} {H : Heap} {locs : List Loc} {cells slots : Nat} {Q : State → Prop}
variable {cc : ByteArray} {pc : Nat} {ls : Array Slot} {rest : List Value} {D : va_G} {cl : List vw_C} {A : Nat → Prop} {a : Nat} {tys : List (ClassId × FieldType)} {ws : va_W} {H0 : Heap}
theorem ow_bastN (hexec : p.tables.exec = Jvm.exec) (hb : c.code = cc) (hK : va_K D cl tys s) (hP : va_P D cl ws H) (hD : va_D A ws) (hS : va_S A H0 H locs) (q0 t0 : Nat) {cA : ClassId} {n j w : Nat} {N : Nat → Nat} (ha : ws[q0]? = some (a, .inl (cA, n, .inl (ow_nI N)))) (ht : tys[t0]? = some (cA, .byte)) (hjn : j < n) (hn : n < 2 ^ 31) (hw : w < 128) (hdg : decode cc pc = .ok (.bastore, 1))
    (kk : ∀ (H1 : Heap) (locs1 : List Loc), va_P D cl (ws.set q0 (a, .inl (cA, n, .inl (ow_nI (nu N j w))))) H1 → va_D A (ws.set q0 (a, .inl (cA, n, .inl (ow_nI (nu N j w))))) → va_S A H0 H1 locs1 → W p l e R s m args below meth c H1 locs1 cells slots Q (F0 m (pc + 1) ls rest)) : W p l e R s m args below meth c H locs cells slots Q (F0 m pc ls (.int (nI w) :: .int (nI j) :: .ref a :: rest)) := by
  refine va_bast hexec hb hK hP hD hS q0 t0 ha ht (vp_in_nI hjn hn) hdg (fun H1 locs1 h1 h2 h3 => ?_)
  rw [nI_clamp (by omega), ow_narb hw] at h1 h2
  have hu : upd (ow_nI N) j (nI w) = ow_nI (nu N j w) := by
    rw [← ow_nI_up]
    funext k
    by_cases e : k = j
    · rw [if_pos e, e]; exact pk_us
    · rw [if_neg e]; exact pk_un e
  rw [hu] at h1 h2
  exact kk H1 locs1 h1 h2 h3
theorem ow_cpyb (hexec : p.tables.exec = Jvm.exec) (hb : c.code = cc) (hml : c.maxLocals = ls.size) {own : String} {index : Nat} (hown : s.vm.findClass own = some m.cls) (hlink : (Cond.methodLink own index arraycopyName).before args s = true) (hnat : (Cond.native arraycopyName).before args s = true) (hstat : (Cond.static arraycopyName).before args s = true) (hini : (Cond.initialized "java/lang/System").before args s = true)
    (hK : va_K D cl tys s) (hP : va_P D cl ws H) (hD : va_D A ws) (hS : va_S A H0 H locs) (q0 q1 t0 t1 : Nat) {a0 : Nat} {c0 c1 : ClassId} {n0 n1 : Nat} {N M : Nat → Nat} (ha0 : ws[q0]? = some (a0, .inl (c0, n0, .inl (ow_nI N)))) (ha1 : ws[q1]? = some (a, .inl (c1, n1, .inl (ow_nI M)))) (ht0 : tys[t0]? = some (c0, .byte)) (ht1 : tys[t1]? = some (c1, .byte)) (hN : ow_b128 N)
    {sp dp n : Nat} (h4 : sp + n ≤ n0) (h5 : dp + n ≤ n1) (h6 : n0 < 2 ^ 31) (h7 : n1 < 2 ^ 31)
    (hframes : 1 ≤ R.frames) (hlocals : (rest.map fun v => v.category).sum + (nativeFrameWords "java/lang/System" "arraycopy" 5 + 11) ≤ R.locals) (hdg : decode cc pc = .ok (.invokestatic index, 3))
    (kk : ∀ (H1 : Heap) (locs1 : List Loc), va_P D cl (ws.set q1 (a, .inl (c1, n1, .inl (ow_nI (va_cpy N M sp dp n))))) H1 → va_D A (ws.set q1 (a, .inl (c1, n1, .inl (ow_nI (va_cpy N M sp dp n))))) → va_S A H0 H1 locs1 → W p l e R s m args below meth c H1 locs1 cells slots Q (F0 m (pc + 3) ls rest)) : W p l e R s m args below meth c H locs cells slots Q (F0 m pc ls (.int (nI n) :: .int (nI dp) :: .ref a :: .int (nI sp) :: .ref a0 :: rest)) := by
  refine va_copyi (ty := .byte) hexec hb hml hown hlink hnat hstat hini hK hP hD hS q0 q1 t0 t1 ha0 ha1 ht0 ht1 rfl (nI_pos (by omega)) (nI_pos (by omega)) (nI_pos (by omega)) ?_ ?_ (fun i _ => ow_fitb (hN _)) hframes hlocals hdg (fun H1 locs1 h1 h2 h3 => ?_)
  · rw [nI_clamp (by omega), nI_clamp (by omega)]; exact h4
  · rw [nI_clamp (by omega), nI_clamp (by omega)]; exact h5
  · rw [nI_clamp (by omega), nI_clamp (by omega), nI_clamp (by omega), np_cpyI] at h1 h2
    exact kk H1 locs1 h1 h2 h3
end BYT
/-! codes compared: the first difference of the cells -/
def cd_loop (A B : Nat → Nat) : Nat → Nat → Option Int32
  | 0, _ => none
  | d + 1, i => if A i = B i then cd_loop A B d (i + 1) else some (nI (A i) - nI (B i))
def cd_cmp (k1 l1 : Nat) (A : Nat → Nat) (k2 l2 : Nat) (B : Nat → Nat) : Int32 := if k1 = k2 then (cd_loop A B (min l1 l2) 0).getD (nI l1 - nI l2) else nI k1 - nI k2
theorem dgX3_write_0 : decode cX3_write 0 = .ok (.aload_n 2, 1) := by decide +kernel
theorem dgX3_write_1 : decode cX3_write 1 = .ok (.getfield 9, 3) := by decide +kernel
theorem dgX3_write_4 : decode cX3_write 4 = .ok (.iload_n 3, 1) := by decide +kernel
theorem dgX3_write_5 : decode cX3_write 5 = .ok (.bipush 30, 2) := by decide +kernel
theorem dgX3_write_7 : decode cX3_write 7 = .ok (.imul, 1) := by decide +kernel
theorem dgX3_write_8 : decode cX3_write 8 = .ok (.aload_n 0, 1) := by decide +kernel
theorem dgX3_write_9 : decode cX3_write 9 = .ok (.getfield 9, 3) := by decide +kernel
theorem dgX3_write_12 : decode cX3_write 12 = .ok (.iload_n 1, 1) := by decide +kernel
theorem dgX3_write_13 : decode cX3_write 13 = .ok (.bipush 30, 2) := by decide +kernel
theorem dgX3_write_15 : decode cX3_write 15 = .ok (.imul, 1) := by decide +kernel
theorem dgX3_write_16 : decode cX3_write 16 = .ok (.bipush 30, 2) := by decide +kernel
theorem dgX3_write_18 : decode cX3_write 18 = .ok (.invokestatic 25, 3) := by decide +kernel
theorem dgX3_write_21 : decode cX3_write 21 = .ok (.aload_n 0, 1) := by decide +kernel
theorem dgX3_write_22 : decode cX3_write 22 = .ok (.getfield 15, 3) := by decide +kernel
theorem dgX3_write_25 : decode cX3_write 25 = .ok (.iload_n 1, 1) := by decide +kernel
theorem dgX3_write_26 : decode cX3_write 26 = .ok (.aload_n 2, 1) := by decide +kernel
theorem dgX3_write_27 : decode cX3_write 27 = .ok (.getfield 15, 3) := by decide +kernel
theorem dgX3_write_30 : decode cX3_write 30 = .ok (.iload_n 3, 1) := by decide +kernel
theorem dgX3_write_31 : decode cX3_write 31 = .ok (.baload, 1) := by decide +kernel
theorem dgX3_write_32 : decode cX3_write 32 = .ok (.bastore, 1) := by decide +kernel
theorem dgX3_write_33 : decode cX3_write 33 = .ok (.aload_n 0, 1) := by decide +kernel
theorem dgX3_write_34 : decode cX3_write 34 = .ok (.getfield 18, 3) := by decide +kernel
theorem dgX3_write_37 : decode cX3_write 37 = .ok (.iload_n 1, 1) := by decide +kernel
theorem dgX3_write_38 : decode cX3_write 38 = .ok (.aload_n 2, 1) := by decide +kernel
theorem dgX3_write_39 : decode cX3_write 39 = .ok (.getfield 18, 3) := by decide +kernel
theorem dgX3_write_42 : decode cX3_write 42 = .ok (.iload_n 3, 1) := by decide +kernel
theorem dgX3_write_43 : decode cX3_write 43 = .ok (.baload, 1) := by decide +kernel
theorem dgX3_write_44 : decode cX3_write 44 = .ok (.bastore, 1) := by decide +kernel
theorem dgX3_write_45 : decode cX3_write 45 = .ok (.return_, 1) := by decide +kernel
def wg_X3_write : List Cond := .code yX3_write cX3_write 4 none :: (([.fieldLink RX3 9 "KnotHouse$Codes" "cells" "[B", .fieldLink RX3 15 "KnotHouse$Codes" "lengths" "[B", .fieldLink RX3 18 "KnotHouse$Codes" "crossings" "[B", .methodLink RX3 25 arraycopyName, .native arraycopyName, .static arraycopyName, .initialized "java/lang/System"] ++ wsX30) ++ [])
set_option maxHeartbeats 4000000 in
set_option maxRecDepth 100000 in
theorem kg_X3_write (l : Launch) (dC : Nat → ClassId) (dI : Nat → Nat → Nat) (cI cB cJ cZ : ClassId) (aX aY : Nat) (fx fy : Nat → Nat) (n k : Nat) (hn : n < 2 ^ 24) (hk : k < 2 ^ 24) (C L K C2 L2 K2 : Nat → Nat) (zx zy : Int32) (a b : Nat) (ha : a < n) (hbk : b < k) (hC2 : ow_b128 C2) (hL2 : ow_b128 L2) (hK2 : ow_b128 K2) (sz : Nat) : Met l yX3_write wg_X3_write (({ frames := 1, cells := 0, slots := 0, locals := 40 } : Room)) (va_Pc [.ref aX, .int (nI a), .ref aY, .int (nI b)] (fun U => U.heap.size = sz ∧ va_P (dC, dI) vwCl [(aX, .inr (6, [.ref (fx 0), .ref (fx 1), .ref (fx 2), .ref (fx 3), .int zx])), ((fx 0), .inl (cB, (30 * n), .inl (ow_nI C))), ((fx 1), .inl (cB, n, .inl (ow_nI L))), ((fx 2), .inl (cB, n, .inl (ow_nI K))), (aY, .inr (6, [.ref (fy 0), .ref (fy 1), .ref (fy 2), .ref (fy 3), .int zy])), ((fy 0), .inl (cB, (30 * k), .inl (ow_nI C2))), ((fy 1), .inl (cB, k, .inl (ow_nI L2))), ((fy 2), .inl (cB, k, .inl (ow_nI K2)))] U.heap ∧ va_K (dC, dI) vwCl [(cI, .int), (cB, .byte), (cJ, .long), (cZ, .boolean)] U ∧ va_D (fun _ => True) [(aX, .inr (6, [.ref (fx 0), .ref (fx 1), .ref (fx 2), .ref (fx 3), .int zx])), ((fx 0), .inl (cB, (30 * n), .inl (ow_nI C))), ((fx 1), .inl (cB, n, .inl (ow_nI L))), ((fx 2), .inl (cB, n, .inl (ow_nI K))), (aY, .inr (6, [.ref (fy 0), .ref (fy 1), .ref (fy 2), .ref (fy 3), .int zy])), ((fy 0), .inl (cB, (30 * k), .inl (ow_nI C2))), ((fy 1), .inl (cB, k, .inl (ow_nI L2))), ((fy 2), .inl (cB, k, .inl (ow_nI K2)))])) (va_Qv (fun (g : Unit) => True) (fun g t => va_P (dC, dI) vwCl [(aX, .inr (6, [.ref (fx 0), .ref (fx 1), .ref (fx 2), .ref (fx 3), .int zx])), ((fx 0), .inl (cB, (30 * n), .inl (ow_nI (va_cpy C2 C (30 * b) (30 * a) 30)))), ((fx 1), .inl (cB, n, .inl (ow_nI (nu L a (L2 b))))), ((fx 2), .inl (cB, n, .inl (ow_nI (nu K a (K2 b))))), (aY, .inr (6, [.ref (fy 0), .ref (fy 1), .ref (fy 2), .ref (fy 3), .int zy])), ((fy 0), .inl (cB, (30 * k), .inl (ow_nI C2))), ((fy 1), .inl (cB, k, .inl (ow_nI L2))), ((fy 2), .inl (cB, k, .inl (ow_nI K2)))] t.heap ∧ va_D (va_A [(aX, .inr (6, [.ref (fx 0), .ref (fx 1), .ref (fx 2), .ref (fx 3), .int zx])), ((fx 0), .inl (cB, (30 * n), .inl (ow_nI C))), ((fx 1), .inl (cB, n, .inl (ow_nI L))), ((fx 2), .inl (cB, n, .inl (ow_nI K))), (aY, .inr (6, [.ref (fy 0), .ref (fy 1), .ref (fy 2), .ref (fy 3), .int zy])), ((fy 0), .inl (cB, (30 * k), .inl (ow_nI C2))), ((fy 1), .inl (cB, k, .inl (ow_nI L2))), ((fy 2), .inl (cB, k, .inl (ow_nI K2)))] sz) [(aX, .inr (6, [.ref (fx 0), .ref (fx 1), .ref (fx 2), .ref (fx 3), .int zx])), ((fx 0), .inl (cB, (30 * n), .inl (ow_nI (va_cpy C2 C (30 * b) (30 * a) 30)))), ((fx 1), .inl (cB, n, .inl (ow_nI (nu L a (L2 b))))), ((fx 2), .inl (cB, n, .inl (ow_nI (nu K a (K2 b))))), (aY, .inr (6, [.ref (fy 0), .ref (fy 1), .ref (fy 2), .ref (fy 3), .int zy])), ((fy 0), .inl (cB, (30 * k), .inl (ow_nI C2))), ((fy 1), .inl (cB, k, .inl (ow_nI L2))), ((fy 2), .inl (cB, k, .inl (ow_nI K2)))]) (va_A [(aX, .inr (6, [.ref (fx 0), .ref (fx 1), .ref (fx 2), .ref (fx 3), .int zx])), ((fx 0), .inl (cB, (30 * n), .inl (ow_nI C))), ((fx 1), .inl (cB, n, .inl (ow_nI L))), ((fx 2), .inl (cB, n, .inl (ow_nI K))), (aY, .inr (6, [.ref (fy 0), .ref (fy 1), .ref (fy 2), .ref (fy 3), .int zy])), ((fy 0), .inl (cB, (30 * k), .inl (ow_nI C2))), ((fy 1), .inl (cB, k, .inl (ow_nI L2))), ((fy 2), .inl (cB, k, .inl (ow_nI K2)))] sz)) 0 0 (va_A [(aX, .inr (6, [.ref (fx 0), .ref (fx 1), .ref (fx 2), .ref (fx 3), .int zx])), ((fx 0), .inl (cB, (30 * n), .inl (ow_nI C))), ((fx 1), .inl (cB, n, .inl (ow_nI L))), ((fx 2), .inl (cB, n, .inl (ow_nI K))), (aY, .inr (6, [.ref (fy 0), .ref (fy 1), .ref (fy 2), .ref (fy 3), .int zy])), ((fy 0), .inl (cB, (30 * k), .inl (ow_nI C2))), ((fy 1), .inl (cB, k, .inl (ow_nI L2))), ((fy 2), .inl (cB, k, .inl (ow_nI K2)))] sz) := by
  refine Met.ofW (cc := cX3_write) (maxL := 4) (ret := none) (by decide) rfl ?_
  intro p e s m args below meth c s₁ B hml hv
  obtain ⟨rfl, hsz, hP, hK, hD0⟩ := hv
  have hx := B.exec
  have hb := B.bytes
  have hr := B.returns
  have hts := atoms_spec (ws := wg_X3_write) B.pre
  have hown : s.vm.findClass RX3 = some m.cls := findClass_of_methodNamed B.named
  have hlocks := B.notSynchronized
  subst hsz
  have hD := hD0.self (sz := s.heap.size)
  generalize hAe : va_A [(aX, .inr (6, [.ref (fx 0), .ref (fx 1), .ref (fx 2), .ref (fx 3), .int zx])), ((fx 0), .inl (cB, (30 * n), .inl (ow_nI C))), ((fx 1), .inl (cB, n, .inl (ow_nI L))), ((fx 2), .inl (cB, n, .inl (ow_nI K))), (aY, .inr (6, [.ref (fy 0), .ref (fy 1), .ref (fy 2), .ref (fy 3), .int zy])), ((fy 0), .inl (cB, (30 * k), .inl (ow_nI C2))), ((fy 1), .inl (cB, k, .inl (ow_nI L2))), ((fy 2), .inl (cB, k, .inl (ow_nI K2)))] s.heap.size = A at hD ⊢
  have hA : ∀ q : Nat, s.heap.size ≤ q → A q := fun q h => by rw [← hAe]; exact Or.inr h
  have hS : va_S A s.heap s.heap [] := va_S.rf
  have hP : va_P (dC, dI) vwCl [(aX, .inr (6, [.ref (fx 0), .ref (fx 1), .ref (fx 2), .ref (fx 3), .int zx])), ((fx 0), .inl (cB, (30 * n), .inl (ow_nI C))), ((fx 1), .inl (cB, n, .inl (ow_nI L))), ((fx 2), .inl (cB, n, .inl (ow_nI K))), (aY, .inr (6, [.ref (fy 0), .ref (fy 1), .ref (fy 2), .ref (fy 3), .int zy])), ((fy 0), .inl (cB, (30 * k), .inl (ow_nI C2))), ((fy 1), .inl (cB, k, .inl (ow_nI L2))), ((fy 2), .inl (cB, k, .inl (ow_nI K2)))] s.heap := hP
  have hl := lv_entry ([.ref aX, .int (nI a), .ref aY, .int (nI b)]) (n := 4) (Nat.le_of_ble_eq_true rfl)
  rw [lg_entry_eq]
  generalize (lg_sl ([.ref aX, .int (nI a), .ref aY, .int (nI b)]) ++ List.replicate (4 - (lg_sl ([.ref aX, .int (nI a), .ref aY, .int (nI b)])).length) Slot.unset).toArray = ls at hl ⊢
  have hl : lv_has ls 4 [(0, .ref aX), (1, .int (nI a)), (2, .ref aY), (3, .int (nI b))] := hl
  refine ow_named (fun QQ hQQ => ?_)
  suffices key9 : ∀ (H : Heap) (locs : List Loc), va_P (dC, dI) vwCl [(aX, .inr (6, [.ref (fx 0), .ref (fx 1), .ref (fx 2), .ref (fx 3), .int zx])), ((fx 0), .inl (cB, (30 * n), .inl (ow_nI C))), ((fx 1), .inl (cB, n, .inl (ow_nI L))), ((fx 2), .inl (cB, n, .inl (ow_nI K))), (aY, .inr (6, [.ref (fy 0), .ref (fy 1), .ref (fy 2), .ref (fy 3), .int zy])), ((fy 0), .inl (cB, (30 * k), .inl (ow_nI C2))), ((fy 1), .inl (cB, k, .inl (ow_nI L2))), ((fy 2), .inl (cB, k, .inl (ow_nI K2)))] H → va_S A s.heap H locs → W p l e ({ frames := 1, cells := 0, slots := 0, locals := 40 } : Room) s m ([.ref aX, .int (nI a), .ref aY, .int (nI b)] : List Value).toArray below meth c H locs 0 0 QQ (F0 m 0 ls []) from key9 s.heap [] hP hS
  intro H locs hP hS
  refine lv_aload_n hx hb dgX3_write_0 rfl (lv_at hl 2 rfl) ?_
  refine va_get (D := (dC, dI)) (ci := 6) (v := .ref (fy 0)) (C := RX3) (T := TX3) (N := 5) hx hb hts (fun _ h => List.mem_cons_of_mem _ (List.mem_append_left _ (List.mem_append_right _ h))) hown hK hP 4 rfl rfl 0 (by decide) (hts (.fieldLink RX3 9 "KnotHouse$Codes" "cells" "[B") (by decide +kernel)) (fun _ h9 => h9) rfl dgX3_write_1 ?_
  refine lv_iload_n hx hb dgX3_write_4 rfl (lv_at hl 3 rfl) ?_
  refine lv_bipush (v := 30) hx hb dgX3_write_5 (by decide) ?_
  refine lv_imul hx hb dgX3_write_7 ?_
  refine ow_topi (y := nI (30 * b)) (by rw [Nat.mul_comm]; exact pk_mul b 30) ?_
  refine lv_aload_n hx hb dgX3_write_8 rfl (lv_at hl 0 rfl) ?_
  refine va_get (D := (dC, dI)) (ci := 6) (v := .ref (fx 0)) (C := RX3) (T := TX3) (N := 5) hx hb hts (fun _ h => List.mem_cons_of_mem _ (List.mem_append_left _ (List.mem_append_right _ h))) hown hK hP 0 rfl rfl 0 (by decide) (hts (.fieldLink RX3 9 "KnotHouse$Codes" "cells" "[B") (by decide +kernel)) (fun _ h9 => h9) rfl dgX3_write_9 ?_
  refine lv_iload_n hx hb dgX3_write_12 rfl (lv_at hl 1 rfl) ?_
  refine lv_bipush (v := 30) hx hb dgX3_write_13 (by decide) ?_
  refine lv_imul hx hb dgX3_write_15 ?_
  refine ow_topi (y := nI (30 * a)) (by rw [Nat.mul_comm]; exact pk_mul a 30) ?_
  refine lv_bipush (v := 30) hx hb dgX3_write_16 (by decide) ?_
  refine ow_topi (y := nI 30) (by decide) ?_
  refine ow_cpyb (sp := 30 * b) (dp := 30 * a) (n := 30) hx hb (by rw [hml]; exact hl.1.symm) hown (hts (.methodLink RX3 25 arraycopyName) (by decide +kernel)) (hts (.native arraycopyName) (by decide +kernel)) (hts (.static arraycopyName) (by decide +kernel)) (hts (.initialized "java/lang/System") (by decide +kernel)) hK hP hD hS 5 1 1 1 rfl rfl rfl rfl hC2 (by omega) (by omega) (by omega) (by omega) (Nat.le_of_ble_eq_true rfl) (by decide) dgX3_write_18 (fun H locs hP hD hS => ?_)
  have hP : va_P (dC, dI) vwCl [(aX, .inr (6, [.ref (fx 0), .ref (fx 1), .ref (fx 2), .ref (fx 3), .int zx])), ((fx 0), .inl (cB, (30 * n), .inl (ow_nI (va_cpy C2 C (30 * b) (30 * a) 30)))), ((fx 1), .inl (cB, n, .inl (ow_nI L))), ((fx 2), .inl (cB, n, .inl (ow_nI K))), (aY, .inr (6, [.ref (fy 0), .ref (fy 1), .ref (fy 2), .ref (fy 3), .int zy])), ((fy 0), .inl (cB, (30 * k), .inl (ow_nI C2))), ((fy 1), .inl (cB, k, .inl (ow_nI L2))), ((fy 2), .inl (cB, k, .inl (ow_nI K2)))] H := hP
  have hD : va_D A [(aX, .inr (6, [.ref (fx 0), .ref (fx 1), .ref (fx 2), .ref (fx 3), .int zx])), ((fx 0), .inl (cB, (30 * n), .inl (ow_nI (va_cpy C2 C (30 * b) (30 * a) 30)))), ((fx 1), .inl (cB, n, .inl (ow_nI L))), ((fx 2), .inl (cB, n, .inl (ow_nI K))), (aY, .inr (6, [.ref (fy 0), .ref (fy 1), .ref (fy 2), .ref (fy 3), .int zy])), ((fy 0), .inl (cB, (30 * k), .inl (ow_nI C2))), ((fy 1), .inl (cB, k, .inl (ow_nI L2))), ((fy 2), .inl (cB, k, .inl (ow_nI K2)))] := hD
  refine lv_aload_n hx hb dgX3_write_21 rfl (lv_at hl 0 rfl) ?_
  refine va_get (D := (dC, dI)) (ci := 6) (v := .ref (fx 1)) (C := RX3) (T := TX3) (N := 5) hx hb hts (fun _ h => List.mem_cons_of_mem _ (List.mem_append_left _ (List.mem_append_right _ h))) hown hK hP 0 rfl rfl 1 (by decide) (hts (.fieldLink RX3 15 "KnotHouse$Codes" "lengths" "[B") (by decide +kernel)) (fun _ h9 => h9) rfl dgX3_write_22 ?_
  refine lv_iload_n hx hb dgX3_write_25 rfl (lv_at hl 1 rfl) ?_
  refine lv_aload_n hx hb dgX3_write_26 rfl (lv_at hl 2 rfl) ?_
  refine va_get (D := (dC, dI)) (ci := 6) (v := .ref (fy 1)) (C := RX3) (T := TX3) (N := 5) hx hb hts (fun _ h => List.mem_cons_of_mem _ (List.mem_append_left _ (List.mem_append_right _ h))) hown hK hP 4 rfl rfl 1 (by decide) (hts (.fieldLink RX3 15 "KnotHouse$Codes" "lengths" "[B") (by decide +kernel)) (fun _ h9 => h9) rfl dgX3_write_27 ?_
  refine lv_iload_n hx hb dgX3_write_30 rfl (lv_at hl 3 rfl) ?_
  refine va_bald hx hb hK hP 6 1 rfl rfl (vp_in_nI (n := b) (N := k) hbk (by omega)) dgX3_write_31 ?_
  refine ow_topi (y := nI (L2 b)) (ow_nI_at L2 (Nat.lt_trans (m := k) hbk (by omega))) ?_
  refine ow_bastN (j := a) (w := L2 b) hx hb hK hP hD hS 2 1 rfl rfl ha (by omega) (hL2 b) dgX3_write_32 (fun H locs hP hD hS => ?_)
  have hP : va_P (dC, dI) vwCl [(aX, .inr (6, [.ref (fx 0), .ref (fx 1), .ref (fx 2), .ref (fx 3), .int zx])), ((fx 0), .inl (cB, (30 * n), .inl (ow_nI (va_cpy C2 C (30 * b) (30 * a) 30)))), ((fx 1), .inl (cB, n, .inl (ow_nI (nu L a (L2 b))))), ((fx 2), .inl (cB, n, .inl (ow_nI K))), (aY, .inr (6, [.ref (fy 0), .ref (fy 1), .ref (fy 2), .ref (fy 3), .int zy])), ((fy 0), .inl (cB, (30 * k), .inl (ow_nI C2))), ((fy 1), .inl (cB, k, .inl (ow_nI L2))), ((fy 2), .inl (cB, k, .inl (ow_nI K2)))] H := hP
  have hD : va_D A [(aX, .inr (6, [.ref (fx 0), .ref (fx 1), .ref (fx 2), .ref (fx 3), .int zx])), ((fx 0), .inl (cB, (30 * n), .inl (ow_nI (va_cpy C2 C (30 * b) (30 * a) 30)))), ((fx 1), .inl (cB, n, .inl (ow_nI (nu L a (L2 b))))), ((fx 2), .inl (cB, n, .inl (ow_nI K))), (aY, .inr (6, [.ref (fy 0), .ref (fy 1), .ref (fy 2), .ref (fy 3), .int zy])), ((fy 0), .inl (cB, (30 * k), .inl (ow_nI C2))), ((fy 1), .inl (cB, k, .inl (ow_nI L2))), ((fy 2), .inl (cB, k, .inl (ow_nI K2)))] := hD
  refine lv_aload_n hx hb dgX3_write_33 rfl (lv_at hl 0 rfl) ?_
  refine va_get (D := (dC, dI)) (ci := 6) (v := .ref (fx 2)) (C := RX3) (T := TX3) (N := 5) hx hb hts (fun _ h => List.mem_cons_of_mem _ (List.mem_append_left _ (List.mem_append_right _ h))) hown hK hP 0 rfl rfl 2 (by decide) (hts (.fieldLink RX3 18 "KnotHouse$Codes" "crossings" "[B") (by decide +kernel)) (fun _ h9 => h9) rfl dgX3_write_34 ?_
  refine lv_iload_n hx hb dgX3_write_37 rfl (lv_at hl 1 rfl) ?_
  refine lv_aload_n hx hb dgX3_write_38 rfl (lv_at hl 2 rfl) ?_
  refine va_get (D := (dC, dI)) (ci := 6) (v := .ref (fy 2)) (C := RX3) (T := TX3) (N := 5) hx hb hts (fun _ h => List.mem_cons_of_mem _ (List.mem_append_left _ (List.mem_append_right _ h))) hown hK hP 4 rfl rfl 2 (by decide) (hts (.fieldLink RX3 18 "KnotHouse$Codes" "crossings" "[B") (by decide +kernel)) (fun _ h9 => h9) rfl dgX3_write_39 ?_
  refine lv_iload_n hx hb dgX3_write_42 rfl (lv_at hl 3 rfl) ?_
  refine va_bald hx hb hK hP 7 1 rfl rfl (vp_in_nI (n := b) (N := k) hbk (by omega)) dgX3_write_43 ?_
  refine ow_topi (y := nI (K2 b)) (ow_nI_at K2 (Nat.lt_trans (m := k) hbk (by omega))) ?_
  refine ow_bastN (j := a) (w := K2 b) hx hb hK hP hD hS 3 1 rfl rfl ha (by omega) (hK2 b) dgX3_write_44 (fun H locs hP hD hS => ?_)
  have hP : va_P (dC, dI) vwCl [(aX, .inr (6, [.ref (fx 0), .ref (fx 1), .ref (fx 2), .ref (fx 3), .int zx])), ((fx 0), .inl (cB, (30 * n), .inl (ow_nI (va_cpy C2 C (30 * b) (30 * a) 30)))), ((fx 1), .inl (cB, n, .inl (ow_nI (nu L a (L2 b))))), ((fx 2), .inl (cB, n, .inl (ow_nI (nu K a (K2 b))))), (aY, .inr (6, [.ref (fy 0), .ref (fy 1), .ref (fy 2), .ref (fy 3), .int zy])), ((fy 0), .inl (cB, (30 * k), .inl (ow_nI C2))), ((fy 1), .inl (cB, k, .inl (ow_nI L2))), ((fy 2), .inl (cB, k, .inl (ow_nI K2)))] H := hP
  have hD : va_D A [(aX, .inr (6, [.ref (fx 0), .ref (fx 1), .ref (fx 2), .ref (fx 3), .int zx])), ((fx 0), .inl (cB, (30 * n), .inl (ow_nI (va_cpy C2 C (30 * b) (30 * a) 30)))), ((fx 1), .inl (cB, n, .inl (ow_nI (nu L a (L2 b))))), ((fx 2), .inl (cB, n, .inl (ow_nI (nu K a (K2 b))))), (aY, .inr (6, [.ref (fy 0), .ref (fy 1), .ref (fy 2), .ref (fy 3), .int zy])), ((fy 0), .inl (cB, (30 * k), .inl (ow_nI C2))), ((fy 1), .inl (cB, k, .inl (ow_nI L2))), ((fy 2), .inl (cB, k, .inl (ow_nI K2)))] := hD
  rw [hQQ]
  exact W.vret hx hb hr (fun t ht hW => ⟨⟨(), rfl, trivial, by rw [ht]; exact hP, hD⟩, hS.F ht⟩) hS.2.2 dgX3_write_45
theorem dgX3_compare_0 : decode cX3_compare 0 = .ok (.aload_n 0, 1) := by decide +kernel
theorem dgX3_compare_1 : decode cX3_compare 1 = .ok (.getfield 18, 3) := by decide +kernel
theorem dgX3_compare_4 : decode cX3_compare 4 = .ok (.iload_n 1, 1) := by decide +kernel
theorem dgX3_compare_5 : decode cX3_compare 5 = .ok (.baload, 1) := by decide +kernel
theorem dgX3_compare_6 : decode cX3_compare 6 = .ok (.aload_n 2, 1) := by decide +kernel
theorem dgX3_compare_7 : decode cX3_compare 7 = .ok (.getfield 18, 3) := by decide +kernel
theorem dgX3_compare_10 : decode cX3_compare 10 = .ok (.iload_n 3, 1) := by decide +kernel
theorem dgX3_compare_11 : decode cX3_compare 11 = .ok (.baload, 1) := by decide +kernel
theorem dgX3_compare_12 : decode cX3_compare 12 = .ok (.if_icmp .eq 17, 3) := by decide +kernel
theorem dgX3_compare_15 : decode cX3_compare 15 = .ok (.aload_n 0, 1) := by decide +kernel
theorem dgX3_compare_16 : decode cX3_compare 16 = .ok (.getfield 18, 3) := by decide +kernel
theorem dgX3_compare_19 : decode cX3_compare 19 = .ok (.iload_n 1, 1) := by decide +kernel
theorem dgX3_compare_20 : decode cX3_compare 20 = .ok (.baload, 1) := by decide +kernel
theorem dgX3_compare_21 : decode cX3_compare 21 = .ok (.aload_n 2, 1) := by decide +kernel
theorem dgX3_compare_22 : decode cX3_compare 22 = .ok (.getfield 18, 3) := by decide +kernel
theorem dgX3_compare_25 : decode cX3_compare 25 = .ok (.iload_n 3, 1) := by decide +kernel
theorem dgX3_compare_26 : decode cX3_compare 26 = .ok (.baload, 1) := by decide +kernel
theorem dgX3_compare_27 : decode cX3_compare 27 = .ok (.isub, 1) := by decide +kernel
theorem dgX3_compare_28 : decode cX3_compare 28 = .ok (.ireturn, 1) := by decide +kernel
theorem dgX3_compare_29 : decode cX3_compare 29 = .ok (.iload_n 1, 1) := by decide +kernel
theorem dgX3_compare_30 : decode cX3_compare 30 = .ok (.bipush 30, 2) := by decide +kernel
theorem dgX3_compare_32 : decode cX3_compare 32 = .ok (.imul, 1) := by decide +kernel
theorem dgX3_compare_33 : decode cX3_compare 33 = .ok (.istore 4, 2) := by decide +kernel
theorem dgX3_compare_35 : decode cX3_compare 35 = .ok (.iload_n 3, 1) := by decide +kernel
theorem dgX3_compare_36 : decode cX3_compare 36 = .ok (.bipush 30, 2) := by decide +kernel
theorem dgX3_compare_38 : decode cX3_compare 38 = .ok (.imul, 1) := by decide +kernel
theorem dgX3_compare_39 : decode cX3_compare 39 = .ok (.istore 5, 2) := by decide +kernel
theorem dgX3_compare_41 : decode cX3_compare 41 = .ok (.aload_n 0, 1) := by decide +kernel
theorem dgX3_compare_42 : decode cX3_compare 42 = .ok (.getfield 15, 3) := by decide +kernel
theorem dgX3_compare_45 : decode cX3_compare 45 = .ok (.iload_n 1, 1) := by decide +kernel
theorem dgX3_compare_46 : decode cX3_compare 46 = .ok (.baload, 1) := by decide +kernel
theorem dgX3_compare_47 : decode cX3_compare 47 = .ok (.aload_n 2, 1) := by decide +kernel
theorem dgX3_compare_48 : decode cX3_compare 48 = .ok (.getfield 15, 3) := by decide +kernel
theorem dgX3_compare_51 : decode cX3_compare 51 = .ok (.iload_n 3, 1) := by decide +kernel
theorem dgX3_compare_52 : decode cX3_compare 52 = .ok (.baload, 1) := by decide +kernel
theorem dgX3_compare_53 : decode cX3_compare 53 = .ok (.invokestatic 31, 3) := by decide +kernel
theorem dgX3_compare_56 : decode cX3_compare 56 = .ok (.istore 6, 2) := by decide +kernel
theorem dgX3_compare_58 : decode cX3_compare 58 = .ok (.iconst 0, 1) := by decide +kernel
theorem dgX3_compare_59 : decode cX3_compare 59 = .ok (.istore 7, 2) := by decide +kernel
theorem dgX3_compare_61 : decode cX3_compare 61 = .ok (.iload 7, 2) := by decide +kernel
theorem dgX3_compare_63 : decode cX3_compare 63 = .ok (.iload 6, 2) := by decide +kernel
theorem dgX3_compare_65 : decode cX3_compare 65 = .ok (.if_icmp .ge 40, 3) := by decide +kernel
theorem dgX3_compare_68 : decode cX3_compare 68 = .ok (.aload_n 0, 1) := by decide +kernel
theorem dgX3_compare_69 : decode cX3_compare 69 = .ok (.getfield 9, 3) := by decide +kernel
theorem dgX3_compare_72 : decode cX3_compare 72 = .ok (.iload 4, 2) := by decide +kernel
theorem dgX3_compare_74 : decode cX3_compare 74 = .ok (.iload 7, 2) := by decide +kernel
theorem dgX3_compare_76 : decode cX3_compare 76 = .ok (.iadd, 1) := by decide +kernel
theorem dgX3_compare_77 : decode cX3_compare 77 = .ok (.baload, 1) := by decide +kernel
theorem dgX3_compare_78 : decode cX3_compare 78 = .ok (.aload_n 2, 1) := by decide +kernel
theorem dgX3_compare_79 : decode cX3_compare 79 = .ok (.getfield 9, 3) := by decide +kernel
theorem dgX3_compare_82 : decode cX3_compare 82 = .ok (.iload 5, 2) := by decide +kernel
theorem dgX3_compare_84 : decode cX3_compare 84 = .ok (.iload 7, 2) := by decide +kernel
theorem dgX3_compare_86 : decode cX3_compare 86 = .ok (.iadd, 1) := by decide +kernel
theorem dgX3_compare_87 : decode cX3_compare 87 = .ok (.baload, 1) := by decide +kernel
theorem dgX3_compare_88 : decode cX3_compare 88 = .ok (.isub, 1) := by decide +kernel
theorem dgX3_compare_89 : decode cX3_compare 89 = .ok (.istore 8, 2) := by decide +kernel
theorem dgX3_compare_91 : decode cX3_compare 91 = .ok (.iload 8, 2) := by decide +kernel
theorem dgX3_compare_93 : decode cX3_compare 93 = .ok (.ifCond .eq 6, 3) := by decide +kernel
theorem dgX3_compare_96 : decode cX3_compare 96 = .ok (.iload 8, 2) := by decide +kernel
theorem dgX3_compare_98 : decode cX3_compare 98 = .ok (.ireturn, 1) := by decide +kernel
theorem dgX3_compare_99 : decode cX3_compare 99 = .ok (.iinc 7 1, 3) := by decide +kernel
theorem dgX3_compare_102 : decode cX3_compare 102 = .ok (.goto (-41), 3) := by decide +kernel
theorem dgX3_compare_105 : decode cX3_compare 105 = .ok (.aload_n 0, 1) := by decide +kernel
theorem dgX3_compare_106 : decode cX3_compare 106 = .ok (.getfield 15, 3) := by decide +kernel
theorem dgX3_compare_109 : decode cX3_compare 109 = .ok (.iload_n 1, 1) := by decide +kernel
theorem dgX3_compare_110 : decode cX3_compare 110 = .ok (.baload, 1) := by decide +kernel
theorem dgX3_compare_111 : decode cX3_compare 111 = .ok (.aload_n 2, 1) := by decide +kernel
theorem dgX3_compare_112 : decode cX3_compare 112 = .ok (.getfield 15, 3) := by decide +kernel
theorem dgX3_compare_115 : decode cX3_compare 115 = .ok (.iload_n 3, 1) := by decide +kernel
theorem dgX3_compare_116 : decode cX3_compare 116 = .ok (.baload, 1) := by decide +kernel
theorem dgX3_compare_117 : decode cX3_compare 117 = .ok (.isub, 1) := by decide +kernel
theorem dgX3_compare_118 : decode cX3_compare 118 = .ok (.ireturn, 1) := by decide +kernel
def wg_X3_compare : List Cond := .code yX3_compare cX3_compare 9 (some .int) :: (([.fieldLink RX3 18 "KnotHouse$Codes" "crossings" "[B", .fieldLink RX3 15 "KnotHouse$Codes" "lengths" "[B", .fieldLink RX3 9 "KnotHouse$Codes" "cells" "[B", .methodLink RX3 31 Lib.Math.min.name, .static Lib.Math.min.name, .initialized "java/lang/Math", .code Lib.Math.min.name Lib.Math.min.code 2 (some .int)] ++ wsX30) ++ [])
set_option maxHeartbeats 4000000 in
set_option maxRecDepth 100000 in
theorem kg_X3_compare (l : Launch) (dC : Nat → ClassId) (dI : Nat → Nat → Nat) (cI cB cJ cZ : ClassId) (aX aY : Nat) (fx fy : Nat → Nat) (n k : Nat) (hn : n < 2 ^ 24) (hk : k < 2 ^ 24) (C L K C2 L2 K2 : Nat → Nat) (zx zy : Int32) (a b : Nat) (ha : a < n) (hbk : b < k) (hLa : L a ≤ 30) (hLb : L2 b ≤ 30) (hC : ow_b128 C) (hKb : ow_b128 K) (hC2 : ow_b128 C2) (hK2 : ow_b128 K2) : Met l yX3_compare wg_X3_compare (({ frames := 1, cells := 0, slots := 0, locals := 40 } : Room)) (va_Pc [.ref aX, .int (nI a), .ref aY, .int (nI b)] (fun U => va_P (dC, dI) vwCl [(aX, .inr (6, [.ref (fx 0), .ref (fx 1), .ref (fx 2), .ref (fx 3), .int zx])), ((fx 0), .inl (cB, (30 * n), .inl (ow_nI C))), ((fx 1), .inl (cB, n, .inl (ow_nI L))), ((fx 2), .inl (cB, n, .inl (ow_nI K))), (aY, .inr (6, [.ref (fy 0), .ref (fy 1), .ref (fy 2), .ref (fy 3), .int zy])), ((fy 0), .inl (cB, (30 * k), .inl (ow_nI C2))), ((fy 1), .inl (cB, k, .inl (ow_nI L2))), ((fy 2), .inl (cB, k, .inl (ow_nI K2)))] U.heap ∧ va_K (dC, dI) vwCl [(cI, .int), (cB, .byte), (cJ, .long), (cZ, .boolean)] U)) (va_Qi (fun r (_ : Unit) => r = cd_cmp (K a) (L a) (fun i => C (30 * a + i)) (K2 b) (L2 b) (fun i => C2 (30 * b + i))) (fun _ _ => True) (fun _ => False)) 0 0 (fun _ => False) := by
  refine Met.ofW (cc := cX3_compare) (maxL := 9) (ret := (some .int)) (by decide) rfl ?_
  intro p e s m args below meth c s₁ B hml hv
  obtain ⟨rfl, hP, hK⟩ := hv
  have hx := B.exec
  have hb := B.bytes
  have hr := B.returns
  have hts := atoms_spec (ws := wg_X3_compare) B.pre
  have hown : s.vm.findClass RX3 = some m.cls := findClass_of_methodNamed B.named
  have hlocks := B.notSynchronized
  have hS : va_S (fun _ => False) s.heap s.heap [] := va_S.rf
  have hP : va_P (dC, dI) vwCl [(aX, .inr (6, [.ref (fx 0), .ref (fx 1), .ref (fx 2), .ref (fx 3), .int zx])), ((fx 0), .inl (cB, (30 * n), .inl (ow_nI C))), ((fx 1), .inl (cB, n, .inl (ow_nI L))), ((fx 2), .inl (cB, n, .inl (ow_nI K))), (aY, .inr (6, [.ref (fy 0), .ref (fy 1), .ref (fy 2), .ref (fy 3), .int zy])), ((fy 0), .inl (cB, (30 * k), .inl (ow_nI C2))), ((fy 1), .inl (cB, k, .inl (ow_nI L2))), ((fy 2), .inl (cB, k, .inl (ow_nI K2)))] s.heap := hP
  have hl := lv_entry ([.ref aX, .int (nI a), .ref aY, .int (nI b)]) (n := 9) (Nat.le_of_ble_eq_true rfl)
  rw [lg_entry_eq]
  generalize (lg_sl ([.ref aX, .int (nI a), .ref aY, .int (nI b)]) ++ List.replicate (9 - (lg_sl ([.ref aX, .int (nI a), .ref aY, .int (nI b)])).length) Slot.unset).toArray = ls at hl ⊢
  have hl : lv_has ls 9 [(0, .ref aX), (1, .int (nI a)), (2, .ref aY), (3, .int (nI b))] := hl
  refine ow_named (fun QQ hQQ => ?_)
  refine lv_aload_n hx hb dgX3_compare_0 rfl (lv_at hl 0 rfl) ?_
  refine va_get (D := (dC, dI)) (ci := 6) (v := .ref (fx 2)) (C := RX3) (T := TX3) (N := 5) hx hb hts (fun _ h => List.mem_cons_of_mem _ (List.mem_append_left _ (List.mem_append_right _ h))) hown hK hP 0 rfl rfl 2 (by decide) (hts (.fieldLink RX3 18 "KnotHouse$Codes" "crossings" "[B") (by decide +kernel)) (fun _ h9 => h9) rfl dgX3_compare_1 ?_
  refine lv_iload_n hx hb dgX3_compare_4 rfl (lv_at hl 1 rfl) ?_
  refine va_bald hx hb hK hP 3 1 rfl rfl (vp_in_nI (n := a) (N := n) ha (by omega)) dgX3_compare_5 ?_
  refine ow_topi (y := nI (K a)) (ow_nI_at K (Nat.lt_trans (m := n) ha (by omega))) ?_
  refine lv_aload_n hx hb dgX3_compare_6 rfl (lv_at hl 2 rfl) ?_
  refine va_get (D := (dC, dI)) (ci := 6) (v := .ref (fy 2)) (C := RX3) (T := TX3) (N := 5) hx hb hts (fun _ h => List.mem_cons_of_mem _ (List.mem_append_left _ (List.mem_append_right _ h))) hown hK hP 4 rfl rfl 2 (by decide) (hts (.fieldLink RX3 18 "KnotHouse$Codes" "crossings" "[B") (by decide +kernel)) (fun _ h9 => h9) rfl dgX3_compare_7 ?_
  refine lv_iload_n hx hb dgX3_compare_10 rfl (lv_at hl 3 rfl) ?_
  refine va_bald hx hb hK hP 7 1 rfl rfl (vp_in_nI (n := b) (N := k) hbk (by omega)) dgX3_compare_11 ?_
  refine ow_topi (y := nI (K2 b)) (ow_nI_at K2 (Nat.lt_trans (m := k) hbk (by omega))) ?_
  refine lv_icmp_eq (tgt := 29) hx hb dgX3_compare_12 (by decide) (fun c1 => ?_) (fun c1 => ?_)
  · have hk1 : K a = K2 b := ow_nI_inj (Nat.lt_trans (hKb a) (by decide)) (Nat.lt_trans (hK2 b) (by decide)) c1
    refine lv_iload_n hx hb dgX3_compare_29 rfl (lv_at hl 1 rfl) ?_
    refine lv_bipush (v := 30) hx hb dgX3_compare_30 (by decide) ?_
    refine lv_imul hx hb dgX3_compare_32 ?_
    refine ow_topi (y := nI (30 * a)) (by rw [Nat.mul_comm]; exact pk_mul a 30) ?_
    refine lv_istore (lv' := [(4, .int (nI (30 * a))), (0, .ref aX), (1, .int (nI a)), (2, .ref aY), (3, .int (nI b))]) hx hb dgX3_compare_33 hl (by decide) rfl (fun ls hl => ?_)
    refine lv_iload_n hx hb dgX3_compare_35 rfl (lv_at hl 4 rfl) ?_
    refine lv_bipush (v := 30) hx hb dgX3_compare_36 (by decide) ?_
    refine lv_imul hx hb dgX3_compare_38 ?_
    refine ow_topi (y := nI (30 * b)) (by rw [Nat.mul_comm]; exact pk_mul b 30) ?_
    refine lv_istore (lv' := [(5, .int (nI (30 * b))), (4, .int (nI (30 * a))), (0, .ref aX), (1, .int (nI a)), (2, .ref aY), (3, .int (nI b))]) hx hb dgX3_compare_39 hl (by decide) rfl (fun ls hl => ?_)
    refine lv_aload_n hx hb dgX3_compare_41 rfl (lv_at hl 2 rfl) ?_
    refine va_get (D := (dC, dI)) (ci := 6) (v := .ref (fx 1)) (C := RX3) (T := TX3) (N := 5) hx hb hts (fun _ h => List.mem_cons_of_mem _ (List.mem_append_left _ (List.mem_append_right _ h))) hown hK hP 0 rfl rfl 1 (by decide) (hts (.fieldLink RX3 15 "KnotHouse$Codes" "lengths" "[B") (by decide +kernel)) (fun _ h9 => h9) rfl dgX3_compare_42 ?_
    refine lv_iload_n hx hb dgX3_compare_45 rfl (lv_at hl 3 rfl) ?_
    refine va_bald hx hb hK hP 2 1 rfl rfl (vp_in_nI (n := a) (N := n) ha (by omega)) dgX3_compare_46 ?_
    refine ow_topi (y := nI (L a)) (ow_nI_at L (Nat.lt_trans (m := n) ha (by omega))) ?_
    refine lv_aload_n hx hb dgX3_compare_47 rfl (lv_at hl 4 rfl) ?_
    refine va_get (D := (dC, dI)) (ci := 6) (v := .ref (fy 1)) (C := RX3) (T := TX3) (N := 5) hx hb hts (fun _ h => List.mem_cons_of_mem _ (List.mem_append_left _ (List.mem_append_right _ h))) hown hK hP 4 rfl rfl 1 (by decide) (hts (.fieldLink RX3 15 "KnotHouse$Codes" "lengths" "[B") (by decide +kernel)) (fun _ h9 => h9) rfl dgX3_compare_48 ?_
    refine lv_iload_n hx hb dgX3_compare_51 rfl (lv_at hl 5 rfl) ?_
    refine va_bald hx hb hK hP 6 1 rfl rfl (vp_in_nI (n := b) (N := k) hbk (by omega)) dgX3_compare_52 ?_
    refine ow_topi (y := nI (L2 b)) (ow_nI_at L2 (Nat.lt_trans (m := k) hbk (by omega))) ?_
    refine va_mmin hx hb (by rw [hml]; exact hl.1.symm) hown (hts (.methodLink RX3 31 Lib.Math.min.name) (by decide +kernel)) (hts (.static Lib.Math.min.name) (by decide +kernel)) (hts (.initialized "java/lang/Math") (by decide +kernel)) (hts (.code Lib.Math.min.name Lib.Math.min.code 2 (some .int)) (by decide +kernel)) (Nat.le_of_ble_eq_true rfl) (by decide) (Nat.le_of_ble_eq_true rfl) (Nat.le_of_ble_eq_true rfl) dgX3_compare_53 ?_
    refine ow_topi (y := nI (min (L a) (L2 b))) (ow_min (by omega) (by omega)) ?_
    refine lv_istore (lv' := [(6, .int (nI (min (L a) (L2 b)))), (5, .int (nI (30 * b))), (4, .int (nI (30 * a))), (0, .ref aX), (1, .int (nI a)), (2, .ref aY), (3, .int (nI b))]) hx hb dgX3_compare_56 hl (by decide) rfl (fun ls hl => ?_)
    have hmin : min (L a) (L2 b) ≤ 30 := Nat.le_trans (Nat.min_le_left _ _) hLa
    have L61 : ∀ (d i : Nat), i + d = min (L a) (L2 b) → cd_loop (fun i => C (30 * a + i)) (fun i => C2 (30 * b + i)) (min (L a) (L2 b)) 0 = cd_loop (fun i => C (30 * a + i)) (fun i => C2 (30 * b + i)) d i → ∀ (ls : Array Slot), lv_has ls 9 [(0, .ref aX), (1, .int (nI a)), (2, .ref aY), (3, .int (nI b)), (4, .int (nI (30 * a))), (5, .int (nI (30 * b))), (6, .int (nI (min (L a) (L2 b)))), (7, .int (nI i))] → W p l e ({ frames := 1, cells := 0, slots := 0, locals := 40 } : Room) s m ([.ref aX, .int (nI a), .ref aY, .int (nI b)] : List Value).toArray below meth c s.heap [] 0 0 QQ (F0 m 61 ls []) := by
      intro d
      induction d with
      | zero =>
        intro i hi hcd ls hl
        refine lv_iload hx hb dgX3_compare_61 (lv_at hl 7 rfl) ?_
        refine lv_iload hx hb dgX3_compare_63 (lv_at hl 6 rfl) ?_
        refine lv_icmp_ge (tgt := 105) hx hb dgX3_compare_65 (by decide) (fun _ => ?_) (fun c9 => absurd (nI_le (a := min (L a) (L2 b)) (b := i) (by omega) (by omega)) c9)
        refine lv_aload_n hx hb dgX3_compare_105 rfl (lv_at hl 0 rfl) ?_
        refine va_get (D := (dC, dI)) (ci := 6) (v := .ref (fx 1)) (C := RX3) (T := TX3) (N := 5) hx hb hts (fun _ h => List.mem_cons_of_mem _ (List.mem_append_left _ (List.mem_append_right _ h))) hown hK hP 0 rfl rfl 1 (by decide) (hts (.fieldLink RX3 15 "KnotHouse$Codes" "lengths" "[B") (by decide +kernel)) (fun _ h9 => h9) rfl dgX3_compare_106 ?_
        refine lv_iload_n hx hb dgX3_compare_109 rfl (lv_at hl 1 rfl) ?_
        refine va_bald hx hb hK hP 2 1 rfl rfl (vp_in_nI (n := a) (N := n) ha (by omega)) dgX3_compare_110 ?_
        refine ow_topi (y := nI (L a)) (ow_nI_at L (Nat.lt_trans (m := n) ha (by omega))) ?_
        refine lv_aload_n hx hb dgX3_compare_111 rfl (lv_at hl 2 rfl) ?_
        refine va_get (D := (dC, dI)) (ci := 6) (v := .ref (fy 1)) (C := RX3) (T := TX3) (N := 5) hx hb hts (fun _ h => List.mem_cons_of_mem _ (List.mem_append_left _ (List.mem_append_right _ h))) hown hK hP 4 rfl rfl 1 (by decide) (hts (.fieldLink RX3 15 "KnotHouse$Codes" "lengths" "[B") (by decide +kernel)) (fun _ h9 => h9) rfl dgX3_compare_112 ?_
        refine lv_iload_n hx hb dgX3_compare_115 rfl (lv_at hl 3 rfl) ?_
        refine va_bald hx hb hK hP 6 1 rfl rfl (vp_in_nI (n := b) (N := k) hbk (by omega)) dgX3_compare_116 ?_
        refine ow_topi (y := nI (L2 b)) (ow_nI_at L2 (Nat.lt_trans (m := k) hbk (by omega))) ?_
        refine lv_isub hx hb dgX3_compare_117 ?_
        rw [hQQ]
        exact W.iret (v := ((nI (L a)) - (nI (L2 b)))) hx hb hr (fun t ht hW => ⟨⟨((nI (L a)) - (nI (L2 b))), (), rfl, by rw [cd_cmp, if_pos hk1, hcd]; rfl, trivial⟩, hS.F ht⟩) hS.2.2 dgX3_compare_118
      | succ d ih =>
        intro i hi hcd ls hl
        refine lv_iload hx hb dgX3_compare_61 (lv_at hl 7 rfl) ?_
        refine lv_iload hx hb dgX3_compare_63 (lv_at hl 6 rfl) ?_
        refine lv_icmp_ge (tgt := 105) hx hb dgX3_compare_65 (by decide) (fun c9 => absurd c9 (nI_ge (a := i) (b := min (L a) (L2 b)) (by omega) (by omega))) (fun _ => ?_)
        refine lv_aload_n hx hb dgX3_compare_68 rfl (lv_at hl 0 rfl) ?_
        refine va_get (D := (dC, dI)) (ci := 6) (v := .ref (fx 0)) (C := RX3) (T := TX3) (N := 5) hx hb hts (fun _ h => List.mem_cons_of_mem _ (List.mem_append_left _ (List.mem_append_right _ h))) hown hK hP 0 rfl rfl 0 (by decide) (hts (.fieldLink RX3 9 "KnotHouse$Codes" "cells" "[B") (by decide +kernel)) (fun _ h9 => h9) rfl dgX3_compare_69 ?_
        refine lv_iload hx hb dgX3_compare_72 (lv_at hl 4 rfl) ?_
        refine lv_iload hx hb dgX3_compare_74 (lv_at hl 7 rfl) ?_
        refine lv_iadd hx hb dgX3_compare_76 ?_
        refine ow_topi (y := nI (30 * a + i)) (nI_add (30 * a) i) ?_
        refine va_bald hx hb hK hP 1 1 rfl rfl (vp_in_nI (n := 30 * a + i) (N := (30 * n)) (by omega) (by omega)) dgX3_compare_77 ?_
        refine ow_topi (y := nI (C (30 * a + i))) (ow_nI_at C (Nat.lt_trans (m := (30 * n)) (by omega) (by omega))) ?_
        refine lv_aload_n hx hb dgX3_compare_78 rfl (lv_at hl 2 rfl) ?_
        refine va_get (D := (dC, dI)) (ci := 6) (v := .ref (fy 0)) (C := RX3) (T := TX3) (N := 5) hx hb hts (fun _ h => List.mem_cons_of_mem _ (List.mem_append_left _ (List.mem_append_right _ h))) hown hK hP 4 rfl rfl 0 (by decide) (hts (.fieldLink RX3 9 "KnotHouse$Codes" "cells" "[B") (by decide +kernel)) (fun _ h9 => h9) rfl dgX3_compare_79 ?_
        refine lv_iload hx hb dgX3_compare_82 (lv_at hl 5 rfl) ?_
        refine lv_iload hx hb dgX3_compare_84 (lv_at hl 7 rfl) ?_
        refine lv_iadd hx hb dgX3_compare_86 ?_
        refine ow_topi (y := nI (30 * b + i)) (nI_add (30 * b) i) ?_
        refine va_bald hx hb hK hP 5 1 rfl rfl (vp_in_nI (n := 30 * b + i) (N := (30 * k)) (by omega) (by omega)) dgX3_compare_87 ?_
        refine ow_topi (y := nI (C2 (30 * b + i))) (ow_nI_at C2 (Nat.lt_trans (m := (30 * k)) (by omega) (by omega))) ?_
        refine lv_isub hx hb dgX3_compare_88 ?_
        refine lv_istore (lv' := [(8, .int ((nI (C (30 * a + i))) - (nI (C2 (30 * b + i))))), (0, .ref aX), (1, .int (nI a)), (2, .ref aY), (3, .int (nI b)), (4, .int (nI (30 * a))), (5, .int (nI (30 * b))), (6, .int (nI (min (L a) (L2 b)))), (7, .int (nI i))]) hx hb dgX3_compare_89 hl (by decide) rfl (fun ls hl => ?_)
        refine lv_iload hx hb dgX3_compare_91 (lv_at hl 0 rfl) ?_
        refine lv_if_eq (tgt := 99) hx hb dgX3_compare_93 (by decide) (fun c2 => ?_) (fun c2 => ?_)
        · have hcc : C (30 * a + i) = C2 (30 * b + i) := ow_sub0 (Nat.lt_trans (hC _) (by decide)) (Nat.lt_trans (hC2 _) (by decide)) c2
          refine lv_iinc (v := nI (i + 1)) (lv' := [(7, .int (nI (i + 1))), (8, .int ((nI (C (30 * a + i))) - (nI (C2 (30 * b + i))))), (0, .ref aX), (1, .int (nI a)), (2, .ref aY), (3, .int (nI b)), (4, .int (nI (30 * a))), (5, .int (nI (30 * b))), (6, .int (nI (min (L a) (L2 b))))]) hx hb dgX3_compare_99 hl (k := 8) rfl (nI_1 i) (by decide) rfl (fun ls hl => ?_)
          refine lv_goto (tgt := 61) hx hb dgX3_compare_102 (by decide) ?_
          exact ih (i + 1) (by omega) (hcd.trans (if_pos hcc)) ls (lv_sub hl [2, 3, 4, 5, 6, 7, 8, 0] rfl)
        · have hcc : ¬ C (30 * a + i) = C2 (30 * b + i) := fun h9 => c2 (by rw [h9]; exact Int32.sub_self _)
          refine lv_iload hx hb dgX3_compare_96 (lv_at hl 0 rfl) ?_
          rw [hQQ]
          exact W.iret (v := ((nI (C (30 * a + i))) - (nI (C2 (30 * b + i))))) hx hb hr (fun t ht hW => ⟨⟨((nI (C (30 * a + i))) - (nI (C2 (30 * b + i)))), (), rfl, by rw [cd_cmp, if_pos hk1, hcd, cd_loop, if_neg hcc]; rfl, trivial⟩, hS.F ht⟩) hS.2.2 dgX3_compare_98
    refine lv_iconst (v := 0) hx hb dgX3_compare_58 (by decide) ?_
    refine ow_topi (y := nI 0) (by decide) ?_
    refine lv_istore (lv' := [(7, .int (nI 0)), (6, .int (nI (min (L a) (L2 b)))), (5, .int (nI (30 * b))), (4, .int (nI (30 * a))), (0, .ref aX), (1, .int (nI a)), (2, .ref aY), (3, .int (nI b))]) hx hb dgX3_compare_59 hl (by decide) rfl (fun ls hl => ?_)
    exact L61 (min (L a) (L2 b)) 0 (by omega) rfl ls (lv_sub hl [4, 5, 6, 7, 3, 2, 1, 0] rfl)
  · have hk1 : ¬ K a = K2 b := fun h9 => c1 (congrArg nI h9)
    refine lv_aload_n hx hb dgX3_compare_15 rfl (lv_at hl 0 rfl) ?_
    refine va_get (D := (dC, dI)) (ci := 6) (v := .ref (fx 2)) (C := RX3) (T := TX3) (N := 5) hx hb hts (fun _ h => List.mem_cons_of_mem _ (List.mem_append_left _ (List.mem_append_right _ h))) hown hK hP 0 rfl rfl 2 (by decide) (hts (.fieldLink RX3 18 "KnotHouse$Codes" "crossings" "[B") (by decide +kernel)) (fun _ h9 => h9) rfl dgX3_compare_16 ?_
    refine lv_iload_n hx hb dgX3_compare_19 rfl (lv_at hl 1 rfl) ?_
    refine va_bald hx hb hK hP 3 1 rfl rfl (vp_in_nI (n := a) (N := n) ha (by omega)) dgX3_compare_20 ?_
    refine ow_topi (y := nI (K a)) (ow_nI_at K (Nat.lt_trans (m := n) ha (by omega))) ?_
    refine lv_aload_n hx hb dgX3_compare_21 rfl (lv_at hl 2 rfl) ?_
    refine va_get (D := (dC, dI)) (ci := 6) (v := .ref (fy 2)) (C := RX3) (T := TX3) (N := 5) hx hb hts (fun _ h => List.mem_cons_of_mem _ (List.mem_append_left _ (List.mem_append_right _ h))) hown hK hP 4 rfl rfl 2 (by decide) (hts (.fieldLink RX3 18 "KnotHouse$Codes" "crossings" "[B") (by decide +kernel)) (fun _ h9 => h9) rfl dgX3_compare_22 ?_
    refine lv_iload_n hx hb dgX3_compare_25 rfl (lv_at hl 3 rfl) ?_
    refine va_bald hx hb hK hP 7 1 rfl rfl (vp_in_nI (n := b) (N := k) hbk (by omega)) dgX3_compare_26 ?_
    refine ow_topi (y := nI (K2 b)) (ow_nI_at K2 (Nat.lt_trans (m := k) hbk (by omega))) ?_
    refine lv_isub hx hb dgX3_compare_27 ?_
    rw [hQQ]
    exact W.iret (v := ((nI (K a)) - (nI (K2 b)))) hx hb hr (fun t ht hW => ⟨⟨((nI (K a)) - (nI (K2 b))), (), rfl, (if_neg hk1).symm, trivial⟩, hS.F ht⟩) hS.2.2 dgX3_compare_28
set_option maxHeartbeats 4000000 in
set_option maxRecDepth 100000 in
theorem kg_X3_compareS (l : Launch) (dC : Nat → ClassId) (dI : Nat → Nat → Nat) (cI cB cJ cZ : ClassId) (aX : Nat) (fx : Nat → Nat) (n : Nat) (hn : n < 2 ^ 24) (C L K : Nat → Nat) (zx : Int32) (a b : Nat) (ha : a < n) (hbk : b < n) (hLa : L a ≤ 30) (hLb : L b ≤ 30) (hC : ow_b128 C) (hKb : ow_b128 K) : Met l yX3_compare wg_X3_compare (({ frames := 1, cells := 0, slots := 0, locals := 40 } : Room)) (va_Pc [.ref aX, .int (nI a), .ref aX, .int (nI b)] (fun U => va_P (dC, dI) vwCl [(aX, .inr (6, [.ref (fx 0), .ref (fx 1), .ref (fx 2), .ref (fx 3), .int zx])), ((fx 0), .inl (cB, (30 * n), .inl (ow_nI C))), ((fx 1), .inl (cB, n, .inl (ow_nI L))), ((fx 2), .inl (cB, n, .inl (ow_nI K)))] U.heap ∧ va_K (dC, dI) vwCl [(cI, .int), (cB, .byte), (cJ, .long), (cZ, .boolean)] U)) (va_Qi (fun r (_ : Unit) => r = cd_cmp (K a) (L a) (fun i => C (30 * a + i)) (K b) (L b) (fun i => C (30 * b + i))) (fun _ _ => True) (fun _ => False)) 0 0 (fun _ => False) := by
  refine Met.ofW (cc := cX3_compare) (maxL := 9) (ret := (some .int)) (by decide) rfl ?_
  intro p e s m args below meth c s₁ B hml hv
  obtain ⟨rfl, hP, hK⟩ := hv
  have hx := B.exec
  have hb := B.bytes
  have hr := B.returns
  have hts := atoms_spec (ws := wg_X3_compare) B.pre
  have hown : s.vm.findClass RX3 = some m.cls := findClass_of_methodNamed B.named
  have hlocks := B.notSynchronized
  have hS : va_S (fun _ => False) s.heap s.heap [] := va_S.rf
  have hP : va_P (dC, dI) vwCl [(aX, .inr (6, [.ref (fx 0), .ref (fx 1), .ref (fx 2), .ref (fx 3), .int zx])), ((fx 0), .inl (cB, (30 * n), .inl (ow_nI C))), ((fx 1), .inl (cB, n, .inl (ow_nI L))), ((fx 2), .inl (cB, n, .inl (ow_nI K)))] s.heap := hP
  have hl := lv_entry ([.ref aX, .int (nI a), .ref aX, .int (nI b)]) (n := 9) (Nat.le_of_ble_eq_true rfl)
  rw [lg_entry_eq]
  generalize (lg_sl ([.ref aX, .int (nI a), .ref aX, .int (nI b)]) ++ List.replicate (9 - (lg_sl ([.ref aX, .int (nI a), .ref aX, .int (nI b)])).length) Slot.unset).toArray = ls at hl ⊢
  have hl : lv_has ls 9 [(0, .ref aX), (1, .int (nI a)), (2, .ref aX), (3, .int (nI b))] := hl
  refine ow_named (fun QQ hQQ => ?_)
  refine lv_aload_n hx hb dgX3_compare_0 rfl (lv_at hl 0 rfl) ?_
  refine va_get (D := (dC, dI)) (ci := 6) (v := .ref (fx 2)) (C := RX3) (T := TX3) (N := 5) hx hb hts (fun _ h => List.mem_cons_of_mem _ (List.mem_append_left _ (List.mem_append_right _ h))) hown hK hP 0 rfl rfl 2 (by decide) (hts (.fieldLink RX3 18 "KnotHouse$Codes" "crossings" "[B") (by decide +kernel)) (fun _ h9 => h9) rfl dgX3_compare_1 ?_
  refine lv_iload_n hx hb dgX3_compare_4 rfl (lv_at hl 1 rfl) ?_
  refine va_bald hx hb hK hP 3 1 rfl rfl (vp_in_nI (n := a) (N := n) ha (by omega)) dgX3_compare_5 ?_
  refine ow_topi (y := nI (K a)) (ow_nI_at K (Nat.lt_trans (m := n) ha (by omega))) ?_
  refine lv_aload_n hx hb dgX3_compare_6 rfl (lv_at hl 2 rfl) ?_
  refine va_get (D := (dC, dI)) (ci := 6) (v := .ref (fx 2)) (C := RX3) (T := TX3) (N := 5) hx hb hts (fun _ h => List.mem_cons_of_mem _ (List.mem_append_left _ (List.mem_append_right _ h))) hown hK hP 0 rfl rfl 2 (by decide) (hts (.fieldLink RX3 18 "KnotHouse$Codes" "crossings" "[B") (by decide +kernel)) (fun _ h9 => h9) rfl dgX3_compare_7 ?_
  refine lv_iload_n hx hb dgX3_compare_10 rfl (lv_at hl 3 rfl) ?_
  refine va_bald hx hb hK hP 3 1 rfl rfl (vp_in_nI (n := b) (N := n) hbk (by omega)) dgX3_compare_11 ?_
  refine ow_topi (y := nI (K b)) (ow_nI_at K (Nat.lt_trans (m := n) hbk (by omega))) ?_
  refine lv_icmp_eq (tgt := 29) hx hb dgX3_compare_12 (by decide) (fun c1 => ?_) (fun c1 => ?_)
  · have hk1 : K a = K b := ow_nI_inj (Nat.lt_trans (hKb a) (by decide)) (Nat.lt_trans (hKb b) (by decide)) c1
    refine lv_iload_n hx hb dgX3_compare_29 rfl (lv_at hl 1 rfl) ?_
    refine lv_bipush (v := 30) hx hb dgX3_compare_30 (by decide) ?_
    refine lv_imul hx hb dgX3_compare_32 ?_
    refine ow_topi (y := nI (30 * a)) (by rw [Nat.mul_comm]; exact pk_mul a 30) ?_
    refine lv_istore (lv' := [(4, .int (nI (30 * a))), (0, .ref aX), (1, .int (nI a)), (2, .ref aX), (3, .int (nI b))]) hx hb dgX3_compare_33 hl (by decide) rfl (fun ls hl => ?_)
    refine lv_iload_n hx hb dgX3_compare_35 rfl (lv_at hl 4 rfl) ?_
    refine lv_bipush (v := 30) hx hb dgX3_compare_36 (by decide) ?_
    refine lv_imul hx hb dgX3_compare_38 ?_
    refine ow_topi (y := nI (30 * b)) (by rw [Nat.mul_comm]; exact pk_mul b 30) ?_
    refine lv_istore (lv' := [(5, .int (nI (30 * b))), (4, .int (nI (30 * a))), (0, .ref aX), (1, .int (nI a)), (2, .ref aX), (3, .int (nI b))]) hx hb dgX3_compare_39 hl (by decide) rfl (fun ls hl => ?_)
    refine lv_aload_n hx hb dgX3_compare_41 rfl (lv_at hl 2 rfl) ?_
    refine va_get (D := (dC, dI)) (ci := 6) (v := .ref (fx 1)) (C := RX3) (T := TX3) (N := 5) hx hb hts (fun _ h => List.mem_cons_of_mem _ (List.mem_append_left _ (List.mem_append_right _ h))) hown hK hP 0 rfl rfl 1 (by decide) (hts (.fieldLink RX3 15 "KnotHouse$Codes" "lengths" "[B") (by decide +kernel)) (fun _ h9 => h9) rfl dgX3_compare_42 ?_
    refine lv_iload_n hx hb dgX3_compare_45 rfl (lv_at hl 3 rfl) ?_
    refine va_bald hx hb hK hP 2 1 rfl rfl (vp_in_nI (n := a) (N := n) ha (by omega)) dgX3_compare_46 ?_
    refine ow_topi (y := nI (L a)) (ow_nI_at L (Nat.lt_trans (m := n) ha (by omega))) ?_
    refine lv_aload_n hx hb dgX3_compare_47 rfl (lv_at hl 4 rfl) ?_
    refine va_get (D := (dC, dI)) (ci := 6) (v := .ref (fx 1)) (C := RX3) (T := TX3) (N := 5) hx hb hts (fun _ h => List.mem_cons_of_mem _ (List.mem_append_left _ (List.mem_append_right _ h))) hown hK hP 0 rfl rfl 1 (by decide) (hts (.fieldLink RX3 15 "KnotHouse$Codes" "lengths" "[B") (by decide +kernel)) (fun _ h9 => h9) rfl dgX3_compare_48 ?_
    refine lv_iload_n hx hb dgX3_compare_51 rfl (lv_at hl 5 rfl) ?_
    refine va_bald hx hb hK hP 2 1 rfl rfl (vp_in_nI (n := b) (N := n) hbk (by omega)) dgX3_compare_52 ?_
    refine ow_topi (y := nI (L b)) (ow_nI_at L (Nat.lt_trans (m := n) hbk (by omega))) ?_
    refine va_mmin hx hb (by rw [hml]; exact hl.1.symm) hown (hts (.methodLink RX3 31 Lib.Math.min.name) (by decide +kernel)) (hts (.static Lib.Math.min.name) (by decide +kernel)) (hts (.initialized "java/lang/Math") (by decide +kernel)) (hts (.code Lib.Math.min.name Lib.Math.min.code 2 (some .int)) (by decide +kernel)) (Nat.le_of_ble_eq_true rfl) (by decide) (Nat.le_of_ble_eq_true rfl) (Nat.le_of_ble_eq_true rfl) dgX3_compare_53 ?_
    refine ow_topi (y := nI (min (L a) (L b))) (ow_min (by omega) (by omega)) ?_
    refine lv_istore (lv' := [(6, .int (nI (min (L a) (L b)))), (5, .int (nI (30 * b))), (4, .int (nI (30 * a))), (0, .ref aX), (1, .int (nI a)), (2, .ref aX), (3, .int (nI b))]) hx hb dgX3_compare_56 hl (by decide) rfl (fun ls hl => ?_)
    have hmin : min (L a) (L b) ≤ 30 := Nat.le_trans (Nat.min_le_left _ _) hLa
    have L61 : ∀ (d i : Nat), i + d = min (L a) (L b) → cd_loop (fun i => C (30 * a + i)) (fun i => C (30 * b + i)) (min (L a) (L b)) 0 = cd_loop (fun i => C (30 * a + i)) (fun i => C (30 * b + i)) d i → ∀ (ls : Array Slot), lv_has ls 9 [(0, .ref aX), (1, .int (nI a)), (2, .ref aX), (3, .int (nI b)), (4, .int (nI (30 * a))), (5, .int (nI (30 * b))), (6, .int (nI (min (L a) (L b)))), (7, .int (nI i))] → W p l e ({ frames := 1, cells := 0, slots := 0, locals := 40 } : Room) s m ([.ref aX, .int (nI a), .ref aX, .int (nI b)] : List Value).toArray below meth c s.heap [] 0 0 QQ (F0 m 61 ls []) := by
      intro d
      induction d with
      | zero =>
        intro i hi hcd ls hl
        refine lv_iload hx hb dgX3_compare_61 (lv_at hl 7 rfl) ?_
        refine lv_iload hx hb dgX3_compare_63 (lv_at hl 6 rfl) ?_
        refine lv_icmp_ge (tgt := 105) hx hb dgX3_compare_65 (by decide) (fun _ => ?_) (fun c9 => absurd (nI_le (a := min (L a) (L b)) (b := i) (by omega) (by omega)) c9)
        refine lv_aload_n hx hb dgX3_compare_105 rfl (lv_at hl 0 rfl) ?_
        refine va_get (D := (dC, dI)) (ci := 6) (v := .ref (fx 1)) (C := RX3) (T := TX3) (N := 5) hx hb hts (fun _ h => List.mem_cons_of_mem _ (List.mem_append_left _ (List.mem_append_right _ h))) hown hK hP 0 rfl rfl 1 (by decide) (hts (.fieldLink RX3 15 "KnotHouse$Codes" "lengths" "[B") (by decide +kernel)) (fun _ h9 => h9) rfl dgX3_compare_106 ?_
        refine lv_iload_n hx hb dgX3_compare_109 rfl (lv_at hl 1 rfl) ?_
        refine va_bald hx hb hK hP 2 1 rfl rfl (vp_in_nI (n := a) (N := n) ha (by omega)) dgX3_compare_110 ?_
        refine ow_topi (y := nI (L a)) (ow_nI_at L (Nat.lt_trans (m := n) ha (by omega))) ?_
        refine lv_aload_n hx hb dgX3_compare_111 rfl (lv_at hl 2 rfl) ?_
        refine va_get (D := (dC, dI)) (ci := 6) (v := .ref (fx 1)) (C := RX3) (T := TX3) (N := 5) hx hb hts (fun _ h => List.mem_cons_of_mem _ (List.mem_append_left _ (List.mem_append_right _ h))) hown hK hP 0 rfl rfl 1 (by decide) (hts (.fieldLink RX3 15 "KnotHouse$Codes" "lengths" "[B") (by decide +kernel)) (fun _ h9 => h9) rfl dgX3_compare_112 ?_
        refine lv_iload_n hx hb dgX3_compare_115 rfl (lv_at hl 3 rfl) ?_
        refine va_bald hx hb hK hP 2 1 rfl rfl (vp_in_nI (n := b) (N := n) hbk (by omega)) dgX3_compare_116 ?_
        refine ow_topi (y := nI (L b)) (ow_nI_at L (Nat.lt_trans (m := n) hbk (by omega))) ?_
        refine lv_isub hx hb dgX3_compare_117 ?_
        rw [hQQ]
        exact W.iret (v := ((nI (L a)) - (nI (L b)))) hx hb hr (fun t ht hW => ⟨⟨((nI (L a)) - (nI (L b))), (), rfl, by rw [cd_cmp, if_pos hk1, hcd]; rfl, trivial⟩, hS.F ht⟩) hS.2.2 dgX3_compare_118
      | succ d ih =>
        intro i hi hcd ls hl
        refine lv_iload hx hb dgX3_compare_61 (lv_at hl 7 rfl) ?_
        refine lv_iload hx hb dgX3_compare_63 (lv_at hl 6 rfl) ?_
        refine lv_icmp_ge (tgt := 105) hx hb dgX3_compare_65 (by decide) (fun c9 => absurd c9 (nI_ge (a := i) (b := min (L a) (L b)) (by omega) (by omega))) (fun _ => ?_)
        refine lv_aload_n hx hb dgX3_compare_68 rfl (lv_at hl 0 rfl) ?_
        refine va_get (D := (dC, dI)) (ci := 6) (v := .ref (fx 0)) (C := RX3) (T := TX3) (N := 5) hx hb hts (fun _ h => List.mem_cons_of_mem _ (List.mem_append_left _ (List.mem_append_right _ h))) hown hK hP 0 rfl rfl 0 (by decide) (hts (.fieldLink RX3 9 "KnotHouse$Codes" "cells" "[B") (by decide +kernel)) (fun _ h9 => h9) rfl dgX3_compare_69 ?_
        refine lv_iload hx hb dgX3_compare_72 (lv_at hl 4 rfl) ?_
        refine lv_iload hx hb dgX3_compare_74 (lv_at hl 7 rfl) ?_
        refine lv_iadd hx hb dgX3_compare_76 ?_
        refine ow_topi (y := nI (30 * a + i)) (nI_add (30 * a) i) ?_
        refine va_bald hx hb hK hP 1 1 rfl rfl (vp_in_nI (n := 30 * a + i) (N := (30 * n)) (by omega) (by omega)) dgX3_compare_77 ?_
        refine ow_topi (y := nI (C (30 * a + i))) (ow_nI_at C (Nat.lt_trans (m := (30 * n)) (by omega) (by omega))) ?_
        refine lv_aload_n hx hb dgX3_compare_78 rfl (lv_at hl 2 rfl) ?_
        refine va_get (D := (dC, dI)) (ci := 6) (v := .ref (fx 0)) (C := RX3) (T := TX3) (N := 5) hx hb hts (fun _ h => List.mem_cons_of_mem _ (List.mem_append_left _ (List.mem_append_right _ h))) hown hK hP 0 rfl rfl 0 (by decide) (hts (.fieldLink RX3 9 "KnotHouse$Codes" "cells" "[B") (by decide +kernel)) (fun _ h9 => h9) rfl dgX3_compare_79 ?_
        refine lv_iload hx hb dgX3_compare_82 (lv_at hl 5 rfl) ?_
        refine lv_iload hx hb dgX3_compare_84 (lv_at hl 7 rfl) ?_
        refine lv_iadd hx hb dgX3_compare_86 ?_
        refine ow_topi (y := nI (30 * b + i)) (nI_add (30 * b) i) ?_
        refine va_bald hx hb hK hP 1 1 rfl rfl (vp_in_nI (n := 30 * b + i) (N := (30 * n)) (by omega) (by omega)) dgX3_compare_87 ?_
        refine ow_topi (y := nI (C (30 * b + i))) (ow_nI_at C (Nat.lt_trans (m := (30 * n)) (by omega) (by omega))) ?_
        refine lv_isub hx hb dgX3_compare_88 ?_
        refine lv_istore (lv' := [(8, .int ((nI (C (30 * a + i))) - (nI (C (30 * b + i))))), (0, .ref aX), (1, .int (nI a)), (2, .ref aX), (3, .int (nI b)), (4, .int (nI (30 * a))), (5, .int (nI (30 * b))), (6, .int (nI (min (L a) (L b)))), (7, .int (nI i))]) hx hb dgX3_compare_89 hl (by decide) rfl (fun ls hl => ?_)
        refine lv_iload hx hb dgX3_compare_91 (lv_at hl 0 rfl) ?_
        refine lv_if_eq (tgt := 99) hx hb dgX3_compare_93 (by decide) (fun c2 => ?_) (fun c2 => ?_)
        · have hcc : C (30 * a + i) = C (30 * b + i) := ow_sub0 (Nat.lt_trans (hC _) (by decide)) (Nat.lt_trans (hC _) (by decide)) c2
          refine lv_iinc (v := nI (i + 1)) (lv' := [(7, .int (nI (i + 1))), (8, .int ((nI (C (30 * a + i))) - (nI (C (30 * b + i))))), (0, .ref aX), (1, .int (nI a)), (2, .ref aX), (3, .int (nI b)), (4, .int (nI (30 * a))), (5, .int (nI (30 * b))), (6, .int (nI (min (L a) (L b))))]) hx hb dgX3_compare_99 hl (k := 8) rfl (nI_1 i) (by decide) rfl (fun ls hl => ?_)
          refine lv_goto (tgt := 61) hx hb dgX3_compare_102 (by decide) ?_
          exact ih (i + 1) (by omega) (hcd.trans (if_pos hcc)) ls (lv_sub hl [2, 3, 4, 5, 6, 7, 8, 0] rfl)
        · have hcc : ¬ C (30 * a + i) = C (30 * b + i) := fun h9 => c2 (by rw [h9]; exact Int32.sub_self _)
          refine lv_iload hx hb dgX3_compare_96 (lv_at hl 0 rfl) ?_
          rw [hQQ]
          exact W.iret (v := ((nI (C (30 * a + i))) - (nI (C (30 * b + i))))) hx hb hr (fun t ht hW => ⟨⟨((nI (C (30 * a + i))) - (nI (C (30 * b + i)))), (), rfl, by rw [cd_cmp, if_pos hk1, hcd, cd_loop, if_neg hcc]; rfl, trivial⟩, hS.F ht⟩) hS.2.2 dgX3_compare_98
    refine lv_iconst (v := 0) hx hb dgX3_compare_58 (by decide) ?_
    refine ow_topi (y := nI 0) (by decide) ?_
    refine lv_istore (lv' := [(7, .int (nI 0)), (6, .int (nI (min (L a) (L b)))), (5, .int (nI (30 * b))), (4, .int (nI (30 * a))), (0, .ref aX), (1, .int (nI a)), (2, .ref aX), (3, .int (nI b))]) hx hb dgX3_compare_59 hl (by decide) rfl (fun ls hl => ?_)
    exact L61 (min (L a) (L b)) 0 (by omega) rfl ls (lv_sub hl [4, 5, 6, 7, 3, 2, 1, 0] rfl)
  · have hk1 : ¬ K a = K b := fun h9 => c1 (congrArg nI h9)
    refine lv_aload_n hx hb dgX3_compare_15 rfl (lv_at hl 0 rfl) ?_
    refine va_get (D := (dC, dI)) (ci := 6) (v := .ref (fx 2)) (C := RX3) (T := TX3) (N := 5) hx hb hts (fun _ h => List.mem_cons_of_mem _ (List.mem_append_left _ (List.mem_append_right _ h))) hown hK hP 0 rfl rfl 2 (by decide) (hts (.fieldLink RX3 18 "KnotHouse$Codes" "crossings" "[B") (by decide +kernel)) (fun _ h9 => h9) rfl dgX3_compare_16 ?_
    refine lv_iload_n hx hb dgX3_compare_19 rfl (lv_at hl 1 rfl) ?_
    refine va_bald hx hb hK hP 3 1 rfl rfl (vp_in_nI (n := a) (N := n) ha (by omega)) dgX3_compare_20 ?_
    refine ow_topi (y := nI (K a)) (ow_nI_at K (Nat.lt_trans (m := n) ha (by omega))) ?_
    refine lv_aload_n hx hb dgX3_compare_21 rfl (lv_at hl 2 rfl) ?_
    refine va_get (D := (dC, dI)) (ci := 6) (v := .ref (fx 2)) (C := RX3) (T := TX3) (N := 5) hx hb hts (fun _ h => List.mem_cons_of_mem _ (List.mem_append_left _ (List.mem_append_right _ h))) hown hK hP 0 rfl rfl 2 (by decide) (hts (.fieldLink RX3 18 "KnotHouse$Codes" "crossings" "[B") (by decide +kernel)) (fun _ h9 => h9) rfl dgX3_compare_22 ?_
    refine lv_iload_n hx hb dgX3_compare_25 rfl (lv_at hl 3 rfl) ?_
    refine va_bald hx hb hK hP 3 1 rfl rfl (vp_in_nI (n := b) (N := n) hbk (by omega)) dgX3_compare_26 ?_
    refine ow_topi (y := nI (K b)) (ow_nI_at K (Nat.lt_trans (m := n) hbk (by omega))) ?_
    refine lv_isub hx hb dgX3_compare_27 ?_
    rw [hQQ]
    exact W.iret (v := ((nI (K a)) - (nI (K b)))) hx hb hr (fun t ht hW => ⟨⟨((nI (K a)) - (nI (K b))), (), rfl, (if_neg hk1).symm, trivial⟩, hS.F ht⟩) hS.2.2 dgX3_compare_28
