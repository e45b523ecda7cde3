section CPY
variable {p : Program} {l : Launch} {e : Env} {R : Room} {s : State} {m : MethodId} {args : Array Value} {below : List Frame} {meth : Method} {c : Code} {H : Heap} {locs : List Loc} {cells slots : Nat} {Q : State → Prop}
variable {cc : ByteArray} {pc : Nat} {ls : Array Slot} {rest : List Value} {D : va_G} {cl : List vw_C} {A : Nat → Prop} {a : Nat} {tys : List (ClassId × FieldType)} {ws : va_W} {H0 : Heap}
/-- System.arraycopy of ints, numbers by Nat -/
theorem ow_cpyi (hexec : p.tables.exec = Jvm.exec) (hb : c.code = cc) (hml : c.maxLocals = ls.size) {own : String} {index : Nat} (hown : s.vm.findClass own = some m.cls) (hlink : (Cond.methodLink own index arraycopyName).before args s = true) (hnat : (Cond.native arraycopyName).before args s = true) (hstat : (Cond.static arraycopyName).before args s = true) (hini : (Cond.initialized "java/lang/System").before args s = true)
    (hK : va_K D cl tys s) (hP : va_P D cl ws H) (hD : va_D A ws) (hS : va_S A H0 H locs) (q0 q1 t0 t1 : Nat) {a0 : Nat} {c0 c1 : ClassId} {n0 n1 : Nat} {f g : Nat → Int32} (ha0 : ws[q0]? = some (a0, .inl (c0, n0, .inl f))) (ha1 : ws[q1]? = some (a, .inl (c1, n1, .inl g))) (ht0 : tys[t0]? = some (c0, .int)) (ht1 : tys[t1]? = some (c1, .int))
    {sp dp n : Nat} (h4 : sp + n ≤ n0) (h5 : dp + n ≤ n1) (h6 : n0 < 2 ^ 31) (h7 : n1 < 2 ^ 31)
    (hframes : 1 ≤ R.frames) (hlocals : (rest.map fun v => v.category).sum + (nativeFrameWords "java/lang/System" "arraycopy" 5 + 11) ≤ R.locals) (hdg : decode cc pc = .ok (.invokestatic index, 3))
    (kk : ∀ (H1 : Heap) (locs1 : List Loc), va_P D cl (ws.set q1 (a, .inl (c1, n1, .inl (va_cpy f g sp dp n)))) H1 → va_D A (ws.set q1 (a, .inl (c1, n1, .inl (va_cpy f g sp dp n)))) → va_S A H0 H1 locs1 → W p l e R s m args below meth c H1 locs1 cells slots Q (F0 m (pc + 3) ls rest)) : W p l e R s m args below meth c H locs cells slots Q (F0 m pc ls (.int (nI n) :: .int (nI dp) :: .ref a :: .int (nI sp) :: .ref a0 :: rest)) := by
  refine va_copyi (ty := .int) hexec hb hml hown hlink hnat hstat hini hK hP hD hS q0 q1 t0 t1 ha0 ha1 ht0 ht1 rfl (nI_pos (by omega)) (nI_pos (by omega)) (nI_pos (by omega)) ?_ ?_ (fun i _ => rfl) hframes hlocals hdg (fun H1 locs1 h1 h2 h3 => ?_)
  · rw [nI_clamp (by omega), nI_clamp (by omega)]; exact h4
  · rw [nI_clamp (by omega), nI_clamp (by omega)]; exact h5
  · rw [nI_clamp (by omega), nI_clamp (by omega), nI_clamp (by omega)] at h1 h2
    exact kk H1 locs1 h1 h2 h3
end CPY
theorem dgX7_empty_0 : decode cX7_empty 0 = .ok (.aload_n 0, 1) := by decide +kernel
theorem dgX7_empty_1 : decode cX7_empty 1 = .ok (.iconst 0, 1) := by decide +kernel
theorem dgX7_empty_2 : decode cX7_empty 2 = .ok (.putfield 39, 3) := by decide +kernel
theorem dgX7_empty_5 : decode cX7_empty 5 = .ok (.aload_n 0, 1) := by decide +kernel
theorem dgX7_empty_6 : decode cX7_empty 6 = .ok (.iconst 0, 1) := by decide +kernel
theorem dgX7_empty_7 : decode cX7_empty 7 = .ok (.putfield 42, 3) := by decide +kernel
theorem dgX7_empty_10 : decode cX7_empty 10 = .ok (.return_, 1) := by decide +kernel
def wg_X7_empty : List Cond := .code yX7_empty cX7_empty 1 none :: (([.fieldLink RX7 39 "KnotHouse$Net" "crossings" "I", .fieldLink RX7 42 "KnotHouse$Net" "circles" "I"] ++ wsX70) ++ [])
set_option maxHeartbeats 4000000 in
set_option maxRecDepth 100000 in
theorem kg_X7_empty (l : Launch) (dC : Nat → ClassId) (dI : Nat → Nat → Nat) (cI cB cJ cZ : ClassId) (aX : Nat) (nx : Nat → Nat) (x7 x8 x9 x10 : Int32) (sz : Nat) : Met l yX7_empty wg_X7_empty (({ frames := 0, cells := 0, slots := 0, locals := 0 } : Room)) (va_Pc [.ref aX] (fun U => U.heap.size = sz ∧ va_P (dC, dI) vwCl [(aX, .inr (10, [.ref (nx 0), .ref (nx 1), .ref (nx 2), .ref (nx 3), .ref (nx 4), .ref (nx 5), .ref (nx 6), .int x7, .int x8, .int x9, .int x10]))] U.heap ∧ va_K (dC, dI) vwCl [(cI, .int), (cB, .byte), (cJ, .long), (cZ, .boolean)] U ∧ va_D (fun _ => True) [(aX, .inr (10, [.ref (nx 0), .ref (nx 1), .ref (nx 2), .ref (nx 3), .ref (nx 4), .ref (nx 5), .ref (nx 6), .int x7, .int x8, .int x9, .int x10]))])) (va_Qv (fun (g : Unit) => True) (fun g t => va_P (dC, dI) vwCl [(aX, .inr (10, [.ref (nx 0), .ref (nx 1), .ref (nx 2), .ref (nx 3), .ref (nx 4), .ref (nx 5), .ref (nx 6), .int 0, .int 0, .int x9, .int x10]))] t.heap ∧ va_D (va_A [(aX, .inr (10, [.ref (nx 0), .ref (nx 1), .ref (nx 2), .ref (nx 3), .ref (nx 4), .ref (nx 5), .ref (nx 6), .int x7, .int x8, .int x9, .int x10]))] sz) [(aX, .inr (10, [.ref (nx 0), .ref (nx 1), .ref (nx 2), .ref (nx 3), .ref (nx 4), .ref (nx 5), .ref (nx 6), .int 0, .int 0, .int x9, .int x10]))]) (va_A [(aX, .inr (10, [.ref (nx 0), .ref (nx 1), .ref (nx 2), .ref (nx 3), .ref (nx 4), .ref (nx 5), .ref (nx 6), .int x7, .int x8, .int x9, .int x10]))] sz)) 0 0 (va_A [(aX, .inr (10, [.ref (nx 0), .ref (nx 1), .ref (nx 2), .ref (nx 3), .ref (nx 4), .ref (nx 5), .ref (nx 6), .int x7, .int x8, .int x9, .int x10]))] sz) := by
  refine Met.ofW (cc := cX7_empty) (maxL := 1) (ret := none) (by decide) rfl ?_
  intro p e s m args below meth c s₁ B hml hv
  obtain ⟨rfl, hsz, hP, hK, hD0⟩ := hv
  have hx := B.exec
  have hb := B.bytes
  have hr := B.returns
  have hts := atoms_spec (ws := wg_X7_empty) B.pre
  have hown : s.vm.findClass RX7 = some m.cls := findClass_of_methodNamed B.named
  have hlocks := B.notSynchronized
  subst hsz
  have hD := hD0.self (sz := s.heap.size)
  generalize hAe : va_A [(aX, .inr (10, [.ref (nx 0), .ref (nx 1), .ref (nx 2), .ref (nx 3), .ref (nx 4), .ref (nx 5), .ref (nx 6), .int x7, .int x8, .int x9, .int x10]))] s.heap.size = A at hD ⊢
  have hA : ∀ q : Nat, s.heap.size ≤ q → A q := fun q h => by rw [← hAe]; exact Or.inr h
  have hS : va_S A s.heap s.heap [] := va_S.rf
  have hP : va_P (dC, dI) vwCl [(aX, .inr (10, [.ref (nx 0), .ref (nx 1), .ref (nx 2), .ref (nx 3), .ref (nx 4), .ref (nx 5), .ref (nx 6), .int x7, .int x8, .int x9, .int x10]))] s.heap := hP
  have hl := lv_entry ([.ref aX]) (n := 1) (Nat.le_of_ble_eq_true rfl)
  rw [lg_entry_eq]
  generalize (lg_sl ([.ref aX]) ++ List.replicate (1 - (lg_sl ([.ref aX])).length) Slot.unset).toArray = ls at hl ⊢
  have hl : lv_has ls 1 [(0, .ref aX)] := hl
  refine ow_named (fun QQ hQQ => ?_)
  suffices key9 : ∀ (H : Heap) (locs : List Loc), va_P (dC, dI) vwCl [(aX, .inr (10, [.ref (nx 0), .ref (nx 1), .ref (nx 2), .ref (nx 3), .ref (nx 4), .ref (nx 5), .ref (nx 6), .int x7, .int x8, .int x9, .int x10]))] H → va_S A s.heap H locs → W p l e ({ frames := 0, cells := 0, slots := 0, locals := 0 } : Room) s m ([.ref aX] : List Value).toArray below meth c H locs 0 0 QQ (F0 m 0 ls []) from key9 s.heap [] hP hS
  intro H locs hP hS
  refine lv_aload_n hx hb dgX7_empty_0 rfl (lv_at hl 0 rfl) ?_
  refine lv_iconst (v := 0) hx hb dgX7_empty_1 (by decide) ?_
  refine va_put (D := (dC, dI)) (ci := 10) (v := .int 0) (ty := .int) (C := RX7) (T := TX7) (N := 11) hx hb hts (fun _ h => List.mem_cons_of_mem _ (List.mem_append_left _ (List.mem_append_right _ h))) tyX7 tyX7_ok nmX7 hown hK hP hD hS 0 rfl rfl 7 (by decide) (hts (.fieldLink RX7 39 "KnotHouse$Net" "crossings" "I") (by decide +kernel)) (fun _ h9 => h9) rfl (by decide +kernel) rfl rfl (Nat.le_of_ble_eq_true rfl) dgX7_empty_2 (fun H locs hP hD hS => ?_)
  have hP : va_P (dC, dI) vwCl [(aX, .inr (10, [.ref (nx 0), .ref (nx 1), .ref (nx 2), .ref (nx 3), .ref (nx 4), .ref (nx 5), .ref (nx 6), .int 0, .int x8, .int x9, .int x10]))] H := hP
  have hD : va_D A [(aX, .inr (10, [.ref (nx 0), .ref (nx 1), .ref (nx 2), .ref (nx 3), .ref (nx 4), .ref (nx 5), .ref (nx 6), .int 0, .int x8, .int x9, .int x10]))] := hD
  refine lv_aload_n hx hb dgX7_empty_5 rfl (lv_at hl 0 rfl) ?_
  refine lv_iconst (v := 0) hx hb dgX7_empty_6 (by decide) ?_
  refine va_put (D := (dC, dI)) (ci := 10) (v := .int 0) (ty := .int) (C := RX7) (T := TX7) (N := 11) hx hb hts (fun _ h => List.mem_cons_of_mem _ (List.mem_append_left _ (List.mem_append_right _ h))) tyX7 tyX7_ok nmX7 hown hK hP hD hS 0 rfl rfl 8 (by decide) (hts (.fieldLink RX7 42 "KnotHouse$Net" "circles" "I") (by decide +kernel)) (fun _ h9 => h9) rfl (by decide +kernel) rfl rfl (Nat.le_of_ble_eq_true rfl) dgX7_empty_7 (fun H locs hP hD hS => ?_)
  have hP : va_P (dC, dI) vwCl [(aX, .inr (10, [.ref (nx 0), .ref (nx 1), .ref (nx 2), .ref (nx 3), .ref (nx 4), .ref (nx 5), .ref (nx 6), .int 0, .int 0, .int x9, .int x10]))] H := hP
  have hD : va_D A [(aX, .inr (10, [.ref (nx 0), .ref (nx 1), .ref (nx 2), .ref (nx 3), .ref (nx 4), .ref (nx 5), .ref (nx 6), .int 0, .int 0, .int x9, .int x10]))] := hD
  rw [hQQ]
  exact W.vret hx hb hr (fun t ht hW => ⟨⟨(), rfl, trivial, by rw [ht]; exact hP, hD⟩, hS.F ht⟩) hS.2.2 dgX7_empty_10
theorem dgX7_copy_0 : decode cX7_copy 0 = .ok (.aload_n 0, 1) := by decide +kernel
theorem dgX7_copy_1 : decode cX7_copy 1 = .ok (.aload_n 1, 1) := by decide +kernel
theorem dgX7_copy_2 : decode cX7_copy 2 = .ok (.getfield 39, 3) := by decide +kernel
theorem dgX7_copy_5 : decode cX7_copy 5 = .ok (.putfield 39, 3) := by decide +kernel
theorem dgX7_copy_8 : decode cX7_copy 8 = .ok (.aload_n 0, 1) := by decide +kernel
theorem dgX7_copy_9 : decode cX7_copy 9 = .ok (.aload_n 1, 1) := by decide +kernel
theorem dgX7_copy_10 : decode cX7_copy 10 = .ok (.getfield 42, 3) := by decide +kernel
theorem dgX7_copy_13 : decode cX7_copy 13 = .ok (.putfield 42, 3) := by decide +kernel
theorem dgX7_copy_16 : decode cX7_copy 16 = .ok (.aload_n 1, 1) := by decide +kernel
theorem dgX7_copy_17 : decode cX7_copy 17 = .ok (.getfield 9, 3) := by decide +kernel
theorem dgX7_copy_20 : decode cX7_copy 20 = .ok (.iconst 0, 1) := by decide +kernel
theorem dgX7_copy_21 : decode cX7_copy 21 = .ok (.aload_n 0, 1) := by decide +kernel
theorem dgX7_copy_22 : decode cX7_copy 22 = .ok (.getfield 9, 3) := by decide +kernel
theorem dgX7_copy_25 : decode cX7_copy 25 = .ok (.iconst 0, 1) := by decide +kernel
theorem dgX7_copy_26 : decode cX7_copy 26 = .ok (.iconst 2, 1) := by decide +kernel
theorem dgX7_copy_27 : decode cX7_copy 27 = .ok (.aload_n 0, 1) := by decide +kernel
theorem dgX7_copy_28 : decode cX7_copy 28 = .ok (.getfield 39, 3) := by decide +kernel
theorem dgX7_copy_31 : decode cX7_copy 31 = .ok (.imul, 1) := by decide +kernel
theorem dgX7_copy_32 : decode cX7_copy 32 = .ok (.invokestatic 58, 3) := by decide +kernel
theorem dgX7_copy_35 : decode cX7_copy 35 = .ok (.aload_n 1, 1) := by decide +kernel
theorem dgX7_copy_36 : decode cX7_copy 36 = .ok (.getfield 15, 3) := by decide +kernel
theorem dgX7_copy_39 : decode cX7_copy 39 = .ok (.iconst 0, 1) := by decide +kernel
theorem dgX7_copy_40 : decode cX7_copy 40 = .ok (.aload_n 0, 1) := by decide +kernel
theorem dgX7_copy_41 : decode cX7_copy 41 = .ok (.getfield 15, 3) := by decide +kernel
theorem dgX7_copy_44 : decode cX7_copy 44 = .ok (.iconst 0, 1) := by decide +kernel
theorem dgX7_copy_45 : decode cX7_copy 45 = .ok (.iconst 2, 1) := by decide +kernel
theorem dgX7_copy_46 : decode cX7_copy 46 = .ok (.aload_n 0, 1) := by decide +kernel
theorem dgX7_copy_47 : decode cX7_copy 47 = .ok (.getfield 39, 3) := by decide +kernel
theorem dgX7_copy_50 : decode cX7_copy 50 = .ok (.imul, 1) := by decide +kernel
theorem dgX7_copy_51 : decode cX7_copy 51 = .ok (.invokestatic 58, 3) := by decide +kernel
theorem dgX7_copy_54 : decode cX7_copy 54 = .ok (.aload_n 1, 1) := by decide +kernel
theorem dgX7_copy_55 : decode cX7_copy 55 = .ok (.getfield 18, 3) := by decide +kernel
theorem dgX7_copy_58 : decode cX7_copy 58 = .ok (.iconst 0, 1) := by decide +kernel
theorem dgX7_copy_59 : decode cX7_copy 59 = .ok (.aload_n 0, 1) := by decide +kernel
theorem dgX7_copy_60 : decode cX7_copy 60 = .ok (.getfield 18, 3) := by decide +kernel
theorem dgX7_copy_63 : decode cX7_copy 63 = .ok (.iconst 0, 1) := by decide +kernel
theorem dgX7_copy_64 : decode cX7_copy 64 = .ok (.aload_n 0, 1) := by decide +kernel
theorem dgX7_copy_65 : decode cX7_copy 65 = .ok (.getfield 39, 3) := by decide +kernel
theorem dgX7_copy_68 : decode cX7_copy 68 = .ok (.invokestatic 58, 3) := by decide +kernel
theorem dgX7_copy_71 : decode cX7_copy 71 = .ok (.return_, 1) := by decide +kernel
def wg_X7_copy : List Cond := .code yX7_copy cX7_copy 2 none :: (([.fieldLink RX7 39 "KnotHouse$Net" "crossings" "I", .fieldLink RX7 42 "KnotHouse$Net" "circles" "I", .fieldLink RX7 9 "KnotHouse$Net" "next" "[I", .fieldLink RX7 15 "KnotHouse$Net" "prev" "[I", .fieldLink RX7 18 "KnotHouse$Net" "sign" "[I", .methodLink RX7 58 arraycopyName, .native arraycopyName, .static arraycopyName, .initialized "java/lang/System"] ++ wsX70) ++ [])
set_option maxHeartbeats 4000000 in
set_option maxRecDepth 100000 in
theorem kg_X7_copy (l : Launch) (dC : Nat → ClassId) (dI : Nat → Nat → Nat) (cI cB cJ cZ : ClassId) (aX : Nat) (nx : Nat → Nat) (x7 x8 x9 x10 : Int32) (aY : Nat) (ny : Nat → Nat) (y8 y9 y10 : Int32) (S T : ow_NP) (G K : Nat → Int32) (cn : Nat) (hc : cn ≤ 12) (sz : Nat) : Met l yX7_copy wg_X7_copy (({ frames := 1, cells := 0, slots := 0, locals := 40 } : Room)) (va_Pc [.ref aX, .ref aY] (fun U => U.heap.size = sz ∧ va_P (dC, dI) vwCl [(aX, .inr (10, [.ref (nx 0), .ref (nx 1), .ref (nx 2), .ref (nx 3), .ref (nx 4), .ref (nx 5), .ref (nx 6), .int x7, .int x8, .int x9, .int x10])), ((nx 0), .inl (cI, 24, .inl (ow_nI S.1))), ((nx 1), .inl (cI, 24, .inl (ow_nI S.2))), ((nx 2), .inl (cI, 12, .inl G)), (aY, .inr (10, [.ref (ny 0), .ref (ny 1), .ref (ny 2), .ref (ny 3), .ref (ny 4), .ref (ny 5), .ref (ny 6), .int (nI cn), .int y8, .int y9, .int y10])), ((ny 0), .inl (cI, 24, .inl (ow_nI T.1))), ((ny 1), .inl (cI, 24, .inl (ow_nI T.2))), ((ny 2), .inl (cI, 12, .inl K))] U.heap ∧ va_K (dC, dI) vwCl [(cI, .int), (cB, .byte), (cJ, .long), (cZ, .boolean)] U ∧ va_D (fun _ => True) [(aX, .inr (10, [.ref (nx 0), .ref (nx 1), .ref (nx 2), .ref (nx 3), .ref (nx 4), .ref (nx 5), .ref (nx 6), .int x7, .int x8, .int x9, .int x10])), ((nx 0), .inl (cI, 24, .inl (ow_nI S.1))), ((nx 1), .inl (cI, 24, .inl (ow_nI S.2))), ((nx 2), .inl (cI, 12, .inl G)), (aY, .inr (10, [.ref (ny 0), .ref (ny 1), .ref (ny 2), .ref (ny 3), .ref (ny 4), .ref (ny 5), .ref (ny 6), .int (nI cn), .int y8, .int y9, .int y10])), ((ny 0), .inl (cI, 24, .inl (ow_nI T.1))), ((ny 1), .inl (cI, 24, .inl (ow_nI T.2))), ((ny 2), .inl (cI, 12, .inl K))])) (va_Qv (fun (g : Unit) => True) (fun g t => va_P (dC, dI) vwCl [(aX, .inr (10, [.ref (nx 0), .ref (nx 1), .ref (nx 2), .ref (nx 3), .ref (nx 4), .ref (nx 5), .ref (nx 6), .int (nI cn), .int y8, .int x9, .int x10])), ((nx 0), .inl (cI, 24, .inl (ow_nI (va_cpy T.1 S.1 0 0 (2 * cn))))), ((nx 1), .inl (cI, 24, .inl (ow_nI (va_cpy T.2 S.2 0 0 (2 * cn))))), ((nx 2), .inl (cI, 12, .inl (va_cpy K G 0 0 cn))), (aY, .inr (10, [.ref (ny 0), .ref (ny 1), .ref (ny 2), .ref (ny 3), .ref (ny 4), .ref (ny 5), .ref (ny 6), .int (nI cn), .int y8, .int y9, .int y10])), ((ny 0), .inl (cI, 24, .inl (ow_nI T.1))), ((ny 1), .inl (cI, 24, .inl (ow_nI T.2))), ((ny 2), .inl (cI, 12, .inl K))] t.heap ∧ va_D (va_A [(aX, .inr (10, [.ref (nx 0), .ref (nx 1), .ref (nx 2), .ref (nx 3), .ref (nx 4), .ref (nx 5), .ref (nx 6), .int x7, .int x8, .int x9, .int x10])), ((nx 0), .inl (cI, 24, .inl (ow_nI S.1))), ((nx 1), .inl (cI, 24, .inl (ow_nI S.2))), ((nx 2), .inl (cI, 12, .inl G)), (aY, .inr (10, [.ref (ny 0), .ref (ny 1), .ref (ny 2), .ref (ny 3), .ref (ny 4), .ref (ny 5), .ref (ny 6), .int (nI cn), .int y8, .int y9, .int y10])), ((ny 0), .inl (cI, 24, .inl (ow_nI T.1))), ((ny 1), .inl (cI, 24, .inl (ow_nI T.2))), ((ny 2), .inl (cI, 12, .inl K))] sz) [(aX, .inr (10, [.ref (nx 0), .ref (nx 1), .ref (nx 2), .ref (nx 3), .ref (nx 4), .ref (nx 5), .ref (nx 6), .int (nI cn), .int y8, .int x9, .int x10])), ((nx 0), .inl (cI, 24, .inl (ow_nI (va_cpy T.1 S.1 0 0 (2 * cn))))), ((nx 1), .inl (cI, 24, .inl (ow_nI (va_cpy T.2 S.2 0 0 (2 * cn))))), ((nx 2), .inl (cI, 12, .inl (va_cpy K G 0 0 cn))), (aY, .inr (10, [.ref (ny 0), .ref (ny 1), .ref (ny 2), .ref (ny 3), .ref (ny 4), .ref (ny 5), .ref (ny 6), .int (nI cn), .int y8, .int y9, .int y10])), ((ny 0), .inl (cI, 24, .inl (ow_nI T.1))), ((ny 1), .inl (cI, 24, .inl (ow_nI T.2))), ((ny 2), .inl (cI, 12, .inl K))]) (va_A [(aX, .inr (10, [.ref (nx 0), .ref (nx 1), .ref (nx 2), .ref (nx 3), .ref (nx 4), .ref (nx 5), .ref (nx 6), .int x7, .int x8, .int x9, .int x10])), ((nx 0), .inl (cI, 24, .inl (ow_nI S.1))), ((nx 1), .inl (cI, 24, .inl (ow_nI S.2))), ((nx 2), .inl (cI, 12, .inl G)), (aY, .inr (10, [.ref (ny 0), .ref (ny 1), .ref (ny 2), .ref (ny 3), .ref (ny 4), .ref (ny 5), .ref (ny 6), .int (nI cn), .int y8, .int y9, .int y10])), ((ny 0), .inl (cI, 24, .inl (ow_nI T.1))), ((ny 1), .inl (cI, 24, .inl (ow_nI T.2))), ((ny 2), .inl (cI, 12, .inl K))] sz)) 0 0 (va_A [(aX, .inr (10, [.ref (nx 0), .ref (nx 1), .ref (nx 2), .ref (nx 3), .ref (nx 4), .ref (nx 5), .ref (nx 6), .int x7, .int x8, .int x9, .int x10])), ((nx 0), .inl (cI, 24, .inl (ow_nI S.1))), ((nx 1), .inl (cI, 24, .inl (ow_nI S.2))), ((nx 2), .inl (cI, 12, .inl G)), (aY, .inr (10, [.ref (ny 0), .ref (ny 1), .ref (ny 2), .ref (ny 3), .ref (ny 4), .ref (ny 5), .ref (ny 6), .int (nI cn), .int y8, .int y9, .int y10])), ((ny 0), .inl (cI, 24, .inl (ow_nI T.1))), ((ny 1), .inl (cI, 24, .inl (ow_nI T.2))), ((ny 2), .inl (cI, 12, .inl K))] sz) := by
  refine Met.ofW (cc := cX7_copy) (maxL := 2) (ret := none) (by decide) rfl ?_
  intro p e s m args below meth c s₁ B hml hv
  obtain ⟨rfl, hsz, hP, hK, hD0⟩ := hv
  have hx := B.exec
  have hb := B.bytes
  have hr := B.returns
  have hts := atoms_spec (ws := wg_X7_copy) B.pre
  have hown : s.vm.findClass RX7 = some m.cls := findClass_of_methodNamed B.named
  have hlocks := B.notSynchronized
  subst hsz
  have hD := hD0.self (sz := s.heap.size)
  generalize hAe : va_A [(aX, .inr (10, [.ref (nx 0), .ref (nx 1), .ref (nx 2), .ref (nx 3), .ref (nx 4), .ref (nx 5), .ref (nx 6), .int x7, .int x8, .int x9, .int x10])), ((nx 0), .inl (cI, 24, .inl (ow_nI S.1))), ((nx 1), .inl (cI, 24, .inl (ow_nI S.2))), ((nx 2), .inl (cI, 12, .inl G)), (aY, .inr (10, [.ref (ny 0), .ref (ny 1), .ref (ny 2), .ref (ny 3), .ref (ny 4), .ref (ny 5), .ref (ny 6), .int (nI cn), .int y8, .int y9, .int y10])), ((ny 0), .inl (cI, 24, .inl (ow_nI T.1))), ((ny 1), .inl (cI, 24, .inl (ow_nI T.2))), ((ny 2), .inl (cI, 12, .inl K))] s.heap.size = A at hD ⊢
  have hA : ∀ q : Nat, s.heap.size ≤ q → A q := fun q h => by rw [← hAe]; exact Or.inr h
  have hS : va_S A s.heap s.heap [] := va_S.rf
  have hP : va_P (dC, dI) vwCl [(aX, .inr (10, [.ref (nx 0), .ref (nx 1), .ref (nx 2), .ref (nx 3), .ref (nx 4), .ref (nx 5), .ref (nx 6), .int x7, .int x8, .int x9, .int x10])), ((nx 0), .inl (cI, 24, .inl (ow_nI S.1))), ((nx 1), .inl (cI, 24, .inl (ow_nI S.2))), ((nx 2), .inl (cI, 12, .inl G)), (aY, .inr (10, [.ref (ny 0), .ref (ny 1), .ref (ny 2), .ref (ny 3), .ref (ny 4), .ref (ny 5), .ref (ny 6), .int (nI cn), .int y8, .int y9, .int y10])), ((ny 0), .inl (cI, 24, .inl (ow_nI T.1))), ((ny 1), .inl (cI, 24, .inl (ow_nI T.2))), ((ny 2), .inl (cI, 12, .inl K))] s.heap := hP
  have hl := lv_entry ([.ref aX, .ref aY]) (n := 2) (Nat.le_of_ble_eq_true rfl)
  rw [lg_entry_eq]
  generalize (lg_sl ([.ref aX, .ref aY]) ++ List.replicate (2 - (lg_sl ([.ref aX, .ref aY])).length) Slot.unset).toArray = ls at hl ⊢
  have hl : lv_has ls 2 [(0, .ref aX), (1, .ref aY)] := hl
  refine ow_named (fun QQ hQQ => ?_)
  suffices key9 : ∀ (H : Heap) (locs : List Loc), va_P (dC, dI) vwCl [(aX, .inr (10, [.ref (nx 0), .ref (nx 1), .ref (nx 2), .ref (nx 3), .ref (nx 4), .ref (nx 5), .ref (nx 6), .int x7, .int x8, .int x9, .int x10])), ((nx 0), .inl (cI, 24, .inl (ow_nI S.1))), ((nx 1), .inl (cI, 24, .inl (ow_nI S.2))), ((nx 2), .inl (cI, 12, .inl G)), (aY, .inr (10, [.ref (ny 0), .ref (ny 1), .ref (ny 2), .ref (ny 3), .ref (ny 4), .ref (ny 5), .ref (ny 6), .int (nI cn), .int y8, .int y9, .int y10])), ((ny 0), .inl (cI, 24, .inl (ow_nI T.1))), ((ny 1), .inl (cI, 24, .inl (ow_nI T.2))), ((ny 2), .inl (cI, 12, .inl K))] H → va_S A s.heap H locs → W p l e ({ frames := 1, cells := 0, slots := 0, locals := 40 } : Room) s m ([.ref aX, .ref aY] : List Value).toArray below meth c H locs 0 0 QQ (F0 m 0 ls []) from key9 s.heap [] hP hS
  intro H locs hP hS
  refine lv_aload_n hx hb dgX7_copy_0 rfl (lv_at hl 0 rfl) ?_
  refine lv_aload_n hx hb dgX7_copy_1 rfl (lv_at hl 1 rfl) ?_
  refine va_get (D := (dC, dI)) (ci := 10) (v := .int (nI cn)) (C := RX7) (T := TX7) (N := 11) hx hb hts (fun _ h => List.mem_cons_of_mem _ (List.mem_append_left _ (List.mem_append_right _ h))) hown hK hP 4 rfl rfl 7 (by decide) (hts (.fieldLink RX7 39 "KnotHouse$Net" "crossings" "I") (by decide +kernel)) (fun _ h9 => h9) rfl dgX7_copy_2 ?_
  refine va_put (D := (dC, dI)) (ci := 10) (v := .int (nI cn)) (ty := .int) (C := RX7) (T := TX7) (N := 11) hx hb hts (fun _ h => List.mem_cons_of_mem _ (List.mem_append_left _ (List.mem_append_right _ h))) tyX7 tyX7_ok nmX7 hown hK hP hD hS 0 rfl rfl 7 (by decide) (hts (.fieldLink RX7 39 "KnotHouse$Net" "crossings" "I") (by decide +kernel)) (fun _ h9 => h9) rfl (by decide +kernel) rfl rfl (Nat.le_of_ble_eq_true rfl) dgX7_copy_5 (fun H locs hP hD hS => ?_)
  have hP : va_P (dC, dI) vwCl [(aX, .inr (10, [.ref (nx 0), .ref (nx 1), .ref (nx 2), .ref (nx 3), .ref (nx 4), .ref (nx 5), .ref (nx 6), .int (nI cn), .int x8, .int x9, .int x10])), ((nx 0), .inl (cI, 24, .inl (ow_nI S.1))), ((nx 1), .inl (cI, 24, .inl (ow_nI S.2))), ((nx 2), .inl (cI, 12, .inl G)), (aY, .inr (10, [.ref (ny 0), .ref (ny 1), .ref (ny 2), .ref (ny 3), .ref (ny 4), .ref (ny 5), .ref (ny 6), .int (nI cn), .int y8, .int y9, .int y10])), ((ny 0), .inl (cI, 24, .inl (ow_nI T.1))), ((ny 1), .inl (cI, 24, .inl (ow_nI T.2))), ((ny 2), .inl (cI, 12, .inl K))] H := hP
  have hD : va_D A [(aX, .inr (10, [.ref (nx 0), .ref (nx 1), .ref (nx 2), .ref (nx 3), .ref (nx 4), .ref (nx 5), .ref (nx 6), .int (nI cn), .int x8, .int x9, .int x10])), ((nx 0), .inl (cI, 24, .inl (ow_nI S.1))), ((nx 1), .inl (cI, 24, .inl (ow_nI S.2))), ((nx 2), .inl (cI, 12, .inl G)), (aY, .inr (10, [.ref (ny 0), .ref (ny 1), .ref (ny 2), .ref (ny 3), .ref (ny 4), .ref (ny 5), .ref (ny 6), .int (nI cn), .int y8, .int y9, .int y10])), ((ny 0), .inl (cI, 24, .inl (ow_nI T.1))), ((ny 1), .inl (cI, 24, .inl (ow_nI T.2))), ((ny 2), .inl (cI, 12, .inl K))] := hD
  refine lv_aload_n hx hb dgX7_copy_8 rfl (lv_at hl 0 rfl) ?_
  refine lv_aload_n hx hb dgX7_copy_9 rfl (lv_at hl 1 rfl) ?_
  refine va_get (D := (dC, dI)) (ci := 10) (v := .int y8) (C := RX7) (T := TX7) (N := 11) hx hb hts (fun _ h => List.mem_cons_of_mem _ (List.mem_append_left _ (List.mem_append_right _ h))) hown hK hP 4 rfl rfl 8 (by decide) (hts (.fieldLink RX7 42 "KnotHouse$Net" "circles" "I") (by decide +kernel)) (fun _ h9 => h9) rfl dgX7_copy_10 ?_
  refine va_put (D := (dC, dI)) (ci := 10) (v := .int y8) (ty := .int) (C := RX7) (T := TX7) (N := 11) hx hb hts (fun _ h => List.mem_cons_of_mem _ (List.mem_append_left _ (List.mem_append_right _ h))) tyX7 tyX7_ok nmX7 hown hK hP hD hS 0 rfl rfl 8 (by decide) (hts (.fieldLink RX7 42 "KnotHouse$Net" "circles" "I") (by decide +kernel)) (fun _ h9 => h9) rfl (by decide +kernel) rfl rfl (Nat.le_of_ble_eq_true rfl) dgX7_copy_13 (fun H locs hP hD hS => ?_)
  have hP : va_P (dC, dI) vwCl [(aX, .inr (10, [.ref (nx 0), .ref (nx 1), .ref (nx 2), .ref (nx 3), .ref (nx 4), .ref (nx 5), .ref (nx 6), .int (nI cn), .int y8, .int x9, .int x10])), ((nx 0), .inl (cI, 24, .inl (ow_nI S.1))), ((nx 1), .inl (cI, 24, .inl (ow_nI S.2))), ((nx 2), .inl (cI, 12, .inl G)), (aY, .inr (10, [.ref (ny 0), .ref (ny 1), .ref (ny 2), .ref (ny 3), .ref (ny 4), .ref (ny 5), .ref (ny 6), .int (nI cn), .int y8, .int y9, .int y10])), ((ny 0), .inl (cI, 24, .inl (ow_nI T.1))), ((ny 1), .inl (cI, 24, .inl (ow_nI T.2))), ((ny 2), .inl (cI, 12, .inl K))] H := hP
  have hD : va_D A [(aX, .inr (10, [.ref (nx 0), .ref (nx 1), .ref (nx 2), .ref (nx 3), .ref (nx 4), .ref (nx 5), .ref (nx 6), .int (nI cn), .int y8, .int x9, .int x10])), ((nx 0), .inl (cI, 24, .inl (ow_nI S.1))), ((nx 1), .inl (cI, 24, .inl (ow_nI S.2))), ((nx 2), .inl (cI, 12, .inl G)), (aY, .inr (10, [.ref (ny 0), .ref (ny 1), .ref (ny 2), .ref (ny 3), .ref (ny 4), .ref (ny 5), .ref (ny 6), .int (nI cn), .int y8, .int y9, .int y10])), ((ny 0), .inl (cI, 24, .inl (ow_nI T.1))), ((ny 1), .inl (cI, 24, .inl (ow_nI T.2))), ((ny 2), .inl (cI, 12, .inl K))] := hD
  refine lv_aload_n hx hb dgX7_copy_16 rfl (lv_at hl 1 rfl) ?_
  refine va_get (D := (dC, dI)) (ci := 10) (v := .ref (ny 0)) (C := RX7) (T := TX7) (N := 11) hx hb hts (fun _ h => List.mem_cons_of_mem _ (List.mem_append_left _ (List.mem_append_right _ h))) hown hK hP 4 rfl rfl 0 (by decide) (hts (.fieldLink RX7 9 "KnotHouse$Net" "next" "[I") (by decide +kernel)) (fun _ h9 => h9) rfl dgX7_copy_17 ?_
  refine lv_iconst (v := 0) hx hb dgX7_copy_20 (by decide) ?_
  refine ow_topi (y := nI 0) (by decide) ?_
  refine lv_aload_n hx hb dgX7_copy_21 rfl (lv_at hl 0 rfl) ?_
  refine va_get (D := (dC, dI)) (ci := 10) (v := .ref (nx 0)) (C := RX7) (T := TX7) (N := 11) hx hb hts (fun _ h => List.mem_cons_of_mem _ (List.mem_append_left _ (List.mem_append_right _ h))) hown hK hP 0 rfl rfl 0 (by decide) (hts (.fieldLink RX7 9 "KnotHouse$Net" "next" "[I") (by decide +kernel)) (fun _ h9 => h9) rfl dgX7_copy_22 ?_
  refine lv_iconst (v := 0) hx hb dgX7_copy_25 (by decide) ?_
  refine ow_topi (y := nI 0) (by decide) ?_
  refine lv_iconst (v := 2) hx hb dgX7_copy_26 (by decide) ?_
  refine lv_aload_n hx hb dgX7_copy_27 rfl (lv_at hl 0 rfl) ?_
  refine va_get (D := (dC, dI)) (ci := 10) (v := .int (nI cn)) (C := RX7) (T := TX7) (N := 11) hx hb hts (fun _ h => List.mem_cons_of_mem _ (List.mem_append_left _ (List.mem_append_right _ h))) hown hK hP 0 rfl rfl 7 (by decide) (hts (.fieldLink RX7 39 "KnotHouse$Net" "crossings" "I") (by decide +kernel)) (fun _ h9 => h9) rfl dgX7_copy_28 ?_
  refine lv_imul hx hb dgX7_copy_31 ?_
  refine ow_topi (y := nI (2 * cn)) (pk_mul 2 cn) ?_
  refine ow_cpyi (sp := 0) (dp := 0) (n := 2 * cn) hx hb (by rw [hml]; exact hl.1.symm) hown (hts (.methodLink RX7 58 arraycopyName) (by decide +kernel)) (hts (.native arraycopyName) (by decide +kernel)) (hts (.static arraycopyName) (by decide +kernel)) (hts (.initialized "java/lang/System") (by decide +kernel)) hK hP hD hS 5 1 0 0 rfl rfl rfl rfl (by omega) (by omega) (by decide) (by decide) (Nat.le_of_ble_eq_true rfl) (by decide) dgX7_copy_32 (fun H locs hP hD hS => ?_)
  have hP : va_P (dC, dI) vwCl [(aX, .inr (10, [.ref (nx 0), .ref (nx 1), .ref (nx 2), .ref (nx 3), .ref (nx 4), .ref (nx 5), .ref (nx 6), .int (nI cn), .int y8, .int x9, .int x10])), ((nx 0), .inl (cI, 24, .inl (ow_nI (va_cpy T.1 S.1 0 0 (2 * cn))))), ((nx 1), .inl (cI, 24, .inl (ow_nI S.2))), ((nx 2), .inl (cI, 12, .inl G)), (aY, .inr (10, [.ref (ny 0), .ref (ny 1), .ref (ny 2), .ref (ny 3), .ref (ny 4), .ref (ny 5), .ref (ny 6), .int (nI cn), .int y8, .int y9, .int y10])), ((ny 0), .inl (cI, 24, .inl (ow_nI T.1))), ((ny 1), .inl (cI, 24, .inl (ow_nI T.2))), ((ny 2), .inl (cI, 12, .inl K))] H := by rw [← np_cpyI T.1 S.1 0 0 (2 * cn)]; exact hP
  have hD : va_D A [(aX, .inr (10, [.ref (nx 0), .ref (nx 1), .ref (nx 2), .ref (nx 3), .ref (nx 4), .ref (nx 5), .ref (nx 6), .int (nI cn), .int y8, .int x9, .int x10])), ((nx 0), .inl (cI, 24, .inl (ow_nI (va_cpy T.1 S.1 0 0 (2 * cn))))), ((nx 1), .inl (cI, 24, .inl (ow_nI S.2))), ((nx 2), .inl (cI, 12, .inl G)), (aY, .inr (10, [.ref (ny 0), .ref (ny 1), .ref (ny 2), .ref (ny 3), .ref (ny 4), .ref (ny 5), .ref (ny 6), .int (nI cn), .int y8, .int y9, .int y10])), ((ny 0), .inl (cI, 24, .inl (ow_nI T.1))), ((ny 1), .inl (cI, 24, .inl (ow_nI T.2))), ((ny 2), .inl (cI, 12, .inl K))] := by rw [← np_cpyI T.1 S.1 0 0 (2 * cn)]; exact hD
  refine lv_aload_n hx hb dgX7_copy_35 rfl (lv_at hl 1 rfl) ?_
  refine va_get (D := (dC, dI)) (ci := 10) (v := .ref (ny 1)) (C := RX7) (T := TX7) (N := 11) hx hb hts (fun _ h => List.mem_cons_of_mem _ (List.mem_append_left _ (List.mem_append_right _ h))) hown hK hP 4 rfl rfl 1 (by decide) (hts (.fieldLink RX7 15 "KnotHouse$Net" "prev" "[I") (by decide +kernel)) (fun _ h9 => h9) rfl dgX7_copy_36 ?_
  refine lv_iconst (v := 0) hx hb dgX7_copy_39 (by decide) ?_
  refine ow_topi (y := nI 0) (by decide) ?_
  refine lv_aload_n hx hb dgX7_copy_40 rfl (lv_at hl 0 rfl) ?_
  refine va_get (D := (dC, dI)) (ci := 10) (v := .ref (nx 1)) (C := RX7) (T := TX7) (N := 11) hx hb hts (fun _ h => List.mem_cons_of_mem _ (List.mem_append_left _ (List.mem_append_right _ h))) hown hK hP 0 rfl rfl 1 (by decide) (hts (.fieldLink RX7 15 "KnotHouse$Net" "prev" "[I") (by decide +kernel)) (fun _ h9 => h9) rfl dgX7_copy_41 ?_
  refine lv_iconst (v := 0) hx hb dgX7_copy_44 (by decide) ?_
  refine ow_topi (y := nI 0) (by decide) ?_
  refine lv_iconst (v := 2) hx hb dgX7_copy_45 (by decide) ?_
  refine lv_aload_n hx hb dgX7_copy_46 rfl (lv_at hl 0 rfl) ?_
  refine va_get (D := (dC, dI)) (ci := 10) (v := .int (nI cn)) (C := RX7) (T := TX7) (N := 11) hx hb hts (fun _ h => List.mem_cons_of_mem _ (List.mem_append_left _ (List.mem_append_right _ h))) hown hK hP 0 rfl rfl 7 (by decide) (hts (.fieldLink RX7 39 "KnotHouse$Net" "crossings" "I") (by decide +kernel)) (fun _ h9 => h9) rfl dgX7_copy_47 ?_
  refine lv_imul hx hb dgX7_copy_50 ?_
  refine ow_topi (y := nI (2 * cn)) (pk_mul 2 cn) ?_
  refine ow_cpyi (sp := 0) (dp := 0) (n := 2 * cn) hx hb (by rw [hml]; exact hl.1.symm) hown (hts (.methodLink RX7 58 arraycopyName) (by decide +kernel)) (hts (.native arraycopyName) (by decide +kernel)) (hts (.static arraycopyName) (by decide +kernel)) (hts (.initialized "java/lang/System") (by decide +kernel)) hK hP hD hS 6 2 0 0 rfl rfl rfl rfl (by omega) (by omega) (by decide) (by decide) (Nat.le_of_ble_eq_true rfl) (by decide) dgX7_copy_51 (fun H locs hP hD hS => ?_)
  have hP : va_P (dC, dI) vwCl [(aX, .inr (10, [.ref (nx 0), .ref (nx 1), .ref (nx 2), .ref (nx 3), .ref (nx 4), .ref (nx 5), .ref (nx 6), .int (nI cn), .int y8, .int x9, .int x10])), ((nx 0), .inl (cI, 24, .inl (ow_nI (va_cpy T.1 S.1 0 0 (2 * cn))))), ((nx 1), .inl (cI, 24, .inl (ow_nI (va_cpy T.2 S.2 0 0 (2 * cn))))), ((nx 2), .inl (cI, 12, .inl G)), (aY, .inr (10, [.ref (ny 0), .ref (ny 1), .ref (ny 2), .ref (ny 3), .ref (ny 4), .ref (ny 5), .ref (ny 6), .int (nI cn), .int y8, .int y9, .int y10])), ((ny 0), .inl (cI, 24, .inl (ow_nI T.1))), ((ny 1), .inl (cI, 24, .inl (ow_nI T.2))), ((ny 2), .inl (cI, 12, .inl K))] H := by rw [← np_cpyI T.2 S.2 0 0 (2 * cn)]; exact hP
  have hD : va_D A [(aX, .inr (10, [.ref (nx 0), .ref (nx 1), .ref (nx 2), .ref (nx 3), .ref (nx 4), .ref (nx 5), .ref (nx 6), .int (nI cn), .int y8, .int x9, .int x10])), ((nx 0), .inl (cI, 24, .inl (ow_nI (va_cpy T.1 S.1 0 0 (2 * cn))))), ((nx 1), .inl (cI, 24, .inl (ow_nI (va_cpy T.2 S.2 0 0 (2 * cn))))), ((nx 2), .inl (cI, 12, .inl G)), (aY, .inr (10, [.ref (ny 0), .ref (ny 1), .ref (ny 2), .ref (ny 3), .ref (ny 4), .ref (ny 5), .ref (ny 6), .int (nI cn), .int y8, .int y9, .int y10])), ((ny 0), .inl (cI, 24, .inl (ow_nI T.1))), ((ny 1), .inl (cI, 24, .inl (ow_nI T.2))), ((ny 2), .inl (cI, 12, .inl K))] := by rw [← np_cpyI T.2 S.2 0 0 (2 * cn)]; exact hD
  refine lv_aload_n hx hb dgX7_copy_54 rfl (lv_at hl 1 rfl) ?_
  refine va_get (D := (dC, dI)) (ci := 10) (v := .ref (ny 2)) (C := RX7) (T := TX7) (N := 11) hx hb hts (fun _ h => List.mem_cons_of_mem _ (List.mem_append_left _ (List.mem_append_right _ h))) hown hK hP 4 rfl rfl 2 (by decide) (hts (.fieldLink RX7 18 "KnotHouse$Net" "sign" "[I") (by decide +kernel)) (fun _ h9 => h9) rfl dgX7_copy_55 ?_
  refine lv_iconst (v := 0) hx hb dgX7_copy_58 (by decide) ?_
  refine ow_topi (y := nI 0) (by decide) ?_
  refine lv_aload_n hx hb dgX7_copy_59 rfl (lv_at hl 0 rfl) ?_
  refine va_get (D := (dC, dI)) (ci := 10) (v := .ref (nx 2)) (C := RX7) (T := TX7) (N := 11) hx hb hts (fun _ h => List.mem_cons_of_mem _ (List.mem_append_left _ (List.mem_append_right _ h))) hown hK hP 0 rfl rfl 2 (by decide) (hts (.fieldLink RX7 18 "KnotHouse$Net" "sign" "[I") (by decide +kernel)) (fun _ h9 => h9) rfl dgX7_copy_60 ?_
  refine lv_iconst (v := 0) hx hb dgX7_copy_63 (by decide) ?_
  refine ow_topi (y := nI 0) (by decide) ?_
  refine lv_aload_n hx hb dgX7_copy_64 rfl (lv_at hl 0 rfl) ?_
  refine va_get (D := (dC, dI)) (ci := 10) (v := .int (nI cn)) (C := RX7) (T := TX7) (N := 11) hx hb hts (fun _ h => List.mem_cons_of_mem _ (List.mem_append_left _ (List.mem_append_right _ h))) hown hK hP 0 rfl rfl 7 (by decide) (hts (.fieldLink RX7 39 "KnotHouse$Net" "crossings" "I") (by decide +kernel)) (fun _ h9 => h9) rfl dgX7_copy_65 ?_
  refine ow_cpyi (sp := 0) (dp := 0) (n := cn) hx hb (by rw [hml]; exact hl.1.symm) hown (hts (.methodLink RX7 58 arraycopyName) (by decide +kernel)) (hts (.native arraycopyName) (by decide +kernel)) (hts (.static arraycopyName) (by decide +kernel)) (hts (.initialized "java/lang/System") (by decide +kernel)) hK hP hD hS 7 3 0 0 rfl rfl rfl rfl (by omega) (by omega) (by decide) (by decide) (Nat.le_of_ble_eq_true rfl) (by decide) dgX7_copy_68 (fun H locs hP hD hS => ?_)
  have hP : va_P (dC, dI) vwCl [(aX, .inr (10, [.ref (nx 0), .ref (nx 1), .ref (nx 2), .ref (nx 3), .ref (nx 4), .ref (nx 5), .ref (nx 6), .int (nI cn), .int y8, .int x9, .int x10])), ((nx 0), .inl (cI, 24, .inl (ow_nI (va_cpy T.1 S.1 0 0 (2 * cn))))), ((nx 1), .inl (cI, 24, .inl (ow_nI (va_cpy T.2 S.2 0 0 (2 * cn))))), ((nx 2), .inl (cI, 12, .inl (va_cpy K G 0 0 cn))), (aY, .inr (10, [.ref (ny 0), .ref (ny 1), .ref (ny 2), .ref (ny 3), .ref (ny 4), .ref (ny 5), .ref (ny 6), .int (nI cn), .int y8, .int y9, .int y10])), ((ny 0), .inl (cI, 24, .inl (ow_nI T.1))), ((ny 1), .inl (cI, 24, .inl (ow_nI T.2))), ((ny 2), .inl (cI, 12, .inl K))] H := hP
  have hD : va_D A [(aX, .inr (10, [.ref (nx 0), .ref (nx 1), .ref (nx 2), .ref (nx 3), .ref (nx 4), .ref (nx 5), .ref (nx 6), .int (nI cn), .int y8, .int x9, .int x10])), ((nx 0), .inl (cI, 24, .inl (ow_nI (va_cpy T.1 S.1 0 0 (2 * cn))))), ((nx 1), .inl (cI, 24, .inl (ow_nI (va_cpy T.2 S.2 0 0 (2 * cn))))), ((nx 2), .inl (cI, 12, .inl (va_cpy K G 0 0 cn))), (aY, .inr (10, [.ref (ny 0), .ref (ny 1), .ref (ny 2), .ref (ny 3), .ref (ny 4), .ref (ny 5), .ref (ny 6), .int (nI cn), .int y8, .int y9, .int y10])), ((ny 0), .inl (cI, 24, .inl (ow_nI T.1))), ((ny 1), .inl (cI, 24, .inl (ow_nI T.2))), ((ny 2), .inl (cI, 12, .inl K))] := hD
  rw [hQQ]
  exact W.vret hx hb hr (fun t ht hW => ⟨⟨(), rfl, trivial, by rw [ht]; exact hP, hD⟩, hS.F ht⟩) hS.2.2 dgX7_copy_71
theorem dgX7_append_0 : decode cX7_append 0 = .ok (.iconst 2, 1) := by decide +kernel
theorem dgX7_append_1 : decode cX7_append 1 = .ok (.aload_n 0, 1) := by decide +kernel
theorem dgX7_append_2 : decode cX7_append 2 = .ok (.getfield 39, 3) := by decide +kernel
theorem dgX7_append_5 : decode cX7_append 5 = .ok (.imul, 1) := by decide +kernel
theorem dgX7_append_6 : decode cX7_append 6 = .ok (.istore_n 2, 1) := by decide +kernel
theorem dgX7_append_7 : decode cX7_append 7 = .ok (.iconst 0, 1) := by decide +kernel
theorem dgX7_append_8 : decode cX7_append 8 = .ok (.istore_n 3, 1) := by decide +kernel
theorem dgX7_append_9 : decode cX7_append 9 = .ok (.iload_n 3, 1) := by decide +kernel
theorem dgX7_append_10 : decode cX7_append 10 = .ok (.iconst 2, 1) := by decide +kernel
theorem dgX7_append_11 : decode cX7_append 11 = .ok (.aload_n 1, 1) := by decide +kernel
theorem dgX7_append_12 : decode cX7_append 12 = .ok (.getfield 39, 3) := by decide +kernel
theorem dgX7_append_15 : decode cX7_append 15 = .ok (.imul, 1) := by decide +kernel
theorem dgX7_append_16 : decode cX7_append 16 = .ok (.if_icmp .ge 41, 3) := by decide +kernel
theorem dgX7_append_19 : decode cX7_append 19 = .ok (.aload_n 0, 1) := by decide +kernel
theorem dgX7_append_20 : decode cX7_append 20 = .ok (.getfield 9, 3) := by decide +kernel
theorem dgX7_append_23 : decode cX7_append 23 = .ok (.iload_n 2, 1) := by decide +kernel
theorem dgX7_append_24 : decode cX7_append 24 = .ok (.iload_n 3, 1) := by decide +kernel
theorem dgX7_append_25 : decode cX7_append 25 = .ok (.iadd, 1) := by decide +kernel
theorem dgX7_append_26 : decode cX7_append 26 = .ok (.iload_n 2, 1) := by decide +kernel
theorem dgX7_append_27 : decode cX7_append 27 = .ok (.aload_n 1, 1) := by decide +kernel
theorem dgX7_append_28 : decode cX7_append 28 = .ok (.getfield 9, 3) := by decide +kernel
theorem dgX7_append_31 : decode cX7_append 31 = .ok (.iload_n 3, 1) := by decide +kernel
theorem dgX7_append_32 : decode cX7_append 32 = .ok (.iaload, 1) := by decide +kernel
theorem dgX7_append_33 : decode cX7_append 33 = .ok (.iadd, 1) := by decide +kernel
theorem dgX7_append_34 : decode cX7_append 34 = .ok (.iastore, 1) := by decide +kernel
theorem dgX7_append_35 : decode cX7_append 35 = .ok (.aload_n 0, 1) := by decide +kernel
theorem dgX7_append_36 : decode cX7_append 36 = .ok (.getfield 15, 3) := by decide +kernel
theorem dgX7_append_39 : decode cX7_append 39 = .ok (.iload_n 2, 1) := by decide +kernel
theorem dgX7_append_40 : decode cX7_append 40 = .ok (.iload_n 3, 1) := by decide +kernel
theorem dgX7_append_41 : decode cX7_append 41 = .ok (.iadd, 1) := by decide +kernel
theorem dgX7_append_42 : decode cX7_append 42 = .ok (.iload_n 2, 1) := by decide +kernel
theorem dgX7_append_43 : decode cX7_append 43 = .ok (.aload_n 1, 1) := by decide +kernel
theorem dgX7_append_44 : decode cX7_append 44 = .ok (.getfield 15, 3) := by decide +kernel
theorem dgX7_append_47 : decode cX7_append 47 = .ok (.iload_n 3, 1) := by decide +kernel
theorem dgX7_append_48 : decode cX7_append 48 = .ok (.iaload, 1) := by decide +kernel
theorem dgX7_append_49 : decode cX7_append 49 = .ok (.iadd, 1) := by decide +kernel
theorem dgX7_append_50 : decode cX7_append 50 = .ok (.iastore, 1) := by decide +kernel
theorem dgX7_append_51 : decode cX7_append 51 = .ok (.iinc 3 1, 3) := by decide +kernel
theorem dgX7_append_54 : decode cX7_append 54 = .ok (.goto (-45), 3) := by decide +kernel
theorem dgX7_append_57 : decode cX7_append 57 = .ok (.aload_n 1, 1) := by decide +kernel
theorem dgX7_append_58 : decode cX7_append 58 = .ok (.getfield 18, 3) := by decide +kernel
theorem dgX7_append_61 : decode cX7_append 61 = .ok (.iconst 0, 1) := by decide +kernel
theorem dgX7_append_62 : decode cX7_append 62 = .ok (.aload_n 0, 1) := by decide +kernel
theorem dgX7_append_63 : decode cX7_append 63 = .ok (.getfield 18, 3) := by decide +kernel
theorem dgX7_append_66 : decode cX7_append 66 = .ok (.aload_n 0, 1) := by decide +kernel
theorem dgX7_append_67 : decode cX7_append 67 = .ok (.getfield 39, 3) := by decide +kernel
theorem dgX7_append_70 : decode cX7_append 70 = .ok (.aload_n 1, 1) := by decide +kernel
theorem dgX7_append_71 : decode cX7_append 71 = .ok (.getfield 39, 3) := by decide +kernel
theorem dgX7_append_74 : decode cX7_append 74 = .ok (.invokestatic 58, 3) := by decide +kernel
theorem dgX7_append_77 : decode cX7_append 77 = .ok (.aload_n 0, 1) := by decide +kernel
theorem dgX7_append_78 : decode cX7_append 78 = .ok (.dup, 1) := by decide +kernel
theorem dgX7_append_79 : decode cX7_append 79 = .ok (.getfield 39, 3) := by decide +kernel
theorem dgX7_append_82 : decode cX7_append 82 = .ok (.aload_n 1, 1) := by decide +kernel
theorem dgX7_append_83 : decode cX7_append 83 = .ok (.getfield 39, 3) := by decide +kernel
theorem dgX7_append_86 : decode cX7_append 86 = .ok (.iadd, 1) := by decide +kernel
theorem dgX7_append_87 : decode cX7_append 87 = .ok (.putfield 39, 3) := by decide +kernel
theorem dgX7_append_90 : decode cX7_append 90 = .ok (.aload_n 0, 1) := by decide +kernel
theorem dgX7_append_91 : decode cX7_append 91 = .ok (.dup, 1) := by decide +kernel
theorem dgX7_append_92 : decode cX7_append 92 = .ok (.getfield 42, 3) := by decide +kernel
theorem dgX7_append_95 : decode cX7_append 95 = .ok (.aload_n 1, 1) := by decide +kernel
theorem dgX7_append_96 : decode cX7_append 96 = .ok (.getfield 42, 3) := by decide +kernel
theorem dgX7_append_99 : decode cX7_append 99 = .ok (.iadd, 1) := by decide +kernel
theorem dgX7_append_100 : decode cX7_append 100 = .ok (.putfield 42, 3) := by decide +kernel
theorem dgX7_append_103 : decode cX7_append 103 = .ok (.return_, 1) := by decide +kernel
def wg_X7_append : List Cond := .code yX7_append cX7_append 4 none :: (([.fieldLink RX7 39 "KnotHouse$Net" "crossings" "I", .fieldLink RX7 42 "KnotHouse$Net" "circles" "I", .fieldLink RX7 9 "KnotHouse$Net" "next" "[I", .fieldLink RX7 15 "KnotHouse$Net" "prev" "[I", .fieldLink RX7 18 "KnotHouse$Net" "sign" "[I", .methodLink RX7 58 arraycopyName, .native arraycopyName, .static arraycopyName, .initialized "java/lang/System"] ++ wsX70) ++ [])
set_option maxHeartbeats 4000000 in
set_option maxRecDepth 100000 in
theorem kg_X7_append (l : Launch) (dC : Nat → ClassId) (dI : Nat → Nat → Nat) (cI cB cJ cZ : ClassId) (aX : Nat) (nx : Nat → Nat) (x8 x9 x10 : Int32) (aY : Nat) (ny : Nat → Nat) (y8 y9 y10 : Int32) (S T : ow_NP) (G K : Nat → Int32) (cn ck : Nat) (hc : cn + ck ≤ 12) (sz : Nat) : Met l yX7_append wg_X7_append (({ frames := 1, cells := 0, slots := 0, locals := 40 } : Room)) (va_Pc [.ref aX, .ref aY] (fun U => U.heap.size = sz ∧ va_P (dC, dI) vwCl [(aX, .inr (10, [.ref (nx 0), .ref (nx 1), .ref (nx 2), .ref (nx 3), .ref (nx 4), .ref (nx 5), .ref (nx 6), .int (nI cn), .int x8, .int x9, .int x10])), ((nx 0), .inl (cI, 24, .inl (ow_nI S.1))), ((nx 1), .inl (cI, 24, .inl (ow_nI S.2))), ((nx 2), .inl (cI, 12, .inl G)), (aY, .inr (10, [.ref (ny 0), .ref (ny 1), .ref (ny 2), .ref (ny 3), .ref (ny 4), .ref (ny 5), .ref (ny 6), .int (nI ck), .int y8, .int y9, .int y10])), ((ny 0), .inl (cI, 24, .inl (ow_nI T.1))), ((ny 1), .inl (cI, 24, .inl (ow_nI T.2))), ((ny 2), .inl (cI, 12, .inl K))] U.heap ∧ va_K (dC, dI) vwCl [(cI, .int), (cB, .byte), (cJ, .long), (cZ, .boolean)] U ∧ va_D (fun _ => True) [(aX, .inr (10, [.ref (nx 0), .ref (nx 1), .ref (nx 2), .ref (nx 3), .ref (nx 4), .ref (nx 5), .ref (nx 6), .int (nI cn), .int x8, .int x9, .int x10])), ((nx 0), .inl (cI, 24, .inl (ow_nI S.1))), ((nx 1), .inl (cI, 24, .inl (ow_nI S.2))), ((nx 2), .inl (cI, 12, .inl G)), (aY, .inr (10, [.ref (ny 0), .ref (ny 1), .ref (ny 2), .ref (ny 3), .ref (ny 4), .ref (ny 5), .ref (ny 6), .int (nI ck), .int y8, .int y9, .int y10])), ((ny 0), .inl (cI, 24, .inl (ow_nI T.1))), ((ny 1), .inl (cI, 24, .inl (ow_nI T.2))), ((ny 2), .inl (cI, 12, .inl K))])) (va_Qv (fun (g : Unit) => True) (fun g t => va_P (dC, dI) vwCl [(aX, .inr (10, [.ref (nx 0), .ref (nx 1), .ref (nx 2), .ref (nx 3), .ref (nx 4), .ref (nx 5), .ref (nx 6), .int (nI (cn + ck)), .int (x8 + y8), .int x9, .int x10])), ((nx 0), .inl (cI, 24, .inl (ow_nI (np_app S.1 T.1 (2 * cn) (2 * ck))))), ((nx 1), .inl (cI, 24, .inl (ow_nI (np_app S.2 T.2 (2 * cn) (2 * ck))))), ((nx 2), .inl (cI, 12, .inl (va_cpy K G 0 cn ck))), (aY, .inr (10, [.ref (ny 0), .ref (ny 1), .ref (ny 2), .ref (ny 3), .ref (ny 4), .ref (ny 5), .ref (ny 6), .int (nI ck), .int y8, .int y9, .int y10])), ((ny 0), .inl (cI, 24, .inl (ow_nI T.1))), ((ny 1), .inl (cI, 24, .inl (ow_nI T.2))), ((ny 2), .inl (cI, 12, .inl K))] t.heap ∧ va_D (va_A [(aX, .inr (10, [.ref (nx 0), .ref (nx 1), .ref (nx 2), .ref (nx 3), .ref (nx 4), .ref (nx 5), .ref (nx 6), .int (nI cn), .int x8, .int x9, .int x10])), ((nx 0), .inl (cI, 24, .inl (ow_nI S.1))), ((nx 1), .inl (cI, 24, .inl (ow_nI S.2))), ((nx 2), .inl (cI, 12, .inl G)), (aY, .inr (10, [.ref (ny 0), .ref (ny 1), .ref (ny 2), .ref (ny 3), .ref (ny 4), .ref (ny 5), .ref (ny 6), .int (nI ck), .int y8, .int y9, .int y10])), ((ny 0), .inl (cI, 24, .inl (ow_nI T.1))), ((ny 1), .inl (cI, 24, .inl (ow_nI T.2))), ((ny 2), .inl (cI, 12, .inl K))] sz) [(aX, .inr (10, [.ref (nx 0), .ref (nx 1), .ref (nx 2), .ref (nx 3), .ref (nx 4), .ref (nx 5), .ref (nx 6), .int (nI (cn + ck)), .int (x8 + y8), .int x9, .int x10])), ((nx 0), .inl (cI, 24, .inl (ow_nI (np_app S.1 T.1 (2 * cn) (2 * ck))))), ((nx 1), .inl (cI, 24, .inl (ow_nI (np_app S.2 T.2 (2 * cn) (2 * ck))))), ((nx 2), .inl (cI, 12, .inl (va_cpy K G 0 cn ck))), (aY, .inr (10, [.ref (ny 0), .ref (ny 1), .ref (ny 2), .ref (ny 3), .ref (ny 4), .ref (ny 5), .ref (ny 6), .int (nI ck), .int y8, .int y9, .int y10])), ((ny 0), .inl (cI, 24, .inl (ow_nI T.1))), ((ny 1), .inl (cI, 24, .inl (ow_nI T.2))), ((ny 2), .inl (cI, 12, .inl K))]) (va_A [(aX, .inr (10, [.ref (nx 0), .ref (nx 1), .ref (nx 2), .ref (nx 3), .ref (nx 4), .ref (nx 5), .ref (nx 6), .int (nI cn), .int x8, .int x9, .int x10])), ((nx 0), .inl (cI, 24, .inl (ow_nI S.1))), ((nx 1), .inl (cI, 24, .inl (ow_nI S.2))), ((nx 2), .inl (cI, 12, .inl G)), (aY, .inr (10, [.ref (ny 0), .ref (ny 1), .ref (ny 2), .ref (ny 3), .ref (ny 4), .ref (ny 5), .ref (ny 6), .int (nI ck), .int y8, .int y9, .int y10])), ((ny 0), .inl (cI, 24, .inl (ow_nI T.1))), ((ny 1), .inl (cI, 24, .inl (ow_nI T.2))), ((ny 2), .inl (cI, 12, .inl K))] sz)) 0 0 (va_A [(aX, .inr (10, [.ref (nx 0), .ref (nx 1), .ref (nx 2), .ref (nx 3), .ref (nx 4), .ref (nx 5), .ref (nx 6), .int (nI cn), .int x8, .int x9, .int x10])), ((nx 0), .inl (cI, 24, .inl (ow_nI S.1))), ((nx 1), .inl (cI, 24, .inl (ow_nI S.2))), ((nx 2), .inl (cI, 12, .inl G)), (aY, .inr (10, [.ref (ny 0), .ref (ny 1), .ref (ny 2), .ref (ny 3), .ref (ny 4), .ref (ny 5), .ref (ny 6), .int (nI ck), .int y8, .int y9, .int y10])), ((ny 0), .inl (cI, 24, .inl (ow_nI T.1))), ((ny 1), .inl (cI, 24, .inl (ow_nI T.2))), ((ny 2), .inl (cI, 12, .inl K))] sz) := by
  refine Met.ofW (cc := cX7_append) (maxL := 4) (ret := none) (by decide) rfl ?_
  intro p e s m args below meth c s₁ B hml hv
  obtain ⟨rfl, hsz, hP, hK, hD0⟩ := hv
  have hx := B.exec
  have hb := B.bytes
  have hr := B.returns
  have hts := atoms_spec (ws := wg_X7_append) B.pre
  have hown : s.vm.findClass RX7 = some m.cls := findClass_of_methodNamed B.named
  have hlocks := B.notSynchronized
  subst hsz
  have hD := hD0.self (sz := s.heap.size)
  generalize hAe : va_A [(aX, .inr (10, [.ref (nx 0), .ref (nx 1), .ref (nx 2), .ref (nx 3), .ref (nx 4), .ref (nx 5), .ref (nx 6), .int (nI cn), .int x8, .int x9, .int x10])), ((nx 0), .inl (cI, 24, .inl (ow_nI S.1))), ((nx 1), .inl (cI, 24, .inl (ow_nI S.2))), ((nx 2), .inl (cI, 12, .inl G)), (aY, .inr (10, [.ref (ny 0), .ref (ny 1), .ref (ny 2), .ref (ny 3), .ref (ny 4), .ref (ny 5), .ref (ny 6), .int (nI ck), .int y8, .int y9, .int y10])), ((ny 0), .inl (cI, 24, .inl (ow_nI T.1))), ((ny 1), .inl (cI, 24, .inl (ow_nI T.2))), ((ny 2), .inl (cI, 12, .inl K))] s.heap.size = A at hD ⊢
  have hA : ∀ q : Nat, s.heap.size ≤ q → A q := fun q h => by rw [← hAe]; exact Or.inr h
  have hS : va_S A s.heap s.heap [] := va_S.rf
  have hP : va_P (dC, dI) vwCl [(aX, .inr (10, [.ref (nx 0), .ref (nx 1), .ref (nx 2), .ref (nx 3), .ref (nx 4), .ref (nx 5), .ref (nx 6), .int (nI cn), .int x8, .int x9, .int x10])), ((nx 0), .inl (cI, 24, .inl (ow_nI S.1))), ((nx 1), .inl (cI, 24, .inl (ow_nI S.2))), ((nx 2), .inl (cI, 12, .inl G)), (aY, .inr (10, [.ref (ny 0), .ref (ny 1), .ref (ny 2), .ref (ny 3), .ref (ny 4), .ref (ny 5), .ref (ny 6), .int (nI ck), .int y8, .int y9, .int y10])), ((ny 0), .inl (cI, 24, .inl (ow_nI T.1))), ((ny 1), .inl (cI, 24, .inl (ow_nI T.2))), ((ny 2), .inl (cI, 12, .inl K))] s.heap := hP
  have hl := lv_entry ([.ref aX, .ref aY]) (n := 4) (Nat.le_of_ble_eq_true rfl)
  rw [lg_entry_eq]
  generalize (lg_sl ([.ref aX, .ref aY]) ++ List.replicate (4 - (lg_sl ([.ref aX, .ref aY])).length) Slot.unset).toArray = ls at hl ⊢
  have hl : lv_has ls 4 [(0, .ref aX), (1, .ref aY)] := hl
  refine ow_named (fun QQ hQQ => ?_)
  suffices key9 : ∀ (H : Heap) (locs : List Loc), va_P (dC, dI) vwCl [(aX, .inr (10, [.ref (nx 0), .ref (nx 1), .ref (nx 2), .ref (nx 3), .ref (nx 4), .ref (nx 5), .ref (nx 6), .int (nI cn), .int x8, .int x9, .int x10])), ((nx 0), .inl (cI, 24, .inl (ow_nI S.1))), ((nx 1), .inl (cI, 24, .inl (ow_nI S.2))), ((nx 2), .inl (cI, 12, .inl G)), (aY, .inr (10, [.ref (ny 0), .ref (ny 1), .ref (ny 2), .ref (ny 3), .ref (ny 4), .ref (ny 5), .ref (ny 6), .int (nI ck), .int y8, .int y9, .int y10])), ((ny 0), .inl (cI, 24, .inl (ow_nI T.1))), ((ny 1), .inl (cI, 24, .inl (ow_nI T.2))), ((ny 2), .inl (cI, 12, .inl K))] H → va_S A s.heap H locs → W p l e ({ frames := 1, cells := 0, slots := 0, locals := 40 } : Room) s m ([.ref aX, .ref aY] : List Value).toArray below meth c H locs 0 0 QQ (F0 m 0 ls []) from key9 s.heap [] hP hS
  intro H locs hP hS
  have L9 : ∀ (d i : Nat), i + d = 2 * ck → ∀ (H : Heap) (locs : List Loc) (ls : Array Slot), va_P (dC, dI) vwCl [(aX, .inr (10, [.ref (nx 0), .ref (nx 1), .ref (nx 2), .ref (nx 3), .ref (nx 4), .ref (nx 5), .ref (nx 6), .int (nI cn), .int x8, .int x9, .int x10])), ((nx 0), .inl (cI, 24, .inl (ow_nI (np_app S.1 T.1 (2 * cn) i)))), ((nx 1), .inl (cI, 24, .inl (ow_nI (np_app S.2 T.2 (2 * cn) i)))), ((nx 2), .inl (cI, 12, .inl G)), (aY, .inr (10, [.ref (ny 0), .ref (ny 1), .ref (ny 2), .ref (ny 3), .ref (ny 4), .ref (ny 5), .ref (ny 6), .int (nI ck), .int y8, .int y9, .int y10])), ((ny 0), .inl (cI, 24, .inl (ow_nI T.1))), ((ny 1), .inl (cI, 24, .inl (ow_nI T.2))), ((ny 2), .inl (cI, 12, .inl K))] H → va_D A [(aX, .inr (10, [.ref (nx 0), .ref (nx 1), .ref (nx 2), .ref (nx 3), .ref (nx 4), .ref (nx 5), .ref (nx 6), .int (nI cn), .int x8, .int x9, .int x10])), ((nx 0), .inl (cI, 24, .inl (ow_nI (np_app S.1 T.1 (2 * cn) i)))), ((nx 1), .inl (cI, 24, .inl (ow_nI (np_app S.2 T.2 (2 * cn) i)))), ((nx 2), .inl (cI, 12, .inl G)), (aY, .inr (10, [.ref (ny 0), .ref (ny 1), .ref (ny 2), .ref (ny 3), .ref (ny 4), .ref (ny 5), .ref (ny 6), .int (nI ck), .int y8, .int y9, .int y10])), ((ny 0), .inl (cI, 24, .inl (ow_nI T.1))), ((ny 1), .inl (cI, 24, .inl (ow_nI T.2))), ((ny 2), .inl (cI, 12, .inl K))] → va_S A s.heap H locs → lv_has ls 4 [(0, .ref aX), (1, .ref aY), (2, .int (nI (2 * cn))), (3, .int (nI i))] → W p l e ({ frames := 1, cells := 0, slots := 0, locals := 40 } : Room) s m ([.ref aX, .ref aY] : List Value).toArray below meth c H locs 0 0 QQ (F0 m 9 ls []) := by
    intro d
    induction d with
    | zero =>
      intro i hi H locs ls hP hD hS hl 
      have hie : i = 2 * ck := by omega
      refine lv_iload_n hx hb dgX7_append_9 rfl (lv_at hl 3 rfl) ?_
      refine lv_iconst (v := 2) hx hb dgX7_append_10 (by decide) ?_
      refine lv_aload_n hx hb dgX7_append_11 rfl (lv_at hl 1 rfl) ?_
      refine va_get (D := (dC, dI)) (ci := 10) (v := .int (nI ck)) (C := RX7) (T := TX7) (N := 11) hx hb hts (fun _ h => List.mem_cons_of_mem _ (List.mem_append_left _ (List.mem_append_right _ h))) hown hK hP 4 rfl rfl 7 (by decide) (hts (.fieldLink RX7 39 "KnotHouse$Net" "crossings" "I") (by decide +kernel)) (fun _ h9 => h9) rfl dgX7_append_12 ?_
      refine lv_imul hx hb dgX7_append_15 ?_
      refine ow_topi (y := nI (2 * ck)) (pk_mul 2 ck) ?_
      refine lv_icmp_ge (tgt := 57) hx hb dgX7_append_16 (by decide) (fun _ => ?_) (fun c9 => absurd (nI_le (a := 2 * ck) (b := i) (by omega) (by omega)) c9)
      have hP : va_P (dC, dI) vwCl [(aX, .inr (10, [.ref (nx 0), .ref (nx 1), .ref (nx 2), .ref (nx 3), .ref (nx 4), .ref (nx 5), .ref (nx 6), .int (nI cn), .int x8, .int x9, .int x10])), ((nx 0), .inl (cI, 24, .inl (ow_nI (np_app S.1 T.1 (2 * cn) (2 * ck))))), ((nx 1), .inl (cI, 24, .inl (ow_nI (np_app S.2 T.2 (2 * cn) (2 * ck))))), ((nx 2), .inl (cI, 12, .inl G)), (aY, .inr (10, [.ref (ny 0), .ref (ny 1), .ref (ny 2), .ref (ny 3), .ref (ny 4), .ref (ny 5), .ref (ny 6), .int (nI ck), .int y8, .int y9, .int y10])), ((ny 0), .inl (cI, 24, .inl (ow_nI T.1))), ((ny 1), .inl (cI, 24, .inl (ow_nI T.2))), ((ny 2), .inl (cI, 12, .inl K))] H := by rw [hie] at hP; exact hP
      have hD : va_D A [(aX, .inr (10, [.ref (nx 0), .ref (nx 1), .ref (nx 2), .ref (nx 3), .ref (nx 4), .ref (nx 5), .ref (nx 6), .int (nI cn), .int x8, .int x9, .int x10])), ((nx 0), .inl (cI, 24, .inl (ow_nI (np_app S.1 T.1 (2 * cn) (2 * ck))))), ((nx 1), .inl (cI, 24, .inl (ow_nI (np_app S.2 T.2 (2 * cn) (2 * ck))))), ((nx 2), .inl (cI, 12, .inl G)), (aY, .inr (10, [.ref (ny 0), .ref (ny 1), .ref (ny 2), .ref (ny 3), .ref (ny 4), .ref (ny 5), .ref (ny 6), .int (nI ck), .int y8, .int y9, .int y10])), ((ny 0), .inl (cI, 24, .inl (ow_nI T.1))), ((ny 1), .inl (cI, 24, .inl (ow_nI T.2))), ((ny 2), .inl (cI, 12, .inl K))] := by rw [hie] at hD; exact hD
      refine lv_aload_n hx hb dgX7_append_57 rfl (lv_at hl 1 rfl) ?_
      refine va_get (D := (dC, dI)) (ci := 10) (v := .ref (ny 2)) (C := RX7) (T := TX7) (N := 11) hx hb hts (fun _ h => List.mem_cons_of_mem _ (List.mem_append_left _ (List.mem_append_right _ h))) hown hK hP 4 rfl rfl 2 (by decide) (hts (.fieldLink RX7 18 "KnotHouse$Net" "sign" "[I") (by decide +kernel)) (fun _ h9 => h9) rfl dgX7_append_58 ?_
      refine lv_iconst (v := 0) hx hb dgX7_append_61 (by decide) ?_
      refine ow_topi (y := nI 0) (by decide) ?_
      refine lv_aload_n hx hb dgX7_append_62 rfl (lv_at hl 0 rfl) ?_
      refine va_get (D := (dC, dI)) (ci := 10) (v := .ref (nx 2)) (C := RX7) (T := TX7) (N := 11) hx hb hts (fun _ h => List.mem_cons_of_mem _ (List.mem_append_left _ (List.mem_append_right _ h))) hown hK hP 0 rfl rfl 2 (by decide) (hts (.fieldLink RX7 18 "KnotHouse$Net" "sign" "[I") (by decide +kernel)) (fun _ h9 => h9) rfl dgX7_append_63 ?_
      refine lv_aload_n hx hb dgX7_append_66 rfl (lv_at hl 0 rfl) ?_
      refine va_get (D := (dC, dI)) (ci := 10) (v := .int (nI cn)) (C := RX7) (T := TX7) (N := 11) hx hb hts (fun _ h => List.mem_cons_of_mem _ (List.mem_append_left _ (List.mem_append_right _ h))) hown hK hP 0 rfl rfl 7 (by decide) (hts (.fieldLink RX7 39 "KnotHouse$Net" "crossings" "I") (by decide +kernel)) (fun _ h9 => h9) rfl dgX7_append_67 ?_
      refine lv_aload_n hx hb dgX7_append_70 rfl (lv_at hl 1 rfl) ?_
      refine va_get (D := (dC, dI)) (ci := 10) (v := .int (nI ck)) (C := RX7) (T := TX7) (N := 11) hx hb hts (fun _ h => List.mem_cons_of_mem _ (List.mem_append_left _ (List.mem_append_right _ h))) hown hK hP 4 rfl rfl 7 (by decide) (hts (.fieldLink RX7 39 "KnotHouse$Net" "crossings" "I") (by decide +kernel)) (fun _ h9 => h9) rfl dgX7_append_71 ?_
      refine ow_cpyi (sp := 0) (dp := cn) (n := ck) hx hb (by rw [hml]; exact hl.1.symm) hown (hts (.methodLink RX7 58 arraycopyName) (by decide +kernel)) (hts (.native arraycopyName) (by decide +kernel)) (hts (.static arraycopyName) (by decide +kernel)) (hts (.initialized "java/lang/System") (by decide +kernel)) hK hP hD hS 7 3 0 0 rfl rfl rfl rfl (by omega) (by omega) (by decide) (by decide) (Nat.le_of_ble_eq_true rfl) (by decide) dgX7_append_74 (fun H locs hP hD hS => ?_)
      have hP : va_P (dC, dI) vwCl [(aX, .inr (10, [.ref (nx 0), .ref (nx 1), .ref (nx 2), .ref (nx 3), .ref (nx 4), .ref (nx 5), .ref (nx 6), .int (nI cn), .int x8, .int x9, .int x10])), ((nx 0), .inl (cI, 24, .inl (ow_nI (np_app S.1 T.1 (2 * cn) (2 * ck))))), ((nx 1), .inl (cI, 24, .inl (ow_nI (np_app S.2 T.2 (2 * cn) (2 * ck))))), ((nx 2), .inl (cI, 12, .inl (va_cpy K G 0 cn ck))), (aY, .inr (10, [.ref (ny 0), .ref (ny 1), .ref (ny 2), .ref (ny 3), .ref (ny 4), .ref (ny 5), .ref (ny 6), .int (nI ck), .int y8, .int y9, .int y10])), ((ny 0), .inl (cI, 24, .inl (ow_nI T.1))), ((ny 1), .inl (cI, 24, .inl (ow_nI T.2))), ((ny 2), .inl (cI, 12, .inl K))] H := hP
      have hD : va_D A [(aX, .inr (10, [.ref (nx 0), .ref (nx 1), .ref (nx 2), .ref (nx 3), .ref (nx 4), .ref (nx 5), .ref (nx 6), .int (nI cn), .int x8, .int x9, .int x10])), ((nx 0), .inl (cI, 24, .inl (ow_nI (np_app S.1 T.1 (2 * cn) (2 * ck))))), ((nx 1), .inl (cI, 24, .inl (ow_nI (np_app S.2 T.2 (2 * cn) (2 * ck))))), ((nx 2), .inl (cI, 12, .inl (va_cpy K G 0 cn ck))), (aY, .inr (10, [.ref (ny 0), .ref (ny 1), .ref (ny 2), .ref (ny 3), .ref (ny 4), .ref (ny 5), .ref (ny 6), .int (nI ck), .int y8, .int y9, .int y10])), ((ny 0), .inl (cI, 24, .inl (ow_nI T.1))), ((ny 1), .inl (cI, 24, .inl (ow_nI T.2))), ((ny 2), .inl (cI, 12, .inl K))] := hD
      refine lv_aload_n hx hb dgX7_append_77 rfl (lv_at hl 0 rfl) ?_
      refine lv_dup hx hb dgX7_append_78 rfl ?_
      refine va_get (D := (dC, dI)) (ci := 10) (v := .int (nI cn)) (C := RX7) (T := TX7) (N := 11) hx hb hts (fun _ h => List.mem_cons_of_mem _ (List.mem_append_left _ (List.mem_append_right _ h))) hown hK hP 0 rfl rfl 7 (by decide) (hts (.fieldLink RX7 39 "KnotHouse$Net" "crossings" "I") (by decide +kernel)) (fun _ h9 => h9) rfl dgX7_append_79 ?_
      refine lv_aload_n hx hb dgX7_append_82 rfl (lv_at hl 1 rfl) ?_
      refine va_get (D := (dC, dI)) (ci := 10) (v := .int (nI ck)) (C := RX7) (T := TX7) (N := 11) hx hb hts (fun _ h => List.mem_cons_of_mem _ (List.mem_append_left _ (List.mem_append_right _ h))) hown hK hP 4 rfl rfl 7 (by decide) (hts (.fieldLink RX7 39 "KnotHouse$Net" "crossings" "I") (by decide +kernel)) (fun _ h9 => h9) rfl dgX7_append_83 ?_
      refine lv_iadd hx hb dgX7_append_86 ?_
      refine ow_topi (y := nI (cn + ck)) (nI_add cn ck) ?_
      refine va_put (D := (dC, dI)) (ci := 10) (v := .int (nI (cn + ck))) (ty := .int) (C := RX7) (T := TX7) (N := 11) hx hb hts (fun _ h => List.mem_cons_of_mem _ (List.mem_append_left _ (List.mem_append_right _ h))) tyX7 tyX7_ok nmX7 hown hK hP hD hS 0 rfl rfl 7 (by decide) (hts (.fieldLink RX7 39 "KnotHouse$Net" "crossings" "I") (by decide +kernel)) (fun _ h9 => h9) rfl (by decide +kernel) rfl rfl (Nat.le_of_ble_eq_true rfl) dgX7_append_87 (fun H locs hP hD hS => ?_)
      have hP : va_P (dC, dI) vwCl [(aX, .inr (10, [.ref (nx 0), .ref (nx 1), .ref (nx 2), .ref (nx 3), .ref (nx 4), .ref (nx 5), .ref (nx 6), .int (nI (cn + ck)), .int x8, .int x9, .int x10])), ((nx 0), .inl (cI, 24, .inl (ow_nI (np_app S.1 T.1 (2 * cn) (2 * ck))))), ((nx 1), .inl (cI, 24, .inl (ow_nI (np_app S.2 T.2 (2 * cn) (2 * ck))))), ((nx 2), .inl (cI, 12, .inl (va_cpy K G 0 cn ck))), (aY, .inr (10, [.ref (ny 0), .ref (ny 1), .ref (ny 2), .ref (ny 3), .ref (ny 4), .ref (ny 5), .ref (ny 6), .int (nI ck), .int y8, .int y9, .int y10])), ((ny 0), .inl (cI, 24, .inl (ow_nI T.1))), ((ny 1), .inl (cI, 24, .inl (ow_nI T.2))), ((ny 2), .inl (cI, 12, .inl K))] H := hP
      have hD : va_D A [(aX, .inr (10, [.ref (nx 0), .ref (nx 1), .ref (nx 2), .ref (nx 3), .ref (nx 4), .ref (nx 5), .ref (nx 6), .int (nI (cn + ck)), .int x8, .int x9, .int x10])), ((nx 0), .inl (cI, 24, .inl (ow_nI (np_app S.1 T.1 (2 * cn) (2 * ck))))), ((nx 1), .inl (cI, 24, .inl (ow_nI (np_app S.2 T.2 (2 * cn) (2 * ck))))), ((nx 2), .inl (cI, 12, .inl (va_cpy K G 0 cn ck))), (aY, .inr (10, [.ref (ny 0), .ref (ny 1), .ref (ny 2), .ref (ny 3), .ref (ny 4), .ref (ny 5), .ref (ny 6), .int (nI ck), .int y8, .int y9, .int y10])), ((ny 0), .inl (cI, 24, .inl (ow_nI T.1))), ((ny 1), .inl (cI, 24, .inl (ow_nI T.2))), ((ny 2), .inl (cI, 12, .inl K))] := hD
      refine lv_aload_n hx hb dgX7_append_90 rfl (lv_at hl 0 rfl) ?_
      refine lv_dup hx hb dgX7_append_91 rfl ?_
      refine va_get (D := (dC, dI)) (ci := 10) (v := .int x8) (C := RX7) (T := TX7) (N := 11) hx hb hts (fun _ h => List.mem_cons_of_mem _ (List.mem_append_left _ (List.mem_append_right _ h))) hown hK hP 0 rfl rfl 8 (by decide) (hts (.fieldLink RX7 42 "KnotHouse$Net" "circles" "I") (by decide +kernel)) (fun _ h9 => h9) rfl dgX7_append_92 ?_
      refine lv_aload_n hx hb dgX7_append_95 rfl (lv_at hl 1 rfl) ?_
      refine va_get (D := (dC, dI)) (ci := 10) (v := .int y8) (C := RX7) (T := TX7) (N := 11) hx hb hts (fun _ h => List.mem_cons_of_mem _ (List.mem_append_left _ (List.mem_append_right _ h))) hown hK hP 4 rfl rfl 8 (by decide) (hts (.fieldLink RX7 42 "KnotHouse$Net" "circles" "I") (by decide +kernel)) (fun _ h9 => h9) rfl dgX7_append_96 ?_
      refine lv_iadd hx hb dgX7_append_99 ?_
      refine va_put (D := (dC, dI)) (ci := 10) (v := .int (x8 + y8)) (ty := .int) (C := RX7) (T := TX7) (N := 11) hx hb hts (fun _ h => List.mem_cons_of_mem _ (List.mem_append_left _ (List.mem_append_right _ h))) tyX7 tyX7_ok nmX7 hown hK hP hD hS 0 rfl rfl 8 (by decide) (hts (.fieldLink RX7 42 "KnotHouse$Net" "circles" "I") (by decide +kernel)) (fun _ h9 => h9) rfl (by decide +kernel) rfl rfl (Nat.le_of_ble_eq_true rfl) dgX7_append_100 (fun H locs hP hD hS => ?_)
      have hP : va_P (dC, dI) vwCl [(aX, .inr (10, [.ref (nx 0), .ref (nx 1), .ref (nx 2), .ref (nx 3), .ref (nx 4), .ref (nx 5), .ref (nx 6), .int (nI (cn + ck)), .int (x8 + y8), .int x9, .int x10])), ((nx 0), .inl (cI, 24, .inl (ow_nI (np_app S.1 T.1 (2 * cn) (2 * ck))))), ((nx 1), .inl (cI, 24, .inl (ow_nI (np_app S.2 T.2 (2 * cn) (2 * ck))))), ((nx 2), .inl (cI, 12, .inl (va_cpy K G 0 cn ck))), (aY, .inr (10, [.ref (ny 0), .ref (ny 1), .ref (ny 2), .ref (ny 3), .ref (ny 4), .ref (ny 5), .ref (ny 6), .int (nI ck), .int y8, .int y9, .int y10])), ((ny 0), .inl (cI, 24, .inl (ow_nI T.1))), ((ny 1), .inl (cI, 24, .inl (ow_nI T.2))), ((ny 2), .inl (cI, 12, .inl K))] H := hP
      have hD : va_D A [(aX, .inr (10, [.ref (nx 0), .ref (nx 1), .ref (nx 2), .ref (nx 3), .ref (nx 4), .ref (nx 5), .ref (nx 6), .int (nI (cn + ck)), .int (x8 + y8), .int x9, .int x10])), ((nx 0), .inl (cI, 24, .inl (ow_nI (np_app S.1 T.1 (2 * cn) (2 * ck))))), ((nx 1), .inl (cI, 24, .inl (ow_nI (np_app S.2 T.2 (2 * cn) (2 * ck))))), ((nx 2), .inl (cI, 12, .inl (va_cpy K G 0 cn ck))), (aY, .inr (10, [.ref (ny 0), .ref (ny 1), .ref (ny 2), .ref (ny 3), .ref (ny 4), .ref (ny 5), .ref (ny 6), .int (nI ck), .int y8, .int y9, .int y10])), ((ny 0), .inl (cI, 24, .inl (ow_nI T.1))), ((ny 1), .inl (cI, 24, .inl (ow_nI T.2))), ((ny 2), .inl (cI, 12, .inl K))] := hD
      rw [hQQ]
      exact W.vret hx hb hr (fun t ht hW => ⟨⟨(), rfl, trivial, by rw [ht]; exact hP, hD⟩, hS.F ht⟩) hS.2.2 dgX7_append_103
    | succ d ih =>
      intro i hi H locs ls hP hD hS hl 
      refine lv_iload_n hx hb dgX7_append_9 rfl (lv_at hl 3 rfl) ?_
      refine lv_iconst (v := 2) hx hb dgX7_append_10 (by decide) ?_
      refine lv_aload_n hx hb dgX7_append_11 rfl (lv_at hl 1 rfl) ?_
      refine va_get (D := (dC, dI)) (ci := 10) (v := .int (nI ck)) (C := RX7) (T := TX7) (N := 11) hx hb hts (fun _ h => List.mem_cons_of_mem _ (List.mem_append_left _ (List.mem_append_right _ h))) hown hK hP 4 rfl rfl 7 (by decide) (hts (.fieldLink RX7 39 "KnotHouse$Net" "crossings" "I") (by decide +kernel)) (fun _ h9 => h9) rfl dgX7_append_12 ?_
      refine lv_imul hx hb dgX7_append_15 ?_
      refine ow_topi (y := nI (2 * ck)) (pk_mul 2 ck) ?_
      refine lv_icmp_ge (tgt := 57) hx hb dgX7_append_16 (by decide) (fun c9 => absurd c9 (nI_ge (a := i) (b := 2 * ck) (by omega) (by omega))) (fun _ => ?_)
      refine lv_aload_n hx hb dgX7_append_19 rfl (lv_at hl 0 rfl) ?_
      refine va_get (D := (dC, dI)) (ci := 10) (v := .ref (nx 0)) (C := RX7) (T := TX7) (N := 11) hx hb hts (fun _ h => List.mem_cons_of_mem _ (List.mem_append_left _ (List.mem_append_right _ h))) hown hK hP 0 rfl rfl 0 (by decide) (hts (.fieldLink RX7 9 "KnotHouse$Net" "next" "[I") (by decide +kernel)) (fun _ h9 => h9) rfl dgX7_append_20 ?_
      refine lv_iload_n hx hb dgX7_append_23 rfl (lv_at hl 2 rfl) ?_
      refine lv_iload_n hx hb dgX7_append_24 rfl (lv_at hl 3 rfl) ?_
      refine lv_iadd hx hb dgX7_append_25 ?_
      refine ow_topi (y := nI (2 * cn + i)) (nI_add (2 * cn) i) ?_
      refine lv_iload_n hx hb dgX7_append_26 rfl (lv_at hl 2 rfl) ?_
      refine lv_aload_n hx hb dgX7_append_27 rfl (lv_at hl 1 rfl) ?_
      refine va_get (D := (dC, dI)) (ci := 10) (v := .ref (ny 0)) (C := RX7) (T := TX7) (N := 11) hx hb hts (fun _ h => List.mem_cons_of_mem _ (List.mem_append_left _ (List.mem_append_right _ h))) hown hK hP 4 rfl rfl 0 (by decide) (hts (.fieldLink RX7 9 "KnotHouse$Net" "next" "[I") (by decide +kernel)) (fun _ h9 => h9) rfl dgX7_append_28 ?_
      refine lv_iload_n hx hb dgX7_append_31 rfl (lv_at hl 3 rfl) ?_
      refine va_iald hx hb hK hP 5 0 rfl rfl (vp_in_nI (n := i) (N := 24) (by omega) (by decide)) dgX7_append_32 ?_
      refine ow_topi (y := nI (T.1 i)) (ow_nI_at T.1 (Nat.lt_trans (m := 24) (by omega) (by decide))) ?_
      refine lv_iadd hx hb dgX7_append_33 ?_
      refine ow_topi (y := nI (2 * cn + T.1 i)) (nI_add (2 * cn) (T.1 i)) ?_
      refine ow_iastN (j := 2 * cn + i) (w := 2 * cn + T.1 i) hx hb hK hP hD hS 1 0 rfl rfl (by omega) (by decide) dgX7_append_34 (fun H locs hP hD hS => ?_)
      have hP : va_P (dC, dI) vwCl [(aX, .inr (10, [.ref (nx 0), .ref (nx 1), .ref (nx 2), .ref (nx 3), .ref (nx 4), .ref (nx 5), .ref (nx 6), .int (nI cn), .int x8, .int x9, .int x10])), ((nx 0), .inl (cI, 24, .inl (ow_nI (nu (np_app S.1 T.1 (2 * cn) i) (2 * cn + i) (2 * cn + T.1 i))))), ((nx 1), .inl (cI, 24, .inl (ow_nI (np_app S.2 T.2 (2 * cn) i)))), ((nx 2), .inl (cI, 12, .inl G)), (aY, .inr (10, [.ref (ny 0), .ref (ny 1), .ref (ny 2), .ref (ny 3), .ref (ny 4), .ref (ny 5), .ref (ny 6), .int (nI ck), .int y8, .int y9, .int y10])), ((ny 0), .inl (cI, 24, .inl (ow_nI T.1))), ((ny 1), .inl (cI, 24, .inl (ow_nI T.2))), ((ny 2), .inl (cI, 12, .inl K))] H := hP
      have hD : va_D A [(aX, .inr (10, [.ref (nx 0), .ref (nx 1), .ref (nx 2), .ref (nx 3), .ref (nx 4), .ref (nx 5), .ref (nx 6), .int (nI cn), .int x8, .int x9, .int x10])), ((nx 0), .inl (cI, 24, .inl (ow_nI (nu (np_app S.1 T.1 (2 * cn) i) (2 * cn + i) (2 * cn + T.1 i))))), ((nx 1), .inl (cI, 24, .inl (ow_nI (np_app S.2 T.2 (2 * cn) i)))), ((nx 2), .inl (cI, 12, .inl G)), (aY, .inr (10, [.ref (ny 0), .ref (ny 1), .ref (ny 2), .ref (ny 3), .ref (ny 4), .ref (ny 5), .ref (ny 6), .int (nI ck), .int y8, .int y9, .int y10])), ((ny 0), .inl (cI, 24, .inl (ow_nI T.1))), ((ny 1), .inl (cI, 24, .inl (ow_nI T.2))), ((ny 2), .inl (cI, 12, .inl K))] := hD
      refine lv_aload_n hx hb dgX7_append_35 rfl (lv_at hl 0 rfl) ?_
      refine va_get (D := (dC, dI)) (ci := 10) (v := .ref (nx 1)) (C := RX7) (T := TX7) (N := 11) hx hb hts (fun _ h => List.mem_cons_of_mem _ (List.mem_append_left _ (List.mem_append_right _ h))) hown hK hP 0 rfl rfl 1 (by decide) (hts (.fieldLink RX7 15 "KnotHouse$Net" "prev" "[I") (by decide +kernel)) (fun _ h9 => h9) rfl dgX7_append_36 ?_
      refine lv_iload_n hx hb dgX7_append_39 rfl (lv_at hl 2 rfl) ?_
      refine lv_iload_n hx hb dgX7_append_40 rfl (lv_at hl 3 rfl) ?_
      refine lv_iadd hx hb dgX7_append_41 ?_
      refine ow_topi (y := nI (2 * cn + i)) (nI_add (2 * cn) i) ?_
      refine lv_iload_n hx hb dgX7_append_42 rfl (lv_at hl 2 rfl) ?_
      refine lv_aload_n hx hb dgX7_append_43 rfl (lv_at hl 1 rfl) ?_
      refine va_get (D := (dC, dI)) (ci := 10) (v := .ref (ny 1)) (C := RX7) (T := TX7) (N := 11) hx hb hts (fun _ h => List.mem_cons_of_mem _ (List.mem_append_left _ (List.mem_append_right _ h))) hown hK hP 4 rfl rfl 1 (by decide) (hts (.fieldLink RX7 15 "KnotHouse$Net" "prev" "[I") (by decide +kernel)) (fun _ h9 => h9) rfl dgX7_append_44 ?_
      refine lv_iload_n hx hb dgX7_append_47 rfl (lv_at hl 3 rfl) ?_
      refine va_iald hx hb hK hP 6 0 rfl rfl (vp_in_nI (n := i) (N := 24) (by omega) (by decide)) dgX7_append_48 ?_
      refine ow_topi (y := nI (T.2 i)) (ow_nI_at T.2 (Nat.lt_trans (m := 24) (by omega) (by decide))) ?_
      refine lv_iadd hx hb dgX7_append_49 ?_
      refine ow_topi (y := nI (2 * cn + T.2 i)) (nI_add (2 * cn) (T.2 i)) ?_
      refine ow_iastN (j := 2 * cn + i) (w := 2 * cn + T.2 i) hx hb hK hP hD hS 2 0 rfl rfl (by omega) (by decide) dgX7_append_50 (fun H locs hP hD hS => ?_)
      have hP : va_P (dC, dI) vwCl [(aX, .inr (10, [.ref (nx 0), .ref (nx 1), .ref (nx 2), .ref (nx 3), .ref (nx 4), .ref (nx 5), .ref (nx 6), .int (nI cn), .int x8, .int x9, .int x10])), ((nx 0), .inl (cI, 24, .inl (ow_nI (nu (np_app S.1 T.1 (2 * cn) i) (2 * cn + i) (2 * cn + T.1 i))))), ((nx 1), .inl (cI, 24, .inl (ow_nI (nu (np_app S.2 T.2 (2 * cn) i) (2 * cn + i) (2 * cn + T.2 i))))), ((nx 2), .inl (cI, 12, .inl G)), (aY, .inr (10, [.ref (ny 0), .ref (ny 1), .ref (ny 2), .ref (ny 3), .ref (ny 4), .ref (ny 5), .ref (ny 6), .int (nI ck), .int y8, .int y9, .int y10])), ((ny 0), .inl (cI, 24, .inl (ow_nI T.1))), ((ny 1), .inl (cI, 24, .inl (ow_nI T.2))), ((ny 2), .inl (cI, 12, .inl K))] H := hP
      have hD : va_D A [(aX, .inr (10, [.ref (nx 0), .ref (nx 1), .ref (nx 2), .ref (nx 3), .ref (nx 4), .ref (nx 5), .ref (nx 6), .int (nI cn), .int x8, .int x9, .int x10])), ((nx 0), .inl (cI, 24, .inl (ow_nI (nu (np_app S.1 T.1 (2 * cn) i) (2 * cn + i) (2 * cn + T.1 i))))), ((nx 1), .inl (cI, 24, .inl (ow_nI (nu (np_app S.2 T.2 (2 * cn) i) (2 * cn + i) (2 * cn + T.2 i))))), ((nx 2), .inl (cI, 12, .inl G)), (aY, .inr (10, [.ref (ny 0), .ref (ny 1), .ref (ny 2), .ref (ny 3), .ref (ny 4), .ref (ny 5), .ref (ny 6), .int (nI ck), .int y8, .int y9, .int y10])), ((ny 0), .inl (cI, 24, .inl (ow_nI T.1))), ((ny 1), .inl (cI, 24, .inl (ow_nI T.2))), ((ny 2), .inl (cI, 12, .inl K))] := hD
      have hP : va_P (dC, dI) vwCl [(aX, .inr (10, [.ref (nx 0), .ref (nx 1), .ref (nx 2), .ref (nx 3), .ref (nx 4), .ref (nx 5), .ref (nx 6), .int (nI cn), .int x8, .int x9, .int x10])), ((nx 0), .inl (cI, 24, .inl (ow_nI (np_app S.1 T.1 (2 * cn) (i + 1))))), ((nx 1), .inl (cI, 24, .inl (ow_nI (np_app S.2 T.2 (2 * cn) (i + 1))))), ((nx 2), .inl (cI, 12, .inl G)), (aY, .inr (10, [.ref (ny 0), .ref (ny 1), .ref (ny 2), .ref (ny 3), .ref (ny 4), .ref (ny 5), .ref (ny 6), .int (nI ck), .int y8, .int y9, .int y10])), ((ny 0), .inl (cI, 24, .inl (ow_nI T.1))), ((ny 1), .inl (cI, 24, .inl (ow_nI T.2))), ((ny 2), .inl (cI, 12, .inl K))] H := by rw [← np_app_s, ← np_app_s]; exact hP
      have hD : va_D A [(aX, .inr (10, [.ref (nx 0), .ref (nx 1), .ref (nx 2), .ref (nx 3), .ref (nx 4), .ref (nx 5), .ref (nx 6), .int (nI cn), .int x8, .int x9, .int x10])), ((nx 0), .inl (cI, 24, .inl (ow_nI (np_app S.1 T.1 (2 * cn) (i + 1))))), ((nx 1), .inl (cI, 24, .inl (ow_nI (np_app S.2 T.2 (2 * cn) (i + 1))))), ((nx 2), .inl (cI, 12, .inl G)), (aY, .inr (10, [.ref (ny 0), .ref (ny 1), .ref (ny 2), .ref (ny 3), .ref (ny 4), .ref (ny 5), .ref (ny 6), .int (nI ck), .int y8, .int y9, .int y10])), ((ny 0), .inl (cI, 24, .inl (ow_nI T.1))), ((ny 1), .inl (cI, 24, .inl (ow_nI T.2))), ((ny 2), .inl (cI, 12, .inl K))] := by rw [← np_app_s, ← np_app_s]; exact hD
      refine lv_iinc (v := nI (i + 1)) (lv' := [(3, .int (nI (i + 1))), (0, .ref aX), (1, .ref aY), (2, .int (nI (2 * cn)))]) hx hb dgX7_append_51 hl (k := 3) rfl (nI_1 i) (by decide) rfl (fun ls hl => ?_)
      refine lv_goto (tgt := 9) hx hb dgX7_append_54 (by decide) ?_
      exact ih (i + 1) (by omega) H locs ls hP hD hS (lv_sub hl [1, 2, 3, 0] rfl)
  refine lv_iconst (v := 2) hx hb dgX7_append_0 (by decide) ?_
  refine lv_aload_n hx hb dgX7_append_1 rfl (lv_at hl 0 rfl) ?_
  refine va_get (D := (dC, dI)) (ci := 10) (v := .int (nI cn)) (C := RX7) (T := TX7) (N := 11) hx hb hts (fun _ h => List.mem_cons_of_mem _ (List.mem_append_left _ (List.mem_append_right _ h))) hown hK hP 0 rfl rfl 7 (by decide) (hts (.fieldLink RX7 39 "KnotHouse$Net" "crossings" "I") (by decide +kernel)) (fun _ h9 => h9) rfl dgX7_append_2 ?_
  refine lv_imul hx hb dgX7_append_5 ?_
  refine ow_topi (y := nI (2 * cn)) (pk_mul 2 cn) ?_
  refine lv_istore_n (lv' := [(2, .int (nI (2 * cn))), (0, .ref aX), (1, .ref aY)]) hx hb dgX7_append_6 rfl hl (by decide) rfl (fun ls hl => ?_)
  refine lv_iconst (v := 0) hx hb dgX7_append_7 (by decide) ?_
  refine ow_topi (y := nI 0) (by decide) ?_
  refine lv_istore_n (lv' := [(3, .int (nI 0)), (2, .int (nI (2 * cn))), (0, .ref aX), (1, .ref aY)]) hx hb dgX7_append_8 rfl hl (by decide) rfl (fun ls hl => ?_)
  have hP : va_P (dC, dI) vwCl [(aX, .inr (10, [.ref (nx 0), .ref (nx 1), .ref (nx 2), .ref (nx 3), .ref (nx 4), .ref (nx 5), .ref (nx 6), .int (nI cn), .int x8, .int x9, .int x10])), ((nx 0), .inl (cI, 24, .inl (ow_nI (np_app S.1 T.1 (2 * cn) 0)))), ((nx 1), .inl (cI, 24, .inl (ow_nI (np_app S.2 T.2 (2 * cn) 0)))), ((nx 2), .inl (cI, 12, .inl G)), (aY, .inr (10, [.ref (ny 0), .ref (ny 1), .ref (ny 2), .ref (ny 3), .ref (ny 4), .ref (ny 5), .ref (ny 6), .int (nI ck), .int y8, .int y9, .int y10])), ((ny 0), .inl (cI, 24, .inl (ow_nI T.1))), ((ny 1), .inl (cI, 24, .inl (ow_nI T.2))), ((ny 2), .inl (cI, 12, .inl K))] H := by rw [np_app_0, np_app_0]; exact hP
  have hD : va_D A [(aX, .inr (10, [.ref (nx 0), .ref (nx 1), .ref (nx 2), .ref (nx 3), .ref (nx 4), .ref (nx 5), .ref (nx 6), .int (nI cn), .int x8, .int x9, .int x10])), ((nx 0), .inl (cI, 24, .inl (ow_nI (np_app S.1 T.1 (2 * cn) 0)))), ((nx 1), .inl (cI, 24, .inl (ow_nI (np_app S.2 T.2 (2 * cn) 0)))), ((nx 2), .inl (cI, 12, .inl G)), (aY, .inr (10, [.ref (ny 0), .ref (ny 1), .ref (ny 2), .ref (ny 3), .ref (ny 4), .ref (ny 5), .ref (ny 6), .int (nI ck), .int y8, .int y9, .int y10])), ((ny 0), .inl (cI, 24, .inl (ow_nI T.1))), ((ny 1), .inl (cI, 24, .inl (ow_nI T.2))), ((ny 2), .inl (cI, 12, .inl K))] := by rw [np_app_0, np_app_0]; exact hD
  exact L9 (2 * ck) 0 (by omega) H locs ls hP hD hS (lv_sub hl [2, 3, 1, 0] rfl)
