/-! a row of any numbers, one place changed -/
def su (f : Nat → Int32) (j : Nat) (x : Int32) : Nat → Int32 := fun k => if k = j then x else f k
theorem ow_pred (c : Nat) : nI (c + 1) - 1 = nI c := by
  rw [← nI_1 c]
  exact Int32.add_sub_cancel _ _
section STF
variable {p : Program} {l : Launch} {e : Env} {R : Room} {s : State} {m : MethodId} {args : Array Value} {below : List Frame} {meth : Method} {c : Code} {H : Heap} {locs : List Loc} {cells slots : Nat} {Q : State → Prop}
variable {cc : ByteArray} {pc : Nat} {ls : Array Slot} {rest : List Value} {D : va_G} {cl : List vw_C} {A : Nat → Prop} {a : Nat} {tys : List (ClassId × FieldType)} {ws : va_W} {H0 : Heap}
theorem ow_iastF (hexec : p.tables.exec = Jvm.exec) (hb : c.code = cc) (hK : va_K D cl tys s) (hP : va_P D cl ws H) (hD : va_D A ws) (hS : va_S A H0 H locs) (q0 t0 : Nat) {cA : ClassId} {n j : Nat} {x : Int32} {f : Nat → Int32} (ha : ws[q0]? = some (a, .inl (cA, n, .inl f))) (ht : tys[t0]? = some (cA, .int)) (hjn : j < n) (hn : n < 2 ^ 31) (hdg : decode cc pc = .ok (.iastore, 1))
    (kk : ∀ (H1 : Heap) (locs1 : List Loc), va_P D cl (ws.set q0 (a, .inl (cA, n, .inl (su f j x)))) H1 → va_D A (ws.set q0 (a, .inl (cA, n, .inl (su f j x)))) → va_S A H0 H1 locs1 → W p l e R s m args below meth c H1 locs1 cells slots Q (F0 m (pc + 1) ls rest)) : W p l e R s m args below meth c H locs cells slots Q (F0 m pc ls (.int x :: .int (nI j) :: .ref a :: rest)) := by
  refine va_iast hexec hb hK hP hD hS q0 t0 ha ht (vp_in_nI hjn hn) hdg (fun H1 locs1 h1 h2 h3 => ?_)
  rw [nI_clamp (by omega)] at h1 h2
  exact kk H1 locs1 h1 h2 h3
end STF
def np_rmS (S : ow_NP) (x c : Nat) : ow_NP := if x = c then np_cut (np_cut S (2 * x)) (2 * x + 1) else np_rename (np_rename (np_cut (np_cut S (2 * x)) (2 * x + 1)) (2 * c) (2 * x)) (2 * c + 1) (2 * x + 1)
def np_rmC (S : ow_NP) (x : Nat) (k : Int32) : Int32 := np_cutC (np_cut S (2 * x)) (2 * x + 1) (np_cutC S (2 * x) k)
def np_rmG (G : Nat → Int32) (x c : Nat) : Nat → Int32 := if x = c then G else su G x (G c)
theorem np_rmS_b24 {S : ow_NP} {x c : Nat} (h : ow_b24 S) (hx : x < 12) : ow_b24 (np_rmS S x c) := by
  unfold np_rmS
  split
  · exact np_cut_b24 (np_cut_b24 h)
  · exact np_rename_b24 (np_rename_b24 (np_cut_b24 (np_cut_b24 h)) (by omega)) (by omega)
def np_sw (a v w : Nat) : Nat := if a = v then w else if a = w then v else a
theorem np_sw_lt {a v w : Nat} (ha : a < 24) (hv : v < 24) (hw : w < 24) : np_sw a v w < 24 := by
  unfold np_sw
  split
  · exact hw
  · split
    · exact hv
    · exact ha
def np_swap (S : ow_NP) (v w : Nat) : ow_NP := nl (nl (nl (nl S (np_sw (S.2 v) v w) w) w (np_sw (S.1 v) v w)) (np_sw (S.2 w) v w) v) v (np_sw (S.1 w) v w)
theorem np_swap_b24 {S : ow_NP} {v w : Nat} (h : ow_b24 S) (hv : v < 24) (hw : w < 24) : ow_b24 (np_swap S v w) := nl_b24 (nl_b24 (nl_b24 (nl_b24 h (np_sw_lt (h.2 v) hv hw) hw) hw (np_sw_lt (h.1 v) hv hw)) (np_sw_lt (h.2 w) hv hw) hv) hv (np_sw_lt (h.1 w) hv hw)
/-- the sum of the first n places -/
def np_sum (G : Nat → Int32) : Nat → Int32
  | 0 => 0
  | n + 1 => np_sum G n + G n
theorem dX7_removeCrossing_0 : decode cX7_removeCrossing 0 = .ok (.aload_n 0, 1) := by decide +kernel
theorem dX7_removeCrossing_1 : decode cX7_removeCrossing 1 = .ok (.iconst 2, 1) := by decide +kernel
theorem dX7_removeCrossing_2 : decode cX7_removeCrossing 2 = .ok (.iload_n 1, 1) := by decide +kernel
theorem dX7_removeCrossing_3 : decode cX7_removeCrossing 3 = .ok (.imul, 1) := by decide +kernel
theorem dX7_removeCrossing_4 : decode cX7_removeCrossing 4 = .ok (.invokevirtual 64, 3) := by decide +kernel
theorem dX7_removeCrossing_7 : decode cX7_removeCrossing 7 = .ok (.aload_n 0, 1) := by decide +kernel
theorem dX7_removeCrossing_8 : decode cX7_removeCrossing 8 = .ok (.iconst 2, 1) := by decide +kernel
theorem dX7_removeCrossing_9 : decode cX7_removeCrossing 9 = .ok (.iload_n 1, 1) := by decide +kernel
theorem dX7_removeCrossing_10 : decode cX7_removeCrossing 10 = .ok (.imul, 1) := by decide +kernel
theorem dX7_removeCrossing_11 : decode cX7_removeCrossing 11 = .ok (.iconst 1, 1) := by decide +kernel
theorem dX7_removeCrossing_12 : decode cX7_removeCrossing 12 = .ok (.iadd, 1) := by decide +kernel
theorem dX7_removeCrossing_13 : decode cX7_removeCrossing 13 = .ok (.invokevirtual 64, 3) := by decide +kernel
theorem dX7_removeCrossing_16 : decode cX7_removeCrossing 16 = .ok (.aload_n 0, 1) := by decide +kernel
theorem dX7_removeCrossing_17 : decode cX7_removeCrossing 17 = .ok (.dup, 1) := by decide +kernel
theorem dX7_removeCrossing_18 : decode cX7_removeCrossing 18 = .ok (.getfield 39, 3) := by decide +kernel
theorem dX7_removeCrossing_21 : decode cX7_removeCrossing 21 = .ok (.iconst 1, 1) := by decide +kernel
theorem dX7_removeCrossing_22 : decode cX7_removeCrossing 22 = .ok (.isub, 1) := by decide +kernel
theorem dX7_removeCrossing_23 : decode cX7_removeCrossing 23 = .ok (.putfield 39, 3) := by decide +kernel
theorem dX7_removeCrossing_26 : decode cX7_removeCrossing 26 = .ok (.iload_n 1, 1) := by decide +kernel
theorem dX7_removeCrossing_27 : decode cX7_removeCrossing 27 = .ok (.aload_n 0, 1) := by decide +kernel
theorem dX7_removeCrossing_28 : decode cX7_removeCrossing 28 = .ok (.getfield 39, 3) := by decide +kernel
theorem dX7_removeCrossing_31 : decode cX7_removeCrossing 31 = .ok (.if_icmp .eq 48, 3) := by decide +kernel
theorem dX7_removeCrossing_34 : decode cX7_removeCrossing 34 = .ok (.aload_n 0, 1) := by decide +kernel
theorem dX7_removeCrossing_35 : decode cX7_removeCrossing 35 = .ok (.iconst 2, 1) := by decide +kernel
theorem dX7_removeCrossing_36 : decode cX7_removeCrossing 36 = .ok (.aload_n 0, 1) := by decide +kernel
theorem dX7_removeCrossing_37 : decode cX7_removeCrossing 37 = .ok (.getfield 39, 3) := by decide +kernel
theorem dX7_removeCrossing_40 : decode cX7_removeCrossing 40 = .ok (.imul, 1) := by decide +kernel
theorem dX7_removeCrossing_41 : decode cX7_removeCrossing 41 = .ok (.iconst 2, 1) := by decide +kernel
theorem dX7_removeCrossing_42 : decode cX7_removeCrossing 42 = .ok (.iload_n 1, 1) := by decide +kernel
theorem dX7_removeCrossing_43 : decode cX7_removeCrossing 43 = .ok (.imul, 1) := by decide +kernel
theorem dX7_removeCrossing_44 : decode cX7_removeCrossing 44 = .ok (.invokevirtual 68, 3) := by decide +kernel
theorem dX7_removeCrossing_47 : decode cX7_removeCrossing 47 = .ok (.aload_n 0, 1) := by decide +kernel
theorem dX7_removeCrossing_48 : decode cX7_removeCrossing 48 = .ok (.iconst 2, 1) := by decide +kernel
theorem dX7_removeCrossing_49 : decode cX7_removeCrossing 49 = .ok (.aload_n 0, 1) := by decide +kernel
theorem dX7_removeCrossing_50 : decode cX7_removeCrossing 50 = .ok (.getfield 39, 3) := by decide +kernel
theorem dX7_removeCrossing_53 : decode cX7_removeCrossing 53 = .ok (.imul, 1) := by decide +kernel
theorem dX7_removeCrossing_54 : decode cX7_removeCrossing 54 = .ok (.iconst 1, 1) := by decide +kernel
theorem dX7_removeCrossing_55 : decode cX7_removeCrossing 55 = .ok (.iadd, 1) := by decide +kernel
theorem dX7_removeCrossing_56 : decode cX7_removeCrossing 56 = .ok (.iconst 2, 1) := by decide +kernel
theorem dX7_removeCrossing_57 : decode cX7_removeCrossing 57 = .ok (.iload_n 1, 1) := by decide +kernel
theorem dX7_removeCrossing_58 : decode cX7_removeCrossing 58 = .ok (.imul, 1) := by decide +kernel
theorem dX7_removeCrossing_59 : decode cX7_removeCrossing 59 = .ok (.iconst 1, 1) := by decide +kernel
theorem dX7_removeCrossing_60 : decode cX7_removeCrossing 60 = .ok (.iadd, 1) := by decide +kernel
theorem dX7_removeCrossing_61 : decode cX7_removeCrossing 61 = .ok (.invokevirtual 68, 3) := by decide +kernel
theorem dX7_removeCrossing_64 : decode cX7_removeCrossing 64 = .ok (.aload_n 0, 1) := by decide +kernel
theorem dX7_removeCrossing_65 : decode cX7_removeCrossing 65 = .ok (.getfield 18, 3) := by decide +kernel
theorem dX7_removeCrossing_68 : decode cX7_removeCrossing 68 = .ok (.iload_n 1, 1) := by decide +kernel
theorem dX7_removeCrossing_69 : decode cX7_removeCrossing 69 = .ok (.aload_n 0, 1) := by decide +kernel
theorem dX7_removeCrossing_70 : decode cX7_removeCrossing 70 = .ok (.getfield 18, 3) := by decide +kernel
theorem dX7_removeCrossing_73 : decode cX7_removeCrossing 73 = .ok (.aload_n 0, 1) := by decide +kernel
theorem dX7_removeCrossing_74 : decode cX7_removeCrossing 74 = .ok (.getfield 39, 3) := by decide +kernel
theorem dX7_removeCrossing_77 : decode cX7_removeCrossing 77 = .ok (.iaload, 1) := by decide +kernel
theorem dX7_removeCrossing_78 : decode cX7_removeCrossing 78 = .ok (.iastore, 1) := by decide +kernel
theorem dX7_removeCrossing_79 : decode cX7_removeCrossing 79 = .ok (.return_, 1) := by decide +kernel
def wg_X7_removeCrossing : List Cond := .code yX7_removeCrossing cX7_removeCrossing 2 none :: ([.fieldLink RX7 39 "KnotHouse$Net" "crossings" "I", .fieldLink RX7 18 "KnotHouse$Net" "sign" "[I"] ++ wsX70 ++ (wsV RX7 64 RX7 yX7_cut wg_X7_cut ++ (wsV RX7 68 RX7 yX7_rename wg_X7_rename ++ [])))
theorem gg_X7_removeCrossing_0 : GoodIn wg_X7_removeCrossing (wsV RX7 64 RX7 yX7_cut wg_X7_cut) := goodIn_sub (fun _ h => List.mem_cons_of_mem _ (List.mem_append_right _ (List.mem_append_left _ h))) (by decide +kernel)
theorem gg_X7_removeCrossing_1 : GoodIn wg_X7_removeCrossing (wsV RX7 68 RX7 yX7_rename wg_X7_rename) := goodIn_sub (fun _ h => List.mem_cons_of_mem _ (List.mem_append_right _ (List.mem_append_right _ (List.mem_append_left _ h)))) (by decide +kernel)
set_option maxHeartbeats 4000000 in
set_option maxRecDepth 100000 in
theorem kg_X7_removeCrossing (l : Launch) (dC : Nat → ClassId) (dI : Nat → Nat → Nat) (cI cB cJ cZ : ClassId) (aX : Nat) (nx : Nat → Nat) (x8 x9 x10 : Int32) (S : ow_NP) (hS0 : ow_b24 S) (G : Nat → Int32) (x cn : Nat) (hc : cn < 12) (hxc : x ≤ cn) (sz : Nat) : Met l yX7_removeCrossing wg_X7_removeCrossing (({ frames := 2, cells := 0, slots := 0, locals := 44 } : Room)) (va_Pc [.ref aX, .int (nI x)] (fun U => U.heap.size = sz ∧ va_P (dC, dI) vwCl [(aX, .inr (10, [.ref (nx 0), .ref (nx 1), .ref (nx 2), .ref (nx 3), .ref (nx 4), .ref (nx 5), .ref (nx 6), .int (nI (cn + 1)), .int x8, .int x9, .int x10])), ((nx 0), .inl (cI, 24, .inl (ow_nI S.1))), ((nx 1), .inl (cI, 24, .inl (ow_nI S.2))), ((nx 2), .inl (cI, 12, .inl G))] U.heap ∧ va_K (dC, dI) vwCl [(cI, .int), (cB, .byte), (cJ, .long), (cZ, .boolean)] U ∧ va_D (fun _ => True) [(aX, .inr (10, [.ref (nx 0), .ref (nx 1), .ref (nx 2), .ref (nx 3), .ref (nx 4), .ref (nx 5), .ref (nx 6), .int (nI (cn + 1)), .int x8, .int x9, .int x10])), ((nx 0), .inl (cI, 24, .inl (ow_nI S.1))), ((nx 1), .inl (cI, 24, .inl (ow_nI S.2))), ((nx 2), .inl (cI, 12, .inl G))])) (va_Qv (fun (g : Unit) => True) (fun g t => va_P (dC, dI) vwCl [(aX, .inr (10, [.ref (nx 0), .ref (nx 1), .ref (nx 2), .ref (nx 3), .ref (nx 4), .ref (nx 5), .ref (nx 6), .int (nI cn), .int (np_rmC S x x8), .int x9, .int x10])), ((nx 0), .inl (cI, 24, .inl (ow_nI (np_rmS S x cn).1))), ((nx 1), .inl (cI, 24, .inl (ow_nI (np_rmS S x cn).2))), ((nx 2), .inl (cI, 12, .inl (np_rmG G x cn)))] t.heap ∧ va_D (va_A [(aX, .inr (10, [.ref (nx 0), .ref (nx 1), .ref (nx 2), .ref (nx 3), .ref (nx 4), .ref (nx 5), .ref (nx 6), .int (nI (cn + 1)), .int x8, .int x9, .int x10])), ((nx 0), .inl (cI, 24, .inl (ow_nI S.1))), ((nx 1), .inl (cI, 24, .inl (ow_nI S.2))), ((nx 2), .inl (cI, 12, .inl G))] sz) [(aX, .inr (10, [.ref (nx 0), .ref (nx 1), .ref (nx 2), .ref (nx 3), .ref (nx 4), .ref (nx 5), .ref (nx 6), .int (nI cn), .int (np_rmC S x x8), .int x9, .int x10])), ((nx 0), .inl (cI, 24, .inl (ow_nI (np_rmS S x cn).1))), ((nx 1), .inl (cI, 24, .inl (ow_nI (np_rmS S x cn).2))), ((nx 2), .inl (cI, 12, .inl (np_rmG G x cn)))]) (va_A [(aX, .inr (10, [.ref (nx 0), .ref (nx 1), .ref (nx 2), .ref (nx 3), .ref (nx 4), .ref (nx 5), .ref (nx 6), .int (nI (cn + 1)), .int x8, .int x9, .int x10])), ((nx 0), .inl (cI, 24, .inl (ow_nI S.1))), ((nx 1), .inl (cI, 24, .inl (ow_nI S.2))), ((nx 2), .inl (cI, 12, .inl G))] sz)) 0 0 (va_A [(aX, .inr (10, [.ref (nx 0), .ref (nx 1), .ref (nx 2), .ref (nx 3), .ref (nx 4), .ref (nx 5), .ref (nx 6), .int (nI (cn + 1)), .int x8, .int x9, .int x10])), ((nx 0), .inl (cI, 24, .inl (ow_nI S.1))), ((nx 1), .inl (cI, 24, .inl (ow_nI S.2))), ((nx 2), .inl (cI, 12, .inl G))] sz) := by
  refine Met.ofW (cc := cX7_removeCrossing) (maxL := 2) (ret := none) (by decide) rfl ?_
  intro p e s m args below meth c s₁ B hml hv
  obtain ⟨rfl, hsz, hP, hK, hD0⟩ := hv
  have hx := B.exec
  have hb := B.bytes
  have hr := B.returns
  have hts := atoms_spec (ws := wg_X7_removeCrossing) B.pre
  have hown : s.vm.findClass RX7 = some m.cls := findClass_of_methodNamed B.named
  have hlocks := B.notSynchronized
  subst hsz
  have hD := hD0.self (sz := s.heap.size)
  generalize hAe : va_A [(aX, .inr (10, [.ref (nx 0), .ref (nx 1), .ref (nx 2), .ref (nx 3), .ref (nx 4), .ref (nx 5), .ref (nx 6), .int (nI (cn + 1)), .int x8, .int x9, .int x10])), ((nx 0), .inl (cI, 24, .inl (ow_nI S.1))), ((nx 1), .inl (cI, 24, .inl (ow_nI S.2))), ((nx 2), .inl (cI, 12, .inl G))] s.heap.size = A at hD ⊢
  have hA : ∀ q : Nat, s.heap.size ≤ q → A q := fun q h => by rw [← hAe]; exact Or.inr h
  have hS : va_S A s.heap s.heap [] := va_S.rf
  have hP : va_P (dC, dI) vwCl [(aX, .inr (10, [.ref (nx 0), .ref (nx 1), .ref (nx 2), .ref (nx 3), .ref (nx 4), .ref (nx 5), .ref (nx 6), .int (nI (cn + 1)), .int x8, .int x9, .int x10])), ((nx 0), .inl (cI, 24, .inl (ow_nI S.1))), ((nx 1), .inl (cI, 24, .inl (ow_nI S.2))), ((nx 2), .inl (cI, 12, .inl G))] s.heap := hP
  have hl := lv_entry ([.ref aX, .int (nI x)]) (n := 2) (Nat.le_of_ble_eq_true rfl)
  rw [lg_entry_eq]
  generalize (lg_sl ([.ref aX, .int (nI x)]) ++ List.replicate (2 - (lg_sl ([.ref aX, .int (nI x)])).length) Slot.unset).toArray = ls at hl ⊢
  have hl : lv_has ls 2 [(0, .ref aX), (1, .int (nI x))] := hl
  refine ow_named (fun QQ hQQ => ?_)
  suffices key9 : ∀ (H : Heap) (locs : List Loc), va_P (dC, dI) vwCl [(aX, .inr (10, [.ref (nx 0), .ref (nx 1), .ref (nx 2), .ref (nx 3), .ref (nx 4), .ref (nx 5), .ref (nx 6), .int (nI (cn + 1)), .int x8, .int x9, .int x10])), ((nx 0), .inl (cI, 24, .inl (ow_nI S.1))), ((nx 1), .inl (cI, 24, .inl (ow_nI S.2))), ((nx 2), .inl (cI, 12, .inl G))] H → va_S A s.heap H locs → W p l e ({ frames := 2, cells := 0, slots := 0, locals := 44 } : Room) s m ([.ref aX, .int (nI x)] : List Value).toArray below meth c H locs 0 0 QQ (F0 m 0 ls []) from key9 s.heap [] hP hS
  intro H locs hP hS
  refine lv_aload_n hx hb dX7_removeCrossing_0 rfl (lv_at hl 0 rfl) ?_
  refine lv_iconst (v := 2) hx hb dX7_removeCrossing_1 (by decide) ?_
  refine lv_iload_n hx hb dX7_removeCrossing_2 rfl (lv_at hl 1 rfl) ?_
  refine lv_imul hx hb dX7_removeCrossing_3 ?_
  refine ow_topi (y := nI (2 * x)) (pk_mul 2 x) ?_
  have hPc := hP.sub (ws' := [(aX, .inr (10, [.ref (nx 0), .ref (nx 1), .ref (nx 2), .ref (nx 3), .ref (nx 4), .ref (nx 5), .ref (nx 6), .int (nI (cn + 1)), .int x8, .int x9, .int x10])), ((nx 0), .inl (cI, 24, .inl (ow_nI S.1))), ((nx 1), .inl (cI, 24, .inl (ow_nI S.2)))]) [0, 1, 2] rfl
  have hDc := hD.sub (ws' := [(aX, .inr (10, [.ref (nx 0), .ref (nx 1), .ref (nx 2), .ref (nx 3), .ref (nx 4), .ref (nx 5), .ref (nx 6), .int (nI (cn + 1)), .int x8, .int x9, .int x10])), ((nx 0), .inl (cI, 24, .inl (ow_nI S.1))), ((nx 1), .inl (cI, 24, .inl (ow_nI S.2)))]) [0, 1, 2] (by decide) rfl
  have hFc := va_free (wc := [(aX, .inr (10, [.ref (nx 0), .ref (nx 1), .ref (nx 2), .ref (nx 3), .ref (nx 4), .ref (nx 5), .ref (nx 6), .int (nI (cn + 1)), .int x8, .int x9, .int x10])), ((nx 0), .inl (cI, 24, .inl (ow_nI S.1))), ((nx 1), .inl (cI, 24, .inl (ow_nI S.2)))]) hD hS hA [0, 1, 2] rfl
  refine va_callv (va_runV (As := [.int (nI (2 * x))]) (rest := []) ⟨hx, hb, hml, hown, hts⟩ (kg_X7_cut l dC dI cI cB cJ cZ aX nx (nI (cn + 1)) x8 x9 x10 S hS0 (2 * x) (by omega) H.size) (cwV 1 hts gg_X7_removeCrossing_0 rfl rfl rfl (by decide +kernel) ⟨(Nat.le_of_ble_eq_true rfl), (Nat.le_of_ble_eq_true rfl)⟩) ⟨fun a U g mk q => by obtain ⟨q0, q1, qP, qK, qD⟩ := q; exact ⟨q0, q1, qP, va_K.moved (u := U) (U := U.calling g mk a) (Vm.Alike.refl U.vm) qK, qD⟩, va_recv hK hPc (ci := 10) (q0 := 0) rfl rfl, fun U hU hW => ⟨rfl, by rw [hU], by rw [hU]; exact hPc, va_K.moved hW.alike hK, hDc.weaken (fun _ _ _ _ => trivial)⟩⟩ rfl rfl hl.1 rfl (lv_room (Nat.le_of_ble_eq_true rfl)) dX7_removeCrossing_4 ⟨(Nat.le_of_ble_eq_true rfl), (Nat.le_of_ble_eq_true rfl)⟩) hS (fun q _ h => hFc q h) hFc (fun u9 t H1 locs ht hvm hw hB hz1 hk1 hS => ?_)
  obtain ⟨hP1, hD1⟩ := hB
  rw [ht] at hP1
  obtain ⟨hP, hD⟩ := va_join (wr := [((nx 2), .inl (cI, 12, .inl G))]) (w1 := [(aX, .inr (10, [.ref (nx 0), .ref (nx 1), .ref (nx 2), .ref (nx 3), .ref (nx 4), .ref (nx 5), .ref (nx 6), .int (nI (cn + 1)), .int (np_cutC S (2 * x) x8), .int x9, .int x10])), ((nx 0), .inl (cI, 24, .inl (ow_nI (np_cut S (2 * x)).1))), ((nx 1), .inl (cI, 24, .inl (ow_nI (np_cut S (2 * x)).2)))]) hP hD [0, 1, 2] [3] rfl rfl (by decide) (by decide) hk1 hFc hP1 hD1
  generalize H1 = H at hP hS ⊢
  have hP : va_P (dC, dI) vwCl [((nx 2), .inl (cI, 12, .inl G)), (aX, .inr (10, [.ref (nx 0), .ref (nx 1), .ref (nx 2), .ref (nx 3), .ref (nx 4), .ref (nx 5), .ref (nx 6), .int (nI (cn + 1)), .int (np_cutC S (2 * x) x8), .int x9, .int x10])), ((nx 0), .inl (cI, 24, .inl (ow_nI (np_cut S (2 * x)).1))), ((nx 1), .inl (cI, 24, .inl (ow_nI (np_cut S (2 * x)).2)))] H := hP
  have hD : va_D A [((nx 2), .inl (cI, 12, .inl G)), (aX, .inr (10, [.ref (nx 0), .ref (nx 1), .ref (nx 2), .ref (nx 3), .ref (nx 4), .ref (nx 5), .ref (nx 6), .int (nI (cn + 1)), .int (np_cutC S (2 * x) x8), .int x9, .int x10])), ((nx 0), .inl (cI, 24, .inl (ow_nI (np_cut S (2 * x)).1))), ((nx 1), .inl (cI, 24, .inl (ow_nI (np_cut S (2 * x)).2)))] := hD
  have hP := hP.sub (ws' := [(aX, .inr (10, [.ref (nx 0), .ref (nx 1), .ref (nx 2), .ref (nx 3), .ref (nx 4), .ref (nx 5), .ref (nx 6), .int (nI (cn + 1)), .int (np_cutC S (2 * x) x8), .int x9, .int x10])), ((nx 0), .inl (cI, 24, .inl (ow_nI (np_cut S (2 * x)).1))), ((nx 1), .inl (cI, 24, .inl (ow_nI (np_cut S (2 * x)).2))), ((nx 2), .inl (cI, 12, .inl G))]) [1, 2, 3, 0] rfl
  have hD := hD.sub (ws' := [(aX, .inr (10, [.ref (nx 0), .ref (nx 1), .ref (nx 2), .ref (nx 3), .ref (nx 4), .ref (nx 5), .ref (nx 6), .int (nI (cn + 1)), .int (np_cutC S (2 * x) x8), .int x9, .int x10])), ((nx 0), .inl (cI, 24, .inl (ow_nI (np_cut S (2 * x)).1))), ((nx 1), .inl (cI, 24, .inl (ow_nI (np_cut S (2 * x)).2))), ((nx 2), .inl (cI, 12, .inl G))]) [1, 2, 3, 0] (by decide) rfl
  refine lv_aload_n hx hb dX7_removeCrossing_7 rfl (lv_at hl 0 rfl) ?_
  refine lv_iconst (v := 2) hx hb dX7_removeCrossing_8 (by decide) ?_
  refine lv_iload_n hx hb dX7_removeCrossing_9 rfl (lv_at hl 1 rfl) ?_
  refine lv_imul hx hb dX7_removeCrossing_10 ?_
  refine ow_topi (y := nI (2 * x)) (pk_mul 2 x) ?_
  refine lv_iconst (v := 1) hx hb dX7_removeCrossing_11 (by decide) ?_
  refine lv_iadd hx hb dX7_removeCrossing_12 ?_
  refine ow_topi (y := nI (2 * x + 1)) (nI_1 (2 * x)) ?_
  have hPc := hP.sub (ws' := [(aX, .inr (10, [.ref (nx 0), .ref (nx 1), .ref (nx 2), .ref (nx 3), .ref (nx 4), .ref (nx 5), .ref (nx 6), .int (nI (cn + 1)), .int (np_cutC S (2 * x) x8), .int x9, .int x10])), ((nx 0), .inl (cI, 24, .inl (ow_nI (np_cut S (2 * x)).1))), ((nx 1), .inl (cI, 24, .inl (ow_nI (np_cut S (2 * x)).2)))]) [0, 1, 2] rfl
  have hDc := hD.sub (ws' := [(aX, .inr (10, [.ref (nx 0), .ref (nx 1), .ref (nx 2), .ref (nx 3), .ref (nx 4), .ref (nx 5), .ref (nx 6), .int (nI (cn + 1)), .int (np_cutC S (2 * x) x8), .int x9, .int x10])), ((nx 0), .inl (cI, 24, .inl (ow_nI (np_cut S (2 * x)).1))), ((nx 1), .inl (cI, 24, .inl (ow_nI (np_cut S (2 * x)).2)))]) [0, 1, 2] (by decide) rfl
  have hFc := va_free (wc := [(aX, .inr (10, [.ref (nx 0), .ref (nx 1), .ref (nx 2), .ref (nx 3), .ref (nx 4), .ref (nx 5), .ref (nx 6), .int (nI (cn + 1)), .int (np_cutC S (2 * x) x8), .int x9, .int x10])), ((nx 0), .inl (cI, 24, .inl (ow_nI (np_cut S (2 * x)).1))), ((nx 1), .inl (cI, 24, .inl (ow_nI (np_cut S (2 * x)).2)))]) hD hS hA [0, 1, 2] rfl
  refine va_callv (va_runV (As := [.int (nI (2 * x + 1))]) (rest := []) ⟨hx, hb, hml, hown, hts⟩ (kg_X7_cut l dC dI cI cB cJ cZ aX nx (nI (cn + 1)) (np_cutC S (2 * x) x8) x9 x10 (np_cut S (2 * x)) (np_cut_b24 hS0) (2 * x + 1) (by omega) H.size) (cwV 1 hts gg_X7_removeCrossing_0 rfl rfl rfl (by decide +kernel) ⟨(Nat.le_of_ble_eq_true rfl), (Nat.le_of_ble_eq_true rfl)⟩) ⟨fun a U g mk q => by obtain ⟨q0, q1, qP, qK, qD⟩ := q; exact ⟨q0, q1, qP, va_K.moved (u := U) (U := U.calling g mk a) (Vm.Alike.refl U.vm) qK, qD⟩, va_recv hK hPc (ci := 10) (q0 := 0) rfl rfl, fun U hU hW => ⟨rfl, by rw [hU], by rw [hU]; exact hPc, va_K.moved hW.alike hK, hDc.weaken (fun _ _ _ _ => trivial)⟩⟩ rfl rfl hl.1 rfl (lv_room (Nat.le_of_ble_eq_true rfl)) dX7_removeCrossing_13 ⟨(Nat.le_of_ble_eq_true rfl), (Nat.le_of_ble_eq_true rfl)⟩) hS (fun q _ h => hFc q h) hFc (fun u9 t H1 locs ht hvm hw hB hz1 hk1 hS => ?_)
  obtain ⟨hP1, hD1⟩ := hB
  rw [ht] at hP1
  obtain ⟨hP, hD⟩ := va_join (wr := [((nx 2), .inl (cI, 12, .inl G))]) (w1 := [(aX, .inr (10, [.ref (nx 0), .ref (nx 1), .ref (nx 2), .ref (nx 3), .ref (nx 4), .ref (nx 5), .ref (nx 6), .int (nI (cn + 1)), .int (np_cutC (np_cut S (2 * x)) (2 * x + 1) (np_cutC S (2 * x) x8)), .int x9, .int x10])), ((nx 0), .inl (cI, 24, .inl (ow_nI (np_cut (np_cut S (2 * x)) (2 * x + 1)).1))), ((nx 1), .inl (cI, 24, .inl (ow_nI (np_cut (np_cut S (2 * x)) (2 * x + 1)).2)))]) hP hD [0, 1, 2] [3] rfl rfl (by decide) (by decide) hk1 hFc hP1 hD1
  generalize H1 = H at hP hS ⊢
  have hP : va_P (dC, dI) vwCl [((nx 2), .inl (cI, 12, .inl G)), (aX, .inr (10, [.ref (nx 0), .ref (nx 1), .ref (nx 2), .ref (nx 3), .ref (nx 4), .ref (nx 5), .ref (nx 6), .int (nI (cn + 1)), .int (np_cutC (np_cut S (2 * x)) (2 * x + 1) (np_cutC S (2 * x) x8)), .int x9, .int x10])), ((nx 0), .inl (cI, 24, .inl (ow_nI (np_cut (np_cut S (2 * x)) (2 * x + 1)).1))), ((nx 1), .inl (cI, 24, .inl (ow_nI (np_cut (np_cut S (2 * x)) (2 * x + 1)).2)))] H := hP
  have hD : va_D A [((nx 2), .inl (cI, 12, .inl G)), (aX, .inr (10, [.ref (nx 0), .ref (nx 1), .ref (nx 2), .ref (nx 3), .ref (nx 4), .ref (nx 5), .ref (nx 6), .int (nI (cn + 1)), .int (np_cutC (np_cut S (2 * x)) (2 * x + 1) (np_cutC S (2 * x) x8)), .int x9, .int x10])), ((nx 0), .inl (cI, 24, .inl (ow_nI (np_cut (np_cut S (2 * x)) (2 * x + 1)).1))), ((nx 1), .inl (cI, 24, .inl (ow_nI (np_cut (np_cut S (2 * x)) (2 * x + 1)).2)))] := hD
  have hP := hP.sub (ws' := [(aX, .inr (10, [.ref (nx 0), .ref (nx 1), .ref (nx 2), .ref (nx 3), .ref (nx 4), .ref (nx 5), .ref (nx 6), .int (nI (cn + 1)), .int (np_cutC (np_cut S (2 * x)) (2 * x + 1) (np_cutC S (2 * x) x8)), .int x9, .int x10])), ((nx 0), .inl (cI, 24, .inl (ow_nI (np_cut (np_cut S (2 * x)) (2 * x + 1)).1))), ((nx 1), .inl (cI, 24, .inl (ow_nI (np_cut (np_cut S (2 * x)) (2 * x + 1)).2))), ((nx 2), .inl (cI, 12, .inl G))]) [1, 2, 3, 0] rfl
  have hD := hD.sub (ws' := [(aX, .inr (10, [.ref (nx 0), .ref (nx 1), .ref (nx 2), .ref (nx 3), .ref (nx 4), .ref (nx 5), .ref (nx 6), .int (nI (cn + 1)), .int (np_cutC (np_cut S (2 * x)) (2 * x + 1) (np_cutC S (2 * x) x8)), .int x9, .int x10])), ((nx 0), .inl (cI, 24, .inl (ow_nI (np_cut (np_cut S (2 * x)) (2 * x + 1)).1))), ((nx 1), .inl (cI, 24, .inl (ow_nI (np_cut (np_cut S (2 * x)) (2 * x + 1)).2))), ((nx 2), .inl (cI, 12, .inl G))]) [1, 2, 3, 0] (by decide) rfl
  refine lv_aload_n hx hb dX7_removeCrossing_16 rfl (lv_at hl 0 rfl) ?_
  refine lv_dup hx hb dX7_removeCrossing_17 rfl ?_
  refine va_get (D := (dC, dI)) (ci := 10) (v := .int (nI (cn + 1))) (C := RX7) (T := TX7) (N := 11) hx hb hts (fun _ h => List.mem_cons_of_mem _ (List.mem_append_left _ (List.mem_append_right _ h))) hown hK hP 0 rfl rfl 7 (by decide) (hts (.fieldLink RX7 39 "KnotHouse$Net" "crossings" "I") (by decide +kernel)) (fun _ h9 => h9) rfl dX7_removeCrossing_18 ?_
  refine lv_iconst (v := 1) hx hb dX7_removeCrossing_21 (by decide) ?_
  refine lv_isub hx hb dX7_removeCrossing_22 ?_
  refine ow_topi (y := nI cn) (ow_pred cn) ?_
  refine va_put (D := (dC, dI)) (ci := 10) (v := .int (nI cn)) (ty := .int) (C := RX7) (T := TX7) (N := 11) hx hb hts (fun _ h => List.mem_cons_of_mem _ (List.mem_append_left _ (List.mem_append_right _ h))) tyX7 tyX7_ok nmX7 hown hK hP hD hS 0 rfl rfl 7 (by decide) (hts (.fieldLink RX7 39 "KnotHouse$Net" "crossings" "I") (by decide +kernel)) (fun _ h9 => h9) rfl (by decide +kernel) rfl rfl (Nat.le_of_ble_eq_true rfl) dX7_removeCrossing_23 (fun H locs hP hD hS => ?_)
  have hP : va_P (dC, dI) vwCl [(aX, .inr (10, [.ref (nx 0), .ref (nx 1), .ref (nx 2), .ref (nx 3), .ref (nx 4), .ref (nx 5), .ref (nx 6), .int (nI cn), .int (np_cutC (np_cut S (2 * x)) (2 * x + 1) (np_cutC S (2 * x) x8)), .int x9, .int x10])), ((nx 0), .inl (cI, 24, .inl (ow_nI (np_cut (np_cut S (2 * x)) (2 * x + 1)).1))), ((nx 1), .inl (cI, 24, .inl (ow_nI (np_cut (np_cut S (2 * x)) (2 * x + 1)).2))), ((nx 2), .inl (cI, 12, .inl G))] H := hP
  have hD : va_D A [(aX, .inr (10, [.ref (nx 0), .ref (nx 1), .ref (nx 2), .ref (nx 3), .ref (nx 4), .ref (nx 5), .ref (nx 6), .int (nI cn), .int (np_cutC (np_cut S (2 * x)) (2 * x + 1) (np_cutC S (2 * x) x8)), .int x9, .int x10])), ((nx 0), .inl (cI, 24, .inl (ow_nI (np_cut (np_cut S (2 * x)) (2 * x + 1)).1))), ((nx 1), .inl (cI, 24, .inl (ow_nI (np_cut (np_cut S (2 * x)) (2 * x + 1)).2))), ((nx 2), .inl (cI, 12, .inl G))] := hD
  refine lv_iload_n hx hb dX7_removeCrossing_26 rfl (lv_at hl 1 rfl) ?_
  refine lv_aload_n hx hb dX7_removeCrossing_27 rfl (lv_at hl 0 rfl) ?_
  refine va_get (D := (dC, dI)) (ci := 10) (v := .int (nI cn)) (C := RX7) (T := TX7) (N := 11) hx hb hts (fun _ h => List.mem_cons_of_mem _ (List.mem_append_left _ (List.mem_append_right _ h))) hown hK hP 0 rfl rfl 7 (by decide) (hts (.fieldLink RX7 39 "KnotHouse$Net" "crossings" "I") (by decide +kernel)) (fun _ h9 => h9) rfl dX7_removeCrossing_28 ?_
  refine lv_icmp_eq (tgt := 79) hx hb dX7_removeCrossing_31 (by decide) (fun c1 => ?_) (fun c1 => ?_)
  · have heq : x = cn := ow_nI_inj (by omega) (by omega) c1
    have hP : va_P (dC, dI) vwCl [(aX, .inr (10, [.ref (nx 0), .ref (nx 1), .ref (nx 2), .ref (nx 3), .ref (nx 4), .ref (nx 5), .ref (nx 6), .int (nI cn), .int (np_rmC S x x8), .int x9, .int x10])), ((nx 0), .inl (cI, 24, .inl (ow_nI (np_rmS S x cn).1))), ((nx 1), .inl (cI, 24, .inl (ow_nI (np_rmS S x cn).2))), ((nx 2), .inl (cI, 12, .inl (np_rmG G x cn)))] H := by rw [show np_rmS S x cn = np_cut (np_cut S (2 * x)) (2 * x + 1) from if_pos heq, show np_rmG G x cn = G from if_pos heq]; exact hP
    have hD : va_D A [(aX, .inr (10, [.ref (nx 0), .ref (nx 1), .ref (nx 2), .ref (nx 3), .ref (nx 4), .ref (nx 5), .ref (nx 6), .int (nI cn), .int (np_rmC S x x8), .int x9, .int x10])), ((nx 0), .inl (cI, 24, .inl (ow_nI (np_rmS S x cn).1))), ((nx 1), .inl (cI, 24, .inl (ow_nI (np_rmS S x cn).2))), ((nx 2), .inl (cI, 12, .inl (np_rmG G x cn)))] := by rw [show np_rmS S x cn = np_cut (np_cut S (2 * x)) (2 * x + 1) from if_pos heq, show np_rmG G x cn = G from if_pos heq]; exact hD
    rw [hQQ]
    exact W.vret hx hb hr (fun t ht hW => ⟨⟨(), rfl, trivial, by rw [ht]; exact hP, hD⟩, hS.F ht⟩) hS.2.2 dX7_removeCrossing_79
  · have hne : ¬ x = cn := fun h9 => c1 (congrArg nI h9)
    refine lv_aload_n hx hb dX7_removeCrossing_34 rfl (lv_at hl 0 rfl) ?_
    refine lv_iconst (v := 2) hx hb dX7_removeCrossing_35 (by decide) ?_
    refine lv_aload_n hx hb dX7_removeCrossing_36 rfl (lv_at hl 0 rfl) ?_
    refine va_get (D := (dC, dI)) (ci := 10) (v := .int (nI cn)) (C := RX7) (T := TX7) (N := 11) hx hb hts (fun _ h => List.mem_cons_of_mem _ (List.mem_append_left _ (List.mem_append_right _ h))) hown hK hP 0 rfl rfl 7 (by decide) (hts (.fieldLink RX7 39 "KnotHouse$Net" "crossings" "I") (by decide +kernel)) (fun _ h9 => h9) rfl dX7_removeCrossing_37 ?_
    refine lv_imul hx hb dX7_removeCrossing_40 ?_
    refine ow_topi (y := nI (2 * cn)) (pk_mul 2 cn) ?_
    refine lv_iconst (v := 2) hx hb dX7_removeCrossing_41 (by decide) ?_
    refine lv_iload_n hx hb dX7_removeCrossing_42 rfl (lv_at hl 1 rfl) ?_
    refine lv_imul hx hb dX7_removeCrossing_43 ?_
    refine ow_topi (y := nI (2 * x)) (pk_mul 2 x) ?_
    have hPc := hP.sub (ws' := [(aX, .inr (10, [.ref (nx 0), .ref (nx 1), .ref (nx 2), .ref (nx 3), .ref (nx 4), .ref (nx 5), .ref (nx 6), .int (nI cn), .int (np_cutC (np_cut S (2 * x)) (2 * x + 1) (np_cutC S (2 * x) x8)), .int x9, .int x10])), ((nx 0), .inl (cI, 24, .inl (ow_nI (np_cut (np_cut S (2 * x)) (2 * x + 1)).1))), ((nx 1), .inl (cI, 24, .inl (ow_nI (np_cut (np_cut S (2 * x)) (2 * x + 1)).2)))]) [0, 1, 2] rfl
    have hDc := hD.sub (ws' := [(aX, .inr (10, [.ref (nx 0), .ref (nx 1), .ref (nx 2), .ref (nx 3), .ref (nx 4), .ref (nx 5), .ref (nx 6), .int (nI cn), .int (np_cutC (np_cut S (2 * x)) (2 * x + 1) (np_cutC S (2 * x) x8)), .int x9, .int x10])), ((nx 0), .inl (cI, 24, .inl (ow_nI (np_cut (np_cut S (2 * x)) (2 * x + 1)).1))), ((nx 1), .inl (cI, 24, .inl (ow_nI (np_cut (np_cut S (2 * x)) (2 * x + 1)).2)))]) [0, 1, 2] (by decide) rfl
    have hFc := va_free (wc := [(aX, .inr (10, [.ref (nx 0), .ref (nx 1), .ref (nx 2), .ref (nx 3), .ref (nx 4), .ref (nx 5), .ref (nx 6), .int (nI cn), .int (np_cutC (np_cut S (2 * x)) (2 * x + 1) (np_cutC S (2 * x) x8)), .int x9, .int x10])), ((nx 0), .inl (cI, 24, .inl (ow_nI (np_cut (np_cut S (2 * x)) (2 * x + 1)).1))), ((nx 1), .inl (cI, 24, .inl (ow_nI (np_cut (np_cut S (2 * x)) (2 * x + 1)).2)))]) hD hS hA [0, 1, 2] rfl
    refine va_callv (va_runV (As := [.int (nI (2 * cn)), .int (nI (2 * x))]) (rest := []) ⟨hx, hb, hml, hown, hts⟩ (kg_X7_rename l dC dI cI cB cJ cZ aX nx (nI cn) (np_cutC (np_cut S (2 * x)) (2 * x + 1) (np_cutC S (2 * x) x8)) x9 x10 (np_cut (np_cut S (2 * x)) (2 * x + 1)) (np_cut_b24 (np_cut_b24 hS0)) (2 * cn) (2 * x) (by omega) (by omega) H.size) (cwV 2 hts gg_X7_removeCrossing_1 rfl rfl rfl (by decide +kernel) ⟨(Nat.le_of_ble_eq_true rfl), (Nat.le_of_ble_eq_true rfl)⟩) ⟨fun a U g mk q => by obtain ⟨q0, q1, qP, qK, qD⟩ := q; exact ⟨q0, q1, qP, va_K.moved (u := U) (U := U.calling g mk a) (Vm.Alike.refl U.vm) qK, qD⟩, va_recv hK hPc (ci := 10) (q0 := 0) rfl rfl, fun U hU hW => ⟨rfl, by rw [hU], by rw [hU]; exact hPc, va_K.moved hW.alike hK, hDc.weaken (fun _ _ _ _ => trivial)⟩⟩ rfl rfl hl.1 rfl (lv_room (Nat.le_of_ble_eq_true rfl)) dX7_removeCrossing_44 ⟨(Nat.le_of_ble_eq_true rfl), (Nat.le_of_ble_eq_true rfl)⟩) hS (fun q _ h => hFc q h) hFc (fun u9 t H1 locs ht hvm hw hB hz1 hk1 hS => ?_)
    obtain ⟨hP1, hD1⟩ := hB
    rw [ht] at hP1
    obtain ⟨hP, hD⟩ := va_join (wr := [((nx 2), .inl (cI, 12, .inl G))]) (w1 := [(aX, .inr (10, [.ref (nx 0), .ref (nx 1), .ref (nx 2), .ref (nx 3), .ref (nx 4), .ref (nx 5), .ref (nx 6), .int (nI cn), .int (np_cutC (np_cut S (2 * x)) (2 * x + 1) (np_cutC S (2 * x) x8)), .int x9, .int x10])), ((nx 0), .inl (cI, 24, .inl (ow_nI (np_rename (np_cut (np_cut S (2 * x)) (2 * x + 1)) (2 * cn) (2 * x)).1))), ((nx 1), .inl (cI, 24, .inl (ow_nI (np_rename (np_cut (np_cut S (2 * x)) (2 * x + 1)) (2 * cn) (2 * x)).2)))]) hP hD [0, 1, 2] [3] rfl rfl (by decide) (by decide) hk1 hFc hP1 hD1
    generalize H1 = H at hP hS ⊢
    have hP : va_P (dC, dI) vwCl [((nx 2), .inl (cI, 12, .inl G)), (aX, .inr (10, [.ref (nx 0), .ref (nx 1), .ref (nx 2), .ref (nx 3), .ref (nx 4), .ref (nx 5), .ref (nx 6), .int (nI cn), .int (np_cutC (np_cut S (2 * x)) (2 * x + 1) (np_cutC S (2 * x) x8)), .int x9, .int x10])), ((nx 0), .inl (cI, 24, .inl (ow_nI (np_rename (np_cut (np_cut S (2 * x)) (2 * x + 1)) (2 * cn) (2 * x)).1))), ((nx 1), .inl (cI, 24, .inl (ow_nI (np_rename (np_cut (np_cut S (2 * x)) (2 * x + 1)) (2 * cn) (2 * x)).2)))] H := hP
    have hD : va_D A [((nx 2), .inl (cI, 12, .inl G)), (aX, .inr (10, [.ref (nx 0), .ref (nx 1), .ref (nx 2), .ref (nx 3), .ref (nx 4), .ref (nx 5), .ref (nx 6), .int (nI cn), .int (np_cutC (np_cut S (2 * x)) (2 * x + 1) (np_cutC S (2 * x) x8)), .int x9, .int x10])), ((nx 0), .inl (cI, 24, .inl (ow_nI (np_rename (np_cut (np_cut S (2 * x)) (2 * x + 1)) (2 * cn) (2 * x)).1))), ((nx 1), .inl (cI, 24, .inl (ow_nI (np_rename (np_cut (np_cut S (2 * x)) (2 * x + 1)) (2 * cn) (2 * x)).2)))] := hD
    have hP := hP.sub (ws' := [(aX, .inr (10, [.ref (nx 0), .ref (nx 1), .ref (nx 2), .ref (nx 3), .ref (nx 4), .ref (nx 5), .ref (nx 6), .int (nI cn), .int (np_cutC (np_cut S (2 * x)) (2 * x + 1) (np_cutC S (2 * x) x8)), .int x9, .int x10])), ((nx 0), .inl (cI, 24, .inl (ow_nI (np_rename (np_cut (np_cut S (2 * x)) (2 * x + 1)) (2 * cn) (2 * x)).1))), ((nx 1), .inl (cI, 24, .inl (ow_nI (np_rename (np_cut (np_cut S (2 * x)) (2 * x + 1)) (2 * cn) (2 * x)).2))), ((nx 2), .inl (cI, 12, .inl G))]) [1, 2, 3, 0] rfl
    have hD := hD.sub (ws' := [(aX, .inr (10, [.ref (nx 0), .ref (nx 1), .ref (nx 2), .ref (nx 3), .ref (nx 4), .ref (nx 5), .ref (nx 6), .int (nI cn), .int (np_cutC (np_cut S (2 * x)) (2 * x + 1) (np_cutC S (2 * x) x8)), .int x9, .int x10])), ((nx 0), .inl (cI, 24, .inl (ow_nI (np_rename (np_cut (np_cut S (2 * x)) (2 * x + 1)) (2 * cn) (2 * x)).1))), ((nx 1), .inl (cI, 24, .inl (ow_nI (np_rename (np_cut (np_cut S (2 * x)) (2 * x + 1)) (2 * cn) (2 * x)).2))), ((nx 2), .inl (cI, 12, .inl G))]) [1, 2, 3, 0] (by decide) rfl
    refine lv_aload_n hx hb dX7_removeCrossing_47 rfl (lv_at hl 0 rfl) ?_
    refine lv_iconst (v := 2) hx hb dX7_removeCrossing_48 (by decide) ?_
    refine lv_aload_n hx hb dX7_removeCrossing_49 rfl (lv_at hl 0 rfl) ?_
    refine va_get (D := (dC, dI)) (ci := 10) (v := .int (nI cn)) (C := RX7) (T := TX7) (N := 11) hx hb hts (fun _ h => List.mem_cons_of_mem _ (List.mem_append_left _ (List.mem_append_right _ h))) hown hK hP 0 rfl rfl 7 (by decide) (hts (.fieldLink RX7 39 "KnotHouse$Net" "crossings" "I") (by decide +kernel)) (fun _ h9 => h9) rfl dX7_removeCrossing_50 ?_
    refine lv_imul hx hb dX7_removeCrossing_53 ?_
    refine ow_topi (y := nI (2 * cn)) (pk_mul 2 cn) ?_
    refine lv_iconst (v := 1) hx hb dX7_removeCrossing_54 (by decide) ?_
    refine lv_iadd hx hb dX7_removeCrossing_55 ?_
    refine ow_topi (y := nI (2 * cn + 1)) (nI_1 (2 * cn)) ?_
    refine lv_iconst (v := 2) hx hb dX7_removeCrossing_56 (by decide) ?_
    refine lv_iload_n hx hb dX7_removeCrossing_57 rfl (lv_at hl 1 rfl) ?_
    refine lv_imul hx hb dX7_removeCrossing_58 ?_
    refine ow_topi (y := nI (2 * x)) (pk_mul 2 x) ?_
    refine lv_iconst (v := 1) hx hb dX7_removeCrossing_59 (by decide) ?_
    refine lv_iadd hx hb dX7_removeCrossing_60 ?_
    refine ow_topi (y := nI (2 * x + 1)) (nI_1 (2 * x)) ?_
    have hPc := hP.sub (ws' := [(aX, .inr (10, [.ref (nx 0), .ref (nx 1), .ref (nx 2), .ref (nx 3), .ref (nx 4), .ref (nx 5), .ref (nx 6), .int (nI cn), .int (np_cutC (np_cut S (2 * x)) (2 * x + 1) (np_cutC S (2 * x) x8)), .int x9, .int x10])), ((nx 0), .inl (cI, 24, .inl (ow_nI (np_rename (np_cut (np_cut S (2 * x)) (2 * x + 1)) (2 * cn) (2 * x)).1))), ((nx 1), .inl (cI, 24, .inl (ow_nI (np_rename (np_cut (np_cut S (2 * x)) (2 * x + 1)) (2 * cn) (2 * x)).2)))]) [0, 1, 2] rfl
    have hDc := hD.sub (ws' := [(aX, .inr (10, [.ref (nx 0), .ref (nx 1), .ref (nx 2), .ref (nx 3), .ref (nx 4), .ref (nx 5), .ref (nx 6), .int (nI cn), .int (np_cutC (np_cut S (2 * x)) (2 * x + 1) (np_cutC S (2 * x) x8)), .int x9, .int x10])), ((nx 0), .inl (cI, 24, .inl (ow_nI (np_rename (np_cut (np_cut S (2 * x)) (2 * x + 1)) (2 * cn) (2 * x)).1))), ((nx 1), .inl (cI, 24, .inl (ow_nI (np_rename (np_cut (np_cut S (2 * x)) (2 * x + 1)) (2 * cn) (2 * x)).2)))]) [0, 1, 2] (by decide) rfl
    have hFc := va_free (wc := [(aX, .inr (10, [.ref (nx 0), .ref (nx 1), .ref (nx 2), .ref (nx 3), .ref (nx 4), .ref (nx 5), .ref (nx 6), .int (nI cn), .int (np_cutC (np_cut S (2 * x)) (2 * x + 1) (np_cutC S (2 * x) x8)), .int x9, .int x10])), ((nx 0), .inl (cI, 24, .inl (ow_nI (np_rename (np_cut (np_cut S (2 * x)) (2 * x + 1)) (2 * cn) (2 * x)).1))), ((nx 1), .inl (cI, 24, .inl (ow_nI (np_rename (np_cut (np_cut S (2 * x)) (2 * x + 1)) (2 * cn) (2 * x)).2)))]) hD hS hA [0, 1, 2] rfl
    refine va_callv (va_runV (As := [.int (nI (2 * cn + 1)), .int (nI (2 * x + 1))]) (rest := []) ⟨hx, hb, hml, hown, hts⟩ (kg_X7_rename l dC dI cI cB cJ cZ aX nx (nI cn) (np_cutC (np_cut S (2 * x)) (2 * x + 1) (np_cutC S (2 * x) x8)) x9 x10 (np_rename (np_cut (np_cut S (2 * x)) (2 * x + 1)) (2 * cn) (2 * x)) (np_rename_b24 (np_cut_b24 (np_cut_b24 hS0)) (by omega)) (2 * cn + 1) (2 * x + 1) (by omega) (by omega) H.size) (cwV 2 hts gg_X7_removeCrossing_1 rfl rfl rfl (by decide +kernel) ⟨(Nat.le_of_ble_eq_true rfl), (Nat.le_of_ble_eq_true rfl)⟩) ⟨fun a U g mk q => by obtain ⟨q0, q1, qP, qK, qD⟩ := q; exact ⟨q0, q1, qP, va_K.moved (u := U) (U := U.calling g mk a) (Vm.Alike.refl U.vm) qK, qD⟩, va_recv hK hPc (ci := 10) (q0 := 0) rfl rfl, fun U hU hW => ⟨rfl, by rw [hU], by rw [hU]; exact hPc, va_K.moved hW.alike hK, hDc.weaken (fun _ _ _ _ => trivial)⟩⟩ rfl rfl hl.1 rfl (lv_room (Nat.le_of_ble_eq_true rfl)) dX7_removeCrossing_61 ⟨(Nat.le_of_ble_eq_true rfl), (Nat.le_of_ble_eq_true rfl)⟩) hS (fun q _ h => hFc q h) hFc (fun u9 t H1 locs ht hvm hw hB hz1 hk1 hS => ?_)
    obtain ⟨hP1, hD1⟩ := hB
    rw [ht] at hP1
    obtain ⟨hP, hD⟩ := va_join (wr := [((nx 2), .inl (cI, 12, .inl G))]) (w1 := [(aX, .inr (10, [.ref (nx 0), .ref (nx 1), .ref (nx 2), .ref (nx 3), .ref (nx 4), .ref (nx 5), .ref (nx 6), .int (nI cn), .int (np_cutC (np_cut S (2 * x)) (2 * x + 1) (np_cutC S (2 * x) x8)), .int x9, .int x10])), ((nx 0), .inl (cI, 24, .inl (ow_nI (np_rename (np_rename (np_cut (np_cut S (2 * x)) (2 * x + 1)) (2 * cn) (2 * x)) (2 * cn + 1) (2 * x + 1)).1))), ((nx 1), .inl (cI, 24, .inl (ow_nI (np_rename (np_rename (np_cut (np_cut S (2 * x)) (2 * x + 1)) (2 * cn) (2 * x)) (2 * cn + 1) (2 * x + 1)).2)))]) hP hD [0, 1, 2] [3] rfl rfl (by decide) (by decide) hk1 hFc hP1 hD1
    generalize H1 = H at hP hS ⊢
    have hP : va_P (dC, dI) vwCl [((nx 2), .inl (cI, 12, .inl G)), (aX, .inr (10, [.ref (nx 0), .ref (nx 1), .ref (nx 2), .ref (nx 3), .ref (nx 4), .ref (nx 5), .ref (nx 6), .int (nI cn), .int (np_cutC (np_cut S (2 * x)) (2 * x + 1) (np_cutC S (2 * x) x8)), .int x9, .int x10])), ((nx 0), .inl (cI, 24, .inl (ow_nI (np_rename (np_rename (np_cut (np_cut S (2 * x)) (2 * x + 1)) (2 * cn) (2 * x)) (2 * cn + 1) (2 * x + 1)).1))), ((nx 1), .inl (cI, 24, .inl (ow_nI (np_rename (np_rename (np_cut (np_cut S (2 * x)) (2 * x + 1)) (2 * cn) (2 * x)) (2 * cn + 1) (2 * x + 1)).2)))] H := hP
    have hD : va_D A [((nx 2), .inl (cI, 12, .inl G)), (aX, .inr (10, [.ref (nx 0), .ref (nx 1), .ref (nx 2), .ref (nx 3), .ref (nx 4), .ref (nx 5), .ref (nx 6), .int (nI cn), .int (np_cutC (np_cut S (2 * x)) (2 * x + 1) (np_cutC S (2 * x) x8)), .int x9, .int x10])), ((nx 0), .inl (cI, 24, .inl (ow_nI (np_rename (np_rename (np_cut (np_cut S (2 * x)) (2 * x + 1)) (2 * cn) (2 * x)) (2 * cn + 1) (2 * x + 1)).1))), ((nx 1), .inl (cI, 24, .inl (ow_nI (np_rename (np_rename (np_cut (np_cut S (2 * x)) (2 * x + 1)) (2 * cn) (2 * x)) (2 * cn + 1) (2 * x + 1)).2)))] := hD
    have hP := hP.sub (ws' := [(aX, .inr (10, [.ref (nx 0), .ref (nx 1), .ref (nx 2), .ref (nx 3), .ref (nx 4), .ref (nx 5), .ref (nx 6), .int (nI cn), .int (np_cutC (np_cut S (2 * x)) (2 * x + 1) (np_cutC S (2 * x) x8)), .int x9, .int x10])), ((nx 0), .inl (cI, 24, .inl (ow_nI (np_rename (np_rename (np_cut (np_cut S (2 * x)) (2 * x + 1)) (2 * cn) (2 * x)) (2 * cn + 1) (2 * x + 1)).1))), ((nx 1), .inl (cI, 24, .inl (ow_nI (np_rename (np_rename (np_cut (np_cut S (2 * x)) (2 * x + 1)) (2 * cn) (2 * x)) (2 * cn + 1) (2 * x + 1)).2))), ((nx 2), .inl (cI, 12, .inl G))]) [1, 2, 3, 0] rfl
    have hD := hD.sub (ws' := [(aX, .inr (10, [.ref (nx 0), .ref (nx 1), .ref (nx 2), .ref (nx 3), .ref (nx 4), .ref (nx 5), .ref (nx 6), .int (nI cn), .int (np_cutC (np_cut S (2 * x)) (2 * x + 1) (np_cutC S (2 * x) x8)), .int x9, .int x10])), ((nx 0), .inl (cI, 24, .inl (ow_nI (np_rename (np_rename (np_cut (np_cut S (2 * x)) (2 * x + 1)) (2 * cn) (2 * x)) (2 * cn + 1) (2 * x + 1)).1))), ((nx 1), .inl (cI, 24, .inl (ow_nI (np_rename (np_rename (np_cut (np_cut S (2 * x)) (2 * x + 1)) (2 * cn) (2 * x)) (2 * cn + 1) (2 * x + 1)).2))), ((nx 2), .inl (cI, 12, .inl G))]) [1, 2, 3, 0] (by decide) rfl
    refine lv_aload_n hx hb dX7_removeCrossing_64 rfl (lv_at hl 0 rfl) ?_
    refine va_get (D := (dC, dI)) (ci := 10) (v := .ref (nx 2)) (C := RX7) (T := TX7) (N := 11) hx hb hts (fun _ h => List.mem_cons_of_mem _ (List.mem_append_left _ (List.mem_append_right _ h))) hown hK hP 0 rfl rfl 2 (by decide) (hts (.fieldLink RX7 18 "KnotHouse$Net" "sign" "[I") (by decide +kernel)) (fun _ h9 => h9) rfl dX7_removeCrossing_65 ?_
    refine lv_iload_n hx hb dX7_removeCrossing_68 rfl (lv_at hl 1 rfl) ?_
    refine lv_aload_n hx hb dX7_removeCrossing_69 rfl (lv_at hl 0 rfl) ?_
    refine va_get (D := (dC, dI)) (ci := 10) (v := .ref (nx 2)) (C := RX7) (T := TX7) (N := 11) hx hb hts (fun _ h => List.mem_cons_of_mem _ (List.mem_append_left _ (List.mem_append_right _ h))) hown hK hP 0 rfl rfl 2 (by decide) (hts (.fieldLink RX7 18 "KnotHouse$Net" "sign" "[I") (by decide +kernel)) (fun _ h9 => h9) rfl dX7_removeCrossing_70 ?_
    refine lv_aload_n hx hb dX7_removeCrossing_73 rfl (lv_at hl 0 rfl) ?_
    refine va_get (D := (dC, dI)) (ci := 10) (v := .int (nI cn)) (C := RX7) (T := TX7) (N := 11) hx hb hts (fun _ h => List.mem_cons_of_mem _ (List.mem_append_left _ (List.mem_append_right _ h))) hown hK hP 0 rfl rfl 7 (by decide) (hts (.fieldLink RX7 39 "KnotHouse$Net" "crossings" "I") (by decide +kernel)) (fun _ h9 => h9) rfl dX7_removeCrossing_74 ?_
    refine va_iald hx hb hK hP 3 0 rfl rfl (vp_in_nI (n := cn) (N := 12) (by omega) (by decide)) dX7_removeCrossing_77 ?_
    refine ow_topi (y := G cn) (congrArg G (nI_clamp (n := cn) (Nat.lt_trans (m := 12) (by omega) (by decide)))) ?_
    refine ow_iastF (j := x) (x := G cn) hx hb hK hP hD hS 3 0 rfl rfl (by omega) (by decide) dX7_removeCrossing_78 (fun H locs hP hD hS => ?_)
    have hP : va_P (dC, dI) vwCl [(aX, .inr (10, [.ref (nx 0), .ref (nx 1), .ref (nx 2), .ref (nx 3), .ref (nx 4), .ref (nx 5), .ref (nx 6), .int (nI cn), .int (np_cutC (np_cut S (2 * x)) (2 * x + 1) (np_cutC S (2 * x) x8)), .int x9, .int x10])), ((nx 0), .inl (cI, 24, .inl (ow_nI (np_rename (np_rename (np_cut (np_cut S (2 * x)) (2 * x + 1)) (2 * cn) (2 * x)) (2 * cn + 1) (2 * x + 1)).1))), ((nx 1), .inl (cI, 24, .inl (ow_nI (np_rename (np_rename (np_cut (np_cut S (2 * x)) (2 * x + 1)) (2 * cn) (2 * x)) (2 * cn + 1) (2 * x + 1)).2))), ((nx 2), .inl (cI, 12, .inl (su G x (G cn))))] H := hP
    have hD : va_D A [(aX, .inr (10, [.ref (nx 0), .ref (nx 1), .ref (nx 2), .ref (nx 3), .ref (nx 4), .ref (nx 5), .ref (nx 6), .int (nI cn), .int (np_cutC (np_cut S (2 * x)) (2 * x + 1) (np_cutC S (2 * x) x8)), .int x9, .int x10])), ((nx 0), .inl (cI, 24, .inl (ow_nI (np_rename (np_rename (np_cut (np_cut S (2 * x)) (2 * x + 1)) (2 * cn) (2 * x)) (2 * cn + 1) (2 * x + 1)).1))), ((nx 1), .inl (cI, 24, .inl (ow_nI (np_rename (np_rename (np_cut (np_cut S (2 * x)) (2 * x + 1)) (2 * cn) (2 * x)) (2 * cn + 1) (2 * x + 1)).2))), ((nx 2), .inl (cI, 12, .inl (su G x (G cn))))] := hD
    have hP : va_P (dC, dI) vwCl [(aX, .inr (10, [.ref (nx 0), .ref (nx 1), .ref (nx 2), .ref (nx 3), .ref (nx 4), .ref (nx 5), .ref (nx 6), .int (nI cn), .int (np_rmC S x x8), .int x9, .int x10])), ((nx 0), .inl (cI, 24, .inl (ow_nI (np_rmS S x cn).1))), ((nx 1), .inl (cI, 24, .inl (ow_nI (np_rmS S x cn).2))), ((nx 2), .inl (cI, 12, .inl (np_rmG G x cn)))] H := by rw [show np_rmS S x cn = np_rename (np_rename (np_cut (np_cut S (2 * x)) (2 * x + 1)) (2 * cn) (2 * x)) (2 * cn + 1) (2 * x + 1) from if_neg hne, show np_rmG G x cn = su G x (G cn) from if_neg hne]; exact hP
    have hD : va_D A [(aX, .inr (10, [.ref (nx 0), .ref (nx 1), .ref (nx 2), .ref (nx 3), .ref (nx 4), .ref (nx 5), .ref (nx 6), .int (nI cn), .int (np_rmC S x x8), .int x9, .int x10])), ((nx 0), .inl (cI, 24, .inl (ow_nI (np_rmS S x cn).1))), ((nx 1), .inl (cI, 24, .inl (ow_nI (np_rmS S x cn).2))), ((nx 2), .inl (cI, 12, .inl (np_rmG G x cn)))] := by rw [show np_rmS S x cn = np_rename (np_rename (np_cut (np_cut S (2 * x)) (2 * x + 1)) (2 * cn) (2 * x)) (2 * cn + 1) (2 * x + 1) from if_neg hne, show np_rmG G x cn = su G x (G cn) from if_neg hne]; exact hD
    rw [hQQ]
    exact W.vret hx hb hr (fun t ht hW => ⟨⟨(), rfl, trivial, by rw [ht]; exact hP, hD⟩, hS.F ht⟩) hS.2.2 dX7_removeCrossing_79
theorem dX7_smoothCrossing_0 : decode cX7_smoothCrossing 0 = .ok (.aload_n 0, 1) := by decide +kernel
theorem dX7_smoothCrossing_1 : decode cX7_smoothCrossing 1 = .ok (.iconst 2, 1) := by decide +kernel
theorem dX7_smoothCrossing_2 : decode cX7_smoothCrossing 2 = .ok (.iload_n 1, 1) := by decide +kernel
theorem dX7_smoothCrossing_3 : decode cX7_smoothCrossing 3 = .ok (.imul, 1) := by decide +kernel
theorem dX7_smoothCrossing_4 : decode cX7_smoothCrossing 4 = .ok (.iconst 2, 1) := by decide +kernel
theorem dX7_smoothCrossing_5 : decode cX7_smoothCrossing 5 = .ok (.iload_n 1, 1) := by decide +kernel
theorem dX7_smoothCrossing_6 : decode cX7_smoothCrossing 6 = .ok (.imul, 1) := by decide +kernel
theorem dX7_smoothCrossing_7 : decode cX7_smoothCrossing 7 = .ok (.iconst 1, 1) := by decide +kernel
theorem dX7_smoothCrossing_8 : decode cX7_smoothCrossing 8 = .ok (.iadd, 1) := by decide +kernel
theorem dX7_smoothCrossing_9 : decode cX7_smoothCrossing 9 = .ok (.invokevirtual 71, 3) := by decide +kernel
theorem dX7_smoothCrossing_12 : decode cX7_smoothCrossing 12 = .ok (.aload_n 0, 1) := by decide +kernel
theorem dX7_smoothCrossing_13 : decode cX7_smoothCrossing 13 = .ok (.iload_n 1, 1) := by decide +kernel
theorem dX7_smoothCrossing_14 : decode cX7_smoothCrossing 14 = .ok (.invokevirtual 74, 3) := by decide +kernel
theorem dX7_smoothCrossing_17 : decode cX7_smoothCrossing 17 = .ok (.return_, 1) := by decide +kernel
def wg_X7_smoothCrossing : List Cond := .code yX7_smoothCrossing cX7_smoothCrossing 2 none :: ([] ++ wsX70 ++ (wsV RX7 71 RX7 yX7_exchange wg_X7_exchange ++ (wsV RX7 74 RX7 yX7_removeCrossing wg_X7_removeCrossing ++ [])))
theorem gg_X7_smoothCrossing_0 : GoodIn wg_X7_smoothCrossing (wsV RX7 71 RX7 yX7_exchange wg_X7_exchange) := goodIn_sub (fun _ h => List.mem_cons_of_mem _ (List.mem_append_right _ (List.mem_append_left _ h))) (by decide +kernel)
theorem gg_X7_smoothCrossing_1 : GoodIn wg_X7_smoothCrossing (wsV RX7 74 RX7 yX7_removeCrossing wg_X7_removeCrossing) := goodIn_sub (fun _ h => List.mem_cons_of_mem _ (List.mem_append_right _ (List.mem_append_right _ (List.mem_append_left _ h)))) (by decide +kernel)
set_option maxHeartbeats 4000000 in
set_option maxRecDepth 100000 in
theorem kg_X7_smoothCrossing (l : Launch) (dC : Nat → ClassId) (dI : Nat → Nat → Nat) (cI cB cJ cZ : ClassId) (aX : Nat) (nx : Nat → Nat) (x8 x9 x10 : Int32) (S : ow_NP) (hS0 : ow_b24 S) (G : Nat → Int32) (x cn : Nat) (hc : cn < 12) (hxc : x ≤ cn) (sz : Nat) : Met l yX7_smoothCrossing wg_X7_smoothCrossing (({ frames := 3, cells := 0, slots := 0, locals := 65 } : Room)) (va_Pc [.ref aX, .int (nI x)] (fun U => U.heap.size = sz ∧ va_P (dC, dI) vwCl [(aX, .inr (10, [.ref (nx 0), .ref (nx 1), .ref (nx 2), .ref (nx 3), .ref (nx 4), .ref (nx 5), .ref (nx 6), .int (nI (cn + 1)), .int x8, .int x9, .int x10])), ((nx 0), .inl (cI, 24, .inl (ow_nI S.1))), ((nx 1), .inl (cI, 24, .inl (ow_nI S.2))), ((nx 2), .inl (cI, 12, .inl G))] U.heap ∧ va_K (dC, dI) vwCl [(cI, .int), (cB, .byte), (cJ, .long), (cZ, .boolean)] U ∧ va_D (fun _ => True) [(aX, .inr (10, [.ref (nx 0), .ref (nx 1), .ref (nx 2), .ref (nx 3), .ref (nx 4), .ref (nx 5), .ref (nx 6), .int (nI (cn + 1)), .int x8, .int x9, .int x10])), ((nx 0), .inl (cI, 24, .inl (ow_nI S.1))), ((nx 1), .inl (cI, 24, .inl (ow_nI S.2))), ((nx 2), .inl (cI, 12, .inl G))])) (va_Qv (fun (g : Unit) => True) (fun g t => va_P (dC, dI) vwCl [(aX, .inr (10, [.ref (nx 0), .ref (nx 1), .ref (nx 2), .ref (nx 3), .ref (nx 4), .ref (nx 5), .ref (nx 6), .int (nI cn), .int (np_rmC (np_exchange S (2 * x) (2 * x + 1)) x x8), .int x9, .int x10])), ((nx 0), .inl (cI, 24, .inl (ow_nI (np_rmS (np_exchange S (2 * x) (2 * x + 1)) x cn).1))), ((nx 1), .inl (cI, 24, .inl (ow_nI (np_rmS (np_exchange S (2 * x) (2 * x + 1)) x cn).2))), ((nx 2), .inl (cI, 12, .inl (np_rmG G x cn)))] t.heap ∧ va_D (va_A [(aX, .inr (10, [.ref (nx 0), .ref (nx 1), .ref (nx 2), .ref (nx 3), .ref (nx 4), .ref (nx 5), .ref (nx 6), .int (nI (cn + 1)), .int x8, .int x9, .int x10])), ((nx 0), .inl (cI, 24, .inl (ow_nI S.1))), ((nx 1), .inl (cI, 24, .inl (ow_nI S.2))), ((nx 2), .inl (cI, 12, .inl G))] sz) [(aX, .inr (10, [.ref (nx 0), .ref (nx 1), .ref (nx 2), .ref (nx 3), .ref (nx 4), .ref (nx 5), .ref (nx 6), .int (nI cn), .int (np_rmC (np_exchange S (2 * x) (2 * x + 1)) x x8), .int x9, .int x10])), ((nx 0), .inl (cI, 24, .inl (ow_nI (np_rmS (np_exchange S (2 * x) (2 * x + 1)) x cn).1))), ((nx 1), .inl (cI, 24, .inl (ow_nI (np_rmS (np_exchange S (2 * x) (2 * x + 1)) x cn).2))), ((nx 2), .inl (cI, 12, .inl (np_rmG G x cn)))]) (va_A [(aX, .inr (10, [.ref (nx 0), .ref (nx 1), .ref (nx 2), .ref (nx 3), .ref (nx 4), .ref (nx 5), .ref (nx 6), .int (nI (cn + 1)), .int x8, .int x9, .int x10])), ((nx 0), .inl (cI, 24, .inl (ow_nI S.1))), ((nx 1), .inl (cI, 24, .inl (ow_nI S.2))), ((nx 2), .inl (cI, 12, .inl G))] sz)) 0 0 (va_A [(aX, .inr (10, [.ref (nx 0), .ref (nx 1), .ref (nx 2), .ref (nx 3), .ref (nx 4), .ref (nx 5), .ref (nx 6), .int (nI (cn + 1)), .int x8, .int x9, .int x10])), ((nx 0), .inl (cI, 24, .inl (ow_nI S.1))), ((nx 1), .inl (cI, 24, .inl (ow_nI S.2))), ((nx 2), .inl (cI, 12, .inl G))] sz) := by
  refine Met.ofW (cc := cX7_smoothCrossing) (maxL := 2) (ret := none) (by decide) rfl ?_
  intro p e s m args below meth c s₁ B hml hv
  obtain ⟨rfl, hsz, hP, hK, hD0⟩ := hv
  have hx := B.exec
  have hb := B.bytes
  have hr := B.returns
  have hts := atoms_spec (ws := wg_X7_smoothCrossing) B.pre
  have hown : s.vm.findClass RX7 = some m.cls := findClass_of_methodNamed B.named
  have hlocks := B.notSynchronized
  subst hsz
  have hD := hD0.self (sz := s.heap.size)
  generalize hAe : va_A [(aX, .inr (10, [.ref (nx 0), .ref (nx 1), .ref (nx 2), .ref (nx 3), .ref (nx 4), .ref (nx 5), .ref (nx 6), .int (nI (cn + 1)), .int x8, .int x9, .int x10])), ((nx 0), .inl (cI, 24, .inl (ow_nI S.1))), ((nx 1), .inl (cI, 24, .inl (ow_nI S.2))), ((nx 2), .inl (cI, 12, .inl G))] s.heap.size = A at hD ⊢
  have hA : ∀ q : Nat, s.heap.size ≤ q → A q := fun q h => by rw [← hAe]; exact Or.inr h
  have hS : va_S A s.heap s.heap [] := va_S.rf
  have hP : va_P (dC, dI) vwCl [(aX, .inr (10, [.ref (nx 0), .ref (nx 1), .ref (nx 2), .ref (nx 3), .ref (nx 4), .ref (nx 5), .ref (nx 6), .int (nI (cn + 1)), .int x8, .int x9, .int x10])), ((nx 0), .inl (cI, 24, .inl (ow_nI S.1))), ((nx 1), .inl (cI, 24, .inl (ow_nI S.2))), ((nx 2), .inl (cI, 12, .inl G))] s.heap := hP
  have hl := lv_entry ([.ref aX, .int (nI x)]) (n := 2) (Nat.le_of_ble_eq_true rfl)
  rw [lg_entry_eq]
  generalize (lg_sl ([.ref aX, .int (nI x)]) ++ List.replicate (2 - (lg_sl ([.ref aX, .int (nI x)])).length) Slot.unset).toArray = ls at hl ⊢
  have hl : lv_has ls 2 [(0, .ref aX), (1, .int (nI x))] := hl
  refine ow_named (fun QQ hQQ => ?_)
  suffices key9 : ∀ (H : Heap) (locs : List Loc), va_P (dC, dI) vwCl [(aX, .inr (10, [.ref (nx 0), .ref (nx 1), .ref (nx 2), .ref (nx 3), .ref (nx 4), .ref (nx 5), .ref (nx 6), .int (nI (cn + 1)), .int x8, .int x9, .int x10])), ((nx 0), .inl (cI, 24, .inl (ow_nI S.1))), ((nx 1), .inl (cI, 24, .inl (ow_nI S.2))), ((nx 2), .inl (cI, 12, .inl G))] H → va_S A s.heap H locs → W p l e ({ frames := 3, cells := 0, slots := 0, locals := 65 } : Room) s m ([.ref aX, .int (nI x)] : List Value).toArray below meth c H locs 0 0 QQ (F0 m 0 ls []) from key9 s.heap [] hP hS
  intro H locs hP hS
  refine lv_aload_n hx hb dX7_smoothCrossing_0 rfl (lv_at hl 0 rfl) ?_
  refine lv_iconst (v := 2) hx hb dX7_smoothCrossing_1 (by decide) ?_
  refine lv_iload_n hx hb dX7_smoothCrossing_2 rfl (lv_at hl 1 rfl) ?_
  refine lv_imul hx hb dX7_smoothCrossing_3 ?_
  refine ow_topi (y := nI (2 * x)) (pk_mul 2 x) ?_
  refine lv_iconst (v := 2) hx hb dX7_smoothCrossing_4 (by decide) ?_
  refine lv_iload_n hx hb dX7_smoothCrossing_5 rfl (lv_at hl 1 rfl) ?_
  refine lv_imul hx hb dX7_smoothCrossing_6 ?_
  refine ow_topi (y := nI (2 * x)) (pk_mul 2 x) ?_
  refine lv_iconst (v := 1) hx hb dX7_smoothCrossing_7 (by decide) ?_
  refine lv_iadd hx hb dX7_smoothCrossing_8 ?_
  refine ow_topi (y := nI (2 * x + 1)) (nI_1 (2 * x)) ?_
  have hPc := hP.sub (ws' := [(aX, .inr (10, [.ref (nx 0), .ref (nx 1), .ref (nx 2), .ref (nx 3), .ref (nx 4), .ref (nx 5), .ref (nx 6), .int (nI (cn + 1)), .int x8, .int x9, .int x10])), ((nx 0), .inl (cI, 24, .inl (ow_nI S.1))), ((nx 1), .inl (cI, 24, .inl (ow_nI S.2)))]) [0, 1, 2] rfl
  have hDc := hD.sub (ws' := [(aX, .inr (10, [.ref (nx 0), .ref (nx 1), .ref (nx 2), .ref (nx 3), .ref (nx 4), .ref (nx 5), .ref (nx 6), .int (nI (cn + 1)), .int x8, .int x9, .int x10])), ((nx 0), .inl (cI, 24, .inl (ow_nI S.1))), ((nx 1), .inl (cI, 24, .inl (ow_nI S.2)))]) [0, 1, 2] (by decide) rfl
  have hFc := va_free (wc := [(aX, .inr (10, [.ref (nx 0), .ref (nx 1), .ref (nx 2), .ref (nx 3), .ref (nx 4), .ref (nx 5), .ref (nx 6), .int (nI (cn + 1)), .int x8, .int x9, .int x10])), ((nx 0), .inl (cI, 24, .inl (ow_nI S.1))), ((nx 1), .inl (cI, 24, .inl (ow_nI S.2)))]) hD hS hA [0, 1, 2] rfl
  refine va_callv (va_runV (As := [.int (nI (2 * x)), .int (nI (2 * x + 1))]) (rest := []) ⟨hx, hb, hml, hown, hts⟩ (kg_X7_exchange l dC dI cI cB cJ cZ aX nx (nI (cn + 1)) x8 x9 x10 S hS0 (2 * x) (2 * x + 1) (by omega) (by omega) H.size) (cwV 2 hts gg_X7_smoothCrossing_0 rfl rfl rfl (by decide +kernel) ⟨(Nat.le_of_ble_eq_true rfl), (Nat.le_of_ble_eq_true rfl)⟩) ⟨fun a U g mk q => by obtain ⟨q0, q1, qP, qK, qD⟩ := q; exact ⟨q0, q1, qP, va_K.moved (u := U) (U := U.calling g mk a) (Vm.Alike.refl U.vm) qK, qD⟩, va_recv hK hPc (ci := 10) (q0 := 0) rfl rfl, fun U hU hW => ⟨rfl, by rw [hU], by rw [hU]; exact hPc, va_K.moved hW.alike hK, hDc.weaken (fun _ _ _ _ => trivial)⟩⟩ rfl rfl hl.1 rfl (lv_room (Nat.le_of_ble_eq_true rfl)) dX7_smoothCrossing_9 ⟨(Nat.le_of_ble_eq_true rfl), (Nat.le_of_ble_eq_true rfl)⟩) hS (fun q _ h => hFc q h) hFc (fun u9 t H1 locs ht hvm hw hB hz1 hk1 hS => ?_)
  obtain ⟨hP1, hD1⟩ := hB
  rw [ht] at hP1
  obtain ⟨hP, hD⟩ := va_join (wr := [((nx 2), .inl (cI, 12, .inl G))]) (w1 := [(aX, .inr (10, [.ref (nx 0), .ref (nx 1), .ref (nx 2), .ref (nx 3), .ref (nx 4), .ref (nx 5), .ref (nx 6), .int (nI (cn + 1)), .int x8, .int x9, .int x10])), ((nx 0), .inl (cI, 24, .inl (ow_nI (np_exchange S (2 * x) (2 * x + 1)).1))), ((nx 1), .inl (cI, 24, .inl (ow_nI (np_exchange S (2 * x) (2 * x + 1)).2)))]) hP hD [0, 1, 2] [3] rfl rfl (by decide) (by decide) hk1 hFc hP1 hD1
  generalize H1 = H at hP hS ⊢
  have hP : va_P (dC, dI) vwCl [((nx 2), .inl (cI, 12, .inl G)), (aX, .inr (10, [.ref (nx 0), .ref (nx 1), .ref (nx 2), .ref (nx 3), .ref (nx 4), .ref (nx 5), .ref (nx 6), .int (nI (cn + 1)), .int x8, .int x9, .int x10])), ((nx 0), .inl (cI, 24, .inl (ow_nI (np_exchange S (2 * x) (2 * x + 1)).1))), ((nx 1), .inl (cI, 24, .inl (ow_nI (np_exchange S (2 * x) (2 * x + 1)).2)))] H := hP
  have hD : va_D A [((nx 2), .inl (cI, 12, .inl G)), (aX, .inr (10, [.ref (nx 0), .ref (nx 1), .ref (nx 2), .ref (nx 3), .ref (nx 4), .ref (nx 5), .ref (nx 6), .int (nI (cn + 1)), .int x8, .int x9, .int x10])), ((nx 0), .inl (cI, 24, .inl (ow_nI (np_exchange S (2 * x) (2 * x + 1)).1))), ((nx 1), .inl (cI, 24, .inl (ow_nI (np_exchange S (2 * x) (2 * x + 1)).2)))] := hD
  have hP := hP.sub (ws' := [(aX, .inr (10, [.ref (nx 0), .ref (nx 1), .ref (nx 2), .ref (nx 3), .ref (nx 4), .ref (nx 5), .ref (nx 6), .int (nI (cn + 1)), .int x8, .int x9, .int x10])), ((nx 0), .inl (cI, 24, .inl (ow_nI (np_exchange S (2 * x) (2 * x + 1)).1))), ((nx 1), .inl (cI, 24, .inl (ow_nI (np_exchange S (2 * x) (2 * x + 1)).2))), ((nx 2), .inl (cI, 12, .inl G))]) [1, 2, 3, 0] rfl
  have hD := hD.sub (ws' := [(aX, .inr (10, [.ref (nx 0), .ref (nx 1), .ref (nx 2), .ref (nx 3), .ref (nx 4), .ref (nx 5), .ref (nx 6), .int (nI (cn + 1)), .int x8, .int x9, .int x10])), ((nx 0), .inl (cI, 24, .inl (ow_nI (np_exchange S (2 * x) (2 * x + 1)).1))), ((nx 1), .inl (cI, 24, .inl (ow_nI (np_exchange S (2 * x) (2 * x + 1)).2))), ((nx 2), .inl (cI, 12, .inl G))]) [1, 2, 3, 0] (by decide) rfl
  refine lv_aload_n hx hb dX7_smoothCrossing_12 rfl (lv_at hl 0 rfl) ?_
  refine lv_iload_n hx hb dX7_smoothCrossing_13 rfl (lv_at hl 1 rfl) ?_
  have hPc := hP.sub (ws' := [(aX, .inr (10, [.ref (nx 0), .ref (nx 1), .ref (nx 2), .ref (nx 3), .ref (nx 4), .ref (nx 5), .ref (nx 6), .int (nI (cn + 1)), .int x8, .int x9, .int x10])), ((nx 0), .inl (cI, 24, .inl (ow_nI (np_exchange S (2 * x) (2 * x + 1)).1))), ((nx 1), .inl (cI, 24, .inl (ow_nI (np_exchange S (2 * x) (2 * x + 1)).2))), ((nx 2), .inl (cI, 12, .inl G))]) [0, 1, 2, 3] rfl
  have hDc := hD.sub (ws' := [(aX, .inr (10, [.ref (nx 0), .ref (nx 1), .ref (nx 2), .ref (nx 3), .ref (nx 4), .ref (nx 5), .ref (nx 6), .int (nI (cn + 1)), .int x8, .int x9, .int x10])), ((nx 0), .inl (cI, 24, .inl (ow_nI (np_exchange S (2 * x) (2 * x + 1)).1))), ((nx 1), .inl (cI, 24, .inl (ow_nI (np_exchange S (2 * x) (2 * x + 1)).2))), ((nx 2), .inl (cI, 12, .inl G))]) [0, 1, 2, 3] (by decide) rfl
  have hFc := va_free (wc := [(aX, .inr (10, [.ref (nx 0), .ref (nx 1), .ref (nx 2), .ref (nx 3), .ref (nx 4), .ref (nx 5), .ref (nx 6), .int (nI (cn + 1)), .int x8, .int x9, .int x10])), ((nx 0), .inl (cI, 24, .inl (ow_nI (np_exchange S (2 * x) (2 * x + 1)).1))), ((nx 1), .inl (cI, 24, .inl (ow_nI (np_exchange S (2 * x) (2 * x + 1)).2))), ((nx 2), .inl (cI, 12, .inl G))]) hD hS hA [0, 1, 2, 3] rfl
  refine va_callv (va_runV (As := [.int (nI x)]) (rest := []) ⟨hx, hb, hml, hown, hts⟩ (kg_X7_removeCrossing l dC dI cI cB cJ cZ aX nx x8 x9 x10 (np_exchange S (2 * x) (2 * x + 1)) (np_exchange_b24 hS0 (by omega) (by omega)) G x cn hc hxc H.size) (cwV 1 hts gg_X7_smoothCrossing_1 rfl rfl rfl (by decide +kernel) ⟨(Nat.le_of_ble_eq_true rfl), (Nat.le_of_ble_eq_true rfl)⟩) ⟨fun a U g mk q => by obtain ⟨q0, q1, qP, qK, qD⟩ := q; exact ⟨q0, q1, qP, va_K.moved (u := U) (U := U.calling g mk a) (Vm.Alike.refl U.vm) qK, qD⟩, va_recv hK hPc (ci := 10) (q0 := 0) rfl rfl, fun U hU hW => ⟨rfl, by rw [hU], by rw [hU]; exact hPc, va_K.moved hW.alike hK, hDc.weaken (fun _ _ _ _ => trivial)⟩⟩ rfl rfl hl.1 rfl (lv_room (Nat.le_of_ble_eq_true rfl)) dX7_smoothCrossing_14 ⟨(Nat.le_of_ble_eq_true rfl), (Nat.le_of_ble_eq_true rfl)⟩) hS (fun q _ h => hFc q h) hFc (fun u9 t H1 locs ht hvm hw hB hz1 hk1 hS => ?_)
  obtain ⟨hP1, hD1⟩ := hB
  rw [ht] at hP1
  obtain ⟨hP, hD⟩ := va_join (wr := []) (w1 := [(aX, .inr (10, [.ref (nx 0), .ref (nx 1), .ref (nx 2), .ref (nx 3), .ref (nx 4), .ref (nx 5), .ref (nx 6), .int (nI cn), .int (np_rmC (np_exchange S (2 * x) (2 * x + 1)) x x8), .int x9, .int x10])), ((nx 0), .inl (cI, 24, .inl (ow_nI (np_rmS (np_exchange S (2 * x) (2 * x + 1)) x cn).1))), ((nx 1), .inl (cI, 24, .inl (ow_nI (np_rmS (np_exchange S (2 * x) (2 * x + 1)) x cn).2))), ((nx 2), .inl (cI, 12, .inl (np_rmG G x cn)))]) hP hD [0, 1, 2, 3] [] rfl rfl (by decide) (by decide) hk1 hFc hP1 hD1
  generalize H1 = H at hP hS ⊢
  have hP : va_P (dC, dI) vwCl [(aX, .inr (10, [.ref (nx 0), .ref (nx 1), .ref (nx 2), .ref (nx 3), .ref (nx 4), .ref (nx 5), .ref (nx 6), .int (nI cn), .int (np_rmC (np_exchange S (2 * x) (2 * x + 1)) x x8), .int x9, .int x10])), ((nx 0), .inl (cI, 24, .inl (ow_nI (np_rmS (np_exchange S (2 * x) (2 * x + 1)) x cn).1))), ((nx 1), .inl (cI, 24, .inl (ow_nI (np_rmS (np_exchange S (2 * x) (2 * x + 1)) x cn).2))), ((nx 2), .inl (cI, 12, .inl (np_rmG G x cn)))] H := hP
  have hD : va_D A [(aX, .inr (10, [.ref (nx 0), .ref (nx 1), .ref (nx 2), .ref (nx 3), .ref (nx 4), .ref (nx 5), .ref (nx 6), .int (nI cn), .int (np_rmC (np_exchange S (2 * x) (2 * x + 1)) x x8), .int x9, .int x10])), ((nx 0), .inl (cI, 24, .inl (ow_nI (np_rmS (np_exchange S (2 * x) (2 * x + 1)) x cn).1))), ((nx 1), .inl (cI, 24, .inl (ow_nI (np_rmS (np_exchange S (2 * x) (2 * x + 1)) x cn).2))), ((nx 2), .inl (cI, 12, .inl (np_rmG G x cn)))] := hD
  rw [hQQ]
  exact W.vret hx hb hr (fun t ht hW => ⟨⟨(), rfl, trivial, by rw [ht]; exact hP, hD⟩, hS.F ht⟩) hS.2.2 dX7_smoothCrossing_17
theorem dX7_swapped_0 : decode cX7_swapped 0 = .ok (.iload_n 0, 1) := by decide +kernel
theorem dX7_swapped_1 : decode cX7_swapped 1 = .ok (.iload_n 1, 1) := by decide +kernel
theorem dX7_swapped_2 : decode cX7_swapped 2 = .ok (.if_icmp .ne 7, 3) := by decide +kernel
theorem dX7_swapped_5 : decode cX7_swapped 5 = .ok (.iload_n 2, 1) := by decide +kernel
theorem dX7_swapped_6 : decode cX7_swapped 6 = .ok (.goto 13, 3) := by decide +kernel
theorem dX7_swapped_9 : decode cX7_swapped 9 = .ok (.iload_n 0, 1) := by decide +kernel
theorem dX7_swapped_10 : decode cX7_swapped 10 = .ok (.iload_n 2, 1) := by decide +kernel
theorem dX7_swapped_11 : decode cX7_swapped 11 = .ok (.if_icmp .ne 7, 3) := by decide +kernel
theorem dX7_swapped_14 : decode cX7_swapped 14 = .ok (.iload_n 1, 1) := by decide +kernel
theorem dX7_swapped_15 : decode cX7_swapped 15 = .ok (.goto 4, 3) := by decide +kernel
theorem dX7_swapped_18 : decode cX7_swapped 18 = .ok (.iload_n 0, 1) := by decide +kernel
theorem dX7_swapped_19 : decode cX7_swapped 19 = .ok (.ireturn, 1) := by decide +kernel
def wg_X7_swapped : List Cond := .code yX7_swapped cX7_swapped 3 (some .int) :: []
set_option maxHeartbeats 4000000 in
set_option maxRecDepth 100000 in
theorem kg_X7_swapped (l : Launch) (a v w : Nat) (ha : a < 24) (hv : v < 24) (hw0 : w < 24) : Met l yX7_swapped wg_X7_swapped (({ frames := 0, cells := 0, slots := 0, locals := 0 } : Room)) (va_Pc [.int (nI a), .int (nI v), .int (nI w)] (fun _ => True)) (va_Qi (fun r (_ : Unit) => r = nI (np_sw a v w)) (fun _ _ => True) (fun _ => False)) 0 0 (fun _ => False) := by
  refine Met.ofW (cc := cX7_swapped) (maxL := 3) (ret := (some .int)) (by decide) rfl ?_
  intro p e s m args below meth c s₁ B hml hv
  obtain ⟨rfl, hpre⟩ := hv
  have hx := B.exec
  have hb := B.bytes
  have hr := B.returns
  have hts := atoms_spec (ws := wg_X7_swapped) B.pre
  have hown : s.vm.findClass RX7 = some m.cls := findClass_of_methodNamed B.named
  have hlocks := B.notSynchronized
  have hS : va_S (fun _ => False) s.heap s.heap [] := va_S.rf
  have hA : ∀ q : Nat, s.heap.size ≤ q → True := fun _ _ => trivial
  have hl := lv_entry ([.int (nI a), .int (nI v), .int (nI w)]) (n := 3) (Nat.le_of_ble_eq_true rfl)
  rw [lg_entry_eq]
  generalize (lg_sl ([.int (nI a), .int (nI v), .int (nI w)]) ++ List.replicate (3 - (lg_sl ([.int (nI a), .int (nI v), .int (nI w)])).length) Slot.unset).toArray = ls at hl ⊢
  have hl : lv_has ls 3 [(0, .int (nI a)), (1, .int (nI v)), (2, .int (nI w))] := hl
  refine ow_named (fun QQ hQQ => ?_)
  refine lv_iload_n hx hb dX7_swapped_0 rfl (lv_at hl 0 rfl) ?_
  refine lv_iload_n hx hb dX7_swapped_1 rfl (lv_at hl 1 rfl) ?_
  refine lv_icmp_ne (tgt := 9) hx hb dX7_swapped_2 (by decide) (fun c1 => ?_) (fun c1 => ?_)
  · have h1 : ¬ a = v := fun h9 => c1 (congrArg nI h9)
    refine lv_iload_n hx hb dX7_swapped_9 rfl (lv_at hl 0 rfl) ?_
    refine lv_iload_n hx hb dX7_swapped_10 rfl (lv_at hl 2 rfl) ?_
    refine lv_icmp_ne (tgt := 18) hx hb dX7_swapped_11 (by decide) (fun c2 => ?_) (fun c2 => ?_)
    · have h2 : ¬ a = w := fun h9 => c2 (congrArg nI h9)
      refine lv_iload_n hx hb dX7_swapped_18 rfl (lv_at hl 0 rfl) ?_
      rw [hQQ]
      exact W.iret (v := (nI a)) hx hb hr (fun t ht hW => ⟨⟨(nI a), (), rfl, congrArg nI ((if_neg h1).trans (if_neg h2)).symm, trivial⟩, hS.F ht⟩) hS.2.2 dX7_swapped_19
    · have h2 : a = w := ow_nI_inj (by omega) (by omega) c2
      refine lv_iload_n hx hb dX7_swapped_14 rfl (lv_at hl 1 rfl) ?_
      refine lv_goto (tgt := 19) hx hb dX7_swapped_15 (by decide) ?_
      rw [hQQ]
      exact W.iret (v := (nI v)) hx hb hr (fun t ht hW => ⟨⟨(nI v), (), rfl, congrArg nI ((if_neg h1).trans (if_pos h2)).symm, trivial⟩, hS.F ht⟩) hS.2.2 dX7_swapped_19
  · have h1 : a = v := ow_nI_inj (by omega) (by omega) c1
    refine lv_iload_n hx hb dX7_swapped_5 rfl (lv_at hl 2 rfl) ?_
    refine lv_goto (tgt := 19) hx hb dX7_swapped_6 (by decide) ?_
    rw [hQQ]
    exact W.iret (v := (nI w)) hx hb hr (fun t ht hW => ⟨⟨(nI w), (), rfl, congrArg nI (if_pos h1).symm, trivial⟩, hS.F ht⟩) hS.2.2 dX7_swapped_19
theorem dX7_swapPlaces_0 : decode cX7_swapPlaces 0 = .ok (.aload_n 0, 1) := by decide +kernel
theorem dX7_swapPlaces_1 : decode cX7_swapPlaces 1 = .ok (.getfield 15, 3) := by decide +kernel
theorem dX7_swapPlaces_4 : decode cX7_swapPlaces 4 = .ok (.iload_n 1, 1) := by decide +kernel
theorem dX7_swapPlaces_5 : decode cX7_swapPlaces 5 = .ok (.iaload, 1) := by decide +kernel
theorem dX7_swapPlaces_6 : decode cX7_swapPlaces 6 = .ok (.iload_n 1, 1) := by decide +kernel
theorem dX7_swapPlaces_7 : decode cX7_swapPlaces 7 = .ok (.iload_n 2, 1) := by decide +kernel
theorem dX7_swapPlaces_8 : decode cX7_swapPlaces 8 = .ok (.invokestatic 77, 3) := by decide +kernel
theorem dX7_swapPlaces_11 : decode cX7_swapPlaces 11 = .ok (.istore_n 3, 1) := by decide +kernel
theorem dX7_swapPlaces_12 : decode cX7_swapPlaces 12 = .ok (.aload_n 0, 1) := by decide +kernel
theorem dX7_swapPlaces_13 : decode cX7_swapPlaces 13 = .ok (.getfield 9, 3) := by decide +kernel
theorem dX7_swapPlaces_16 : decode cX7_swapPlaces 16 = .ok (.iload_n 1, 1) := by decide +kernel
theorem dX7_swapPlaces_17 : decode cX7_swapPlaces 17 = .ok (.iaload, 1) := by decide +kernel
theorem dX7_swapPlaces_18 : decode cX7_swapPlaces 18 = .ok (.iload_n 1, 1) := by decide +kernel
theorem dX7_swapPlaces_19 : decode cX7_swapPlaces 19 = .ok (.iload_n 2, 1) := by decide +kernel
theorem dX7_swapPlaces_20 : decode cX7_swapPlaces 20 = .ok (.invokestatic 77, 3) := by decide +kernel
theorem dX7_swapPlaces_23 : decode cX7_swapPlaces 23 = .ok (.istore 4, 2) := by decide +kernel
theorem dX7_swapPlaces_25 : decode cX7_swapPlaces 25 = .ok (.aload_n 0, 1) := by decide +kernel
theorem dX7_swapPlaces_26 : decode cX7_swapPlaces 26 = .ok (.getfield 15, 3) := by decide +kernel
theorem dX7_swapPlaces_29 : decode cX7_swapPlaces 29 = .ok (.iload_n 2, 1) := by decide +kernel
theorem dX7_swapPlaces_30 : decode cX7_swapPlaces 30 = .ok (.iaload, 1) := by decide +kernel
theorem dX7_swapPlaces_31 : decode cX7_swapPlaces 31 = .ok (.iload_n 1, 1) := by decide +kernel
theorem dX7_swapPlaces_32 : decode cX7_swapPlaces 32 = .ok (.iload_n 2, 1) := by decide +kernel
theorem dX7_swapPlaces_33 : decode cX7_swapPlaces 33 = .ok (.invokestatic 77, 3) := by decide +kernel
theorem dX7_swapPlaces_36 : decode cX7_swapPlaces 36 = .ok (.istore 5, 2) := by decide +kernel
theorem dX7_swapPlaces_38 : decode cX7_swapPlaces 38 = .ok (.aload_n 0, 1) := by decide +kernel
theorem dX7_swapPlaces_39 : decode cX7_swapPlaces 39 = .ok (.getfield 9, 3) := by decide +kernel
theorem dX7_swapPlaces_42 : decode cX7_swapPlaces 42 = .ok (.iload_n 2, 1) := by decide +kernel
theorem dX7_swapPlaces_43 : decode cX7_swapPlaces 43 = .ok (.iaload, 1) := by decide +kernel
theorem dX7_swapPlaces_44 : decode cX7_swapPlaces 44 = .ok (.iload_n 1, 1) := by decide +kernel
theorem dX7_swapPlaces_45 : decode cX7_swapPlaces 45 = .ok (.iload_n 2, 1) := by decide +kernel
theorem dX7_swapPlaces_46 : decode cX7_swapPlaces 46 = .ok (.invokestatic 77, 3) := by decide +kernel
theorem dX7_swapPlaces_49 : decode cX7_swapPlaces 49 = .ok (.istore 6, 2) := by decide +kernel
theorem dX7_swapPlaces_51 : decode cX7_swapPlaces 51 = .ok (.aload_n 0, 1) := by decide +kernel
theorem dX7_swapPlaces_52 : decode cX7_swapPlaces 52 = .ok (.iload_n 3, 1) := by decide +kernel
theorem dX7_swapPlaces_53 : decode cX7_swapPlaces 53 = .ok (.iload_n 2, 1) := by decide +kernel
theorem dX7_swapPlaces_54 : decode cX7_swapPlaces 54 = .ok (.invokevirtual 54, 3) := by decide +kernel
theorem dX7_swapPlaces_57 : decode cX7_swapPlaces 57 = .ok (.aload_n 0, 1) := by decide +kernel
theorem dX7_swapPlaces_58 : decode cX7_swapPlaces 58 = .ok (.iload_n 2, 1) := by decide +kernel
theorem dX7_swapPlaces_59 : decode cX7_swapPlaces 59 = .ok (.iload 4, 2) := by decide +kernel
theorem dX7_swapPlaces_61 : decode cX7_swapPlaces 61 = .ok (.invokevirtual 54, 3) := by decide +kernel
theorem dX7_swapPlaces_64 : decode cX7_swapPlaces 64 = .ok (.aload_n 0, 1) := by decide +kernel
theorem dX7_swapPlaces_65 : decode cX7_swapPlaces 65 = .ok (.iload 5, 2) := by decide +kernel
theorem dX7_swapPlaces_67 : decode cX7_swapPlaces 67 = .ok (.iload_n 1, 1) := by decide +kernel
theorem dX7_swapPlaces_68 : decode cX7_swapPlaces 68 = .ok (.invokevirtual 54, 3) := by decide +kernel
theorem dX7_swapPlaces_71 : decode cX7_swapPlaces 71 = .ok (.aload_n 0, 1) := by decide +kernel
theorem dX7_swapPlaces_72 : decode cX7_swapPlaces 72 = .ok (.iload_n 1, 1) := by decide +kernel
theorem dX7_swapPlaces_73 : decode cX7_swapPlaces 73 = .ok (.iload 6, 2) := by decide +kernel
theorem dX7_swapPlaces_75 : decode cX7_swapPlaces 75 = .ok (.invokevirtual 54, 3) := by decide +kernel
theorem dX7_swapPlaces_78 : decode cX7_swapPlaces 78 = .ok (.return_, 1) := by decide +kernel
def wg_X7_swapPlaces : List Cond := .code yX7_swapPlaces cX7_swapPlaces 7 none :: ([.fieldLink RX7 9 "KnotHouse$Net" "next" "[I", .fieldLink RX7 15 "KnotHouse$Net" "prev" "[I"] ++ wsX70 ++ (va_wsS RX7 77 yX7_swapped wg_X7_swapped ++ (wsV RX7 54 RX7 yX7_link wg_X7_link ++ [])))
theorem gg_X7_swapPlaces_0 : GoodIn wg_X7_swapPlaces (va_wsS RX7 77 yX7_swapped wg_X7_swapped) := goodIn_sub (fun _ h => List.mem_cons_of_mem _ (List.mem_append_right _ (List.mem_append_left _ h))) (by decide +kernel)
theorem gg_X7_swapPlaces_1 : GoodIn wg_X7_swapPlaces (wsV RX7 54 RX7 yX7_link wg_X7_link) := goodIn_sub (fun _ h => List.mem_cons_of_mem _ (List.mem_append_right _ (List.mem_append_right _ (List.mem_append_left _ h)))) (by decide +kernel)
set_option maxHeartbeats 4000000 in
set_option maxRecDepth 100000 in
theorem kg_X7_swapPlaces (l : Launch) (dC : Nat → ClassId) (dI : Nat → Nat → Nat) (cI cB cJ cZ : ClassId) (aX : Nat) (nx : Nat → Nat) (x7 x8 x9 x10 : Int32) (S : ow_NP) (hS0 : ow_b24 S) (v w : Nat) (hv : v < 24) (hw0 : w < 24) (sz : Nat) : Met l yX7_swapPlaces wg_X7_swapPlaces (({ frames := 1, cells := 0, slots := 0, locals := 22 } : Room)) (va_Pc [.ref aX, .int (nI v), .int (nI w)] (fun U => U.heap.size = sz ∧ va_P (dC, dI) vwCl [(aX, .inr (10, [.ref (nx 0), .ref (nx 1), .ref (nx 2), .ref (nx 3), .ref (nx 4), .ref (nx 5), .ref (nx 6), .int x7, .int x8, .int x9, .int x10])), ((nx 0), .inl (cI, 24, .inl (ow_nI S.1))), ((nx 1), .inl (cI, 24, .inl (ow_nI S.2)))] U.heap ∧ va_K (dC, dI) vwCl [(cI, .int), (cB, .byte), (cJ, .long), (cZ, .boolean)] U ∧ va_D (fun _ => True) [(aX, .inr (10, [.ref (nx 0), .ref (nx 1), .ref (nx 2), .ref (nx 3), .ref (nx 4), .ref (nx 5), .ref (nx 6), .int x7, .int x8, .int x9, .int x10])), ((nx 0), .inl (cI, 24, .inl (ow_nI S.1))), ((nx 1), .inl (cI, 24, .inl (ow_nI S.2)))])) (va_Qv (fun (g : Unit) => True) (fun g t => va_P (dC, dI) vwCl [(aX, .inr (10, [.ref (nx 0), .ref (nx 1), .ref (nx 2), .ref (nx 3), .ref (nx 4), .ref (nx 5), .ref (nx 6), .int x7, .int x8, .int x9, .int x10])), ((nx 0), .inl (cI, 24, .inl (ow_nI (np_swap S v w).1))), ((nx 1), .inl (cI, 24, .inl (ow_nI (np_swap S v w).2)))] t.heap ∧ va_D (va_A [(aX, .inr (10, [.ref (nx 0), .ref (nx 1), .ref (nx 2), .ref (nx 3), .ref (nx 4), .ref (nx 5), .ref (nx 6), .int x7, .int x8, .int x9, .int x10])), ((nx 0), .inl (cI, 24, .inl (ow_nI S.1))), ((nx 1), .inl (cI, 24, .inl (ow_nI S.2)))] sz) [(aX, .inr (10, [.ref (nx 0), .ref (nx 1), .ref (nx 2), .ref (nx 3), .ref (nx 4), .ref (nx 5), .ref (nx 6), .int x7, .int x8, .int x9, .int x10])), ((nx 0), .inl (cI, 24, .inl (ow_nI (np_swap S v w).1))), ((nx 1), .inl (cI, 24, .inl (ow_nI (np_swap S v w).2)))]) (va_A [(aX, .inr (10, [.ref (nx 0), .ref (nx 1), .ref (nx 2), .ref (nx 3), .ref (nx 4), .ref (nx 5), .ref (nx 6), .int x7, .int x8, .int x9, .int x10])), ((nx 0), .inl (cI, 24, .inl (ow_nI S.1))), ((nx 1), .inl (cI, 24, .inl (ow_nI S.2)))] sz)) 0 0 (va_A [(aX, .inr (10, [.ref (nx 0), .ref (nx 1), .ref (nx 2), .ref (nx 3), .ref (nx 4), .ref (nx 5), .ref (nx 6), .int x7, .int x8, .int x9, .int x10])), ((nx 0), .inl (cI, 24, .inl (ow_nI S.1))), ((nx 1), .inl (cI, 24, .inl (ow_nI S.2)))] sz) := by
  refine Met.ofW (cc := cX7_swapPlaces) (maxL := 7) (ret := none) (by decide) rfl ?_
  intro p e s m args below meth c s₁ B hml hv
  obtain ⟨rfl, hsz, hP, hK, hD0⟩ := hv
  have hx := B.exec
  have hb := B.bytes
  have hr := B.returns
  have hts := atoms_spec (ws := wg_X7_swapPlaces) B.pre
  have hown : s.vm.findClass RX7 = some m.cls := findClass_of_methodNamed B.named
  have hlocks := B.notSynchronized
  subst hsz
  have hD := hD0.self (sz := s.heap.size)
  generalize hAe : va_A [(aX, .inr (10, [.ref (nx 0), .ref (nx 1), .ref (nx 2), .ref (nx 3), .ref (nx 4), .ref (nx 5), .ref (nx 6), .int x7, .int x8, .int x9, .int x10])), ((nx 0), .inl (cI, 24, .inl (ow_nI S.1))), ((nx 1), .inl (cI, 24, .inl (ow_nI S.2)))] s.heap.size = A at hD ⊢
  have hA : ∀ q : Nat, s.heap.size ≤ q → A q := fun q h => by rw [← hAe]; exact Or.inr h
  have hS : va_S A s.heap s.heap [] := va_S.rf
  have hP : va_P (dC, dI) vwCl [(aX, .inr (10, [.ref (nx 0), .ref (nx 1), .ref (nx 2), .ref (nx 3), .ref (nx 4), .ref (nx 5), .ref (nx 6), .int x7, .int x8, .int x9, .int x10])), ((nx 0), .inl (cI, 24, .inl (ow_nI S.1))), ((nx 1), .inl (cI, 24, .inl (ow_nI S.2)))] s.heap := hP
  have hl := lv_entry ([.ref aX, .int (nI v), .int (nI w)]) (n := 7) (Nat.le_of_ble_eq_true rfl)
  rw [lg_entry_eq]
  generalize (lg_sl ([.ref aX, .int (nI v), .int (nI w)]) ++ List.replicate (7 - (lg_sl ([.ref aX, .int (nI v), .int (nI w)])).length) Slot.unset).toArray = ls at hl ⊢
  have hl : lv_has ls 7 [(0, .ref aX), (1, .int (nI v)), (2, .int (nI w))] := hl
  refine ow_named (fun QQ hQQ => ?_)
  suffices key9 : ∀ (H : Heap) (locs : List Loc), va_P (dC, dI) vwCl [(aX, .inr (10, [.ref (nx 0), .ref (nx 1), .ref (nx 2), .ref (nx 3), .ref (nx 4), .ref (nx 5), .ref (nx 6), .int x7, .int x8, .int x9, .int x10])), ((nx 0), .inl (cI, 24, .inl (ow_nI S.1))), ((nx 1), .inl (cI, 24, .inl (ow_nI S.2)))] H → va_S A s.heap H locs → W p l e ({ frames := 1, cells := 0, slots := 0, locals := 22 } : Room) s m ([.ref aX, .int (nI v), .int (nI w)] : List Value).toArray below meth c H locs 0 0 QQ (F0 m 0 ls []) from key9 s.heap [] hP hS
  intro H locs hP hS
  refine lv_aload_n hx hb dX7_swapPlaces_0 rfl (lv_at hl 0 rfl) ?_
  refine va_get (D := (dC, dI)) (ci := 10) (v := .ref (nx 1)) (C := RX7) (T := TX7) (N := 11) hx hb hts (fun _ h => List.mem_cons_of_mem _ (List.mem_append_left _ (List.mem_append_right _ h))) hown hK hP 0 rfl rfl 1 (by decide) (hts (.fieldLink RX7 15 "KnotHouse$Net" "prev" "[I") (by decide +kernel)) (fun _ h9 => h9) rfl dX7_swapPlaces_1 ?_
  refine lv_iload_n hx hb dX7_swapPlaces_4 rfl (lv_at hl 1 rfl) ?_
  refine va_iald hx hb hK hP 2 0 rfl rfl (vp_in_nI (n := v) (N := 24) hv (by decide)) dX7_swapPlaces_5 ?_
  refine ow_topi (y := nI (S.2 v)) (ow_nI_at S.2 (Nat.lt_trans (m := 24) hv (by decide))) ?_
  refine lv_iload_n hx hb dX7_swapPlaces_6 rfl (lv_at hl 1 rfl) ?_
  refine lv_iload_n hx hb dX7_swapPlaces_7 rfl (lv_at hl 2 rfl) ?_
  refine va_calli (va_runS (As := [.int (nI (S.2 v)), .int (nI v), .int (nI w)]) (rest := []) ⟨hx, hb, hml, hown, hts⟩ (kg_X7_swapped l (S.2 v) v w (hS0.2 v) hv hw0) (va_cwS 3 hts gg_X7_swapPlaces_0 rfl rfl rfl (by decide +kernel) ⟨(Nat.le_of_ble_eq_true rfl), (Nat.le_of_ble_eq_true rfl)⟩) ⟨fun a U g mk q => q, fun U hU hW => ⟨rfl, trivial⟩⟩ rfl rfl hl.1 rfl (lv_room (Nat.le_of_ble_eq_true rfl)) dX7_swapPlaces_8 ⟨(Nat.le_of_ble_eq_true rfl), (Nat.le_of_ble_eq_true rfl)⟩) hS (fun q _ h => h.elim) (fun q h => h.elim) (fun x1 u t H1 locs ht hvm hw9 hB hz1 hk1 hS => ?_)
  obtain rfl : x1 = nI (np_sw (S.2 v) v w) := hw9
  have hP := hP.kept (fun k9 x9 h9 => hk1 x9.1 ((hP k9 x9 h9).lt) id)
  generalize H1 = H at hP hS ⊢
  refine lv_istore_n (lv' := [(3, .int (nI (np_sw (S.2 v) v w))), (0, .ref aX), (1, .int (nI v)), (2, .int (nI w))]) hx hb dX7_swapPlaces_11 rfl hl (by decide) rfl (fun ls hl => ?_)
  refine lv_aload_n hx hb dX7_swapPlaces_12 rfl (lv_at hl 1 rfl) ?_
  refine va_get (D := (dC, dI)) (ci := 10) (v := .ref (nx 0)) (C := RX7) (T := TX7) (N := 11) hx hb hts (fun _ h => List.mem_cons_of_mem _ (List.mem_append_left _ (List.mem_append_right _ h))) hown hK hP 0 rfl rfl 0 (by decide) (hts (.fieldLink RX7 9 "KnotHouse$Net" "next" "[I") (by decide +kernel)) (fun _ h9 => h9) rfl dX7_swapPlaces_13 ?_
  refine lv_iload_n hx hb dX7_swapPlaces_16 rfl (lv_at hl 2 rfl) ?_
  refine va_iald hx hb hK hP 1 0 rfl rfl (vp_in_nI (n := v) (N := 24) hv (by decide)) dX7_swapPlaces_17 ?_
  refine ow_topi (y := nI (S.1 v)) (ow_nI_at S.1 (Nat.lt_trans (m := 24) hv (by decide))) ?_
  refine lv_iload_n hx hb dX7_swapPlaces_18 rfl (lv_at hl 2 rfl) ?_
  refine lv_iload_n hx hb dX7_swapPlaces_19 rfl (lv_at hl 3 rfl) ?_
  refine va_calli (va_runS (As := [.int (nI (S.1 v)), .int (nI v), .int (nI w)]) (rest := []) ⟨hx, hb, hml, hown, hts⟩ (kg_X7_swapped l (S.1 v) v w (hS0.1 v) hv hw0) (va_cwS 3 hts gg_X7_swapPlaces_0 rfl rfl rfl (by decide +kernel) ⟨(Nat.le_of_ble_eq_true rfl), (Nat.le_of_ble_eq_true rfl)⟩) ⟨fun a U g mk q => q, fun U hU hW => ⟨rfl, trivial⟩⟩ rfl rfl hl.1 rfl (lv_room (Nat.le_of_ble_eq_true rfl)) dX7_swapPlaces_20 ⟨(Nat.le_of_ble_eq_true rfl), (Nat.le_of_ble_eq_true rfl)⟩) hS (fun q _ h => h.elim) (fun q h => h.elim) (fun x2 u t H1 locs ht hvm hw9 hB hz1 hk1 hS => ?_)
  obtain rfl : x2 = nI (np_sw (S.1 v) v w) := hw9
  have hP := hP.kept (fun k9 x9 h9 => hk1 x9.1 ((hP k9 x9 h9).lt) id)
  generalize H1 = H at hP hS ⊢
  refine lv_istore (lv' := [(4, .int (nI (np_sw (S.1 v) v w))), (3, .int (nI (np_sw (S.2 v) v w))), (0, .ref aX), (1, .int (nI v)), (2, .int (nI w))]) hx hb dX7_swapPlaces_23 hl (by decide) rfl (fun ls hl => ?_)
  refine lv_aload_n hx hb dX7_swapPlaces_25 rfl (lv_at hl 2 rfl) ?_
  refine va_get (D := (dC, dI)) (ci := 10) (v := .ref (nx 1)) (C := RX7) (T := TX7) (N := 11) hx hb hts (fun _ h => List.mem_cons_of_mem _ (List.mem_append_left _ (List.mem_append_right _ h))) hown hK hP 0 rfl rfl 1 (by decide) (hts (.fieldLink RX7 15 "KnotHouse$Net" "prev" "[I") (by decide +kernel)) (fun _ h9 => h9) rfl dX7_swapPlaces_26 ?_
  refine lv_iload_n hx hb dX7_swapPlaces_29 rfl (lv_at hl 4 rfl) ?_
  refine va_iald hx hb hK hP 2 0 rfl rfl (vp_in_nI (n := w) (N := 24) hw0 (by decide)) dX7_swapPlaces_30 ?_
  refine ow_topi (y := nI (S.2 w)) (ow_nI_at S.2 (Nat.lt_trans (m := 24) hw0 (by decide))) ?_
  refine lv_iload_n hx hb dX7_swapPlaces_31 rfl (lv_at hl 3 rfl) ?_
  refine lv_iload_n hx hb dX7_swapPlaces_32 rfl (lv_at hl 4 rfl) ?_
  refine va_calli (va_runS (As := [.int (nI (S.2 w)), .int (nI v), .int (nI w)]) (rest := []) ⟨hx, hb, hml, hown, hts⟩ (kg_X7_swapped l (S.2 w) v w (hS0.2 w) hv hw0) (va_cwS 3 hts gg_X7_swapPlaces_0 rfl rfl rfl (by decide +kernel) ⟨(Nat.le_of_ble_eq_true rfl), (Nat.le_of_ble_eq_true rfl)⟩) ⟨fun a U g mk q => q, fun U hU hW => ⟨rfl, trivial⟩⟩ rfl rfl hl.1 rfl (lv_room (Nat.le_of_ble_eq_true rfl)) dX7_swapPlaces_33 ⟨(Nat.le_of_ble_eq_true rfl), (Nat.le_of_ble_eq_true rfl)⟩) hS (fun q _ h => h.elim) (fun q h => h.elim) (fun x3 u t H1 locs ht hvm hw9 hB hz1 hk1 hS => ?_)
  obtain rfl : x3 = nI (np_sw (S.2 w) v w) := hw9
  have hP := hP.kept (fun k9 x9 h9 => hk1 x9.1 ((hP k9 x9 h9).lt) id)
  generalize H1 = H at hP hS ⊢
  refine lv_istore (lv' := [(5, .int (nI (np_sw (S.2 w) v w))), (4, .int (nI (np_sw (S.1 v) v w))), (3, .int (nI (np_sw (S.2 v) v w))), (0, .ref aX), (1, .int (nI v)), (2, .int (nI w))]) hx hb dX7_swapPlaces_36 hl (by decide) rfl (fun ls hl => ?_)
  refine lv_aload_n hx hb dX7_swapPlaces_38 rfl (lv_at hl 3 rfl) ?_
  refine va_get (D := (dC, dI)) (ci := 10) (v := .ref (nx 0)) (C := RX7) (T := TX7) (N := 11) hx hb hts (fun _ h => List.mem_cons_of_mem _ (List.mem_append_left _ (List.mem_append_right _ h))) hown hK hP 0 rfl rfl 0 (by decide) (hts (.fieldLink RX7 9 "KnotHouse$Net" "next" "[I") (by decide +kernel)) (fun _ h9 => h9) rfl dX7_swapPlaces_39 ?_
  refine lv_iload_n hx hb dX7_swapPlaces_42 rfl (lv_at hl 5 rfl) ?_
  refine va_iald hx hb hK hP 1 0 rfl rfl (vp_in_nI (n := w) (N := 24) hw0 (by decide)) dX7_swapPlaces_43 ?_
  refine ow_topi (y := nI (S.1 w)) (ow_nI_at S.1 (Nat.lt_trans (m := 24) hw0 (by decide))) ?_
  refine lv_iload_n hx hb dX7_swapPlaces_44 rfl (lv_at hl 4 rfl) ?_
  refine lv_iload_n hx hb dX7_swapPlaces_45 rfl (lv_at hl 5 rfl) ?_
  refine va_calli (va_runS (As := [.int (nI (S.1 w)), .int (nI v), .int (nI w)]) (rest := []) ⟨hx, hb, hml, hown, hts⟩ (kg_X7_swapped l (S.1 w) v w (hS0.1 w) hv hw0) (va_cwS 3 hts gg_X7_swapPlaces_0 rfl rfl rfl (by decide +kernel) ⟨(Nat.le_of_ble_eq_true rfl), (Nat.le_of_ble_eq_true rfl)⟩) ⟨fun a U g mk q => q, fun U hU hW => ⟨rfl, trivial⟩⟩ rfl rfl hl.1 rfl (lv_room (Nat.le_of_ble_eq_true rfl)) dX7_swapPlaces_46 ⟨(Nat.le_of_ble_eq_true rfl), (Nat.le_of_ble_eq_true rfl)⟩) hS (fun q _ h => h.elim) (fun q h => h.elim) (fun x4 u t H1 locs ht hvm hw9 hB hz1 hk1 hS => ?_)
  obtain rfl : x4 = nI (np_sw (S.1 w) v w) := hw9
  have hP := hP.kept (fun k9 x9 h9 => hk1 x9.1 ((hP k9 x9 h9).lt) id)
  generalize H1 = H at hP hS ⊢
  refine lv_istore (lv' := [(6, .int (nI (np_sw (S.1 w) v w))), (5, .int (nI (np_sw (S.2 w) v w))), (4, .int (nI (np_sw (S.1 v) v w))), (3, .int (nI (np_sw (S.2 v) v w))), (0, .ref aX), (1, .int (nI v)), (2, .int (nI w))]) hx hb dX7_swapPlaces_49 hl (by decide) rfl (fun ls hl => ?_)
  refine lv_aload_n hx hb dX7_swapPlaces_51 rfl (lv_at hl 4 rfl) ?_
  refine lv_iload_n hx hb dX7_swapPlaces_52 rfl (lv_at hl 3 rfl) ?_
  refine lv_iload_n hx hb dX7_swapPlaces_53 rfl (lv_at hl 6 rfl) ?_
  have hPc := hP.sub (ws' := [(aX, .inr (10, [.ref (nx 0), .ref (nx 1), .ref (nx 2), .ref (nx 3), .ref (nx 4), .ref (nx 5), .ref (nx 6), .int x7, .int x8, .int x9, .int x10])), ((nx 0), .inl (cI, 24, .inl (ow_nI S.1))), ((nx 1), .inl (cI, 24, .inl (ow_nI S.2)))]) [0, 1, 2] rfl
  have hDc := hD.sub (ws' := [(aX, .inr (10, [.ref (nx 0), .ref (nx 1), .ref (nx 2), .ref (nx 3), .ref (nx 4), .ref (nx 5), .ref (nx 6), .int x7, .int x8, .int x9, .int x10])), ((nx 0), .inl (cI, 24, .inl (ow_nI S.1))), ((nx 1), .inl (cI, 24, .inl (ow_nI S.2)))]) [0, 1, 2] (by decide) rfl
  have hFc := va_free (wc := [(aX, .inr (10, [.ref (nx 0), .ref (nx 1), .ref (nx 2), .ref (nx 3), .ref (nx 4), .ref (nx 5), .ref (nx 6), .int x7, .int x8, .int x9, .int x10])), ((nx 0), .inl (cI, 24, .inl (ow_nI S.1))), ((nx 1), .inl (cI, 24, .inl (ow_nI S.2)))]) hD hS hA [0, 1, 2] rfl
  refine va_callv (va_runV (As := [.int (nI (np_sw (S.2 v) v w)), .int (nI w)]) (rest := []) ⟨hx, hb, hml, hown, hts⟩ (kg_X7_link l dC dI cI cB cJ cZ aX nx x7 x8 x9 x10 S (np_sw (S.2 v) v w) w (np_sw_lt (hS0.2 v) hv hw0) hw0 H.size) (cwV 2 hts gg_X7_swapPlaces_1 rfl rfl rfl (by decide +kernel) ⟨(Nat.le_of_ble_eq_true rfl), (Nat.le_of_ble_eq_true rfl)⟩) ⟨fun a U g mk q => by obtain ⟨q0, q1, qP, qK, qD⟩ := q; exact ⟨q0, q1, qP, va_K.moved (u := U) (U := U.calling g mk a) (Vm.Alike.refl U.vm) qK, qD⟩, va_recv hK hPc (ci := 10) (q0 := 0) rfl rfl, fun U hU hW => ⟨rfl, by rw [hU], by rw [hU]; exact hPc, va_K.moved hW.alike hK, hDc.weaken (fun _ _ _ _ => trivial)⟩⟩ rfl rfl hl.1 rfl (lv_room (Nat.le_of_ble_eq_true rfl)) dX7_swapPlaces_54 ⟨(Nat.le_of_ble_eq_true rfl), (Nat.le_of_ble_eq_true rfl)⟩) hS (fun q _ h => hFc q h) hFc (fun u9 t H1 locs ht hvm hw hB hz1 hk1 hS => ?_)
  obtain ⟨hP1, hD1⟩ := hB
  rw [ht] at hP1
  obtain ⟨hP, hD⟩ := va_join (wr := []) (w1 := [(aX, .inr (10, [.ref (nx 0), .ref (nx 1), .ref (nx 2), .ref (nx 3), .ref (nx 4), .ref (nx 5), .ref (nx 6), .int x7, .int x8, .int x9, .int x10])), ((nx 0), .inl (cI, 24, .inl (ow_nI (nl S (np_sw (S.2 v) v w) w).1))), ((nx 1), .inl (cI, 24, .inl (ow_nI (nl S (np_sw (S.2 v) v w) w).2)))]) hP hD [0, 1, 2] [] rfl rfl (by decide) (by decide) hk1 hFc hP1 hD1
  generalize H1 = H at hP hS ⊢
  have hP : va_P (dC, dI) vwCl [(aX, .inr (10, [.ref (nx 0), .ref (nx 1), .ref (nx 2), .ref (nx 3), .ref (nx 4), .ref (nx 5), .ref (nx 6), .int x7, .int x8, .int x9, .int x10])), ((nx 0), .inl (cI, 24, .inl (ow_nI (nl S (np_sw (S.2 v) v w) w).1))), ((nx 1), .inl (cI, 24, .inl (ow_nI (nl S (np_sw (S.2 v) v w) w).2)))] H := hP
  have hD : va_D A [(aX, .inr (10, [.ref (nx 0), .ref (nx 1), .ref (nx 2), .ref (nx 3), .ref (nx 4), .ref (nx 5), .ref (nx 6), .int x7, .int x8, .int x9, .int x10])), ((nx 0), .inl (cI, 24, .inl (ow_nI (nl S (np_sw (S.2 v) v w) w).1))), ((nx 1), .inl (cI, 24, .inl (ow_nI (nl S (np_sw (S.2 v) v w) w).2)))] := hD
  refine lv_aload_n hx hb dX7_swapPlaces_57 rfl (lv_at hl 4 rfl) ?_
  refine lv_iload_n hx hb dX7_swapPlaces_58 rfl (lv_at hl 6 rfl) ?_
  refine lv_iload hx hb dX7_swapPlaces_59 (lv_at hl 2 rfl) ?_
  have hPc := hP.sub (ws' := [(aX, .inr (10, [.ref (nx 0), .ref (nx 1), .ref (nx 2), .ref (nx 3), .ref (nx 4), .ref (nx 5), .ref (nx 6), .int x7, .int x8, .int x9, .int x10])), ((nx 0), .inl (cI, 24, .inl (ow_nI (nl S (np_sw (S.2 v) v w) w).1))), ((nx 1), .inl (cI, 24, .inl (ow_nI (nl S (np_sw (S.2 v) v w) w).2)))]) [0, 1, 2] rfl
  have hDc := hD.sub (ws' := [(aX, .inr (10, [.ref (nx 0), .ref (nx 1), .ref (nx 2), .ref (nx 3), .ref (nx 4), .ref (nx 5), .ref (nx 6), .int x7, .int x8, .int x9, .int x10])), ((nx 0), .inl (cI, 24, .inl (ow_nI (nl S (np_sw (S.2 v) v w) w).1))), ((nx 1), .inl (cI, 24, .inl (ow_nI (nl S (np_sw (S.2 v) v w) w).2)))]) [0, 1, 2] (by decide) rfl
  have hFc := va_free (wc := [(aX, .inr (10, [.ref (nx 0), .ref (nx 1), .ref (nx 2), .ref (nx 3), .ref (nx 4), .ref (nx 5), .ref (nx 6), .int x7, .int x8, .int x9, .int x10])), ((nx 0), .inl (cI, 24, .inl (ow_nI (nl S (np_sw (S.2 v) v w) w).1))), ((nx 1), .inl (cI, 24, .inl (ow_nI (nl S (np_sw (S.2 v) v w) w).2)))]) hD hS hA [0, 1, 2] rfl
  refine va_callv (va_runV (As := [.int (nI w), .int (nI (np_sw (S.1 v) v w))]) (rest := []) ⟨hx, hb, hml, hown, hts⟩ (kg_X7_link l dC dI cI cB cJ cZ aX nx x7 x8 x9 x10 (nl S (np_sw (S.2 v) v w) w) w (np_sw (S.1 v) v w) hw0 (np_sw_lt (hS0.1 v) hv hw0) H.size) (cwV 2 hts gg_X7_swapPlaces_1 rfl rfl rfl (by decide +kernel) ⟨(Nat.le_of_ble_eq_true rfl), (Nat.le_of_ble_eq_true rfl)⟩) ⟨fun a U g mk q => by obtain ⟨q0, q1, qP, qK, qD⟩ := q; exact ⟨q0, q1, qP, va_K.moved (u := U) (U := U.calling g mk a) (Vm.Alike.refl U.vm) qK, qD⟩, va_recv hK hPc (ci := 10) (q0 := 0) rfl rfl, fun U hU hW => ⟨rfl, by rw [hU], by rw [hU]; exact hPc, va_K.moved hW.alike hK, hDc.weaken (fun _ _ _ _ => trivial)⟩⟩ rfl rfl hl.1 rfl (lv_room (Nat.le_of_ble_eq_true rfl)) dX7_swapPlaces_61 ⟨(Nat.le_of_ble_eq_true rfl), (Nat.le_of_ble_eq_true rfl)⟩) hS (fun q _ h => hFc q h) hFc (fun u9 t H1 locs ht hvm hw hB hz1 hk1 hS => ?_)
  obtain ⟨hP1, hD1⟩ := hB
  rw [ht] at hP1
  obtain ⟨hP, hD⟩ := va_join (wr := []) (w1 := [(aX, .inr (10, [.ref (nx 0), .ref (nx 1), .ref (nx 2), .ref (nx 3), .ref (nx 4), .ref (nx 5), .ref (nx 6), .int x7, .int x8, .int x9, .int x10])), ((nx 0), .inl (cI, 24, .inl (ow_nI (nl (nl S (np_sw (S.2 v) v w) w) w (np_sw (S.1 v) v w)).1))), ((nx 1), .inl (cI, 24, .inl (ow_nI (nl (nl S (np_sw (S.2 v) v w) w) w (np_sw (S.1 v) v w)).2)))]) hP hD [0, 1, 2] [] rfl rfl (by decide) (by decide) hk1 hFc hP1 hD1
  generalize H1 = H at hP hS ⊢
  have hP : va_P (dC, dI) vwCl [(aX, .inr (10, [.ref (nx 0), .ref (nx 1), .ref (nx 2), .ref (nx 3), .ref (nx 4), .ref (nx 5), .ref (nx 6), .int x7, .int x8, .int x9, .int x10])), ((nx 0), .inl (cI, 24, .inl (ow_nI (nl (nl S (np_sw (S.2 v) v w) w) w (np_sw (S.1 v) v w)).1))), ((nx 1), .inl (cI, 24, .inl (ow_nI (nl (nl S (np_sw (S.2 v) v w) w) w (np_sw (S.1 v) v w)).2)))] H := hP
  have hD : va_D A [(aX, .inr (10, [.ref (nx 0), .ref (nx 1), .ref (nx 2), .ref (nx 3), .ref (nx 4), .ref (nx 5), .ref (nx 6), .int x7, .int x8, .int x9, .int x10])), ((nx 0), .inl (cI, 24, .inl (ow_nI (nl (nl S (np_sw (S.2 v) v w) w) w (np_sw (S.1 v) v w)).1))), ((nx 1), .inl (cI, 24, .inl (ow_nI (nl (nl S (np_sw (S.2 v) v w) w) w (np_sw (S.1 v) v w)).2)))] := hD
  refine lv_aload_n hx hb dX7_swapPlaces_64 rfl (lv_at hl 4 rfl) ?_
  refine lv_iload hx hb dX7_swapPlaces_65 (lv_at hl 1 rfl) ?_
  refine lv_iload_n hx hb dX7_swapPlaces_67 rfl (lv_at hl 5 rfl) ?_
  have hPc := hP.sub (ws' := [(aX, .inr (10, [.ref (nx 0), .ref (nx 1), .ref (nx 2), .ref (nx 3), .ref (nx 4), .ref (nx 5), .ref (nx 6), .int x7, .int x8, .int x9, .int x10])), ((nx 0), .inl (cI, 24, .inl (ow_nI (nl (nl S (np_sw (S.2 v) v w) w) w (np_sw (S.1 v) v w)).1))), ((nx 1), .inl (cI, 24, .inl (ow_nI (nl (nl S (np_sw (S.2 v) v w) w) w (np_sw (S.1 v) v w)).2)))]) [0, 1, 2] rfl
  have hDc := hD.sub (ws' := [(aX, .inr (10, [.ref (nx 0), .ref (nx 1), .ref (nx 2), .ref (nx 3), .ref (nx 4), .ref (nx 5), .ref (nx 6), .int x7, .int x8, .int x9, .int x10])), ((nx 0), .inl (cI, 24, .inl (ow_nI (nl (nl S (np_sw (S.2 v) v w) w) w (np_sw (S.1 v) v w)).1))), ((nx 1), .inl (cI, 24, .inl (ow_nI (nl (nl S (np_sw (S.2 v) v w) w) w (np_sw (S.1 v) v w)).2)))]) [0, 1, 2] (by decide) rfl
  have hFc := va_free (wc := [(aX, .inr (10, [.ref (nx 0), .ref (nx 1), .ref (nx 2), .ref (nx 3), .ref (nx 4), .ref (nx 5), .ref (nx 6), .int x7, .int x8, .int x9, .int x10])), ((nx 0), .inl (cI, 24, .inl (ow_nI (nl (nl S (np_sw (S.2 v) v w) w) w (np_sw (S.1 v) v w)).1))), ((nx 1), .inl (cI, 24, .inl (ow_nI (nl (nl S (np_sw (S.2 v) v w) w) w (np_sw (S.1 v) v w)).2)))]) hD hS hA [0, 1, 2] rfl
  refine va_callv (va_runV (As := [.int (nI (np_sw (S.2 w) v w)), .int (nI v)]) (rest := []) ⟨hx, hb, hml, hown, hts⟩ (kg_X7_link l dC dI cI cB cJ cZ aX nx x7 x8 x9 x10 (nl (nl S (np_sw (S.2 v) v w) w) w (np_sw (S.1 v) v w)) (np_sw (S.2 w) v w) v (np_sw_lt (hS0.2 w) hv hw0) hv H.size) (cwV 2 hts gg_X7_swapPlaces_1 rfl rfl rfl (by decide +kernel) ⟨(Nat.le_of_ble_eq_true rfl), (Nat.le_of_ble_eq_true rfl)⟩) ⟨fun a U g mk q => by obtain ⟨q0, q1, qP, qK, qD⟩ := q; exact ⟨q0, q1, qP, va_K.moved (u := U) (U := U.calling g mk a) (Vm.Alike.refl U.vm) qK, qD⟩, va_recv hK hPc (ci := 10) (q0 := 0) rfl rfl, fun U hU hW => ⟨rfl, by rw [hU], by rw [hU]; exact hPc, va_K.moved hW.alike hK, hDc.weaken (fun _ _ _ _ => trivial)⟩⟩ rfl rfl hl.1 rfl (lv_room (Nat.le_of_ble_eq_true rfl)) dX7_swapPlaces_68 ⟨(Nat.le_of_ble_eq_true rfl), (Nat.le_of_ble_eq_true rfl)⟩) hS (fun q _ h => hFc q h) hFc (fun u9 t H1 locs ht hvm hw hB hz1 hk1 hS => ?_)
  obtain ⟨hP1, hD1⟩ := hB
  rw [ht] at hP1
  obtain ⟨hP, hD⟩ := va_join (wr := []) (w1 := [(aX, .inr (10, [.ref (nx 0), .ref (nx 1), .ref (nx 2), .ref (nx 3), .ref (nx 4), .ref (nx 5), .ref (nx 6), .int x7, .int x8, .int x9, .int x10])), ((nx 0), .inl (cI, 24, .inl (ow_nI (nl (nl (nl S (np_sw (S.2 v) v w) w) w (np_sw (S.1 v) v w)) (np_sw (S.2 w) v w) v).1))), ((nx 1), .inl (cI, 24, .inl (ow_nI (nl (nl (nl S (np_sw (S.2 v) v w) w) w (np_sw (S.1 v) v w)) (np_sw (S.2 w) v w) v).2)))]) hP hD [0, 1, 2] [] rfl rfl (by decide) (by decide) hk1 hFc hP1 hD1
  generalize H1 = H at hP hS ⊢
  have hP : va_P (dC, dI) vwCl [(aX, .inr (10, [.ref (nx 0), .ref (nx 1), .ref (nx 2), .ref (nx 3), .ref (nx 4), .ref (nx 5), .ref (nx 6), .int x7, .int x8, .int x9, .int x10])), ((nx 0), .inl (cI, 24, .inl (ow_nI (nl (nl (nl S (np_sw (S.2 v) v w) w) w (np_sw (S.1 v) v w)) (np_sw (S.2 w) v w) v).1))), ((nx 1), .inl (cI, 24, .inl (ow_nI (nl (nl (nl S (np_sw (S.2 v) v w) w) w (np_sw (S.1 v) v w)) (np_sw (S.2 w) v w) v).2)))] H := hP
  have hD : va_D A [(aX, .inr (10, [.ref (nx 0), .ref (nx 1), .ref (nx 2), .ref (nx 3), .ref (nx 4), .ref (nx 5), .ref (nx 6), .int x7, .int x8, .int x9, .int x10])), ((nx 0), .inl (cI, 24, .inl (ow_nI (nl (nl (nl S (np_sw (S.2 v) v w) w) w (np_sw (S.1 v) v w)) (np_sw (S.2 w) v w) v).1))), ((nx 1), .inl (cI, 24, .inl (ow_nI (nl (nl (nl S (np_sw (S.2 v) v w) w) w (np_sw (S.1 v) v w)) (np_sw (S.2 w) v w) v).2)))] := hD
  refine lv_aload_n hx hb dX7_swapPlaces_71 rfl (lv_at hl 4 rfl) ?_
  refine lv_iload_n hx hb dX7_swapPlaces_72 rfl (lv_at hl 5 rfl) ?_
  refine lv_iload hx hb dX7_swapPlaces_73 (lv_at hl 0 rfl) ?_
  have hPc := hP.sub (ws' := [(aX, .inr (10, [.ref (nx 0), .ref (nx 1), .ref (nx 2), .ref (nx 3), .ref (nx 4), .ref (nx 5), .ref (nx 6), .int x7, .int x8, .int x9, .int x10])), ((nx 0), .inl (cI, 24, .inl (ow_nI (nl (nl (nl S (np_sw (S.2 v) v w) w) w (np_sw (S.1 v) v w)) (np_sw (S.2 w) v w) v).1))), ((nx 1), .inl (cI, 24, .inl (ow_nI (nl (nl (nl S (np_sw (S.2 v) v w) w) w (np_sw (S.1 v) v w)) (np_sw (S.2 w) v w) v).2)))]) [0, 1, 2] rfl
  have hDc := hD.sub (ws' := [(aX, .inr (10, [.ref (nx 0), .ref (nx 1), .ref (nx 2), .ref (nx 3), .ref (nx 4), .ref (nx 5), .ref (nx 6), .int x7, .int x8, .int x9, .int x10])), ((nx 0), .inl (cI, 24, .inl (ow_nI (nl (nl (nl S (np_sw (S.2 v) v w) w) w (np_sw (S.1 v) v w)) (np_sw (S.2 w) v w) v).1))), ((nx 1), .inl (cI, 24, .inl (ow_nI (nl (nl (nl S (np_sw (S.2 v) v w) w) w (np_sw (S.1 v) v w)) (np_sw (S.2 w) v w) v).2)))]) [0, 1, 2] (by decide) rfl
  have hFc := va_free (wc := [(aX, .inr (10, [.ref (nx 0), .ref (nx 1), .ref (nx 2), .ref (nx 3), .ref (nx 4), .ref (nx 5), .ref (nx 6), .int x7, .int x8, .int x9, .int x10])), ((nx 0), .inl (cI, 24, .inl (ow_nI (nl (nl (nl S (np_sw (S.2 v) v w) w) w (np_sw (S.1 v) v w)) (np_sw (S.2 w) v w) v).1))), ((nx 1), .inl (cI, 24, .inl (ow_nI (nl (nl (nl S (np_sw (S.2 v) v w) w) w (np_sw (S.1 v) v w)) (np_sw (S.2 w) v w) v).2)))]) hD hS hA [0, 1, 2] rfl
  refine va_callv (va_runV (As := [.int (nI v), .int (nI (np_sw (S.1 w) v w))]) (rest := []) ⟨hx, hb, hml, hown, hts⟩ (kg_X7_link l dC dI cI cB cJ cZ aX nx x7 x8 x9 x10 (nl (nl (nl S (np_sw (S.2 v) v w) w) w (np_sw (S.1 v) v w)) (np_sw (S.2 w) v w) v) v (np_sw (S.1 w) v w) hv (np_sw_lt (hS0.1 w) hv hw0) H.size) (cwV 2 hts gg_X7_swapPlaces_1 rfl rfl rfl (by decide +kernel) ⟨(Nat.le_of_ble_eq_true rfl), (Nat.le_of_ble_eq_true rfl)⟩) ⟨fun a U g mk q => by obtain ⟨q0, q1, qP, qK, qD⟩ := q; exact ⟨q0, q1, qP, va_K.moved (u := U) (U := U.calling g mk a) (Vm.Alike.refl U.vm) qK, qD⟩, va_recv hK hPc (ci := 10) (q0 := 0) rfl rfl, fun U hU hW => ⟨rfl, by rw [hU], by rw [hU]; exact hPc, va_K.moved hW.alike hK, hDc.weaken (fun _ _ _ _ => trivial)⟩⟩ rfl rfl hl.1 rfl (lv_room (Nat.le_of_ble_eq_true rfl)) dX7_swapPlaces_75 ⟨(Nat.le_of_ble_eq_true rfl), (Nat.le_of_ble_eq_true rfl)⟩) hS (fun q _ h => hFc q h) hFc (fun u9 t H1 locs ht hvm hw hB hz1 hk1 hS => ?_)
  obtain ⟨hP1, hD1⟩ := hB
  rw [ht] at hP1
  obtain ⟨hP, hD⟩ := va_join (wr := []) (w1 := [(aX, .inr (10, [.ref (nx 0), .ref (nx 1), .ref (nx 2), .ref (nx 3), .ref (nx 4), .ref (nx 5), .ref (nx 6), .int x7, .int x8, .int x9, .int x10])), ((nx 0), .inl (cI, 24, .inl (ow_nI (nl (nl (nl (nl S (np_sw (S.2 v) v w) w) w (np_sw (S.1 v) v w)) (np_sw (S.2 w) v w) v) v (np_sw (S.1 w) v w)).1))), ((nx 1), .inl (cI, 24, .inl (ow_nI (nl (nl (nl (nl S (np_sw (S.2 v) v w) w) w (np_sw (S.1 v) v w)) (np_sw (S.2 w) v w) v) v (np_sw (S.1 w) v w)).2)))]) hP hD [0, 1, 2] [] rfl rfl (by decide) (by decide) hk1 hFc hP1 hD1
  generalize H1 = H at hP hS ⊢
  have hP : va_P (dC, dI) vwCl [(aX, .inr (10, [.ref (nx 0), .ref (nx 1), .ref (nx 2), .ref (nx 3), .ref (nx 4), .ref (nx 5), .ref (nx 6), .int x7, .int x8, .int x9, .int x10])), ((nx 0), .inl (cI, 24, .inl (ow_nI (nl (nl (nl (nl S (np_sw (S.2 v) v w) w) w (np_sw (S.1 v) v w)) (np_sw (S.2 w) v w) v) v (np_sw (S.1 w) v w)).1))), ((nx 1), .inl (cI, 24, .inl (ow_nI (nl (nl (nl (nl S (np_sw (S.2 v) v w) w) w (np_sw (S.1 v) v w)) (np_sw (S.2 w) v w) v) v (np_sw (S.1 w) v w)).2)))] H := hP
  have hD : va_D A [(aX, .inr (10, [.ref (nx 0), .ref (nx 1), .ref (nx 2), .ref (nx 3), .ref (nx 4), .ref (nx 5), .ref (nx 6), .int x7, .int x8, .int x9, .int x10])), ((nx 0), .inl (cI, 24, .inl (ow_nI (nl (nl (nl (nl S (np_sw (S.2 v) v w) w) w (np_sw (S.1 v) v w)) (np_sw (S.2 w) v w) v) v (np_sw (S.1 w) v w)).1))), ((nx 1), .inl (cI, 24, .inl (ow_nI (nl (nl (nl (nl S (np_sw (S.2 v) v w) w) w (np_sw (S.1 v) v w)) (np_sw (S.2 w) v w) v) v (np_sw (S.1 w) v w)).2)))] := hD
  rw [hQQ]
  exact W.vret hx hb hr (fun t ht hW => ⟨⟨(), rfl, trivial, by rw [ht]; exact hP, hD⟩, hS.F ht⟩) hS.2.2 dX7_swapPlaces_78
theorem dX7_flipCrossing_0 : decode cX7_flipCrossing 0 = .ok (.aload_n 0, 1) := by decide +kernel
theorem dX7_flipCrossing_1 : decode cX7_flipCrossing 1 = .ok (.iconst 2, 1) := by decide +kernel
theorem dX7_flipCrossing_2 : decode cX7_flipCrossing 2 = .ok (.iload_n 1, 1) := by decide +kernel
theorem dX7_flipCrossing_3 : decode cX7_flipCrossing 3 = .ok (.imul, 1) := by decide +kernel
theorem dX7_flipCrossing_4 : decode cX7_flipCrossing 4 = .ok (.iconst 2, 1) := by decide +kernel
theorem dX7_flipCrossing_5 : decode cX7_flipCrossing 5 = .ok (.iload_n 1, 1) := by decide +kernel
theorem dX7_flipCrossing_6 : decode cX7_flipCrossing 6 = .ok (.imul, 1) := by decide +kernel
theorem dX7_flipCrossing_7 : decode cX7_flipCrossing 7 = .ok (.iconst 1, 1) := by decide +kernel
theorem dX7_flipCrossing_8 : decode cX7_flipCrossing 8 = .ok (.iadd, 1) := by decide +kernel
theorem dX7_flipCrossing_9 : decode cX7_flipCrossing 9 = .ok (.invokevirtual 81, 3) := by decide +kernel
theorem dX7_flipCrossing_12 : decode cX7_flipCrossing 12 = .ok (.aload_n 0, 1) := by decide +kernel
theorem dX7_flipCrossing_13 : decode cX7_flipCrossing 13 = .ok (.getfield 18, 3) := by decide +kernel
theorem dX7_flipCrossing_16 : decode cX7_flipCrossing 16 = .ok (.iload_n 1, 1) := by decide +kernel
theorem dX7_flipCrossing_17 : decode cX7_flipCrossing 17 = .ok (.aload_n 0, 1) := by decide +kernel
theorem dX7_flipCrossing_18 : decode cX7_flipCrossing 18 = .ok (.getfield 18, 3) := by decide +kernel
theorem dX7_flipCrossing_21 : decode cX7_flipCrossing 21 = .ok (.iload_n 1, 1) := by decide +kernel
theorem dX7_flipCrossing_22 : decode cX7_flipCrossing 22 = .ok (.iaload, 1) := by decide +kernel
theorem dX7_flipCrossing_23 : decode cX7_flipCrossing 23 = .ok (.ineg, 1) := by decide +kernel
theorem dX7_flipCrossing_24 : decode cX7_flipCrossing 24 = .ok (.iastore, 1) := by decide +kernel
theorem dX7_flipCrossing_25 : decode cX7_flipCrossing 25 = .ok (.return_, 1) := by decide +kernel
def wg_X7_flipCrossing : List Cond := .code yX7_flipCrossing cX7_flipCrossing 2 none :: ([.fieldLink RX7 18 "KnotHouse$Net" "sign" "[I"] ++ wsX70 ++ (wsV RX7 81 RX7 yX7_swapPlaces wg_X7_swapPlaces ++ []))
theorem gg_X7_flipCrossing_0 : GoodIn wg_X7_flipCrossing (wsV RX7 81 RX7 yX7_swapPlaces wg_X7_swapPlaces) := goodIn_sub (fun _ h => List.mem_cons_of_mem _ (List.mem_append_right _ (List.mem_append_left _ h))) (by decide +kernel)
set_option maxHeartbeats 4000000 in
set_option maxRecDepth 100000 in
theorem kg_X7_flipCrossing (l : Launch) (dC : Nat → ClassId) (dI : Nat → Nat → Nat) (cI cB cJ cZ : ClassId) (aX : Nat) (nx : Nat → Nat) (x7 x8 x9 x10 : Int32) (S : ow_NP) (hS0 : ow_b24 S) (G : Nat → Int32) (x : Nat) (hxc : x < 12) (sz : Nat) : Met l yX7_flipCrossing wg_X7_flipCrossing (({ frames := 2, cells := 0, slots := 0, locals := 48 } : Room)) (va_Pc [.ref aX, .int (nI x)] (fun U => U.heap.size = sz ∧ va_P (dC, dI) vwCl [(aX, .inr (10, [.ref (nx 0), .ref (nx 1), .ref (nx 2), .ref (nx 3), .ref (nx 4), .ref (nx 5), .ref (nx 6), .int x7, .int x8, .int x9, .int x10])), ((nx 0), .inl (cI, 24, .inl (ow_nI S.1))), ((nx 1), .inl (cI, 24, .inl (ow_nI S.2))), ((nx 2), .inl (cI, 12, .inl G))] U.heap ∧ va_K (dC, dI) vwCl [(cI, .int), (cB, .byte), (cJ, .long), (cZ, .boolean)] U ∧ va_D (fun _ => True) [(aX, .inr (10, [.ref (nx 0), .ref (nx 1), .ref (nx 2), .ref (nx 3), .ref (nx 4), .ref (nx 5), .ref (nx 6), .int x7, .int x8, .int x9, .int x10])), ((nx 0), .inl (cI, 24, .inl (ow_nI S.1))), ((nx 1), .inl (cI, 24, .inl (ow_nI S.2))), ((nx 2), .inl (cI, 12, .inl G))])) (va_Qv (fun (g : Unit) => True) (fun g t => va_P (dC, dI) vwCl [(aX, .inr (10, [.ref (nx 0), .ref (nx 1), .ref (nx 2), .ref (nx 3), .ref (nx 4), .ref (nx 5), .ref (nx 6), .int x7, .int x8, .int x9, .int x10])), ((nx 0), .inl (cI, 24, .inl (ow_nI (np_swap S (2 * x) (2 * x + 1)).1))), ((nx 1), .inl (cI, 24, .inl (ow_nI (np_swap S (2 * x) (2 * x + 1)).2))), ((nx 2), .inl (cI, 12, .inl (su G x (-(G x)))))] t.heap ∧ va_D (va_A [(aX, .inr (10, [.ref (nx 0), .ref (nx 1), .ref (nx 2), .ref (nx 3), .ref (nx 4), .ref (nx 5), .ref (nx 6), .int x7, .int x8, .int x9, .int x10])), ((nx 0), .inl (cI, 24, .inl (ow_nI S.1))), ((nx 1), .inl (cI, 24, .inl (ow_nI S.2))), ((nx 2), .inl (cI, 12, .inl G))] sz) [(aX, .inr (10, [.ref (nx 0), .ref (nx 1), .ref (nx 2), .ref (nx 3), .ref (nx 4), .ref (nx 5), .ref (nx 6), .int x7, .int x8, .int x9, .int x10])), ((nx 0), .inl (cI, 24, .inl (ow_nI (np_swap S (2 * x) (2 * x + 1)).1))), ((nx 1), .inl (cI, 24, .inl (ow_nI (np_swap S (2 * x) (2 * x + 1)).2))), ((nx 2), .inl (cI, 12, .inl (su G x (-(G x)))))]) (va_A [(aX, .inr (10, [.ref (nx 0), .ref (nx 1), .ref (nx 2), .ref (nx 3), .ref (nx 4), .ref (nx 5), .ref (nx 6), .int x7, .int x8, .int x9, .int x10])), ((nx 0), .inl (cI, 24, .inl (ow_nI S.1))), ((nx 1), .inl (cI, 24, .inl (ow_nI S.2))), ((nx 2), .inl (cI, 12, .inl G))] sz)) 0 0 (va_A [(aX, .inr (10, [.ref (nx 0), .ref (nx 1), .ref (nx 2), .ref (nx 3), .ref (nx 4), .ref (nx 5), .ref (nx 6), .int x7, .int x8, .int x9, .int x10])), ((nx 0), .inl (cI, 24, .inl (ow_nI S.1))), ((nx 1), .inl (cI, 24, .inl (ow_nI S.2))), ((nx 2), .inl (cI, 12, .inl G))] sz) := by
  refine Met.ofW (cc := cX7_flipCrossing) (maxL := 2) (ret := none) (by decide) rfl ?_
  intro p e s m args below meth c s₁ B hml hv
  obtain ⟨rfl, hsz, hP, hK, hD0⟩ := hv
  have hx := B.exec
  have hb := B.bytes
  have hr := B.returns
  have hts := atoms_spec (ws := wg_X7_flipCrossing) B.pre
  have hown : s.vm.findClass RX7 = some m.cls := findClass_of_methodNamed B.named
  have hlocks := B.notSynchronized
  subst hsz
  have hD := hD0.self (sz := s.heap.size)
  generalize hAe : va_A [(aX, .inr (10, [.ref (nx 0), .ref (nx 1), .ref (nx 2), .ref (nx 3), .ref (nx 4), .ref (nx 5), .ref (nx 6), .int x7, .int x8, .int x9, .int x10])), ((nx 0), .inl (cI, 24, .inl (ow_nI S.1))), ((nx 1), .inl (cI, 24, .inl (ow_nI S.2))), ((nx 2), .inl (cI, 12, .inl G))] s.heap.size = A at hD ⊢
  have hA : ∀ q : Nat, s.heap.size ≤ q → A q := fun q h => by rw [← hAe]; exact Or.inr h
  have hS : va_S A s.heap s.heap [] := va_S.rf
  have hP : va_P (dC, dI) vwCl [(aX, .inr (10, [.ref (nx 0), .ref (nx 1), .ref (nx 2), .ref (nx 3), .ref (nx 4), .ref (nx 5), .ref (nx 6), .int x7, .int x8, .int x9, .int x10])), ((nx 0), .inl (cI, 24, .inl (ow_nI S.1))), ((nx 1), .inl (cI, 24, .inl (ow_nI S.2))), ((nx 2), .inl (cI, 12, .inl G))] s.heap := hP
  have hl := lv_entry ([.ref aX, .int (nI x)]) (n := 2) (Nat.le_of_ble_eq_true rfl)
  rw [lg_entry_eq]
  generalize (lg_sl ([.ref aX, .int (nI x)]) ++ List.replicate (2 - (lg_sl ([.ref aX, .int (nI x)])).length) Slot.unset).toArray = ls at hl ⊢
  have hl : lv_has ls 2 [(0, .ref aX), (1, .int (nI x))] := hl
  refine ow_named (fun QQ hQQ => ?_)
  suffices key9 : ∀ (H : Heap) (locs : List Loc), va_P (dC, dI) vwCl [(aX, .inr (10, [.ref (nx 0), .ref (nx 1), .ref (nx 2), .ref (nx 3), .ref (nx 4), .ref (nx 5), .ref (nx 6), .int x7, .int x8, .int x9, .int x10])), ((nx 0), .inl (cI, 24, .inl (ow_nI S.1))), ((nx 1), .inl (cI, 24, .inl (ow_nI S.2))), ((nx 2), .inl (cI, 12, .inl G))] H → va_S A s.heap H locs → W p l e ({ frames := 2, cells := 0, slots := 0, locals := 48 } : Room) s m ([.ref aX, .int (nI x)] : List Value).toArray below meth c H locs 0 0 QQ (F0 m 0 ls []) from key9 s.heap [] hP hS
  intro H locs hP hS
  refine lv_aload_n hx hb dX7_flipCrossing_0 rfl (lv_at hl 0 rfl) ?_
  refine lv_iconst (v := 2) hx hb dX7_flipCrossing_1 (by decide) ?_
  refine lv_iload_n hx hb dX7_flipCrossing_2 rfl (lv_at hl 1 rfl) ?_
  refine lv_imul hx hb dX7_flipCrossing_3 ?_
  refine ow_topi (y := nI (2 * x)) (pk_mul 2 x) ?_
  refine lv_iconst (v := 2) hx hb dX7_flipCrossing_4 (by decide) ?_
  refine lv_iload_n hx hb dX7_flipCrossing_5 rfl (lv_at hl 1 rfl) ?_
  refine lv_imul hx hb dX7_flipCrossing_6 ?_
  refine ow_topi (y := nI (2 * x)) (pk_mul 2 x) ?_
  refine lv_iconst (v := 1) hx hb dX7_flipCrossing_7 (by decide) ?_
  refine lv_iadd hx hb dX7_flipCrossing_8 ?_
  refine ow_topi (y := nI (2 * x + 1)) (nI_1 (2 * x)) ?_
  have hPc := hP.sub (ws' := [(aX, .inr (10, [.ref (nx 0), .ref (nx 1), .ref (nx 2), .ref (nx 3), .ref (nx 4), .ref (nx 5), .ref (nx 6), .int x7, .int x8, .int x9, .int x10])), ((nx 0), .inl (cI, 24, .inl (ow_nI S.1))), ((nx 1), .inl (cI, 24, .inl (ow_nI S.2)))]) [0, 1, 2] rfl
  have hDc := hD.sub (ws' := [(aX, .inr (10, [.ref (nx 0), .ref (nx 1), .ref (nx 2), .ref (nx 3), .ref (nx 4), .ref (nx 5), .ref (nx 6), .int x7, .int x8, .int x9, .int x10])), ((nx 0), .inl (cI, 24, .inl (ow_nI S.1))), ((nx 1), .inl (cI, 24, .inl (ow_nI S.2)))]) [0, 1, 2] (by decide) rfl
  have hFc := va_free (wc := [(aX, .inr (10, [.ref (nx 0), .ref (nx 1), .ref (nx 2), .ref (nx 3), .ref (nx 4), .ref (nx 5), .ref (nx 6), .int x7, .int x8, .int x9, .int x10])), ((nx 0), .inl (cI, 24, .inl (ow_nI S.1))), ((nx 1), .inl (cI, 24, .inl (ow_nI S.2)))]) hD hS hA [0, 1, 2] rfl
  refine va_callv (va_runV (As := [.int (nI (2 * x)), .int (nI (2 * x + 1))]) (rest := []) ⟨hx, hb, hml, hown, hts⟩ (kg_X7_swapPlaces l dC dI cI cB cJ cZ aX nx x7 x8 x9 x10 S hS0 (2 * x) (2 * x + 1) (by omega) (by omega) H.size) (cwV 2 hts gg_X7_flipCrossing_0 rfl rfl rfl (by decide +kernel) ⟨(Nat.le_of_ble_eq_true rfl), (Nat.le_of_ble_eq_true rfl)⟩) ⟨fun a U g mk q => by obtain ⟨q0, q1, qP, qK, qD⟩ := q; exact ⟨q0, q1, qP, va_K.moved (u := U) (U := U.calling g mk a) (Vm.Alike.refl U.vm) qK, qD⟩, va_recv hK hPc (ci := 10) (q0 := 0) rfl rfl, fun U hU hW => ⟨rfl, by rw [hU], by rw [hU]; exact hPc, va_K.moved hW.alike hK, hDc.weaken (fun _ _ _ _ => trivial)⟩⟩ rfl rfl hl.1 rfl (lv_room (Nat.le_of_ble_eq_true rfl)) dX7_flipCrossing_9 ⟨(Nat.le_of_ble_eq_true rfl), (Nat.le_of_ble_eq_true rfl)⟩) hS (fun q _ h => hFc q h) hFc (fun u9 t H1 locs ht hvm hw hB hz1 hk1 hS => ?_)
  obtain ⟨hP1, hD1⟩ := hB
  rw [ht] at hP1
  obtain ⟨hP, hD⟩ := va_join (wr := [((nx 2), .inl (cI, 12, .inl G))]) (w1 := [(aX, .inr (10, [.ref (nx 0), .ref (nx 1), .ref (nx 2), .ref (nx 3), .ref (nx 4), .ref (nx 5), .ref (nx 6), .int x7, .int x8, .int x9, .int x10])), ((nx 0), .inl (cI, 24, .inl (ow_nI (np_swap S (2 * x) (2 * x + 1)).1))), ((nx 1), .inl (cI, 24, .inl (ow_nI (np_swap S (2 * x) (2 * x + 1)).2)))]) hP hD [0, 1, 2] [3] rfl rfl (by decide) (by decide) hk1 hFc hP1 hD1
  generalize H1 = H at hP hS ⊢
  have hP : va_P (dC, dI) vwCl [((nx 2), .inl (cI, 12, .inl G)), (aX, .inr (10, [.ref (nx 0), .ref (nx 1), .ref (nx 2), .ref (nx 3), .ref (nx 4), .ref (nx 5), .ref (nx 6), .int x7, .int x8, .int x9, .int x10])), ((nx 0), .inl (cI, 24, .inl (ow_nI (np_swap S (2 * x) (2 * x + 1)).1))), ((nx 1), .inl (cI, 24, .inl (ow_nI (np_swap S (2 * x) (2 * x + 1)).2)))] H := hP
  have hD : va_D A [((nx 2), .inl (cI, 12, .inl G)), (aX, .inr (10, [.ref (nx 0), .ref (nx 1), .ref (nx 2), .ref (nx 3), .ref (nx 4), .ref (nx 5), .ref (nx 6), .int x7, .int x8, .int x9, .int x10])), ((nx 0), .inl (cI, 24, .inl (ow_nI (np_swap S (2 * x) (2 * x + 1)).1))), ((nx 1), .inl (cI, 24, .inl (ow_nI (np_swap S (2 * x) (2 * x + 1)).2)))] := hD
  have hP := hP.sub (ws' := [(aX, .inr (10, [.ref (nx 0), .ref (nx 1), .ref (nx 2), .ref (nx 3), .ref (nx 4), .ref (nx 5), .ref (nx 6), .int x7, .int x8, .int x9, .int x10])), ((nx 0), .inl (cI, 24, .inl (ow_nI (np_swap S (2 * x) (2 * x + 1)).1))), ((nx 1), .inl (cI, 24, .inl (ow_nI (np_swap S (2 * x) (2 * x + 1)).2))), ((nx 2), .inl (cI, 12, .inl G))]) [1, 2, 3, 0] rfl
  have hD := hD.sub (ws' := [(aX, .inr (10, [.ref (nx 0), .ref (nx 1), .ref (nx 2), .ref (nx 3), .ref (nx 4), .ref (nx 5), .ref (nx 6), .int x7, .int x8, .int x9, .int x10])), ((nx 0), .inl (cI, 24, .inl (ow_nI (np_swap S (2 * x) (2 * x + 1)).1))), ((nx 1), .inl (cI, 24, .inl (ow_nI (np_swap S (2 * x) (2 * x + 1)).2))), ((nx 2), .inl (cI, 12, .inl G))]) [1, 2, 3, 0] (by decide) rfl
  refine lv_aload_n hx hb dX7_flipCrossing_12 rfl (lv_at hl 0 rfl) ?_
  refine va_get (D := (dC, dI)) (ci := 10) (v := .ref (nx 2)) (C := RX7) (T := TX7) (N := 11) hx hb hts (fun _ h => List.mem_cons_of_mem _ (List.mem_append_left _ (List.mem_append_right _ h))) hown hK hP 0 rfl rfl 2 (by decide) (hts (.fieldLink RX7 18 "KnotHouse$Net" "sign" "[I") (by decide +kernel)) (fun _ h9 => h9) rfl dX7_flipCrossing_13 ?_
  refine lv_iload_n hx hb dX7_flipCrossing_16 rfl (lv_at hl 1 rfl) ?_
  refine lv_aload_n hx hb dX7_flipCrossing_17 rfl (lv_at hl 0 rfl) ?_
  refine va_get (D := (dC, dI)) (ci := 10) (v := .ref (nx 2)) (C := RX7) (T := TX7) (N := 11) hx hb hts (fun _ h => List.mem_cons_of_mem _ (List.mem_append_left _ (List.mem_append_right _ h))) hown hK hP 0 rfl rfl 2 (by decide) (hts (.fieldLink RX7 18 "KnotHouse$Net" "sign" "[I") (by decide +kernel)) (fun _ h9 => h9) rfl dX7_flipCrossing_18 ?_
  refine lv_iload_n hx hb dX7_flipCrossing_21 rfl (lv_at hl 1 rfl) ?_
  refine va_iald hx hb hK hP 3 0 rfl rfl (vp_in_nI (n := x) (N := 12) hxc (by decide)) dX7_flipCrossing_22 ?_
  refine ow_topi (y := G x) (congrArg G (nI_clamp (n := x) (Nat.lt_trans (m := 12) hxc (by decide)))) ?_
  refine lv_ineg hx hb dX7_flipCrossing_23 ?_
  refine ow_iastF (j := x) (x := -(G x)) hx hb hK hP hD hS 3 0 rfl rfl hxc (by decide) dX7_flipCrossing_24 (fun H locs hP hD hS => ?_)
  have hP : va_P (dC, dI) vwCl [(aX, .inr (10, [.ref (nx 0), .ref (nx 1), .ref (nx 2), .ref (nx 3), .ref (nx 4), .ref (nx 5), .ref (nx 6), .int x7, .int x8, .int x9, .int x10])), ((nx 0), .inl (cI, 24, .inl (ow_nI (np_swap S (2 * x) (2 * x + 1)).1))), ((nx 1), .inl (cI, 24, .inl (ow_nI (np_swap S (2 * x) (2 * x + 1)).2))), ((nx 2), .inl (cI, 12, .inl (su G x (-(G x)))))] H := hP
  have hD : va_D A [(aX, .inr (10, [.ref (nx 0), .ref (nx 1), .ref (nx 2), .ref (nx 3), .ref (nx 4), .ref (nx 5), .ref (nx 6), .int x7, .int x8, .int x9, .int x10])), ((nx 0), .inl (cI, 24, .inl (ow_nI (np_swap S (2 * x) (2 * x + 1)).1))), ((nx 1), .inl (cI, 24, .inl (ow_nI (np_swap S (2 * x) (2 * x + 1)).2))), ((nx 2), .inl (cI, 12, .inl (su G x (-(G x)))))] := hD
  rw [hQQ]
  exact W.vret hx hb hr (fun t ht hW => ⟨⟨(), rfl, trivial, by rw [ht]; exact hP, hD⟩, hS.F ht⟩) hS.2.2 dX7_flipCrossing_25
theorem dX7_writhe_0 : decode cX7_writhe 0 = .ok (.iconst 0, 1) := by decide +kernel
theorem dX7_writhe_1 : decode cX7_writhe 1 = .ok (.istore_n 1, 1) := by decide +kernel
theorem dX7_writhe_2 : decode cX7_writhe 2 = .ok (.iconst 0, 1) := by decide +kernel
theorem dX7_writhe_3 : decode cX7_writhe 3 = .ok (.istore_n 2, 1) := by decide +kernel
theorem dX7_writhe_4 : decode cX7_writhe 4 = .ok (.iload_n 2, 1) := by decide +kernel
theorem dX7_writhe_5 : decode cX7_writhe 5 = .ok (.aload_n 0, 1) := by decide +kernel
theorem dX7_writhe_6 : decode cX7_writhe 6 = .ok (.getfield 39, 3) := by decide +kernel
theorem dX7_writhe_9 : decode cX7_writhe 9 = .ok (.if_icmp .ge 18, 3) := by decide +kernel
theorem dX7_writhe_12 : decode cX7_writhe 12 = .ok (.iload_n 1, 1) := by decide +kernel
theorem dX7_writhe_13 : decode cX7_writhe 13 = .ok (.aload_n 0, 1) := by decide +kernel
theorem dX7_writhe_14 : decode cX7_writhe 14 = .ok (.getfield 18, 3) := by decide +kernel
theorem dX7_writhe_17 : decode cX7_writhe 17 = .ok (.iload_n 2, 1) := by decide +kernel
theorem dX7_writhe_18 : decode cX7_writhe 18 = .ok (.iaload, 1) := by decide +kernel
theorem dX7_writhe_19 : decode cX7_writhe 19 = .ok (.iadd, 1) := by decide +kernel
theorem dX7_writhe_20 : decode cX7_writhe 20 = .ok (.istore_n 1, 1) := by decide +kernel
theorem dX7_writhe_21 : decode cX7_writhe 21 = .ok (.iinc 2 1, 3) := by decide +kernel
theorem dX7_writhe_24 : decode cX7_writhe 24 = .ok (.goto (-20), 3) := by decide +kernel
theorem dX7_writhe_27 : decode cX7_writhe 27 = .ok (.iload_n 1, 1) := by decide +kernel
theorem dX7_writhe_28 : decode cX7_writhe 28 = .ok (.ireturn, 1) := by decide +kernel
def wg_X7_writhe : List Cond := .code yX7_writhe cX7_writhe 3 (some .int) :: ([.fieldLink RX7 39 "KnotHouse$Net" "crossings" "I", .fieldLink RX7 18 "KnotHouse$Net" "sign" "[I"] ++ wsX70 ++ [])
set_option maxHeartbeats 4000000 in
set_option maxRecDepth 100000 in
theorem kg_X7_writhe (l : Launch) (dC : Nat → ClassId) (dI : Nat → Nat → Nat) (cI cB cJ cZ : ClassId) (aX : Nat) (nx : Nat → Nat) (x8 x9 x10 : Int32) (G : Nat → Int32) (cn : Nat) (hc : cn ≤ 12) : Met l yX7_writhe wg_X7_writhe (({ frames := 0, cells := 0, slots := 0, locals := 0 } : Room)) (va_Pc [.ref aX] (fun U => va_P (dC, dI) vwCl [(aX, .inr (10, [.ref (nx 0), .ref (nx 1), .ref (nx 2), .ref (nx 3), .ref (nx 4), .ref (nx 5), .ref (nx 6), .int (nI cn), .int x8, .int x9, .int x10])), ((nx 2), .inl (cI, 12, .inl G))] U.heap ∧ va_K (dC, dI) vwCl [(cI, .int), (cB, .byte), (cJ, .long), (cZ, .boolean)] U)) (va_Qi (fun r (_ : Unit) => r = np_sum G cn) (fun _ _ => True) (fun _ => False)) 0 0 (fun _ => False) := by
  refine Met.ofW (cc := cX7_writhe) (maxL := 3) (ret := (some .int)) (by decide) rfl ?_
  intro p e s m args below meth c s₁ B hml hv
  obtain ⟨rfl, hP, hK⟩ := hv
  have hx := B.exec
  have hb := B.bytes
  have hr := B.returns
  have hts := atoms_spec (ws := wg_X7_writhe) B.pre
  have hown : s.vm.findClass RX7 = some m.cls := findClass_of_methodNamed B.named
  have hlocks := B.notSynchronized
  have hS : va_S (fun _ => False) s.heap s.heap [] := va_S.rf
  have hP : va_P (dC, dI) vwCl [(aX, .inr (10, [.ref (nx 0), .ref (nx 1), .ref (nx 2), .ref (nx 3), .ref (nx 4), .ref (nx 5), .ref (nx 6), .int (nI cn), .int x8, .int x9, .int x10])), ((nx 2), .inl (cI, 12, .inl G))] s.heap := hP
  have hl := lv_entry ([.ref aX]) (n := 3) (Nat.le_of_ble_eq_true rfl)
  rw [lg_entry_eq]
  generalize (lg_sl ([.ref aX]) ++ List.replicate (3 - (lg_sl ([.ref aX])).length) Slot.unset).toArray = ls at hl ⊢
  have hl : lv_has ls 3 [(0, .ref aX)] := hl
  refine ow_named (fun QQ hQQ => ?_)
  have L4 : ∀ (d i : Nat), i + d = cn → ∀ (ls : Array Slot), lv_has ls 3 [(0, .ref aX), (1, .int (np_sum G i)), (2, .int (nI i))] → W p l e ({ frames := 0, cells := 0, slots := 0, locals := 0 } : Room) s m ([.ref aX] : List Value).toArray below meth c s.heap [] 0 0 QQ (F0 m 4 ls []) := by
    intro d
    induction d with
    | zero =>
      intro i hi ls hl
      have hic : i = cn := by omega
      refine lv_iload_n hx hb dX7_writhe_4 rfl (lv_at hl 2 rfl) ?_
      refine lv_aload_n hx hb dX7_writhe_5 rfl (lv_at hl 0 rfl) ?_
      refine va_get (D := (dC, dI)) (ci := 10) (v := .int (nI cn)) (C := RX7) (T := TX7) (N := 11) hx hb hts (fun _ h => List.mem_cons_of_mem _ (List.mem_append_left _ (List.mem_append_right _ h))) hown hK hP 0 rfl rfl 7 (by decide) (hts (.fieldLink RX7 39 "KnotHouse$Net" "crossings" "I") (by decide +kernel)) (fun _ h9 => h9) rfl dX7_writhe_6 ?_
      refine lv_icmp_ge (tgt := 27) hx hb dX7_writhe_9 (by decide) (fun _ => ?_) (fun c9 => absurd (nI_le (a := cn) (b := i) (by omega) (by omega)) c9)
      refine lv_iload_n hx hb dX7_writhe_27 rfl (lv_at hl 1 rfl) ?_
      rw [hQQ]
      exact W.iret (v := (np_sum G i)) hx hb hr (fun t ht hW => ⟨⟨(np_sum G i), (), rfl, by rw [hic], trivial⟩, hS.F ht⟩) hS.2.2 dX7_writhe_28
    | succ d ih =>
      intro i hi ls hl
      refine lv_iload_n hx hb dX7_writhe_4 rfl (lv_at hl 2 rfl) ?_
      refine lv_aload_n hx hb dX7_writhe_5 rfl (lv_at hl 0 rfl) ?_
      refine va_get (D := (dC, dI)) (ci := 10) (v := .int (nI cn)) (C := RX7) (T := TX7) (N := 11) hx hb hts (fun _ h => List.mem_cons_of_mem _ (List.mem_append_left _ (List.mem_append_right _ h))) hown hK hP 0 rfl rfl 7 (by decide) (hts (.fieldLink RX7 39 "KnotHouse$Net" "crossings" "I") (by decide +kernel)) (fun _ h9 => h9) rfl dX7_writhe_6 ?_
      refine lv_icmp_ge (tgt := 27) hx hb dX7_writhe_9 (by decide) (fun c9 => absurd c9 (nI_ge (a := i) (b := cn) (by omega) (by omega))) (fun _ => ?_)
      refine lv_iload_n hx hb dX7_writhe_12 rfl (lv_at hl 1 rfl) ?_
      refine lv_aload_n hx hb dX7_writhe_13 rfl (lv_at hl 0 rfl) ?_
      refine va_get (D := (dC, dI)) (ci := 10) (v := .ref (nx 2)) (C := RX7) (T := TX7) (N := 11) hx hb hts (fun _ h => List.mem_cons_of_mem _ (List.mem_append_left _ (List.mem_append_right _ h))) hown hK hP 0 rfl rfl 2 (by decide) (hts (.fieldLink RX7 18 "KnotHouse$Net" "sign" "[I") (by decide +kernel)) (fun _ h9 => h9) rfl dX7_writhe_14 ?_
      refine lv_iload_n hx hb dX7_writhe_17 rfl (lv_at hl 2 rfl) ?_
      refine va_iald hx hb hK hP 1 0 rfl rfl (vp_in_nI (n := i) (N := 12) (by omega) (by decide)) dX7_writhe_18 ?_
      refine ow_topi (y := G i) (congrArg G (nI_clamp (n := i) (Nat.lt_trans (m := 12) (by omega) (by decide)))) ?_
      refine lv_iadd hx hb dX7_writhe_19 ?_
      refine lv_istore_n (lv' := [(1, .int ((np_sum G i) + (G i))), (0, .ref aX), (2, .int (nI i))]) hx hb dX7_writhe_20 rfl hl (by decide) rfl (fun ls hl => ?_)
      refine lv_iinc (v := nI (i + 1)) (lv' := [(2, .int (nI (i + 1))), (1, .int ((np_sum G i) + (G i))), (0, .ref aX)]) hx hb dX7_writhe_21 hl (k := 2) rfl (nI_1 i) (by decide) rfl (fun ls hl => ?_)
      refine lv_goto (tgt := 4) hx hb dX7_writhe_24 (by decide) ?_
      exact ih (i + 1) (by omega) ls (lv_sub hl [2, 1, 0] rfl)
  refine lv_iconst (v := 0) hx hb dX7_writhe_0 (by decide) ?_
  refine lv_istore_n (lv' := [(1, .int 0), (0, .ref aX)]) hx hb dX7_writhe_1 rfl hl (by decide) rfl (fun ls hl => ?_)
  refine lv_iconst (v := 0) hx hb dX7_writhe_2 (by decide) ?_
  refine lv_istore_n (lv' := [(2, .int 0), (1, .int 0), (0, .ref aX)]) hx hb dX7_writhe_3 rfl hl (by decide) rfl (fun ls hl => ?_)
  exact L4 cn 0 (by omega) ls (lv_sub hl [2, 1, 0] rfl)
