theorem ow_nI_inj {a b : Nat} (ha : a < 2 ^ 31) (hb : b < 2 ^ 31) (h : nI a = nI b) : a = b := by
  rw [← nI_clamp ha, ← nI_clamp hb, h]
/-! rows of numbers: content by a function to Nat -/
def ow_nI (N : Nat → Nat) : Nat → Int32 := fun k => nI (N k)
/-- one place changed -/
def nu (N : Nat → Nat) (j w : Nat) : Nat → Nat := fun k => if k = j then w else N k
theorem nu_same (N : Nat → Nat) (j w : Nat) : nu N j w j = w := if_pos rfl
theorem nu_ne (N : Nat → Nat) {j k : Nat} (w : Nat) (h : k ≠ j) : nu N j w k = N k := if_neg h
theorem ow_nI_up (N : Nat → Nat) (j w : Nat) : (fun k => if k = j then nI w else ow_nI N k) = ow_nI (nu N j w) := by
  funext k
  show (if k = j then nI w else nI (N k)) = nI (if k = j then w else N k)
  split <;> rfl
theorem ow_nI_at (N : Nat → Nat) {j : Nat} (h : j < 2 ^ 31) : ow_nI N (nI j).toNatClampNeg = nI (N j) := congrArg (ow_nI N) (nI_clamp h)
/-- next and prev of a net -/
abbrev ow_NP := (Nat → Nat) × (Nat → Nat)
def nl (S : ow_NP) (v w : Nat) : ow_NP := (nu S.1 v w, nu S.2 w v)
def ow_b24 (S : ow_NP) : Prop := (∀ k, S.1 k < 24) ∧ (∀ k, S.2 k < 24)
theorem nl_b24 {S : ow_NP} {v w : Nat} (h : ow_b24 S) (hv : v < 24) (hw : w < 24) : ow_b24 (nl S v w) := by
  constructor
  · intro k
    show (if k = v then w else S.1 k) < 24
    split
    · exact hw
    · exact h.1 k
  · intro k
    show (if k = w then v else S.2 k) < 24
    split
    · exact hv
    · exact h.2 k
def np_exchange (S : ow_NP) (v w : Nat) : ow_NP := nl (nl S v (S.1 w)) w (S.1 v)
def np_putBehind (S : ow_NP) (a v : Nat) : ow_NP := nl (nl S a v) v (S.1 a)
def np_cut (S : ow_NP) (v : Nat) : ow_NP := if S.1 v = v then S else nl S (S.2 v) (S.1 v)
def np_cutC (S : ow_NP) (v : Nat) (x : Int32) : Int32 := if S.1 v = v then x + 1 else x
def np_rename (S : ow_NP) (v n : Nat) : ow_NP := if S.1 v = v then nl S n n else nl (nl S (S.2 v) n) n ((nl S (S.2 v) n).1 v)
theorem np_exchange_b24 {S : ow_NP} {v w : Nat} (h : ow_b24 S) (hv : v < 24) (hw : w < 24) : ow_b24 (np_exchange S v w) := nl_b24 (nl_b24 h hv (h.1 w)) hw (h.1 v)
theorem np_putBehind_b24 {S : ow_NP} {a v : Nat} (h : ow_b24 S) (ha : a < 24) (hv : v < 24) : ow_b24 (np_putBehind S a v) := nl_b24 (nl_b24 h ha hv) hv (h.1 a)
theorem np_cut_b24 {S : ow_NP} {v : Nat} (h : ow_b24 S) : ow_b24 (np_cut S v) := by
  unfold np_cut
  split
  · exact h
  · exact nl_b24 h (h.2 v) (h.1 v)
theorem np_rename_b24 {S : ow_NP} {v n : Nat} (h : ow_b24 S) (hn : n < 24) : ow_b24 (np_rename S v n) := by
  unfold np_rename
  split
  · exact nl_b24 h hn hn
  · exact nl_b24 (nl_b24 h (h.2 v) hn) hn ((nl_b24 h (h.2 v) hn).1 v)
section STN
variable {p : Program} {l : Launch} {e : Env} {R : Room} {s : State} {m : MethodId} {args : Array Value} {below : List Frame} {meth : Method} {c : Code} {H : Heap} {locs : List Loc} {cells slots : Nat} {Q : State → Prop}
variable {cc : ByteArray} {pc : Nat} {ls : Array Slot} {rest : List Value} {D : va_G} {cl : List vw_C} {A : Nat → Prop} {a : Nat} {tys : List (ClassId × FieldType)} {ws : va_W} {H0 : Heap}
/-- a store into a row of numbers -/
theorem ow_iastN (hexec : p.tables.exec = Jvm.exec) (hb : c.code = cc) (hK : va_K D cl tys s) (hP : va_P D cl ws H) (hD : va_D A ws) (hS : va_S A H0 H locs) (q0 t0 : Nat) {cA : ClassId} {n j w : Nat} {N : Nat → Nat} (ha : ws[q0]? = some (a, .inl (cA, n, .inl (ow_nI N)))) (ht : tys[t0]? = some (cA, .int)) (hjn : j < n) (hn : n < 2 ^ 31) (hdg : decode cc pc = .ok (.iastore, 1))
    (kk : ∀ (H1 : Heap) (locs1 : List Loc), va_P D cl (ws.set q0 (a, .inl (cA, n, .inl (ow_nI (nu N j w))))) H1 → va_D A (ws.set q0 (a, .inl (cA, n, .inl (ow_nI (nu N j w))))) → va_S A H0 H1 locs1 → W p l e R s m args below meth c H1 locs1 cells slots Q (F0 m (pc + 1) ls rest)) : W p l e R s m args below meth c H locs cells slots Q (F0 m pc ls (.int (nI w) :: .int (nI j) :: .ref a :: rest)) := by
  refine va_iast hexec hb hK hP hD hS q0 t0 ha ht (vp_in_nI hjn hn) hdg (fun H1 locs1 h1 h2 h3 => ?_)
  rw [nI_clamp (by omega)] at h1 h2
  refine kk H1 locs1 ?_ ?_ h3
  · rw [← ow_nI_up]; exact h1
  · rw [← ow_nI_up]; exact h2
end STN
theorem dX7_link_0 : decode cX7_link 0 = .ok (.aload_n 0, 1) := by decide +kernel
theorem dX7_link_1 : decode cX7_link 1 = .ok (.getfield 9, 3) := by decide +kernel
theorem dX7_link_4 : decode cX7_link 4 = .ok (.iload_n 1, 1) := by decide +kernel
theorem dX7_link_5 : decode cX7_link 5 = .ok (.iload_n 2, 1) := by decide +kernel
theorem dX7_link_6 : decode cX7_link 6 = .ok (.iastore, 1) := by decide +kernel
theorem dX7_link_7 : decode cX7_link 7 = .ok (.aload_n 0, 1) := by decide +kernel
theorem dX7_link_8 : decode cX7_link 8 = .ok (.getfield 15, 3) := by decide +kernel
theorem dX7_link_11 : decode cX7_link 11 = .ok (.iload_n 2, 1) := by decide +kernel
theorem dX7_link_12 : decode cX7_link 12 = .ok (.iload_n 1, 1) := by decide +kernel
theorem dX7_link_13 : decode cX7_link 13 = .ok (.iastore, 1) := by decide +kernel
theorem dX7_link_14 : decode cX7_link 14 = .ok (.return_, 1) := by decide +kernel
def wg_X7_link : List Cond := .code yX7_link cX7_link 3 none :: ([.fieldLink RX7 9 "KnotHouse$Net" "next" "[I", .fieldLink RX7 15 "KnotHouse$Net" "prev" "[I"] ++ wsX70 ++ [])
set_option maxHeartbeats 4000000 in
set_option maxRecDepth 100000 in
theorem kg_X7_link (l : Launch) (dC : Nat → ClassId) (dI : Nat → Nat → Nat) (cI cB cJ cZ : ClassId) (aX : Nat) (nx : Nat → Nat) (x7 x8 x9 x10 : Int32) (S : ow_NP) (v w : Nat) (hv : v < 24) (hw0 : w < 24) (sz : Nat) : Met l yX7_link wg_X7_link (({ frames := 0, cells := 0, slots := 0, locals := 0 } : Room)) (va_Pc [.ref aX, .int (nI v), .int (nI w)] (fun U => U.heap.size = sz ∧ va_P (dC, dI) vwCl [(aX, .inr (10, [.ref (nx 0), .ref (nx 1), .ref (nx 2), .ref (nx 3), .ref (nx 4), .ref (nx 5), .ref (nx 6), .int x7, .int x8, .int x9, .int x10])), ((nx 0), .inl (cI, 24, .inl (ow_nI S.1))), ((nx 1), .inl (cI, 24, .inl (ow_nI S.2)))] U.heap ∧ va_K (dC, dI) vwCl [(cI, .int), (cB, .byte), (cJ, .long), (cZ, .boolean)] U ∧ va_D (fun _ => True) [(aX, .inr (10, [.ref (nx 0), .ref (nx 1), .ref (nx 2), .ref (nx 3), .ref (nx 4), .ref (nx 5), .ref (nx 6), .int x7, .int x8, .int x9, .int x10])), ((nx 0), .inl (cI, 24, .inl (ow_nI S.1))), ((nx 1), .inl (cI, 24, .inl (ow_nI S.2)))])) (va_Qv (fun (g : Unit) => True) (fun g t => va_P (dC, dI) vwCl [(aX, .inr (10, [.ref (nx 0), .ref (nx 1), .ref (nx 2), .ref (nx 3), .ref (nx 4), .ref (nx 5), .ref (nx 6), .int x7, .int x8, .int x9, .int x10])), ((nx 0), .inl (cI, 24, .inl (ow_nI (nl S v w).1))), ((nx 1), .inl (cI, 24, .inl (ow_nI (nl S v w).2)))] t.heap ∧ va_D (va_A [(aX, .inr (10, [.ref (nx 0), .ref (nx 1), .ref (nx 2), .ref (nx 3), .ref (nx 4), .ref (nx 5), .ref (nx 6), .int x7, .int x8, .int x9, .int x10])), ((nx 0), .inl (cI, 24, .inl (ow_nI S.1))), ((nx 1), .inl (cI, 24, .inl (ow_nI S.2)))] sz) [(aX, .inr (10, [.ref (nx 0), .ref (nx 1), .ref (nx 2), .ref (nx 3), .ref (nx 4), .ref (nx 5), .ref (nx 6), .int x7, .int x8, .int x9, .int x10])), ((nx 0), .inl (cI, 24, .inl (ow_nI (nl S v w).1))), ((nx 1), .inl (cI, 24, .inl (ow_nI (nl S v w).2)))]) (va_A [(aX, .inr (10, [.ref (nx 0), .ref (nx 1), .ref (nx 2), .ref (nx 3), .ref (nx 4), .ref (nx 5), .ref (nx 6), .int x7, .int x8, .int x9, .int x10])), ((nx 0), .inl (cI, 24, .inl (ow_nI S.1))), ((nx 1), .inl (cI, 24, .inl (ow_nI S.2)))] sz)) 0 0 (va_A [(aX, .inr (10, [.ref (nx 0), .ref (nx 1), .ref (nx 2), .ref (nx 3), .ref (nx 4), .ref (nx 5), .ref (nx 6), .int x7, .int x8, .int x9, .int x10])), ((nx 0), .inl (cI, 24, .inl (ow_nI S.1))), ((nx 1), .inl (cI, 24, .inl (ow_nI S.2)))] sz) := by
  refine Met.ofW (cc := cX7_link) (maxL := 3) (ret := none) (by decide) rfl ?_
  intro p e s m args below meth c s₁ B hml hv
  obtain ⟨rfl, hsz, hP, hK, hD0⟩ := hv
  have hx := B.exec
  have hb := B.bytes
  have hr := B.returns
  have hts := atoms_spec (ws := wg_X7_link) B.pre
  have hown : s.vm.findClass RX7 = some m.cls := findClass_of_methodNamed B.named
  have hlocks := B.notSynchronized
  subst hsz
  have hD := hD0.self (sz := s.heap.size)
  generalize hAe : va_A [(aX, .inr (10, [.ref (nx 0), .ref (nx 1), .ref (nx 2), .ref (nx 3), .ref (nx 4), .ref (nx 5), .ref (nx 6), .int x7, .int x8, .int x9, .int x10])), ((nx 0), .inl (cI, 24, .inl (ow_nI S.1))), ((nx 1), .inl (cI, 24, .inl (ow_nI S.2)))] s.heap.size = A at hD ⊢
  have hA : ∀ q : Nat, s.heap.size ≤ q → A q := fun q h => by rw [← hAe]; exact Or.inr h
  have hS : va_S A s.heap s.heap [] := va_S.rf
  have hP : va_P (dC, dI) vwCl [(aX, .inr (10, [.ref (nx 0), .ref (nx 1), .ref (nx 2), .ref (nx 3), .ref (nx 4), .ref (nx 5), .ref (nx 6), .int x7, .int x8, .int x9, .int x10])), ((nx 0), .inl (cI, 24, .inl (ow_nI S.1))), ((nx 1), .inl (cI, 24, .inl (ow_nI S.2)))] s.heap := hP
  have hl := lv_entry ([.ref aX, .int (nI v), .int (nI w)]) (n := 3) (Nat.le_of_ble_eq_true rfl)
  rw [lg_entry_eq]
  generalize (lg_sl ([.ref aX, .int (nI v), .int (nI w)]) ++ List.replicate (3 - (lg_sl ([.ref aX, .int (nI v), .int (nI w)])).length) Slot.unset).toArray = ls at hl ⊢
  have hl : lv_has ls 3 [(0, .ref aX), (1, .int (nI v)), (2, .int (nI w))] := hl
  refine ow_named (fun QQ hQQ => ?_)
  suffices key9 : ∀ (H : Heap) (locs : List Loc), va_P (dC, dI) vwCl [(aX, .inr (10, [.ref (nx 0), .ref (nx 1), .ref (nx 2), .ref (nx 3), .ref (nx 4), .ref (nx 5), .ref (nx 6), .int x7, .int x8, .int x9, .int x10])), ((nx 0), .inl (cI, 24, .inl (ow_nI S.1))), ((nx 1), .inl (cI, 24, .inl (ow_nI S.2)))] H → va_S A s.heap H locs → W p l e ({ frames := 0, cells := 0, slots := 0, locals := 0 } : Room) s m ([.ref aX, .int (nI v), .int (nI w)] : List Value).toArray below meth c H locs 0 0 QQ (F0 m 0 ls []) from key9 s.heap [] hP hS
  intro H locs hP hS
  refine lv_aload_n hx hb dX7_link_0 rfl (lv_at hl 0 rfl) ?_
  refine va_get (D := (dC, dI)) (ci := 10) (v := .ref (nx 0)) (C := RX7) (T := TX7) (N := 11) hx hb hts (fun _ h => List.mem_cons_of_mem _ (List.mem_append_left _ (List.mem_append_right _ h))) hown hK hP 0 rfl rfl 0 (by decide) (hts (.fieldLink RX7 9 "KnotHouse$Net" "next" "[I") (by decide +kernel)) (fun _ h9 => h9) rfl dX7_link_1 ?_
  refine lv_iload_n hx hb dX7_link_4 rfl (lv_at hl 1 rfl) ?_
  refine lv_iload_n hx hb dX7_link_5 rfl (lv_at hl 2 rfl) ?_
  refine ow_iastN (j := v) (w := w) hx hb hK hP hD hS 1 0 rfl rfl hv (by decide) dX7_link_6 (fun H locs hP hD hS => ?_)
  have hP : va_P (dC, dI) vwCl [(aX, .inr (10, [.ref (nx 0), .ref (nx 1), .ref (nx 2), .ref (nx 3), .ref (nx 4), .ref (nx 5), .ref (nx 6), .int x7, .int x8, .int x9, .int x10])), ((nx 0), .inl (cI, 24, .inl (ow_nI (nu S.1 v w)))), ((nx 1), .inl (cI, 24, .inl (ow_nI S.2)))] H := hP
  have hD : va_D A [(aX, .inr (10, [.ref (nx 0), .ref (nx 1), .ref (nx 2), .ref (nx 3), .ref (nx 4), .ref (nx 5), .ref (nx 6), .int x7, .int x8, .int x9, .int x10])), ((nx 0), .inl (cI, 24, .inl (ow_nI (nu S.1 v w)))), ((nx 1), .inl (cI, 24, .inl (ow_nI S.2)))] := hD
  refine lv_aload_n hx hb dX7_link_7 rfl (lv_at hl 0 rfl) ?_
  refine va_get (D := (dC, dI)) (ci := 10) (v := .ref (nx 1)) (C := RX7) (T := TX7) (N := 11) hx hb hts (fun _ h => List.mem_cons_of_mem _ (List.mem_append_left _ (List.mem_append_right _ h))) hown hK hP 0 rfl rfl 1 (by decide) (hts (.fieldLink RX7 15 "KnotHouse$Net" "prev" "[I") (by decide +kernel)) (fun _ h9 => h9) rfl dX7_link_8 ?_
  refine lv_iload_n hx hb dX7_link_11 rfl (lv_at hl 2 rfl) ?_
  refine lv_iload_n hx hb dX7_link_12 rfl (lv_at hl 1 rfl) ?_
  refine ow_iastN (j := w) (w := v) hx hb hK hP hD hS 2 0 rfl rfl hw0 (by decide) dX7_link_13 (fun H locs hP hD hS => ?_)
  have hP : va_P (dC, dI) vwCl [(aX, .inr (10, [.ref (nx 0), .ref (nx 1), .ref (nx 2), .ref (nx 3), .ref (nx 4), .ref (nx 5), .ref (nx 6), .int x7, .int x8, .int x9, .int x10])), ((nx 0), .inl (cI, 24, .inl (ow_nI (nu S.1 v w)))), ((nx 1), .inl (cI, 24, .inl (ow_nI (nu S.2 w v))))] H := hP
  have hD : va_D A [(aX, .inr (10, [.ref (nx 0), .ref (nx 1), .ref (nx 2), .ref (nx 3), .ref (nx 4), .ref (nx 5), .ref (nx 6), .int x7, .int x8, .int x9, .int x10])), ((nx 0), .inl (cI, 24, .inl (ow_nI (nu S.1 v w)))), ((nx 1), .inl (cI, 24, .inl (ow_nI (nu S.2 w v))))] := hD
  rw [hQQ]
  exact W.vret hx hb hr (fun t ht hW => ⟨⟨(), rfl, trivial, by rw [ht]; exact hP, hD⟩, hS.F ht⟩) hS.2.2 dX7_link_14
theorem dX7_exchange_0 : decode cX7_exchange 0 = .ok (.aload_n 0, 1) := by decide +kernel
theorem dX7_exchange_1 : decode cX7_exchange 1 = .ok (.getfield 9, 3) := by decide +kernel
theorem dX7_exchange_4 : decode cX7_exchange 4 = .ok (.iload_n 1, 1) := by decide +kernel
theorem dX7_exchange_5 : decode cX7_exchange 5 = .ok (.iaload, 1) := by decide +kernel
theorem dX7_exchange_6 : decode cX7_exchange 6 = .ok (.istore_n 3, 1) := by decide +kernel
theorem dX7_exchange_7 : decode cX7_exchange 7 = .ok (.aload_n 0, 1) := by decide +kernel
theorem dX7_exchange_8 : decode cX7_exchange 8 = .ok (.iload_n 1, 1) := by decide +kernel
theorem dX7_exchange_9 : decode cX7_exchange 9 = .ok (.aload_n 0, 1) := by decide +kernel
theorem dX7_exchange_10 : decode cX7_exchange 10 = .ok (.getfield 9, 3) := by decide +kernel
theorem dX7_exchange_13 : decode cX7_exchange 13 = .ok (.iload_n 2, 1) := by decide +kernel
theorem dX7_exchange_14 : decode cX7_exchange 14 = .ok (.iaload, 1) := by decide +kernel
theorem dX7_exchange_15 : decode cX7_exchange 15 = .ok (.invokevirtual 54, 3) := by decide +kernel
theorem dX7_exchange_18 : decode cX7_exchange 18 = .ok (.aload_n 0, 1) := by decide +kernel
theorem dX7_exchange_19 : decode cX7_exchange 19 = .ok (.iload_n 2, 1) := by decide +kernel
theorem dX7_exchange_20 : decode cX7_exchange 20 = .ok (.iload_n 3, 1) := by decide +kernel
theorem dX7_exchange_21 : decode cX7_exchange 21 = .ok (.invokevirtual 54, 3) := by decide +kernel
theorem dX7_exchange_24 : decode cX7_exchange 24 = .ok (.return_, 1) := by decide +kernel
def wg_X7_exchange : List Cond := .code yX7_exchange cX7_exchange 4 none :: ([.fieldLink RX7 9 "KnotHouse$Net" "next" "[I"] ++ wsX70 ++ (wsV RX7 54 RX7 yX7_link wg_X7_link ++ []))
theorem gg_X7_exchange_0 : GoodIn wg_X7_exchange (wsV RX7 54 RX7 yX7_link wg_X7_link) := goodIn_sub (fun _ h => List.mem_cons_of_mem _ (List.mem_append_right _ (List.mem_append_left _ h))) (by decide +kernel)
set_option maxHeartbeats 4000000 in
set_option maxRecDepth 100000 in
theorem kg_X7_exchange (l : Launch) (dC : Nat → ClassId) (dI : Nat → Nat → Nat) (cI cB cJ cZ : ClassId) (aX : Nat) (nx : Nat → Nat) (x7 x8 x9 x10 : Int32) (S : ow_NP) (hS0 : ow_b24 S) (v w : Nat) (hv : v < 24) (hw0 : w < 24) (sz : Nat) : Met l yX7_exchange wg_X7_exchange (({ frames := 1, cells := 0, slots := 0, locals := 22 } : Room)) (va_Pc [.ref aX, .int (nI v), .int (nI w)] (fun U => U.heap.size = sz ∧ va_P (dC, dI) vwCl [(aX, .inr (10, [.ref (nx 0), .ref (nx 1), .ref (nx 2), .ref (nx 3), .ref (nx 4), .ref (nx 5), .ref (nx 6), .int x7, .int x8, .int x9, .int x10])), ((nx 0), .inl (cI, 24, .inl (ow_nI S.1))), ((nx 1), .inl (cI, 24, .inl (ow_nI S.2)))] U.heap ∧ va_K (dC, dI) vwCl [(cI, .int), (cB, .byte), (cJ, .long), (cZ, .boolean)] U ∧ va_D (fun _ => True) [(aX, .inr (10, [.ref (nx 0), .ref (nx 1), .ref (nx 2), .ref (nx 3), .ref (nx 4), .ref (nx 5), .ref (nx 6), .int x7, .int x8, .int x9, .int x10])), ((nx 0), .inl (cI, 24, .inl (ow_nI S.1))), ((nx 1), .inl (cI, 24, .inl (ow_nI S.2)))])) (va_Qv (fun (g : Unit) => True) (fun g t => va_P (dC, dI) vwCl [(aX, .inr (10, [.ref (nx 0), .ref (nx 1), .ref (nx 2), .ref (nx 3), .ref (nx 4), .ref (nx 5), .ref (nx 6), .int x7, .int x8, .int x9, .int x10])), ((nx 0), .inl (cI, 24, .inl (ow_nI (np_exchange S v w).1))), ((nx 1), .inl (cI, 24, .inl (ow_nI (np_exchange S v w).2)))] t.heap ∧ va_D (va_A [(aX, .inr (10, [.ref (nx 0), .ref (nx 1), .ref (nx 2), .ref (nx 3), .ref (nx 4), .ref (nx 5), .ref (nx 6), .int x7, .int x8, .int x9, .int x10])), ((nx 0), .inl (cI, 24, .inl (ow_nI S.1))), ((nx 1), .inl (cI, 24, .inl (ow_nI S.2)))] sz) [(aX, .inr (10, [.ref (nx 0), .ref (nx 1), .ref (nx 2), .ref (nx 3), .ref (nx 4), .ref (nx 5), .ref (nx 6), .int x7, .int x8, .int x9, .int x10])), ((nx 0), .inl (cI, 24, .inl (ow_nI (np_exchange S v w).1))), ((nx 1), .inl (cI, 24, .inl (ow_nI (np_exchange S v w).2)))]) (va_A [(aX, .inr (10, [.ref (nx 0), .ref (nx 1), .ref (nx 2), .ref (nx 3), .ref (nx 4), .ref (nx 5), .ref (nx 6), .int x7, .int x8, .int x9, .int x10])), ((nx 0), .inl (cI, 24, .inl (ow_nI S.1))), ((nx 1), .inl (cI, 24, .inl (ow_nI S.2)))] sz)) 0 0 (va_A [(aX, .inr (10, [.ref (nx 0), .ref (nx 1), .ref (nx 2), .ref (nx 3), .ref (nx 4), .ref (nx 5), .ref (nx 6), .int x7, .int x8, .int x9, .int x10])), ((nx 0), .inl (cI, 24, .inl (ow_nI S.1))), ((nx 1), .inl (cI, 24, .inl (ow_nI S.2)))] sz) := by
  refine Met.ofW (cc := cX7_exchange) (maxL := 4) (ret := none) (by decide) rfl ?_
  intro p e s m args below meth c s₁ B hml hv
  obtain ⟨rfl, hsz, hP, hK, hD0⟩ := hv
  have hx := B.exec
  have hb := B.bytes
  have hr := B.returns
  have hts := atoms_spec (ws := wg_X7_exchange) B.pre
  have hown : s.vm.findClass RX7 = some m.cls := findClass_of_methodNamed B.named
  have hlocks := B.notSynchronized
  subst hsz
  have hD := hD0.self (sz := s.heap.size)
  generalize hAe : va_A [(aX, .inr (10, [.ref (nx 0), .ref (nx 1), .ref (nx 2), .ref (nx 3), .ref (nx 4), .ref (nx 5), .ref (nx 6), .int x7, .int x8, .int x9, .int x10])), ((nx 0), .inl (cI, 24, .inl (ow_nI S.1))), ((nx 1), .inl (cI, 24, .inl (ow_nI S.2)))] s.heap.size = A at hD ⊢
  have hA : ∀ q : Nat, s.heap.size ≤ q → A q := fun q h => by rw [← hAe]; exact Or.inr h
  have hS : va_S A s.heap s.heap [] := va_S.rf
  have hP : va_P (dC, dI) vwCl [(aX, .inr (10, [.ref (nx 0), .ref (nx 1), .ref (nx 2), .ref (nx 3), .ref (nx 4), .ref (nx 5), .ref (nx 6), .int x7, .int x8, .int x9, .int x10])), ((nx 0), .inl (cI, 24, .inl (ow_nI S.1))), ((nx 1), .inl (cI, 24, .inl (ow_nI S.2)))] s.heap := hP
  have hl := lv_entry ([.ref aX, .int (nI v), .int (nI w)]) (n := 4) (Nat.le_of_ble_eq_true rfl)
  rw [lg_entry_eq]
  generalize (lg_sl ([.ref aX, .int (nI v), .int (nI w)]) ++ List.replicate (4 - (lg_sl ([.ref aX, .int (nI v), .int (nI w)])).length) Slot.unset).toArray = ls at hl ⊢
  have hl : lv_has ls 4 [(0, .ref aX), (1, .int (nI v)), (2, .int (nI w))] := hl
  refine ow_named (fun QQ hQQ => ?_)
  suffices key9 : ∀ (H : Heap) (locs : List Loc), va_P (dC, dI) vwCl [(aX, .inr (10, [.ref (nx 0), .ref (nx 1), .ref (nx 2), .ref (nx 3), .ref (nx 4), .ref (nx 5), .ref (nx 6), .int x7, .int x8, .int x9, .int x10])), ((nx 0), .inl (cI, 24, .inl (ow_nI S.1))), ((nx 1), .inl (cI, 24, .inl (ow_nI S.2)))] H → va_S A s.heap H locs → W p l e ({ frames := 1, cells := 0, slots := 0, locals := 22 } : Room) s m ([.ref aX, .int (nI v), .int (nI w)] : List Value).toArray below meth c H locs 0 0 QQ (F0 m 0 ls []) from key9 s.heap [] hP hS
  intro H locs hP hS
  refine lv_aload_n hx hb dX7_exchange_0 rfl (lv_at hl 0 rfl) ?_
  refine va_get (D := (dC, dI)) (ci := 10) (v := .ref (nx 0)) (C := RX7) (T := TX7) (N := 11) hx hb hts (fun _ h => List.mem_cons_of_mem _ (List.mem_append_left _ (List.mem_append_right _ h))) hown hK hP 0 rfl rfl 0 (by decide) (hts (.fieldLink RX7 9 "KnotHouse$Net" "next" "[I") (by decide +kernel)) (fun _ h9 => h9) rfl dX7_exchange_1 ?_
  refine lv_iload_n hx hb dX7_exchange_4 rfl (lv_at hl 1 rfl) ?_
  refine va_iald hx hb hK hP 1 0 rfl rfl (vp_in_nI (n := v) (N := 24) hv (by decide)) dX7_exchange_5 ?_
  refine ow_topi (y := nI (S.1 v)) (ow_nI_at S.1 (Nat.lt_trans (m := 24) hv (by decide))) ?_
  refine lv_istore_n (lv' := [(3, .int (nI (S.1 v))), (0, .ref aX), (1, .int (nI v)), (2, .int (nI w))]) hx hb dX7_exchange_6 rfl hl (by decide) rfl (fun ls hl => ?_)
  refine lv_aload_n hx hb dX7_exchange_7 rfl (lv_at hl 1 rfl) ?_
  refine lv_iload_n hx hb dX7_exchange_8 rfl (lv_at hl 2 rfl) ?_
  refine lv_aload_n hx hb dX7_exchange_9 rfl (lv_at hl 1 rfl) ?_
  refine va_get (D := (dC, dI)) (ci := 10) (v := .ref (nx 0)) (C := RX7) (T := TX7) (N := 11) hx hb hts (fun _ h => List.mem_cons_of_mem _ (List.mem_append_left _ (List.mem_append_right _ h))) hown hK hP 0 rfl rfl 0 (by decide) (hts (.fieldLink RX7 9 "KnotHouse$Net" "next" "[I") (by decide +kernel)) (fun _ h9 => h9) rfl dX7_exchange_10 ?_
  refine lv_iload_n hx hb dX7_exchange_13 rfl (lv_at hl 3 rfl) ?_
  refine va_iald hx hb hK hP 1 0 rfl rfl (vp_in_nI (n := w) (N := 24) hw0 (by decide)) dX7_exchange_14 ?_
  refine ow_topi (y := nI (S.1 w)) (ow_nI_at S.1 (Nat.lt_trans (m := 24) hw0 (by decide))) ?_
  have hPc := hP.sub (ws' := [(aX, .inr (10, [.ref (nx 0), .ref (nx 1), .ref (nx 2), .ref (nx 3), .ref (nx 4), .ref (nx 5), .ref (nx 6), .int x7, .int x8, .int x9, .int x10])), ((nx 0), .inl (cI, 24, .inl (ow_nI S.1))), ((nx 1), .inl (cI, 24, .inl (ow_nI S.2)))]) [0, 1, 2] rfl
  have hDc := hD.sub (ws' := [(aX, .inr (10, [.ref (nx 0), .ref (nx 1), .ref (nx 2), .ref (nx 3), .ref (nx 4), .ref (nx 5), .ref (nx 6), .int x7, .int x8, .int x9, .int x10])), ((nx 0), .inl (cI, 24, .inl (ow_nI S.1))), ((nx 1), .inl (cI, 24, .inl (ow_nI S.2)))]) [0, 1, 2] (by decide) rfl
  have hFc := va_free (wc := [(aX, .inr (10, [.ref (nx 0), .ref (nx 1), .ref (nx 2), .ref (nx 3), .ref (nx 4), .ref (nx 5), .ref (nx 6), .int x7, .int x8, .int x9, .int x10])), ((nx 0), .inl (cI, 24, .inl (ow_nI S.1))), ((nx 1), .inl (cI, 24, .inl (ow_nI S.2)))]) hD hS hA [0, 1, 2] rfl
  refine va_callv (va_runV (As := [.int (nI v), .int (nI (S.1 w))]) (rest := []) ⟨hx, hb, hml, hown, hts⟩ (kg_X7_link l dC dI cI cB cJ cZ aX nx x7 x8 x9 x10 S v (S.1 w) hv (hS0.1 w) H.size) (cwV 2 hts gg_X7_exchange_0 rfl rfl rfl (by decide +kernel) ⟨(Nat.le_of_ble_eq_true rfl), (Nat.le_of_ble_eq_true rfl)⟩) ⟨fun a U g mk q => by obtain ⟨q0, q1, qP, qK, qD⟩ := q; exact ⟨q0, q1, qP, va_K.moved (u := U) (U := U.calling g mk a) (Vm.Alike.refl U.vm) qK, qD⟩, va_recv hK hPc (ci := 10) (q0 := 0) rfl rfl, fun U hU hW => ⟨rfl, by rw [hU], by rw [hU]; exact hPc, va_K.moved hW.alike hK, hDc.weaken (fun _ _ _ _ => trivial)⟩⟩ rfl rfl hl.1 rfl (lv_room (Nat.le_of_ble_eq_true rfl)) dX7_exchange_15 ⟨(Nat.le_of_ble_eq_true rfl), (Nat.le_of_ble_eq_true rfl)⟩) hS (fun q _ h => hFc q h) hFc (fun u9 t H1 locs ht hvm hw hB hz1 hk1 hS => ?_)
  obtain ⟨hP1, hD1⟩ := hB
  rw [ht] at hP1
  obtain ⟨hP, hD⟩ := va_join (wr := []) (w1 := [(aX, .inr (10, [.ref (nx 0), .ref (nx 1), .ref (nx 2), .ref (nx 3), .ref (nx 4), .ref (nx 5), .ref (nx 6), .int x7, .int x8, .int x9, .int x10])), ((nx 0), .inl (cI, 24, .inl (ow_nI (nl S v (S.1 w)).1))), ((nx 1), .inl (cI, 24, .inl (ow_nI (nl S v (S.1 w)).2)))]) hP hD [0, 1, 2] [] rfl rfl (by decide) (by decide) hk1 hFc hP1 hD1
  generalize H1 = H at hP hS ⊢
  have hP : va_P (dC, dI) vwCl [(aX, .inr (10, [.ref (nx 0), .ref (nx 1), .ref (nx 2), .ref (nx 3), .ref (nx 4), .ref (nx 5), .ref (nx 6), .int x7, .int x8, .int x9, .int x10])), ((nx 0), .inl (cI, 24, .inl (ow_nI (nl S v (S.1 w)).1))), ((nx 1), .inl (cI, 24, .inl (ow_nI (nl S v (S.1 w)).2)))] H := hP
  have hD : va_D A [(aX, .inr (10, [.ref (nx 0), .ref (nx 1), .ref (nx 2), .ref (nx 3), .ref (nx 4), .ref (nx 5), .ref (nx 6), .int x7, .int x8, .int x9, .int x10])), ((nx 0), .inl (cI, 24, .inl (ow_nI (nl S v (S.1 w)).1))), ((nx 1), .inl (cI, 24, .inl (ow_nI (nl S v (S.1 w)).2)))] := hD
  refine lv_aload_n hx hb dX7_exchange_18 rfl (lv_at hl 1 rfl) ?_
  refine lv_iload_n hx hb dX7_exchange_19 rfl (lv_at hl 3 rfl) ?_
  refine lv_iload_n hx hb dX7_exchange_20 rfl (lv_at hl 0 rfl) ?_
  have hPc := hP.sub (ws' := [(aX, .inr (10, [.ref (nx 0), .ref (nx 1), .ref (nx 2), .ref (nx 3), .ref (nx 4), .ref (nx 5), .ref (nx 6), .int x7, .int x8, .int x9, .int x10])), ((nx 0), .inl (cI, 24, .inl (ow_nI (nl S v (S.1 w)).1))), ((nx 1), .inl (cI, 24, .inl (ow_nI (nl S v (S.1 w)).2)))]) [0, 1, 2] rfl
  have hDc := hD.sub (ws' := [(aX, .inr (10, [.ref (nx 0), .ref (nx 1), .ref (nx 2), .ref (nx 3), .ref (nx 4), .ref (nx 5), .ref (nx 6), .int x7, .int x8, .int x9, .int x10])), ((nx 0), .inl (cI, 24, .inl (ow_nI (nl S v (S.1 w)).1))), ((nx 1), .inl (cI, 24, .inl (ow_nI (nl S v (S.1 w)).2)))]) [0, 1, 2] (by decide) rfl
  have hFc := va_free (wc := [(aX, .inr (10, [.ref (nx 0), .ref (nx 1), .ref (nx 2), .ref (nx 3), .ref (nx 4), .ref (nx 5), .ref (nx 6), .int x7, .int x8, .int x9, .int x10])), ((nx 0), .inl (cI, 24, .inl (ow_nI (nl S v (S.1 w)).1))), ((nx 1), .inl (cI, 24, .inl (ow_nI (nl S v (S.1 w)).2)))]) hD hS hA [0, 1, 2] rfl
  refine va_callv (va_runV (As := [.int (nI w), .int (nI (S.1 v))]) (rest := []) ⟨hx, hb, hml, hown, hts⟩ (kg_X7_link l dC dI cI cB cJ cZ aX nx x7 x8 x9 x10 (nl S v (S.1 w)) w (S.1 v) hw0 (hS0.1 v) H.size) (cwV 2 hts gg_X7_exchange_0 rfl rfl rfl (by decide +kernel) ⟨(Nat.le_of_ble_eq_true rfl), (Nat.le_of_ble_eq_true rfl)⟩) ⟨fun a U g mk q => by obtain ⟨q0, q1, qP, qK, qD⟩ := q; exact ⟨q0, q1, qP, va_K.moved (u := U) (U := U.calling g mk a) (Vm.Alike.refl U.vm) qK, qD⟩, va_recv hK hPc (ci := 10) (q0 := 0) rfl rfl, fun U hU hW => ⟨rfl, by rw [hU], by rw [hU]; exact hPc, va_K.moved hW.alike hK, hDc.weaken (fun _ _ _ _ => trivial)⟩⟩ rfl rfl hl.1 rfl (lv_room (Nat.le_of_ble_eq_true rfl)) dX7_exchange_21 ⟨(Nat.le_of_ble_eq_true rfl), (Nat.le_of_ble_eq_true rfl)⟩) hS (fun q _ h => hFc q h) hFc (fun u9 t H1 locs ht hvm hw hB hz1 hk1 hS => ?_)
  obtain ⟨hP1, hD1⟩ := hB
  rw [ht] at hP1
  obtain ⟨hP, hD⟩ := va_join (wr := []) (w1 := [(aX, .inr (10, [.ref (nx 0), .ref (nx 1), .ref (nx 2), .ref (nx 3), .ref (nx 4), .ref (nx 5), .ref (nx 6), .int x7, .int x8, .int x9, .int x10])), ((nx 0), .inl (cI, 24, .inl (ow_nI (nl (nl S v (S.1 w)) w (S.1 v)).1))), ((nx 1), .inl (cI, 24, .inl (ow_nI (nl (nl S v (S.1 w)) w (S.1 v)).2)))]) hP hD [0, 1, 2] [] rfl rfl (by decide) (by decide) hk1 hFc hP1 hD1
  generalize H1 = H at hP hS ⊢
  have hP : va_P (dC, dI) vwCl [(aX, .inr (10, [.ref (nx 0), .ref (nx 1), .ref (nx 2), .ref (nx 3), .ref (nx 4), .ref (nx 5), .ref (nx 6), .int x7, .int x8, .int x9, .int x10])), ((nx 0), .inl (cI, 24, .inl (ow_nI (nl (nl S v (S.1 w)) w (S.1 v)).1))), ((nx 1), .inl (cI, 24, .inl (ow_nI (nl (nl S v (S.1 w)) w (S.1 v)).2)))] H := hP
  have hD : va_D A [(aX, .inr (10, [.ref (nx 0), .ref (nx 1), .ref (nx 2), .ref (nx 3), .ref (nx 4), .ref (nx 5), .ref (nx 6), .int x7, .int x8, .int x9, .int x10])), ((nx 0), .inl (cI, 24, .inl (ow_nI (nl (nl S v (S.1 w)) w (S.1 v)).1))), ((nx 1), .inl (cI, 24, .inl (ow_nI (nl (nl S v (S.1 w)) w (S.1 v)).2)))] := hD
  rw [hQQ]
  exact W.vret hx hb hr (fun t ht hW => ⟨⟨(), rfl, trivial, by rw [ht]; exact hP, hD⟩, hS.F ht⟩) hS.2.2 dX7_exchange_24
theorem dX7_putBehind_0 : decode cX7_putBehind 0 = .ok (.aload_n 0, 1) := by decide +kernel
theorem dX7_putBehind_1 : decode cX7_putBehind 1 = .ok (.getfield 9, 3) := by decide +kernel
theorem dX7_putBehind_4 : decode cX7_putBehind 4 = .ok (.iload_n 1, 1) := by decide +kernel
theorem dX7_putBehind_5 : decode cX7_putBehind 5 = .ok (.iaload, 1) := by decide +kernel
theorem dX7_putBehind_6 : decode cX7_putBehind 6 = .ok (.istore_n 3, 1) := by decide +kernel
theorem dX7_putBehind_7 : decode cX7_putBehind 7 = .ok (.aload_n 0, 1) := by decide +kernel
theorem dX7_putBehind_8 : decode cX7_putBehind 8 = .ok (.iload_n 1, 1) := by decide +kernel
theorem dX7_putBehind_9 : decode cX7_putBehind 9 = .ok (.iload_n 2, 1) := by decide +kernel
theorem dX7_putBehind_10 : decode cX7_putBehind 10 = .ok (.invokevirtual 54, 3) := by decide +kernel
theorem dX7_putBehind_13 : decode cX7_putBehind 13 = .ok (.aload_n 0, 1) := by decide +kernel
theorem dX7_putBehind_14 : decode cX7_putBehind 14 = .ok (.iload_n 2, 1) := by decide +kernel
theorem dX7_putBehind_15 : decode cX7_putBehind 15 = .ok (.iload_n 3, 1) := by decide +kernel
theorem dX7_putBehind_16 : decode cX7_putBehind 16 = .ok (.invokevirtual 54, 3) := by decide +kernel
theorem dX7_putBehind_19 : decode cX7_putBehind 19 = .ok (.return_, 1) := by decide +kernel
def wg_X7_putBehind : List Cond := .code yX7_putBehind cX7_putBehind 4 none :: ([.fieldLink RX7 9 "KnotHouse$Net" "next" "[I"] ++ wsX70 ++ (wsV RX7 54 RX7 yX7_link wg_X7_link ++ []))
theorem gg_X7_putBehind_0 : GoodIn wg_X7_putBehind (wsV RX7 54 RX7 yX7_link wg_X7_link) := goodIn_sub (fun _ h => List.mem_cons_of_mem _ (List.mem_append_right _ (List.mem_append_left _ h))) (by decide +kernel)
set_option maxHeartbeats 4000000 in
set_option maxRecDepth 100000 in
theorem kg_X7_putBehind (l : Launch) (dC : Nat → ClassId) (dI : Nat → Nat → Nat) (cI cB cJ cZ : ClassId) (aX : Nat) (nx : Nat → Nat) (x7 x8 x9 x10 : Int32) (S : ow_NP) (hS0 : ow_b24 S) (a v : Nat) (ha : a < 24) (hv : v < 24) (sz : Nat) : Met l yX7_putBehind wg_X7_putBehind (({ frames := 1, cells := 0, slots := 0, locals := 22 } : Room)) (va_Pc [.ref aX, .int (nI a), .int (nI v)] (fun U => U.heap.size = sz ∧ va_P (dC, dI) vwCl [(aX, .inr (10, [.ref (nx 0), .ref (nx 1), .ref (nx 2), .ref (nx 3), .ref (nx 4), .ref (nx 5), .ref (nx 6), .int x7, .int x8, .int x9, .int x10])), ((nx 0), .inl (cI, 24, .inl (ow_nI S.1))), ((nx 1), .inl (cI, 24, .inl (ow_nI S.2)))] U.heap ∧ va_K (dC, dI) vwCl [(cI, .int), (cB, .byte), (cJ, .long), (cZ, .boolean)] U ∧ va_D (fun _ => True) [(aX, .inr (10, [.ref (nx 0), .ref (nx 1), .ref (nx 2), .ref (nx 3), .ref (nx 4), .ref (nx 5), .ref (nx 6), .int x7, .int x8, .int x9, .int x10])), ((nx 0), .inl (cI, 24, .inl (ow_nI S.1))), ((nx 1), .inl (cI, 24, .inl (ow_nI S.2)))])) (va_Qv (fun (g : Unit) => True) (fun g t => va_P (dC, dI) vwCl [(aX, .inr (10, [.ref (nx 0), .ref (nx 1), .ref (nx 2), .ref (nx 3), .ref (nx 4), .ref (nx 5), .ref (nx 6), .int x7, .int x8, .int x9, .int x10])), ((nx 0), .inl (cI, 24, .inl (ow_nI (np_putBehind S a v).1))), ((nx 1), .inl (cI, 24, .inl (ow_nI (np_putBehind S a v).2)))] t.heap ∧ va_D (va_A [(aX, .inr (10, [.ref (nx 0), .ref (nx 1), .ref (nx 2), .ref (nx 3), .ref (nx 4), .ref (nx 5), .ref (nx 6), .int x7, .int x8, .int x9, .int x10])), ((nx 0), .inl (cI, 24, .inl (ow_nI S.1))), ((nx 1), .inl (cI, 24, .inl (ow_nI S.2)))] sz) [(aX, .inr (10, [.ref (nx 0), .ref (nx 1), .ref (nx 2), .ref (nx 3), .ref (nx 4), .ref (nx 5), .ref (nx 6), .int x7, .int x8, .int x9, .int x10])), ((nx 0), .inl (cI, 24, .inl (ow_nI (np_putBehind S a v).1))), ((nx 1), .inl (cI, 24, .inl (ow_nI (np_putBehind S a v).2)))]) (va_A [(aX, .inr (10, [.ref (nx 0), .ref (nx 1), .ref (nx 2), .ref (nx 3), .ref (nx 4), .ref (nx 5), .ref (nx 6), .int x7, .int x8, .int x9, .int x10])), ((nx 0), .inl (cI, 24, .inl (ow_nI S.1))), ((nx 1), .inl (cI, 24, .inl (ow_nI S.2)))] sz)) 0 0 (va_A [(aX, .inr (10, [.ref (nx 0), .ref (nx 1), .ref (nx 2), .ref (nx 3), .ref (nx 4), .ref (nx 5), .ref (nx 6), .int x7, .int x8, .int x9, .int x10])), ((nx 0), .inl (cI, 24, .inl (ow_nI S.1))), ((nx 1), .inl (cI, 24, .inl (ow_nI S.2)))] sz) := by
  refine Met.ofW (cc := cX7_putBehind) (maxL := 4) (ret := none) (by decide) rfl ?_
  intro p e s m args below meth c s₁ B hml hv
  obtain ⟨rfl, hsz, hP, hK, hD0⟩ := hv
  have hx := B.exec
  have hb := B.bytes
  have hr := B.returns
  have hts := atoms_spec (ws := wg_X7_putBehind) B.pre
  have hown : s.vm.findClass RX7 = some m.cls := findClass_of_methodNamed B.named
  have hlocks := B.notSynchronized
  subst hsz
  have hD := hD0.self (sz := s.heap.size)
  generalize hAe : va_A [(aX, .inr (10, [.ref (nx 0), .ref (nx 1), .ref (nx 2), .ref (nx 3), .ref (nx 4), .ref (nx 5), .ref (nx 6), .int x7, .int x8, .int x9, .int x10])), ((nx 0), .inl (cI, 24, .inl (ow_nI S.1))), ((nx 1), .inl (cI, 24, .inl (ow_nI S.2)))] s.heap.size = A at hD ⊢
  have hA : ∀ q : Nat, s.heap.size ≤ q → A q := fun q h => by rw [← hAe]; exact Or.inr h
  have hS : va_S A s.heap s.heap [] := va_S.rf
  have hP : va_P (dC, dI) vwCl [(aX, .inr (10, [.ref (nx 0), .ref (nx 1), .ref (nx 2), .ref (nx 3), .ref (nx 4), .ref (nx 5), .ref (nx 6), .int x7, .int x8, .int x9, .int x10])), ((nx 0), .inl (cI, 24, .inl (ow_nI S.1))), ((nx 1), .inl (cI, 24, .inl (ow_nI S.2)))] s.heap := hP
  have hl := lv_entry ([.ref aX, .int (nI a), .int (nI v)]) (n := 4) (Nat.le_of_ble_eq_true rfl)
  rw [lg_entry_eq]
  generalize (lg_sl ([.ref aX, .int (nI a), .int (nI v)]) ++ List.replicate (4 - (lg_sl ([.ref aX, .int (nI a), .int (nI v)])).length) Slot.unset).toArray = ls at hl ⊢
  have hl : lv_has ls 4 [(0, .ref aX), (1, .int (nI a)), (2, .int (nI v))] := hl
  refine ow_named (fun QQ hQQ => ?_)
  suffices key9 : ∀ (H : Heap) (locs : List Loc), va_P (dC, dI) vwCl [(aX, .inr (10, [.ref (nx 0), .ref (nx 1), .ref (nx 2), .ref (nx 3), .ref (nx 4), .ref (nx 5), .ref (nx 6), .int x7, .int x8, .int x9, .int x10])), ((nx 0), .inl (cI, 24, .inl (ow_nI S.1))), ((nx 1), .inl (cI, 24, .inl (ow_nI S.2)))] H → va_S A s.heap H locs → W p l e ({ frames := 1, cells := 0, slots := 0, locals := 22 } : Room) s m ([.ref aX, .int (nI a), .int (nI v)] : List Value).toArray below meth c H locs 0 0 QQ (F0 m 0 ls []) from key9 s.heap [] hP hS
  intro H locs hP hS
  refine lv_aload_n hx hb dX7_putBehind_0 rfl (lv_at hl 0 rfl) ?_
  refine va_get (D := (dC, dI)) (ci := 10) (v := .ref (nx 0)) (C := RX7) (T := TX7) (N := 11) hx hb hts (fun _ h => List.mem_cons_of_mem _ (List.mem_append_left _ (List.mem_append_right _ h))) hown hK hP 0 rfl rfl 0 (by decide) (hts (.fieldLink RX7 9 "KnotHouse$Net" "next" "[I") (by decide +kernel)) (fun _ h9 => h9) rfl dX7_putBehind_1 ?_
  refine lv_iload_n hx hb dX7_putBehind_4 rfl (lv_at hl 1 rfl) ?_
  refine va_iald hx hb hK hP 1 0 rfl rfl (vp_in_nI (n := a) (N := 24) ha (by decide)) dX7_putBehind_5 ?_
  refine ow_topi (y := nI (S.1 a)) (ow_nI_at S.1 (Nat.lt_trans (m := 24) ha (by decide))) ?_
  refine lv_istore_n (lv' := [(3, .int (nI (S.1 a))), (0, .ref aX), (1, .int (nI a)), (2, .int (nI v))]) hx hb dX7_putBehind_6 rfl hl (by decide) rfl (fun ls hl => ?_)
  refine lv_aload_n hx hb dX7_putBehind_7 rfl (lv_at hl 1 rfl) ?_
  refine lv_iload_n hx hb dX7_putBehind_8 rfl (lv_at hl 2 rfl) ?_
  refine lv_iload_n hx hb dX7_putBehind_9 rfl (lv_at hl 3 rfl) ?_
  have hPc := hP.sub (ws' := [(aX, .inr (10, [.ref (nx 0), .ref (nx 1), .ref (nx 2), .ref (nx 3), .ref (nx 4), .ref (nx 5), .ref (nx 6), .int x7, .int x8, .int x9, .int x10])), ((nx 0), .inl (cI, 24, .inl (ow_nI S.1))), ((nx 1), .inl (cI, 24, .inl (ow_nI S.2)))]) [0, 1, 2] rfl
  have hDc := hD.sub (ws' := [(aX, .inr (10, [.ref (nx 0), .ref (nx 1), .ref (nx 2), .ref (nx 3), .ref (nx 4), .ref (nx 5), .ref (nx 6), .int x7, .int x8, .int x9, .int x10])), ((nx 0), .inl (cI, 24, .inl (ow_nI S.1))), ((nx 1), .inl (cI, 24, .inl (ow_nI S.2)))]) [0, 1, 2] (by decide) rfl
  have hFc := va_free (wc := [(aX, .inr (10, [.ref (nx 0), .ref (nx 1), .ref (nx 2), .ref (nx 3), .ref (nx 4), .ref (nx 5), .ref (nx 6), .int x7, .int x8, .int x9, .int x10])), ((nx 0), .inl (cI, 24, .inl (ow_nI S.1))), ((nx 1), .inl (cI, 24, .inl (ow_nI S.2)))]) hD hS hA [0, 1, 2] rfl
  refine va_callv (va_runV (As := [.int (nI a), .int (nI v)]) (rest := []) ⟨hx, hb, hml, hown, hts⟩ (kg_X7_link l dC dI cI cB cJ cZ aX nx x7 x8 x9 x10 S a v ha hv H.size) (cwV 2 hts gg_X7_putBehind_0 rfl rfl rfl (by decide +kernel) ⟨(Nat.le_of_ble_eq_true rfl), (Nat.le_of_ble_eq_true rfl)⟩) ⟨fun a U g mk q => by obtain ⟨q0, q1, qP, qK, qD⟩ := q; exact ⟨q0, q1, qP, va_K.moved (u := U) (U := U.calling g mk a) (Vm.Alike.refl U.vm) qK, qD⟩, va_recv hK hPc (ci := 10) (q0 := 0) rfl rfl, fun U hU hW => ⟨rfl, by rw [hU], by rw [hU]; exact hPc, va_K.moved hW.alike hK, hDc.weaken (fun _ _ _ _ => trivial)⟩⟩ rfl rfl hl.1 rfl (lv_room (Nat.le_of_ble_eq_true rfl)) dX7_putBehind_10 ⟨(Nat.le_of_ble_eq_true rfl), (Nat.le_of_ble_eq_true rfl)⟩) hS (fun q _ h => hFc q h) hFc (fun u9 t H1 locs ht hvm hw hB hz1 hk1 hS => ?_)
  obtain ⟨hP1, hD1⟩ := hB
  rw [ht] at hP1
  obtain ⟨hP, hD⟩ := va_join (wr := []) (w1 := [(aX, .inr (10, [.ref (nx 0), .ref (nx 1), .ref (nx 2), .ref (nx 3), .ref (nx 4), .ref (nx 5), .ref (nx 6), .int x7, .int x8, .int x9, .int x10])), ((nx 0), .inl (cI, 24, .inl (ow_nI (nl S a v).1))), ((nx 1), .inl (cI, 24, .inl (ow_nI (nl S a v).2)))]) hP hD [0, 1, 2] [] rfl rfl (by decide) (by decide) hk1 hFc hP1 hD1
  generalize H1 = H at hP hS ⊢
  have hP : va_P (dC, dI) vwCl [(aX, .inr (10, [.ref (nx 0), .ref (nx 1), .ref (nx 2), .ref (nx 3), .ref (nx 4), .ref (nx 5), .ref (nx 6), .int x7, .int x8, .int x9, .int x10])), ((nx 0), .inl (cI, 24, .inl (ow_nI (nl S a v).1))), ((nx 1), .inl (cI, 24, .inl (ow_nI (nl S a v).2)))] H := hP
  have hD : va_D A [(aX, .inr (10, [.ref (nx 0), .ref (nx 1), .ref (nx 2), .ref (nx 3), .ref (nx 4), .ref (nx 5), .ref (nx 6), .int x7, .int x8, .int x9, .int x10])), ((nx 0), .inl (cI, 24, .inl (ow_nI (nl S a v).1))), ((nx 1), .inl (cI, 24, .inl (ow_nI (nl S a v).2)))] := hD
  refine lv_aload_n hx hb dX7_putBehind_13 rfl (lv_at hl 1 rfl) ?_
  refine lv_iload_n hx hb dX7_putBehind_14 rfl (lv_at hl 3 rfl) ?_
  refine lv_iload_n hx hb dX7_putBehind_15 rfl (lv_at hl 0 rfl) ?_
  have hPc := hP.sub (ws' := [(aX, .inr (10, [.ref (nx 0), .ref (nx 1), .ref (nx 2), .ref (nx 3), .ref (nx 4), .ref (nx 5), .ref (nx 6), .int x7, .int x8, .int x9, .int x10])), ((nx 0), .inl (cI, 24, .inl (ow_nI (nl S a v).1))), ((nx 1), .inl (cI, 24, .inl (ow_nI (nl S a v).2)))]) [0, 1, 2] rfl
  have hDc := hD.sub (ws' := [(aX, .inr (10, [.ref (nx 0), .ref (nx 1), .ref (nx 2), .ref (nx 3), .ref (nx 4), .ref (nx 5), .ref (nx 6), .int x7, .int x8, .int x9, .int x10])), ((nx 0), .inl (cI, 24, .inl (ow_nI (nl S a v).1))), ((nx 1), .inl (cI, 24, .inl (ow_nI (nl S a v).2)))]) [0, 1, 2] (by decide) rfl
  have hFc := va_free (wc := [(aX, .inr (10, [.ref (nx 0), .ref (nx 1), .ref (nx 2), .ref (nx 3), .ref (nx 4), .ref (nx 5), .ref (nx 6), .int x7, .int x8, .int x9, .int x10])), ((nx 0), .inl (cI, 24, .inl (ow_nI (nl S a v).1))), ((nx 1), .inl (cI, 24, .inl (ow_nI (nl S a v).2)))]) hD hS hA [0, 1, 2] rfl
  refine va_callv (va_runV (As := [.int (nI v), .int (nI (S.1 a))]) (rest := []) ⟨hx, hb, hml, hown, hts⟩ (kg_X7_link l dC dI cI cB cJ cZ aX nx x7 x8 x9 x10 (nl S a v) v (S.1 a) hv (hS0.1 a) H.size) (cwV 2 hts gg_X7_putBehind_0 rfl rfl rfl (by decide +kernel) ⟨(Nat.le_of_ble_eq_true rfl), (Nat.le_of_ble_eq_true rfl)⟩) ⟨fun a U g mk q => by obtain ⟨q0, q1, qP, qK, qD⟩ := q; exact ⟨q0, q1, qP, va_K.moved (u := U) (U := U.calling g mk a) (Vm.Alike.refl U.vm) qK, qD⟩, va_recv hK hPc (ci := 10) (q0 := 0) rfl rfl, fun U hU hW => ⟨rfl, by rw [hU], by rw [hU]; exact hPc, va_K.moved hW.alike hK, hDc.weaken (fun _ _ _ _ => trivial)⟩⟩ rfl rfl hl.1 rfl (lv_room (Nat.le_of_ble_eq_true rfl)) dX7_putBehind_16 ⟨(Nat.le_of_ble_eq_true rfl), (Nat.le_of_ble_eq_true rfl)⟩) hS (fun q _ h => hFc q h) hFc (fun u9 t H1 locs ht hvm hw hB hz1 hk1 hS => ?_)
  obtain ⟨hP1, hD1⟩ := hB
  rw [ht] at hP1
  obtain ⟨hP, hD⟩ := va_join (wr := []) (w1 := [(aX, .inr (10, [.ref (nx 0), .ref (nx 1), .ref (nx 2), .ref (nx 3), .ref (nx 4), .ref (nx 5), .ref (nx 6), .int x7, .int x8, .int x9, .int x10])), ((nx 0), .inl (cI, 24, .inl (ow_nI (nl (nl S a v) v (S.1 a)).1))), ((nx 1), .inl (cI, 24, .inl (ow_nI (nl (nl S a v) v (S.1 a)).2)))]) hP hD [0, 1, 2] [] rfl rfl (by decide) (by decide) hk1 hFc hP1 hD1
  generalize H1 = H at hP hS ⊢
  have hP : va_P (dC, dI) vwCl [(aX, .inr (10, [.ref (nx 0), .ref (nx 1), .ref (nx 2), .ref (nx 3), .ref (nx 4), .ref (nx 5), .ref (nx 6), .int x7, .int x8, .int x9, .int x10])), ((nx 0), .inl (cI, 24, .inl (ow_nI (nl (nl S a v) v (S.1 a)).1))), ((nx 1), .inl (cI, 24, .inl (ow_nI (nl (nl S a v) v (S.1 a)).2)))] H := hP
  have hD : va_D A [(aX, .inr (10, [.ref (nx 0), .ref (nx 1), .ref (nx 2), .ref (nx 3), .ref (nx 4), .ref (nx 5), .ref (nx 6), .int x7, .int x8, .int x9, .int x10])), ((nx 0), .inl (cI, 24, .inl (ow_nI (nl (nl S a v) v (S.1 a)).1))), ((nx 1), .inl (cI, 24, .inl (ow_nI (nl (nl S a v) v (S.1 a)).2)))] := hD
  rw [hQQ]
  exact W.vret hx hb hr (fun t ht hW => ⟨⟨(), rfl, trivial, by rw [ht]; exact hP, hD⟩, hS.F ht⟩) hS.2.2 dX7_putBehind_19
theorem dX7_openCircle_0 : decode cX7_openCircle 0 = .ok (.aload_n 0, 1) := by decide +kernel
theorem dX7_openCircle_1 : decode cX7_openCircle 1 = .ok (.dup, 1) := by decide +kernel
theorem dX7_openCircle_2 : decode cX7_openCircle 2 = .ok (.getfield 42, 3) := by decide +kernel
theorem dX7_openCircle_5 : decode cX7_openCircle 5 = .ok (.iconst 1, 1) := by decide +kernel
theorem dX7_openCircle_6 : decode cX7_openCircle 6 = .ok (.isub, 1) := by decide +kernel
theorem dX7_openCircle_7 : decode cX7_openCircle 7 = .ok (.putfield 42, 3) := by decide +kernel
theorem dX7_openCircle_10 : decode cX7_openCircle 10 = .ok (.aload_n 0, 1) := by decide +kernel
theorem dX7_openCircle_11 : decode cX7_openCircle 11 = .ok (.iload_n 1, 1) := by decide +kernel
theorem dX7_openCircle_12 : decode cX7_openCircle 12 = .ok (.iload_n 1, 1) := by decide +kernel
theorem dX7_openCircle_13 : decode cX7_openCircle 13 = .ok (.invokevirtual 54, 3) := by decide +kernel
theorem dX7_openCircle_16 : decode cX7_openCircle 16 = .ok (.return_, 1) := by decide +kernel
def wg_X7_openCircle : List Cond := .code yX7_openCircle cX7_openCircle 2 none :: ([.fieldLink RX7 42 "KnotHouse$Net" "circles" "I"] ++ wsX70 ++ (wsV RX7 54 RX7 yX7_link wg_X7_link ++ []))
theorem gg_X7_openCircle_0 : GoodIn wg_X7_openCircle (wsV RX7 54 RX7 yX7_link wg_X7_link) := goodIn_sub (fun _ h => List.mem_cons_of_mem _ (List.mem_append_right _ (List.mem_append_left _ h))) (by decide +kernel)
set_option maxHeartbeats 4000000 in
set_option maxRecDepth 100000 in
theorem kg_X7_openCircle (l : Launch) (dC : Nat → ClassId) (dI : Nat → Nat → Nat) (cI cB cJ cZ : ClassId) (aX : Nat) (nx : Nat → Nat) (x7 x8 x9 x10 : Int32) (S : ow_NP) (v : Nat) (hv : v < 24) (sz : Nat) : Met l yX7_openCircle wg_X7_openCircle (({ frames := 1, cells := 0, slots := 0, locals := 22 } : Room)) (va_Pc [.ref aX, .int (nI v)] (fun U => U.heap.size = sz ∧ va_P (dC, dI) vwCl [(aX, .inr (10, [.ref (nx 0), .ref (nx 1), .ref (nx 2), .ref (nx 3), .ref (nx 4), .ref (nx 5), .ref (nx 6), .int x7, .int x8, .int x9, .int x10])), ((nx 0), .inl (cI, 24, .inl (ow_nI S.1))), ((nx 1), .inl (cI, 24, .inl (ow_nI S.2)))] U.heap ∧ va_K (dC, dI) vwCl [(cI, .int), (cB, .byte), (cJ, .long), (cZ, .boolean)] U ∧ va_D (fun _ => True) [(aX, .inr (10, [.ref (nx 0), .ref (nx 1), .ref (nx 2), .ref (nx 3), .ref (nx 4), .ref (nx 5), .ref (nx 6), .int x7, .int x8, .int x9, .int x10])), ((nx 0), .inl (cI, 24, .inl (ow_nI S.1))), ((nx 1), .inl (cI, 24, .inl (ow_nI S.2)))])) (va_Qv (fun (g : Unit) => True) (fun g t => va_P (dC, dI) vwCl [(aX, .inr (10, [.ref (nx 0), .ref (nx 1), .ref (nx 2), .ref (nx 3), .ref (nx 4), .ref (nx 5), .ref (nx 6), .int x7, .int (x8 - 1), .int x9, .int x10])), ((nx 0), .inl (cI, 24, .inl (ow_nI (nl S v v).1))), ((nx 1), .inl (cI, 24, .inl (ow_nI (nl S v v).2)))] t.heap ∧ va_D (va_A [(aX, .inr (10, [.ref (nx 0), .ref (nx 1), .ref (nx 2), .ref (nx 3), .ref (nx 4), .ref (nx 5), .ref (nx 6), .int x7, .int x8, .int x9, .int x10])), ((nx 0), .inl (cI, 24, .inl (ow_nI S.1))), ((nx 1), .inl (cI, 24, .inl (ow_nI S.2)))] sz) [(aX, .inr (10, [.ref (nx 0), .ref (nx 1), .ref (nx 2), .ref (nx 3), .ref (nx 4), .ref (nx 5), .ref (nx 6), .int x7, .int (x8 - 1), .int x9, .int x10])), ((nx 0), .inl (cI, 24, .inl (ow_nI (nl S v v).1))), ((nx 1), .inl (cI, 24, .inl (ow_nI (nl S v v).2)))]) (va_A [(aX, .inr (10, [.ref (nx 0), .ref (nx 1), .ref (nx 2), .ref (nx 3), .ref (nx 4), .ref (nx 5), .ref (nx 6), .int x7, .int x8, .int x9, .int x10])), ((nx 0), .inl (cI, 24, .inl (ow_nI S.1))), ((nx 1), .inl (cI, 24, .inl (ow_nI S.2)))] sz)) 0 0 (va_A [(aX, .inr (10, [.ref (nx 0), .ref (nx 1), .ref (nx 2), .ref (nx 3), .ref (nx 4), .ref (nx 5), .ref (nx 6), .int x7, .int x8, .int x9, .int x10])), ((nx 0), .inl (cI, 24, .inl (ow_nI S.1))), ((nx 1), .inl (cI, 24, .inl (ow_nI S.2)))] sz) := by
  refine Met.ofW (cc := cX7_openCircle) (maxL := 2) (ret := none) (by decide) rfl ?_
  intro p e s m args below meth c s₁ B hml hv
  obtain ⟨rfl, hsz, hP, hK, hD0⟩ := hv
  have hx := B.exec
  have hb := B.bytes
  have hr := B.returns
  have hts := atoms_spec (ws := wg_X7_openCircle) B.pre
  have hown : s.vm.findClass RX7 = some m.cls := findClass_of_methodNamed B.named
  have hlocks := B.notSynchronized
  subst hsz
  have hD := hD0.self (sz := s.heap.size)
  generalize hAe : va_A [(aX, .inr (10, [.ref (nx 0), .ref (nx 1), .ref (nx 2), .ref (nx 3), .ref (nx 4), .ref (nx 5), .ref (nx 6), .int x7, .int x8, .int x9, .int x10])), ((nx 0), .inl (cI, 24, .inl (ow_nI S.1))), ((nx 1), .inl (cI, 24, .inl (ow_nI S.2)))] s.heap.size = A at hD ⊢
  have hA : ∀ q : Nat, s.heap.size ≤ q → A q := fun q h => by rw [← hAe]; exact Or.inr h
  have hS : va_S A s.heap s.heap [] := va_S.rf
  have hP : va_P (dC, dI) vwCl [(aX, .inr (10, [.ref (nx 0), .ref (nx 1), .ref (nx 2), .ref (nx 3), .ref (nx 4), .ref (nx 5), .ref (nx 6), .int x7, .int x8, .int x9, .int x10])), ((nx 0), .inl (cI, 24, .inl (ow_nI S.1))), ((nx 1), .inl (cI, 24, .inl (ow_nI S.2)))] s.heap := hP
  have hl := lv_entry ([.ref aX, .int (nI v)]) (n := 2) (Nat.le_of_ble_eq_true rfl)
  rw [lg_entry_eq]
  generalize (lg_sl ([.ref aX, .int (nI v)]) ++ List.replicate (2 - (lg_sl ([.ref aX, .int (nI v)])).length) Slot.unset).toArray = ls at hl ⊢
  have hl : lv_has ls 2 [(0, .ref aX), (1, .int (nI v))] := hl
  refine ow_named (fun QQ hQQ => ?_)
  suffices key9 : ∀ (H : Heap) (locs : List Loc), va_P (dC, dI) vwCl [(aX, .inr (10, [.ref (nx 0), .ref (nx 1), .ref (nx 2), .ref (nx 3), .ref (nx 4), .ref (nx 5), .ref (nx 6), .int x7, .int x8, .int x9, .int x10])), ((nx 0), .inl (cI, 24, .inl (ow_nI S.1))), ((nx 1), .inl (cI, 24, .inl (ow_nI S.2)))] H → va_S A s.heap H locs → W p l e ({ frames := 1, cells := 0, slots := 0, locals := 22 } : Room) s m ([.ref aX, .int (nI v)] : List Value).toArray below meth c H locs 0 0 QQ (F0 m 0 ls []) from key9 s.heap [] hP hS
  intro H locs hP hS
  refine lv_aload_n hx hb dX7_openCircle_0 rfl (lv_at hl 0 rfl) ?_
  refine lv_dup hx hb dX7_openCircle_1 rfl ?_
  refine va_get (D := (dC, dI)) (ci := 10) (v := .int x8) (C := RX7) (T := TX7) (N := 11) hx hb hts (fun _ h => List.mem_cons_of_mem _ (List.mem_append_left _ (List.mem_append_right _ h))) hown hK hP 0 rfl rfl 8 (by decide) (hts (.fieldLink RX7 42 "KnotHouse$Net" "circles" "I") (by decide +kernel)) (fun _ h9 => h9) rfl dX7_openCircle_2 ?_
  refine lv_iconst (v := 1) hx hb dX7_openCircle_5 (by decide) ?_
  refine lv_isub hx hb dX7_openCircle_6 ?_
  refine va_put (D := (dC, dI)) (ci := 10) (v := .int (x8 - 1)) (ty := .int) (C := RX7) (T := TX7) (N := 11) hx hb hts (fun _ h => List.mem_cons_of_mem _ (List.mem_append_left _ (List.mem_append_right _ h))) tyX7 tyX7_ok nmX7 hown hK hP hD hS 0 rfl rfl 8 (by decide) (hts (.fieldLink RX7 42 "KnotHouse$Net" "circles" "I") (by decide +kernel)) (fun _ h9 => h9) rfl (by decide +kernel) rfl rfl (Nat.le_of_ble_eq_true rfl) dX7_openCircle_7 (fun H locs hP hD hS => ?_)
  have hP : va_P (dC, dI) vwCl [(aX, .inr (10, [.ref (nx 0), .ref (nx 1), .ref (nx 2), .ref (nx 3), .ref (nx 4), .ref (nx 5), .ref (nx 6), .int x7, .int (x8 - 1), .int x9, .int x10])), ((nx 0), .inl (cI, 24, .inl (ow_nI S.1))), ((nx 1), .inl (cI, 24, .inl (ow_nI S.2)))] H := hP
  have hD : va_D A [(aX, .inr (10, [.ref (nx 0), .ref (nx 1), .ref (nx 2), .ref (nx 3), .ref (nx 4), .ref (nx 5), .ref (nx 6), .int x7, .int (x8 - 1), .int x9, .int x10])), ((nx 0), .inl (cI, 24, .inl (ow_nI S.1))), ((nx 1), .inl (cI, 24, .inl (ow_nI S.2)))] := hD
  refine lv_aload_n hx hb dX7_openCircle_10 rfl (lv_at hl 0 rfl) ?_
  refine lv_iload_n hx hb dX7_openCircle_11 rfl (lv_at hl 1 rfl) ?_
  refine lv_iload_n hx hb dX7_openCircle_12 rfl (lv_at hl 1 rfl) ?_
  have hPc := hP.sub (ws' := [(aX, .inr (10, [.ref (nx 0), .ref (nx 1), .ref (nx 2), .ref (nx 3), .ref (nx 4), .ref (nx 5), .ref (nx 6), .int x7, .int (x8 - 1), .int x9, .int x10])), ((nx 0), .inl (cI, 24, .inl (ow_nI S.1))), ((nx 1), .inl (cI, 24, .inl (ow_nI S.2)))]) [0, 1, 2] rfl
  have hDc := hD.sub (ws' := [(aX, .inr (10, [.ref (nx 0), .ref (nx 1), .ref (nx 2), .ref (nx 3), .ref (nx 4), .ref (nx 5), .ref (nx 6), .int x7, .int (x8 - 1), .int x9, .int x10])), ((nx 0), .inl (cI, 24, .inl (ow_nI S.1))), ((nx 1), .inl (cI, 24, .inl (ow_nI S.2)))]) [0, 1, 2] (by decide) rfl
  have hFc := va_free (wc := [(aX, .inr (10, [.ref (nx 0), .ref (nx 1), .ref (nx 2), .ref (nx 3), .ref (nx 4), .ref (nx 5), .ref (nx 6), .int x7, .int (x8 - 1), .int x9, .int x10])), ((nx 0), .inl (cI, 24, .inl (ow_nI S.1))), ((nx 1), .inl (cI, 24, .inl (ow_nI S.2)))]) hD hS hA [0, 1, 2] rfl
  refine va_callv (va_runV (As := [.int (nI v), .int (nI v)]) (rest := []) ⟨hx, hb, hml, hown, hts⟩ (kg_X7_link l dC dI cI cB cJ cZ aX nx x7 (x8 - 1) x9 x10 S v v hv hv H.size) (cwV 2 hts gg_X7_openCircle_0 rfl rfl rfl (by decide +kernel) ⟨(Nat.le_of_ble_eq_true rfl), (Nat.le_of_ble_eq_true rfl)⟩) ⟨fun a U g mk q => by obtain ⟨q0, q1, qP, qK, qD⟩ := q; exact ⟨q0, q1, qP, va_K.moved (u := U) (U := U.calling g mk a) (Vm.Alike.refl U.vm) qK, qD⟩, va_recv hK hPc (ci := 10) (q0 := 0) rfl rfl, fun U hU hW => ⟨rfl, by rw [hU], by rw [hU]; exact hPc, va_K.moved hW.alike hK, hDc.weaken (fun _ _ _ _ => trivial)⟩⟩ rfl rfl hl.1 rfl (lv_room (Nat.le_of_ble_eq_true rfl)) dX7_openCircle_13 ⟨(Nat.le_of_ble_eq_true rfl), (Nat.le_of_ble_eq_true rfl)⟩) hS (fun q _ h => hFc q h) hFc (fun u9 t H1 locs ht hvm hw hB hz1 hk1 hS => ?_)
  obtain ⟨hP1, hD1⟩ := hB
  rw [ht] at hP1
  obtain ⟨hP, hD⟩ := va_join (wr := []) (w1 := [(aX, .inr (10, [.ref (nx 0), .ref (nx 1), .ref (nx 2), .ref (nx 3), .ref (nx 4), .ref (nx 5), .ref (nx 6), .int x7, .int (x8 - 1), .int x9, .int x10])), ((nx 0), .inl (cI, 24, .inl (ow_nI (nl S v v).1))), ((nx 1), .inl (cI, 24, .inl (ow_nI (nl S v v).2)))]) hP hD [0, 1, 2] [] rfl rfl (by decide) (by decide) hk1 hFc hP1 hD1
  generalize H1 = H at hP hS ⊢
  have hP : va_P (dC, dI) vwCl [(aX, .inr (10, [.ref (nx 0), .ref (nx 1), .ref (nx 2), .ref (nx 3), .ref (nx 4), .ref (nx 5), .ref (nx 6), .int x7, .int (x8 - 1), .int x9, .int x10])), ((nx 0), .inl (cI, 24, .inl (ow_nI (nl S v v).1))), ((nx 1), .inl (cI, 24, .inl (ow_nI (nl S v v).2)))] H := hP
  have hD : va_D A [(aX, .inr (10, [.ref (nx 0), .ref (nx 1), .ref (nx 2), .ref (nx 3), .ref (nx 4), .ref (nx 5), .ref (nx 6), .int x7, .int (x8 - 1), .int x9, .int x10])), ((nx 0), .inl (cI, 24, .inl (ow_nI (nl S v v).1))), ((nx 1), .inl (cI, 24, .inl (ow_nI (nl S v v).2)))] := hD
  rw [hQQ]
  exact W.vret hx hb hr (fun t ht hW => ⟨⟨(), rfl, trivial, by rw [ht]; exact hP, hD⟩, hS.F ht⟩) hS.2.2 dX7_openCircle_16
theorem dX7_cut_0 : decode cX7_cut 0 = .ok (.aload_n 0, 1) := by decide +kernel
theorem dX7_cut_1 : decode cX7_cut 1 = .ok (.getfield 9, 3) := by decide +kernel
theorem dX7_cut_4 : decode cX7_cut 4 = .ok (.iload_n 1, 1) := by decide +kernel
theorem dX7_cut_5 : decode cX7_cut 5 = .ok (.iaload, 1) := by decide +kernel
theorem dX7_cut_6 : decode cX7_cut 6 = .ok (.iload_n 1, 1) := by decide +kernel
theorem dX7_cut_7 : decode cX7_cut 7 = .ok (.if_icmp .ne 16, 3) := by decide +kernel
theorem dX7_cut_10 : decode cX7_cut 10 = .ok (.aload_n 0, 1) := by decide +kernel
theorem dX7_cut_11 : decode cX7_cut 11 = .ok (.dup, 1) := by decide +kernel
theorem dX7_cut_12 : decode cX7_cut 12 = .ok (.getfield 42, 3) := by decide +kernel
theorem dX7_cut_15 : decode cX7_cut 15 = .ok (.iconst 1, 1) := by decide +kernel
theorem dX7_cut_16 : decode cX7_cut 16 = .ok (.iadd, 1) := by decide +kernel
theorem dX7_cut_17 : decode cX7_cut 17 = .ok (.putfield 42, 3) := by decide +kernel
theorem dX7_cut_20 : decode cX7_cut 20 = .ok (.goto 19, 3) := by decide +kernel
theorem dX7_cut_23 : decode cX7_cut 23 = .ok (.aload_n 0, 1) := by decide +kernel
theorem dX7_cut_24 : decode cX7_cut 24 = .ok (.aload_n 0, 1) := by decide +kernel
theorem dX7_cut_25 : decode cX7_cut 25 = .ok (.getfield 15, 3) := by decide +kernel
theorem dX7_cut_28 : decode cX7_cut 28 = .ok (.iload_n 1, 1) := by decide +kernel
theorem dX7_cut_29 : decode cX7_cut 29 = .ok (.iaload, 1) := by decide +kernel
theorem dX7_cut_30 : decode cX7_cut 30 = .ok (.aload_n 0, 1) := by decide +kernel
theorem dX7_cut_31 : decode cX7_cut 31 = .ok (.getfield 9, 3) := by decide +kernel
theorem dX7_cut_34 : decode cX7_cut 34 = .ok (.iload_n 1, 1) := by decide +kernel
theorem dX7_cut_35 : decode cX7_cut 35 = .ok (.iaload, 1) := by decide +kernel
theorem dX7_cut_36 : decode cX7_cut 36 = .ok (.invokevirtual 54, 3) := by decide +kernel
theorem dX7_cut_39 : decode cX7_cut 39 = .ok (.return_, 1) := by decide +kernel
def wg_X7_cut : List Cond := .code yX7_cut cX7_cut 2 none :: ([.fieldLink RX7 9 "KnotHouse$Net" "next" "[I", .fieldLink RX7 42 "KnotHouse$Net" "circles" "I", .fieldLink RX7 15 "KnotHouse$Net" "prev" "[I"] ++ wsX70 ++ (wsV RX7 54 RX7 yX7_link wg_X7_link ++ []))
theorem gg_X7_cut_0 : GoodIn wg_X7_cut (wsV RX7 54 RX7 yX7_link wg_X7_link) := goodIn_sub (fun _ h => List.mem_cons_of_mem _ (List.mem_append_right _ (List.mem_append_left _ h))) (by decide +kernel)
set_option maxHeartbeats 4000000 in
set_option maxRecDepth 100000 in
theorem kg_X7_cut (l : Launch) (dC : Nat → ClassId) (dI : Nat → Nat → Nat) (cI cB cJ cZ : ClassId) (aX : Nat) (nx : Nat → Nat) (x7 x8 x9 x10 : Int32) (S : ow_NP) (hS0 : ow_b24 S) (v : Nat) (hv : v < 24) (sz : Nat) : Met l yX7_cut wg_X7_cut (({ frames := 1, cells := 0, slots := 0, locals := 22 } : Room)) (va_Pc [.ref aX, .int (nI v)] (fun U => U.heap.size = sz ∧ va_P (dC, dI) vwCl [(aX, .inr (10, [.ref (nx 0), .ref (nx 1), .ref (nx 2), .ref (nx 3), .ref (nx 4), .ref (nx 5), .ref (nx 6), .int x7, .int x8, .int x9, .int x10])), ((nx 0), .inl (cI, 24, .inl (ow_nI S.1))), ((nx 1), .inl (cI, 24, .inl (ow_nI S.2)))] U.heap ∧ va_K (dC, dI) vwCl [(cI, .int), (cB, .byte), (cJ, .long), (cZ, .boolean)] U ∧ va_D (fun _ => True) [(aX, .inr (10, [.ref (nx 0), .ref (nx 1), .ref (nx 2), .ref (nx 3), .ref (nx 4), .ref (nx 5), .ref (nx 6), .int x7, .int x8, .int x9, .int x10])), ((nx 0), .inl (cI, 24, .inl (ow_nI S.1))), ((nx 1), .inl (cI, 24, .inl (ow_nI S.2)))])) (va_Qv (fun (g : Unit) => True) (fun g t => va_P (dC, dI) vwCl [(aX, .inr (10, [.ref (nx 0), .ref (nx 1), .ref (nx 2), .ref (nx 3), .ref (nx 4), .ref (nx 5), .ref (nx 6), .int x7, .int (np_cutC S v x8), .int x9, .int x10])), ((nx 0), .inl (cI, 24, .inl (ow_nI (np_cut S v).1))), ((nx 1), .inl (cI, 24, .inl (ow_nI (np_cut S v).2)))] t.heap ∧ va_D (va_A [(aX, .inr (10, [.ref (nx 0), .ref (nx 1), .ref (nx 2), .ref (nx 3), .ref (nx 4), .ref (nx 5), .ref (nx 6), .int x7, .int x8, .int x9, .int x10])), ((nx 0), .inl (cI, 24, .inl (ow_nI S.1))), ((nx 1), .inl (cI, 24, .inl (ow_nI S.2)))] sz) [(aX, .inr (10, [.ref (nx 0), .ref (nx 1), .ref (nx 2), .ref (nx 3), .ref (nx 4), .ref (nx 5), .ref (nx 6), .int x7, .int (np_cutC S v x8), .int x9, .int x10])), ((nx 0), .inl (cI, 24, .inl (ow_nI (np_cut S v).1))), ((nx 1), .inl (cI, 24, .inl (ow_nI (np_cut S v).2)))]) (va_A [(aX, .inr (10, [.ref (nx 0), .ref (nx 1), .ref (nx 2), .ref (nx 3), .ref (nx 4), .ref (nx 5), .ref (nx 6), .int x7, .int x8, .int x9, .int x10])), ((nx 0), .inl (cI, 24, .inl (ow_nI S.1))), ((nx 1), .inl (cI, 24, .inl (ow_nI S.2)))] sz)) 0 0 (va_A [(aX, .inr (10, [.ref (nx 0), .ref (nx 1), .ref (nx 2), .ref (nx 3), .ref (nx 4), .ref (nx 5), .ref (nx 6), .int x7, .int x8, .int x9, .int x10])), ((nx 0), .inl (cI, 24, .inl (ow_nI S.1))), ((nx 1), .inl (cI, 24, .inl (ow_nI S.2)))] sz) := by
  refine Met.ofW (cc := cX7_cut) (maxL := 2) (ret := none) (by decide) rfl ?_
  intro p e s m args below meth c s₁ B hml hv
  obtain ⟨rfl, hsz, hP, hK, hD0⟩ := hv
  have hx := B.exec
  have hb := B.bytes
  have hr := B.returns
  have hts := atoms_spec (ws := wg_X7_cut) B.pre
  have hown : s.vm.findClass RX7 = some m.cls := findClass_of_methodNamed B.named
  have hlocks := B.notSynchronized
  subst hsz
  have hD := hD0.self (sz := s.heap.size)
  generalize hAe : va_A [(aX, .inr (10, [.ref (nx 0), .ref (nx 1), .ref (nx 2), .ref (nx 3), .ref (nx 4), .ref (nx 5), .ref (nx 6), .int x7, .int x8, .int x9, .int x10])), ((nx 0), .inl (cI, 24, .inl (ow_nI S.1))), ((nx 1), .inl (cI, 24, .inl (ow_nI S.2)))] s.heap.size = A at hD ⊢
  have hA : ∀ q : Nat, s.heap.size ≤ q → A q := fun q h => by rw [← hAe]; exact Or.inr h
  have hS : va_S A s.heap s.heap [] := va_S.rf
  have hP : va_P (dC, dI) vwCl [(aX, .inr (10, [.ref (nx 0), .ref (nx 1), .ref (nx 2), .ref (nx 3), .ref (nx 4), .ref (nx 5), .ref (nx 6), .int x7, .int x8, .int x9, .int x10])), ((nx 0), .inl (cI, 24, .inl (ow_nI S.1))), ((nx 1), .inl (cI, 24, .inl (ow_nI S.2)))] s.heap := hP
  have hl := lv_entry ([.ref aX, .int (nI v)]) (n := 2) (Nat.le_of_ble_eq_true rfl)
  rw [lg_entry_eq]
  generalize (lg_sl ([.ref aX, .int (nI v)]) ++ List.replicate (2 - (lg_sl ([.ref aX, .int (nI v)])).length) Slot.unset).toArray = ls at hl ⊢
  have hl : lv_has ls 2 [(0, .ref aX), (1, .int (nI v))] := hl
  refine ow_named (fun QQ hQQ => ?_)
  suffices key9 : ∀ (H : Heap) (locs : List Loc), va_P (dC, dI) vwCl [(aX, .inr (10, [.ref (nx 0), .ref (nx 1), .ref (nx 2), .ref (nx 3), .ref (nx 4), .ref (nx 5), .ref (nx 6), .int x7, .int x8, .int x9, .int x10])), ((nx 0), .inl (cI, 24, .inl (ow_nI S.1))), ((nx 1), .inl (cI, 24, .inl (ow_nI S.2)))] H → va_S A s.heap H locs → W p l e ({ frames := 1, cells := 0, slots := 0, locals := 22 } : Room) s m ([.ref aX, .int (nI v)] : List Value).toArray below meth c H locs 0 0 QQ (F0 m 0 ls []) from key9 s.heap [] hP hS
  intro H locs hP hS
  refine lv_aload_n hx hb dX7_cut_0 rfl (lv_at hl 0 rfl) ?_
  refine va_get (D := (dC, dI)) (ci := 10) (v := .ref (nx 0)) (C := RX7) (T := TX7) (N := 11) hx hb hts (fun _ h => List.mem_cons_of_mem _ (List.mem_append_left _ (List.mem_append_right _ h))) hown hK hP 0 rfl rfl 0 (by decide) (hts (.fieldLink RX7 9 "KnotHouse$Net" "next" "[I") (by decide +kernel)) (fun _ h9 => h9) rfl dX7_cut_1 ?_
  refine lv_iload_n hx hb dX7_cut_4 rfl (lv_at hl 1 rfl) ?_
  refine va_iald hx hb hK hP 1 0 rfl rfl (vp_in_nI (n := v) (N := 24) hv (by decide)) dX7_cut_5 ?_
  refine ow_topi (y := nI (S.1 v)) (ow_nI_at S.1 (Nat.lt_trans (m := 24) hv (by decide))) ?_
  refine lv_iload_n hx hb dX7_cut_6 rfl (lv_at hl 1 rfl) ?_
  refine lv_icmp_ne (tgt := 23) hx hb dX7_cut_7 (by decide) (fun c1 => ?_) (fun c1 => ?_)
  · have hne : ¬ S.1 v = v := fun h9 => c1 (congrArg nI h9)
    refine lv_aload_n hx hb dX7_cut_23 rfl (lv_at hl 0 rfl) ?_
    refine lv_aload_n hx hb dX7_cut_24 rfl (lv_at hl 0 rfl) ?_
    refine va_get (D := (dC, dI)) (ci := 10) (v := .ref (nx 1)) (C := RX7) (T := TX7) (N := 11) hx hb hts (fun _ h => List.mem_cons_of_mem _ (List.mem_append_left _ (List.mem_append_right _ h))) hown hK hP 0 rfl rfl 1 (by decide) (hts (.fieldLink RX7 15 "KnotHouse$Net" "prev" "[I") (by decide +kernel)) (fun _ h9 => h9) rfl dX7_cut_25 ?_
    refine lv_iload_n hx hb dX7_cut_28 rfl (lv_at hl 1 rfl) ?_
    refine va_iald hx hb hK hP 2 0 rfl rfl (vp_in_nI (n := v) (N := 24) hv (by decide)) dX7_cut_29 ?_
    refine ow_topi (y := nI (S.2 v)) (ow_nI_at S.2 (Nat.lt_trans (m := 24) hv (by decide))) ?_
    refine lv_aload_n hx hb dX7_cut_30 rfl (lv_at hl 0 rfl) ?_
    refine va_get (D := (dC, dI)) (ci := 10) (v := .ref (nx 0)) (C := RX7) (T := TX7) (N := 11) hx hb hts (fun _ h => List.mem_cons_of_mem _ (List.mem_append_left _ (List.mem_append_right _ h))) hown hK hP 0 rfl rfl 0 (by decide) (hts (.fieldLink RX7 9 "KnotHouse$Net" "next" "[I") (by decide +kernel)) (fun _ h9 => h9) rfl dX7_cut_31 ?_
    refine lv_iload_n hx hb dX7_cut_34 rfl (lv_at hl 1 rfl) ?_
    refine va_iald hx hb hK hP 1 0 rfl rfl (vp_in_nI (n := v) (N := 24) hv (by decide)) dX7_cut_35 ?_
    refine ow_topi (y := nI (S.1 v)) (ow_nI_at S.1 (Nat.lt_trans (m := 24) hv (by decide))) ?_
    have hPc := hP.sub (ws' := [(aX, .inr (10, [.ref (nx 0), .ref (nx 1), .ref (nx 2), .ref (nx 3), .ref (nx 4), .ref (nx 5), .ref (nx 6), .int x7, .int x8, .int x9, .int x10])), ((nx 0), .inl (cI, 24, .inl (ow_nI S.1))), ((nx 1), .inl (cI, 24, .inl (ow_nI S.2)))]) [0, 1, 2] rfl
    have hDc := hD.sub (ws' := [(aX, .inr (10, [.ref (nx 0), .ref (nx 1), .ref (nx 2), .ref (nx 3), .ref (nx 4), .ref (nx 5), .ref (nx 6), .int x7, .int x8, .int x9, .int x10])), ((nx 0), .inl (cI, 24, .inl (ow_nI S.1))), ((nx 1), .inl (cI, 24, .inl (ow_nI S.2)))]) [0, 1, 2] (by decide) rfl
    have hFc := va_free (wc := [(aX, .inr (10, [.ref (nx 0), .ref (nx 1), .ref (nx 2), .ref (nx 3), .ref (nx 4), .ref (nx 5), .ref (nx 6), .int x7, .int x8, .int x9, .int x10])), ((nx 0), .inl (cI, 24, .inl (ow_nI S.1))), ((nx 1), .inl (cI, 24, .inl (ow_nI S.2)))]) hD hS hA [0, 1, 2] rfl
    refine va_callv (va_runV (As := [.int (nI (S.2 v)), .int (nI (S.1 v))]) (rest := []) ⟨hx, hb, hml, hown, hts⟩ (kg_X7_link l dC dI cI cB cJ cZ aX nx x7 x8 x9 x10 S (S.2 v) (S.1 v) (hS0.2 v) (hS0.1 v) H.size) (cwV 2 hts gg_X7_cut_0 rfl rfl rfl (by decide +kernel) ⟨(Nat.le_of_ble_eq_true rfl), (Nat.le_of_ble_eq_true rfl)⟩) ⟨fun a U g mk q => by obtain ⟨q0, q1, qP, qK, qD⟩ := q; exact ⟨q0, q1, qP, va_K.moved (u := U) (U := U.calling g mk a) (Vm.Alike.refl U.vm) qK, qD⟩, va_recv hK hPc (ci := 10) (q0 := 0) rfl rfl, fun U hU hW => ⟨rfl, by rw [hU], by rw [hU]; exact hPc, va_K.moved hW.alike hK, hDc.weaken (fun _ _ _ _ => trivial)⟩⟩ rfl rfl hl.1 rfl (lv_room (Nat.le_of_ble_eq_true rfl)) dX7_cut_36 ⟨(Nat.le_of_ble_eq_true rfl), (Nat.le_of_ble_eq_true rfl)⟩) hS (fun q _ h => hFc q h) hFc (fun u9 t H1 locs ht hvm hw hB hz1 hk1 hS => ?_)
    obtain ⟨hP1, hD1⟩ := hB
    rw [ht] at hP1
    obtain ⟨hP, hD⟩ := va_join (wr := []) (w1 := [(aX, .inr (10, [.ref (nx 0), .ref (nx 1), .ref (nx 2), .ref (nx 3), .ref (nx 4), .ref (nx 5), .ref (nx 6), .int x7, .int x8, .int x9, .int x10])), ((nx 0), .inl (cI, 24, .inl (ow_nI (nl S (S.2 v) (S.1 v)).1))), ((nx 1), .inl (cI, 24, .inl (ow_nI (nl S (S.2 v) (S.1 v)).2)))]) hP hD [0, 1, 2] [] rfl rfl (by decide) (by decide) hk1 hFc hP1 hD1
    generalize H1 = H at hP hS ⊢
    have hP : va_P (dC, dI) vwCl [(aX, .inr (10, [.ref (nx 0), .ref (nx 1), .ref (nx 2), .ref (nx 3), .ref (nx 4), .ref (nx 5), .ref (nx 6), .int x7, .int x8, .int x9, .int x10])), ((nx 0), .inl (cI, 24, .inl (ow_nI (nl S (S.2 v) (S.1 v)).1))), ((nx 1), .inl (cI, 24, .inl (ow_nI (nl S (S.2 v) (S.1 v)).2)))] H := hP
    have hD : va_D A [(aX, .inr (10, [.ref (nx 0), .ref (nx 1), .ref (nx 2), .ref (nx 3), .ref (nx 4), .ref (nx 5), .ref (nx 6), .int x7, .int x8, .int x9, .int x10])), ((nx 0), .inl (cI, 24, .inl (ow_nI (nl S (S.2 v) (S.1 v)).1))), ((nx 1), .inl (cI, 24, .inl (ow_nI (nl S (S.2 v) (S.1 v)).2)))] := hD
    have hP : va_P (dC, dI) vwCl [(aX, .inr (10, [.ref (nx 0), .ref (nx 1), .ref (nx 2), .ref (nx 3), .ref (nx 4), .ref (nx 5), .ref (nx 6), .int x7, .int (np_cutC S v x8), .int x9, .int x10])), ((nx 0), .inl (cI, 24, .inl (ow_nI (np_cut S v).1))), ((nx 1), .inl (cI, 24, .inl (ow_nI (np_cut S v).2)))] H := by rw [show np_cut S v = nl S (S.2 v) (S.1 v) from if_neg hne, show np_cutC S v x8 = x8 from if_neg hne]; exact hP
    have hD : va_D A [(aX, .inr (10, [.ref (nx 0), .ref (nx 1), .ref (nx 2), .ref (nx 3), .ref (nx 4), .ref (nx 5), .ref (nx 6), .int x7, .int (np_cutC S v x8), .int x9, .int x10])), ((nx 0), .inl (cI, 24, .inl (ow_nI (np_cut S v).1))), ((nx 1), .inl (cI, 24, .inl (ow_nI (np_cut S v).2)))] := by rw [show np_cut S v = nl S (S.2 v) (S.1 v) from if_neg hne, show np_cutC S v x8 = x8 from if_neg hne]; exact hD
    rw [hQQ]
    exact W.vret hx hb hr (fun t ht hW => ⟨⟨(), rfl, trivial, by rw [ht]; exact hP, hD⟩, hS.F ht⟩) hS.2.2 dX7_cut_39
  · have heq : S.1 v = v := ow_nI_inj (Nat.lt_trans (hS0.1 v) (by decide)) (Nat.lt_trans hv (by decide)) c1
    refine lv_aload_n hx hb dX7_cut_10 rfl (lv_at hl 0 rfl) ?_
    refine lv_dup hx hb dX7_cut_11 rfl ?_
    refine va_get (D := (dC, dI)) (ci := 10) (v := .int x8) (C := RX7) (T := TX7) (N := 11) hx hb hts (fun _ h => List.mem_cons_of_mem _ (List.mem_append_left _ (List.mem_append_right _ h))) hown hK hP 0 rfl rfl 8 (by decide) (hts (.fieldLink RX7 42 "KnotHouse$Net" "circles" "I") (by decide +kernel)) (fun _ h9 => h9) rfl dX7_cut_12 ?_
    refine lv_iconst (v := 1) hx hb dX7_cut_15 (by decide) ?_
    refine lv_iadd hx hb dX7_cut_16 ?_
    refine va_put (D := (dC, dI)) (ci := 10) (v := .int (x8 + 1)) (ty := .int) (C := RX7) (T := TX7) (N := 11) hx hb hts (fun _ h => List.mem_cons_of_mem _ (List.mem_append_left _ (List.mem_append_right _ h))) tyX7 tyX7_ok nmX7 hown hK hP hD hS 0 rfl rfl 8 (by decide) (hts (.fieldLink RX7 42 "KnotHouse$Net" "circles" "I") (by decide +kernel)) (fun _ h9 => h9) rfl (by decide +kernel) rfl rfl (Nat.le_of_ble_eq_true rfl) dX7_cut_17 (fun H locs hP hD hS => ?_)
    have hP : va_P (dC, dI) vwCl [(aX, .inr (10, [.ref (nx 0), .ref (nx 1), .ref (nx 2), .ref (nx 3), .ref (nx 4), .ref (nx 5), .ref (nx 6), .int x7, .int (x8 + 1), .int x9, .int x10])), ((nx 0), .inl (cI, 24, .inl (ow_nI S.1))), ((nx 1), .inl (cI, 24, .inl (ow_nI S.2)))] H := hP
    have hD : va_D A [(aX, .inr (10, [.ref (nx 0), .ref (nx 1), .ref (nx 2), .ref (nx 3), .ref (nx 4), .ref (nx 5), .ref (nx 6), .int x7, .int (x8 + 1), .int x9, .int x10])), ((nx 0), .inl (cI, 24, .inl (ow_nI S.1))), ((nx 1), .inl (cI, 24, .inl (ow_nI S.2)))] := hD
    refine lv_goto (tgt := 39) hx hb dX7_cut_20 (by decide) ?_
    have hP : va_P (dC, dI) vwCl [(aX, .inr (10, [.ref (nx 0), .ref (nx 1), .ref (nx 2), .ref (nx 3), .ref (nx 4), .ref (nx 5), .ref (nx 6), .int x7, .int (np_cutC S v x8), .int x9, .int x10])), ((nx 0), .inl (cI, 24, .inl (ow_nI (np_cut S v).1))), ((nx 1), .inl (cI, 24, .inl (ow_nI (np_cut S v).2)))] H := by rw [show np_cut S v = S from if_pos heq, show np_cutC S v x8 = x8 + 1 from if_pos heq]; exact hP
    have hD : va_D A [(aX, .inr (10, [.ref (nx 0), .ref (nx 1), .ref (nx 2), .ref (nx 3), .ref (nx 4), .ref (nx 5), .ref (nx 6), .int x7, .int (np_cutC S v x8), .int x9, .int x10])), ((nx 0), .inl (cI, 24, .inl (ow_nI (np_cut S v).1))), ((nx 1), .inl (cI, 24, .inl (ow_nI (np_cut S v).2)))] := by rw [show np_cut S v = S from if_pos heq, show np_cutC S v x8 = x8 + 1 from if_pos heq]; exact hD
    rw [hQQ]
    exact W.vret hx hb hr (fun t ht hW => ⟨⟨(), rfl, trivial, by rw [ht]; exact hP, hD⟩, hS.F ht⟩) hS.2.2 dX7_cut_39
theorem dX7_rename_0 : decode cX7_rename 0 = .ok (.aload_n 0, 1) := by decide +kernel
theorem dX7_rename_1 : decode cX7_rename 1 = .ok (.getfield 9, 3) := by decide +kernel
theorem dX7_rename_4 : decode cX7_rename 4 = .ok (.iload_n 1, 1) := by decide +kernel
theorem dX7_rename_5 : decode cX7_rename 5 = .ok (.iaload, 1) := by decide +kernel
theorem dX7_rename_6 : decode cX7_rename 6 = .ok (.iload_n 1, 1) := by decide +kernel
theorem dX7_rename_7 : decode cX7_rename 7 = .ok (.if_icmp .ne 12, 3) := by decide +kernel
theorem dX7_rename_10 : decode cX7_rename 10 = .ok (.aload_n 0, 1) := by decide +kernel
theorem dX7_rename_11 : decode cX7_rename 11 = .ok (.iload_n 2, 1) := by decide +kernel
theorem dX7_rename_12 : decode cX7_rename 12 = .ok (.iload_n 2, 1) := by decide +kernel
theorem dX7_rename_13 : decode cX7_rename 13 = .ok (.invokevirtual 54, 3) := by decide +kernel
theorem dX7_rename_16 : decode cX7_rename 16 = .ok (.goto 25, 3) := by decide +kernel
theorem dX7_rename_19 : decode cX7_rename 19 = .ok (.aload_n 0, 1) := by decide +kernel
theorem dX7_rename_20 : decode cX7_rename 20 = .ok (.aload_n 0, 1) := by decide +kernel
theorem dX7_rename_21 : decode cX7_rename 21 = .ok (.getfield 15, 3) := by decide +kernel
theorem dX7_rename_24 : decode cX7_rename 24 = .ok (.iload_n 1, 1) := by decide +kernel
theorem dX7_rename_25 : decode cX7_rename 25 = .ok (.iaload, 1) := by decide +kernel
theorem dX7_rename_26 : decode cX7_rename 26 = .ok (.iload_n 2, 1) := by decide +kernel
theorem dX7_rename_27 : decode cX7_rename 27 = .ok (.invokevirtual 54, 3) := by decide +kernel
theorem dX7_rename_30 : decode cX7_rename 30 = .ok (.aload_n 0, 1) := by decide +kernel
theorem dX7_rename_31 : decode cX7_rename 31 = .ok (.iload_n 2, 1) := by decide +kernel
theorem dX7_rename_32 : decode cX7_rename 32 = .ok (.aload_n 0, 1) := by decide +kernel
theorem dX7_rename_33 : decode cX7_rename 33 = .ok (.getfield 9, 3) := by decide +kernel
theorem dX7_rename_36 : decode cX7_rename 36 = .ok (.iload_n 1, 1) := by decide +kernel
theorem dX7_rename_37 : decode cX7_rename 37 = .ok (.iaload, 1) := by decide +kernel
theorem dX7_rename_38 : decode cX7_rename 38 = .ok (.invokevirtual 54, 3) := by decide +kernel
theorem dX7_rename_41 : decode cX7_rename 41 = .ok (.return_, 1) := by decide +kernel
def wg_X7_rename : List Cond := .code yX7_rename cX7_rename 3 none :: ([.fieldLink RX7 9 "KnotHouse$Net" "next" "[I", .fieldLink RX7 15 "KnotHouse$Net" "prev" "[I"] ++ wsX70 ++ (wsV RX7 54 RX7 yX7_link wg_X7_link ++ []))
theorem gg_X7_rename_0 : GoodIn wg_X7_rename (wsV RX7 54 RX7 yX7_link wg_X7_link) := goodIn_sub (fun _ h => List.mem_cons_of_mem _ (List.mem_append_right _ (List.mem_append_left _ h))) (by decide +kernel)
set_option maxHeartbeats 4000000 in
set_option maxRecDepth 100000 in
theorem kg_X7_rename (l : Launch) (dC : Nat → ClassId) (dI : Nat → Nat → Nat) (cI cB cJ cZ : ClassId) (aX : Nat) (nx : Nat → Nat) (x7 x8 x9 x10 : Int32) (S : ow_NP) (hS0 : ow_b24 S) (v w : Nat) (hv : v < 24) (hw0 : w < 24) (sz : Nat) : Met l yX7_rename wg_X7_rename (({ frames := 1, cells := 0, slots := 0, locals := 22 } : Room)) (va_Pc [.ref aX, .int (nI v), .int (nI w)] (fun U => U.heap.size = sz ∧ va_P (dC, dI) vwCl [(aX, .inr (10, [.ref (nx 0), .ref (nx 1), .ref (nx 2), .ref (nx 3), .ref (nx 4), .ref (nx 5), .ref (nx 6), .int x7, .int x8, .int x9, .int x10])), ((nx 0), .inl (cI, 24, .inl (ow_nI S.1))), ((nx 1), .inl (cI, 24, .inl (ow_nI S.2)))] U.heap ∧ va_K (dC, dI) vwCl [(cI, .int), (cB, .byte), (cJ, .long), (cZ, .boolean)] U ∧ va_D (fun _ => True) [(aX, .inr (10, [.ref (nx 0), .ref (nx 1), .ref (nx 2), .ref (nx 3), .ref (nx 4), .ref (nx 5), .ref (nx 6), .int x7, .int x8, .int x9, .int x10])), ((nx 0), .inl (cI, 24, .inl (ow_nI S.1))), ((nx 1), .inl (cI, 24, .inl (ow_nI S.2)))])) (va_Qv (fun (g : Unit) => True) (fun g t => va_P (dC, dI) vwCl [(aX, .inr (10, [.ref (nx 0), .ref (nx 1), .ref (nx 2), .ref (nx 3), .ref (nx 4), .ref (nx 5), .ref (nx 6), .int x7, .int x8, .int x9, .int x10])), ((nx 0), .inl (cI, 24, .inl (ow_nI (np_rename S v w).1))), ((nx 1), .inl (cI, 24, .inl (ow_nI (np_rename S v w).2)))] t.heap ∧ va_D (va_A [(aX, .inr (10, [.ref (nx 0), .ref (nx 1), .ref (nx 2), .ref (nx 3), .ref (nx 4), .ref (nx 5), .ref (nx 6), .int x7, .int x8, .int x9, .int x10])), ((nx 0), .inl (cI, 24, .inl (ow_nI S.1))), ((nx 1), .inl (cI, 24, .inl (ow_nI S.2)))] sz) [(aX, .inr (10, [.ref (nx 0), .ref (nx 1), .ref (nx 2), .ref (nx 3), .ref (nx 4), .ref (nx 5), .ref (nx 6), .int x7, .int x8, .int x9, .int x10])), ((nx 0), .inl (cI, 24, .inl (ow_nI (np_rename S v w).1))), ((nx 1), .inl (cI, 24, .inl (ow_nI (np_rename S v w).2)))]) (va_A [(aX, .inr (10, [.ref (nx 0), .ref (nx 1), .ref (nx 2), .ref (nx 3), .ref (nx 4), .ref (nx 5), .ref (nx 6), .int x7, .int x8, .int x9, .int x10])), ((nx 0), .inl (cI, 24, .inl (ow_nI S.1))), ((nx 1), .inl (cI, 24, .inl (ow_nI S.2)))] sz)) 0 0 (va_A [(aX, .inr (10, [.ref (nx 0), .ref (nx 1), .ref (nx 2), .ref (nx 3), .ref (nx 4), .ref (nx 5), .ref (nx 6), .int x7, .int x8, .int x9, .int x10])), ((nx 0), .inl (cI, 24, .inl (ow_nI S.1))), ((nx 1), .inl (cI, 24, .inl (ow_nI S.2)))] sz) := by
  refine Met.ofW (cc := cX7_rename) (maxL := 3) (ret := none) (by decide) rfl ?_
  intro p e s m args below meth c s₁ B hml hv
  obtain ⟨rfl, hsz, hP, hK, hD0⟩ := hv
  have hx := B.exec
  have hb := B.bytes
  have hr := B.returns
  have hts := atoms_spec (ws := wg_X7_rename) B.pre
  have hown : s.vm.findClass RX7 = some m.cls := findClass_of_methodNamed B.named
  have hlocks := B.notSynchronized
  subst hsz
  have hD := hD0.self (sz := s.heap.size)
  generalize hAe : va_A [(aX, .inr (10, [.ref (nx 0), .ref (nx 1), .ref (nx 2), .ref (nx 3), .ref (nx 4), .ref (nx 5), .ref (nx 6), .int x7, .int x8, .int x9, .int x10])), ((nx 0), .inl (cI, 24, .inl (ow_nI S.1))), ((nx 1), .inl (cI, 24, .inl (ow_nI S.2)))] s.heap.size = A at hD ⊢
  have hA : ∀ q : Nat, s.heap.size ≤ q → A q := fun q h => by rw [← hAe]; exact Or.inr h
  have hS : va_S A s.heap s.heap [] := va_S.rf
  have hP : va_P (dC, dI) vwCl [(aX, .inr (10, [.ref (nx 0), .ref (nx 1), .ref (nx 2), .ref (nx 3), .ref (nx 4), .ref (nx 5), .ref (nx 6), .int x7, .int x8, .int x9, .int x10])), ((nx 0), .inl (cI, 24, .inl (ow_nI S.1))), ((nx 1), .inl (cI, 24, .inl (ow_nI S.2)))] s.heap := hP
  have hl := lv_entry ([.ref aX, .int (nI v), .int (nI w)]) (n := 3) (Nat.le_of_ble_eq_true rfl)
  rw [lg_entry_eq]
  generalize (lg_sl ([.ref aX, .int (nI v), .int (nI w)]) ++ List.replicate (3 - (lg_sl ([.ref aX, .int (nI v), .int (nI w)])).length) Slot.unset).toArray = ls at hl ⊢
  have hl : lv_has ls 3 [(0, .ref aX), (1, .int (nI v)), (2, .int (nI w))] := hl
  refine ow_named (fun QQ hQQ => ?_)
  suffices key9 : ∀ (H : Heap) (locs : List Loc), va_P (dC, dI) vwCl [(aX, .inr (10, [.ref (nx 0), .ref (nx 1), .ref (nx 2), .ref (nx 3), .ref (nx 4), .ref (nx 5), .ref (nx 6), .int x7, .int x8, .int x9, .int x10])), ((nx 0), .inl (cI, 24, .inl (ow_nI S.1))), ((nx 1), .inl (cI, 24, .inl (ow_nI S.2)))] H → va_S A s.heap H locs → W p l e ({ frames := 1, cells := 0, slots := 0, locals := 22 } : Room) s m ([.ref aX, .int (nI v), .int (nI w)] : List Value).toArray below meth c H locs 0 0 QQ (F0 m 0 ls []) from key9 s.heap [] hP hS
  intro H locs hP hS
  refine lv_aload_n hx hb dX7_rename_0 rfl (lv_at hl 0 rfl) ?_
  refine va_get (D := (dC, dI)) (ci := 10) (v := .ref (nx 0)) (C := RX7) (T := TX7) (N := 11) hx hb hts (fun _ h => List.mem_cons_of_mem _ (List.mem_append_left _ (List.mem_append_right _ h))) hown hK hP 0 rfl rfl 0 (by decide) (hts (.fieldLink RX7 9 "KnotHouse$Net" "next" "[I") (by decide +kernel)) (fun _ h9 => h9) rfl dX7_rename_1 ?_
  refine lv_iload_n hx hb dX7_rename_4 rfl (lv_at hl 1 rfl) ?_
  refine va_iald hx hb hK hP 1 0 rfl rfl (vp_in_nI (n := v) (N := 24) hv (by decide)) dX7_rename_5 ?_
  refine ow_topi (y := nI (S.1 v)) (ow_nI_at S.1 (Nat.lt_trans (m := 24) hv (by decide))) ?_
  refine lv_iload_n hx hb dX7_rename_6 rfl (lv_at hl 1 rfl) ?_
  refine lv_icmp_ne (tgt := 19) hx hb dX7_rename_7 (by decide) (fun c1 => ?_) (fun c1 => ?_)
  · have hne : ¬ S.1 v = v := fun h9 => c1 (congrArg nI h9)
    refine lv_aload_n hx hb dX7_rename_19 rfl (lv_at hl 0 rfl) ?_
    refine lv_aload_n hx hb dX7_rename_20 rfl (lv_at hl 0 rfl) ?_
    refine va_get (D := (dC, dI)) (ci := 10) (v := .ref (nx 1)) (C := RX7) (T := TX7) (N := 11) hx hb hts (fun _ h => List.mem_cons_of_mem _ (List.mem_append_left _ (List.mem_append_right _ h))) hown hK hP 0 rfl rfl 1 (by decide) (hts (.fieldLink RX7 15 "KnotHouse$Net" "prev" "[I") (by decide +kernel)) (fun _ h9 => h9) rfl dX7_rename_21 ?_
    refine lv_iload_n hx hb dX7_rename_24 rfl (lv_at hl 1 rfl) ?_
    refine va_iald hx hb hK hP 2 0 rfl rfl (vp_in_nI (n := v) (N := 24) hv (by decide)) dX7_rename_25 ?_
    refine ow_topi (y := nI (S.2 v)) (ow_nI_at S.2 (Nat.lt_trans (m := 24) hv (by decide))) ?_
    refine lv_iload_n hx hb dX7_rename_26 rfl (lv_at hl 2 rfl) ?_
    have hPc := hP.sub (ws' := [(aX, .inr (10, [.ref (nx 0), .ref (nx 1), .ref (nx 2), .ref (nx 3), .ref (nx 4), .ref (nx 5), .ref (nx 6), .int x7, .int x8, .int x9, .int x10])), ((nx 0), .inl (cI, 24, .inl (ow_nI S.1))), ((nx 1), .inl (cI, 24, .inl (ow_nI S.2)))]) [0, 1, 2] rfl
    have hDc := hD.sub (ws' := [(aX, .inr (10, [.ref (nx 0), .ref (nx 1), .ref (nx 2), .ref (nx 3), .ref (nx 4), .ref (nx 5), .ref (nx 6), .int x7, .int x8, .int x9, .int x10])), ((nx 0), .inl (cI, 24, .inl (ow_nI S.1))), ((nx 1), .inl (cI, 24, .inl (ow_nI S.2)))]) [0, 1, 2] (by decide) rfl
    have hFc := va_free (wc := [(aX, .inr (10, [.ref (nx 0), .ref (nx 1), .ref (nx 2), .ref (nx 3), .ref (nx 4), .ref (nx 5), .ref (nx 6), .int x7, .int x8, .int x9, .int x10])), ((nx 0), .inl (cI, 24, .inl (ow_nI S.1))), ((nx 1), .inl (cI, 24, .inl (ow_nI S.2)))]) hD hS hA [0, 1, 2] rfl
    refine va_callv (va_runV (As := [.int (nI (S.2 v)), .int (nI w)]) (rest := []) ⟨hx, hb, hml, hown, hts⟩ (kg_X7_link l dC dI cI cB cJ cZ aX nx x7 x8 x9 x10 S (S.2 v) w (hS0.2 v) hw0 H.size) (cwV 2 hts gg_X7_rename_0 rfl rfl rfl (by decide +kernel) ⟨(Nat.le_of_ble_eq_true rfl), (Nat.le_of_ble_eq_true rfl)⟩) ⟨fun a U g mk q => by obtain ⟨q0, q1, qP, qK, qD⟩ := q; exact ⟨q0, q1, qP, va_K.moved (u := U) (U := U.calling g mk a) (Vm.Alike.refl U.vm) qK, qD⟩, va_recv hK hPc (ci := 10) (q0 := 0) rfl rfl, fun U hU hW => ⟨rfl, by rw [hU], by rw [hU]; exact hPc, va_K.moved hW.alike hK, hDc.weaken (fun _ _ _ _ => trivial)⟩⟩ rfl rfl hl.1 rfl (lv_room (Nat.le_of_ble_eq_true rfl)) dX7_rename_27 ⟨(Nat.le_of_ble_eq_true rfl), (Nat.le_of_ble_eq_true rfl)⟩) hS (fun q _ h => hFc q h) hFc (fun u9 t H1 locs ht hvm hw hB hz1 hk1 hS => ?_)
    obtain ⟨hP1, hD1⟩ := hB
    rw [ht] at hP1
    obtain ⟨hP, hD⟩ := va_join (wr := []) (w1 := [(aX, .inr (10, [.ref (nx 0), .ref (nx 1), .ref (nx 2), .ref (nx 3), .ref (nx 4), .ref (nx 5), .ref (nx 6), .int x7, .int x8, .int x9, .int x10])), ((nx 0), .inl (cI, 24, .inl (ow_nI (nl S (S.2 v) w).1))), ((nx 1), .inl (cI, 24, .inl (ow_nI (nl S (S.2 v) w).2)))]) hP hD [0, 1, 2] [] rfl rfl (by decide) (by decide) hk1 hFc hP1 hD1
    generalize H1 = H at hP hS ⊢
    have hP : va_P (dC, dI) vwCl [(aX, .inr (10, [.ref (nx 0), .ref (nx 1), .ref (nx 2), .ref (nx 3), .ref (nx 4), .ref (nx 5), .ref (nx 6), .int x7, .int x8, .int x9, .int x10])), ((nx 0), .inl (cI, 24, .inl (ow_nI (nl S (S.2 v) w).1))), ((nx 1), .inl (cI, 24, .inl (ow_nI (nl S (S.2 v) w).2)))] H := hP
    have hD : va_D A [(aX, .inr (10, [.ref (nx 0), .ref (nx 1), .ref (nx 2), .ref (nx 3), .ref (nx 4), .ref (nx 5), .ref (nx 6), .int x7, .int x8, .int x9, .int x10])), ((nx 0), .inl (cI, 24, .inl (ow_nI (nl S (S.2 v) w).1))), ((nx 1), .inl (cI, 24, .inl (ow_nI (nl S (S.2 v) w).2)))] := hD
    refine lv_aload_n hx hb dX7_rename_30 rfl (lv_at hl 0 rfl) ?_
    refine lv_iload_n hx hb dX7_rename_31 rfl (lv_at hl 2 rfl) ?_
    refine lv_aload_n hx hb dX7_rename_32 rfl (lv_at hl 0 rfl) ?_
    refine va_get (D := (dC, dI)) (ci := 10) (v := .ref (nx 0)) (C := RX7) (T := TX7) (N := 11) hx hb hts (fun _ h => List.mem_cons_of_mem _ (List.mem_append_left _ (List.mem_append_right _ h))) hown hK hP 0 rfl rfl 0 (by decide) (hts (.fieldLink RX7 9 "KnotHouse$Net" "next" "[I") (by decide +kernel)) (fun _ h9 => h9) rfl dX7_rename_33 ?_
    refine lv_iload_n hx hb dX7_rename_36 rfl (lv_at hl 1 rfl) ?_
    refine va_iald hx hb hK hP 1 0 rfl rfl (vp_in_nI (n := v) (N := 24) hv (by decide)) dX7_rename_37 ?_
    refine ow_topi (y := nI ((nl S (S.2 v) w).1 v)) (ow_nI_at (nl S (S.2 v) w).1 (Nat.lt_trans (m := 24) hv (by decide))) ?_
    have hPc := hP.sub (ws' := [(aX, .inr (10, [.ref (nx 0), .ref (nx 1), .ref (nx 2), .ref (nx 3), .ref (nx 4), .ref (nx 5), .ref (nx 6), .int x7, .int x8, .int x9, .int x10])), ((nx 0), .inl (cI, 24, .inl (ow_nI (nl S (S.2 v) w).1))), ((nx 1), .inl (cI, 24, .inl (ow_nI (nl S (S.2 v) w).2)))]) [0, 1, 2] rfl
    have hDc := hD.sub (ws' := [(aX, .inr (10, [.ref (nx 0), .ref (nx 1), .ref (nx 2), .ref (nx 3), .ref (nx 4), .ref (nx 5), .ref (nx 6), .int x7, .int x8, .int x9, .int x10])), ((nx 0), .inl (cI, 24, .inl (ow_nI (nl S (S.2 v) w).1))), ((nx 1), .inl (cI, 24, .inl (ow_nI (nl S (S.2 v) w).2)))]) [0, 1, 2] (by decide) rfl
    have hFc := va_free (wc := [(aX, .inr (10, [.ref (nx 0), .ref (nx 1), .ref (nx 2), .ref (nx 3), .ref (nx 4), .ref (nx 5), .ref (nx 6), .int x7, .int x8, .int x9, .int x10])), ((nx 0), .inl (cI, 24, .inl (ow_nI (nl S (S.2 v) w).1))), ((nx 1), .inl (cI, 24, .inl (ow_nI (nl S (S.2 v) w).2)))]) hD hS hA [0, 1, 2] rfl
    refine va_callv (va_runV (As := [.int (nI w), .int (nI ((nl S (S.2 v) w).1 v))]) (rest := []) ⟨hx, hb, hml, hown, hts⟩ (kg_X7_link l dC dI cI cB cJ cZ aX nx x7 x8 x9 x10 (nl S (S.2 v) w) w ((nl S (S.2 v) w).1 v) hw0 ((nl_b24 hS0 (hS0.2 v) hw0).1 v) H.size) (cwV 2 hts gg_X7_rename_0 rfl rfl rfl (by decide +kernel) ⟨(Nat.le_of_ble_eq_true rfl), (Nat.le_of_ble_eq_true rfl)⟩) ⟨fun a U g mk q => by obtain ⟨q0, q1, qP, qK, qD⟩ := q; exact ⟨q0, q1, qP, va_K.moved (u := U) (U := U.calling g mk a) (Vm.Alike.refl U.vm) qK, qD⟩, va_recv hK hPc (ci := 10) (q0 := 0) rfl rfl, fun U hU hW => ⟨rfl, by rw [hU], by rw [hU]; exact hPc, va_K.moved hW.alike hK, hDc.weaken (fun _ _ _ _ => trivial)⟩⟩ rfl rfl hl.1 rfl (lv_room (Nat.le_of_ble_eq_true rfl)) dX7_rename_38 ⟨(Nat.le_of_ble_eq_true rfl), (Nat.le_of_ble_eq_true rfl)⟩) hS (fun q _ h => hFc q h) hFc (fun u9 t H1 locs ht hvm hw hB hz1 hk1 hS => ?_)
    obtain ⟨hP1, hD1⟩ := hB
    rw [ht] at hP1
    obtain ⟨hP, hD⟩ := va_join (wr := []) (w1 := [(aX, .inr (10, [.ref (nx 0), .ref (nx 1), .ref (nx 2), .ref (nx 3), .ref (nx 4), .ref (nx 5), .ref (nx 6), .int x7, .int x8, .int x9, .int x10])), ((nx 0), .inl (cI, 24, .inl (ow_nI (nl (nl S (S.2 v) w) w ((nl S (S.2 v) w).1 v)).1))), ((nx 1), .inl (cI, 24, .inl (ow_nI (nl (nl S (S.2 v) w) w ((nl S (S.2 v) w).1 v)).2)))]) hP hD [0, 1, 2] [] rfl rfl (by decide) (by decide) hk1 hFc hP1 hD1
    generalize H1 = H at hP hS ⊢
    have hP : va_P (dC, dI) vwCl [(aX, .inr (10, [.ref (nx 0), .ref (nx 1), .ref (nx 2), .ref (nx 3), .ref (nx 4), .ref (nx 5), .ref (nx 6), .int x7, .int x8, .int x9, .int x10])), ((nx 0), .inl (cI, 24, .inl (ow_nI (nl (nl S (S.2 v) w) w ((nl S (S.2 v) w).1 v)).1))), ((nx 1), .inl (cI, 24, .inl (ow_nI (nl (nl S (S.2 v) w) w ((nl S (S.2 v) w).1 v)).2)))] H := hP
    have hD : va_D A [(aX, .inr (10, [.ref (nx 0), .ref (nx 1), .ref (nx 2), .ref (nx 3), .ref (nx 4), .ref (nx 5), .ref (nx 6), .int x7, .int x8, .int x9, .int x10])), ((nx 0), .inl (cI, 24, .inl (ow_nI (nl (nl S (S.2 v) w) w ((nl S (S.2 v) w).1 v)).1))), ((nx 1), .inl (cI, 24, .inl (ow_nI (nl (nl S (S.2 v) w) w ((nl S (S.2 v) w).1 v)).2)))] := hD
    have hP : va_P (dC, dI) vwCl [(aX, .inr (10, [.ref (nx 0), .ref (nx 1), .ref (nx 2), .ref (nx 3), .ref (nx 4), .ref (nx 5), .ref (nx 6), .int x7, .int x8, .int x9, .int x10])), ((nx 0), .inl (cI, 24, .inl (ow_nI (np_rename S v w).1))), ((nx 1), .inl (cI, 24, .inl (ow_nI (np_rename S v w).2)))] H := by rw [show np_rename S v w = nl (nl S (S.2 v) w) w ((nl S (S.2 v) w).1 v) from if_neg hne]; exact hP
    have hD : va_D A [(aX, .inr (10, [.ref (nx 0), .ref (nx 1), .ref (nx 2), .ref (nx 3), .ref (nx 4), .ref (nx 5), .ref (nx 6), .int x7, .int x8, .int x9, .int x10])), ((nx 0), .inl (cI, 24, .inl (ow_nI (np_rename S v w).1))), ((nx 1), .inl (cI, 24, .inl (ow_nI (np_rename S v w).2)))] := by rw [show np_rename S v w = nl (nl S (S.2 v) w) w ((nl S (S.2 v) w).1 v) from if_neg hne]; exact hD
    rw [hQQ]
    exact W.vret hx hb hr (fun t ht hW => ⟨⟨(), rfl, trivial, by rw [ht]; exact hP, hD⟩, hS.F ht⟩) hS.2.2 dX7_rename_41
  · have heq : S.1 v = v := ow_nI_inj (Nat.lt_trans (hS0.1 v) (by decide)) (Nat.lt_trans hv (by decide)) c1
    refine lv_aload_n hx hb dX7_rename_10 rfl (lv_at hl 0 rfl) ?_
    refine lv_iload_n hx hb dX7_rename_11 rfl (lv_at hl 2 rfl) ?_
    refine lv_iload_n hx hb dX7_rename_12 rfl (lv_at hl 2 rfl) ?_
    have hPc := hP.sub (ws' := [(aX, .inr (10, [.ref (nx 0), .ref (nx 1), .ref (nx 2), .ref (nx 3), .ref (nx 4), .ref (nx 5), .ref (nx 6), .int x7, .int x8, .int x9, .int x10])), ((nx 0), .inl (cI, 24, .inl (ow_nI S.1))), ((nx 1), .inl (cI, 24, .inl (ow_nI S.2)))]) [0, 1, 2] rfl
    have hDc := hD.sub (ws' := [(aX, .inr (10, [.ref (nx 0), .ref (nx 1), .ref (nx 2), .ref (nx 3), .ref (nx 4), .ref (nx 5), .ref (nx 6), .int x7, .int x8, .int x9, .int x10])), ((nx 0), .inl (cI, 24, .inl (ow_nI S.1))), ((nx 1), .inl (cI, 24, .inl (ow_nI S.2)))]) [0, 1, 2] (by decide) rfl
    have hFc := va_free (wc := [(aX, .inr (10, [.ref (nx 0), .ref (nx 1), .ref (nx 2), .ref (nx 3), .ref (nx 4), .ref (nx 5), .ref (nx 6), .int x7, .int x8, .int x9, .int x10])), ((nx 0), .inl (cI, 24, .inl (ow_nI S.1))), ((nx 1), .inl (cI, 24, .inl (ow_nI S.2)))]) hD hS hA [0, 1, 2] rfl
    refine va_callv (va_runV (As := [.int (nI w), .int (nI w)]) (rest := []) ⟨hx, hb, hml, hown, hts⟩ (kg_X7_link l dC dI cI cB cJ cZ aX nx x7 x8 x9 x10 S w w hw0 hw0 H.size) (cwV 2 hts gg_X7_rename_0 rfl rfl rfl (by decide +kernel) ⟨(Nat.le_of_ble_eq_true rfl), (Nat.le_of_ble_eq_true rfl)⟩) ⟨fun a U g mk q => by obtain ⟨q0, q1, qP, qK, qD⟩ := q; exact ⟨q0, q1, qP, va_K.moved (u := U) (U := U.calling g mk a) (Vm.Alike.refl U.vm) qK, qD⟩, va_recv hK hPc (ci := 10) (q0 := 0) rfl rfl, fun U hU hW => ⟨rfl, by rw [hU], by rw [hU]; exact hPc, va_K.moved hW.alike hK, hDc.weaken (fun _ _ _ _ => trivial)⟩⟩ rfl rfl hl.1 rfl (lv_room (Nat.le_of_ble_eq_true rfl)) dX7_rename_13 ⟨(Nat.le_of_ble_eq_true rfl), (Nat.le_of_ble_eq_true rfl)⟩) hS (fun q _ h => hFc q h) hFc (fun u9 t H1 locs ht hvm hw hB hz1 hk1 hS => ?_)
    obtain ⟨hP1, hD1⟩ := hB
    rw [ht] at hP1
    obtain ⟨hP, hD⟩ := va_join (wr := []) (w1 := [(aX, .inr (10, [.ref (nx 0), .ref (nx 1), .ref (nx 2), .ref (nx 3), .ref (nx 4), .ref (nx 5), .ref (nx 6), .int x7, .int x8, .int x9, .int x10])), ((nx 0), .inl (cI, 24, .inl (ow_nI (nl S w w).1))), ((nx 1), .inl (cI, 24, .inl (ow_nI (nl S w w).2)))]) hP hD [0, 1, 2] [] rfl rfl (by decide) (by decide) hk1 hFc hP1 hD1
    generalize H1 = H at hP hS ⊢
    have hP : va_P (dC, dI) vwCl [(aX, .inr (10, [.ref (nx 0), .ref (nx 1), .ref (nx 2), .ref (nx 3), .ref (nx 4), .ref (nx 5), .ref (nx 6), .int x7, .int x8, .int x9, .int x10])), ((nx 0), .inl (cI, 24, .inl (ow_nI (nl S w w).1))), ((nx 1), .inl (cI, 24, .inl (ow_nI (nl S w w).2)))] H := hP
    have hD : va_D A [(aX, .inr (10, [.ref (nx 0), .ref (nx 1), .ref (nx 2), .ref (nx 3), .ref (nx 4), .ref (nx 5), .ref (nx 6), .int x7, .int x8, .int x9, .int x10])), ((nx 0), .inl (cI, 24, .inl (ow_nI (nl S w w).1))), ((nx 1), .inl (cI, 24, .inl (ow_nI (nl S w w).2)))] := hD
    refine lv_goto (tgt := 41) hx hb dX7_rename_16 (by decide) ?_
    have hP : va_P (dC, dI) vwCl [(aX, .inr (10, [.ref (nx 0), .ref (nx 1), .ref (nx 2), .ref (nx 3), .ref (nx 4), .ref (nx 5), .ref (nx 6), .int x7, .int x8, .int x9, .int x10])), ((nx 0), .inl (cI, 24, .inl (ow_nI (np_rename S v w).1))), ((nx 1), .inl (cI, 24, .inl (ow_nI (np_rename S v w).2)))] H := by rw [show np_rename S v w = nl S w w from if_pos heq]; exact hP
    have hD : va_D A [(aX, .inr (10, [.ref (nx 0), .ref (nx 1), .ref (nx 2), .ref (nx 3), .ref (nx 4), .ref (nx 5), .ref (nx 6), .int x7, .int x8, .int x9, .int x10])), ((nx 0), .inl (cI, 24, .inl (ow_nI (np_rename S v w).1))), ((nx 1), .inl (cI, 24, .inl (ow_nI (np_rename S v w).2)))] := by rw [show np_rename S v w = nl S w w from if_pos heq]; exact hD
    rw [hQQ]
    exact W.vret hx hb hr (fun t ht hW => ⟨⟨(), rfl, trivial, by rw [ht]; exact hP, hD⟩, hS.F ht⟩) hS.2.2 dX7_rename_41
