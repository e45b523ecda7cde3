/-! rows for loops: a number by another name, stores whose contents nobody asks for, grids -/
section LOOPS
variable {p : Program} {l : Launch} {e : Env} {R : Room} {s : State} {m : MethodId} {args : Array Value} {below : List Frame} {meth : Method} {c : Code} {H : Heap} {locs : List Loc} {cells slots : Nat} {Q : State → Prop}
variable {cc : ByteArray} {pc : Nat} {ls : Array Slot} {rest : List Value} {D : va_G} {cl : List vw_C} {A : Nat → Prop} {a : Nat} {tys : List (ClassId × FieldType)} {ws : va_W} {H0 : Heap}
theorem ow_named {g : JFrame} (k : ∀ QQ : State → Prop, QQ = Q → W p l e R s m args below meth c H locs cells slots QQ g) : W p l e R s m args below meth c H locs cells slots Q g := k Q rfl
theorem ow_topi {x y : Int32} (h : x = y) (k : W p l e R s m args below meth c H locs cells slots Q (F0 m pc ls (.int y :: rest))) : W p l e R s m args below meth c H locs cells slots Q (F0 m pc ls (.int x :: rest)) := by
  subst h
  exact k
theorem ow_iast (hexec : p.tables.exec = Jvm.exec) (hb : c.code = cc) (hK : va_K D cl tys s) (hP : va_P D cl ws H) (hD : va_D A ws) (hS : va_S A H0 H locs) (q0 t0 : Nat) {cA : ClassId} {n : Nat} {f : Nat → Int32} (ha : ws[q0]? = some (a, .inl (cA, n, .inl f))) (ht : tys[t0]? = some (cA, .int)) {i : Int32} {x : Int32} (hin : vp_in i n) (hdg : decode cc pc = .ok (.iastore, 1))
    (kk : ∀ (f1 : Nat → Int32) (H1 : Heap) (locs1 : List Loc), va_P D cl (ws.set q0 (a, .inl (cA, n, .inl f1))) H1 → va_D A (ws.set q0 (a, .inl (cA, n, .inl f1))) → va_S A H0 H1 locs1 → W p l e R s m args below meth c H1 locs1 cells slots Q (F0 m (pc + 1) ls rest)) : W p l e R s m args below meth c H locs cells slots Q (F0 m pc ls (.int x :: .int i :: .ref a :: rest)) :=
  va_iast hexec hb hK hP hD hS q0 t0 ha ht hin hdg (fun H1 locs1 h1 h2 h3 => kk _ H1 locs1 h1 h2 h3)
theorem ow_bast (hexec : p.tables.exec = Jvm.exec) (hb : c.code = cc) (hK : va_K D cl tys s) (hP : va_P D cl ws H) (hD : va_D A ws) (hS : va_S A H0 H locs) (q0 t0 : Nat) {cA : ClassId} {n : Nat} {f : Nat → Int32} (ha : ws[q0]? = some (a, .inl (cA, n, .inl f))) (ht : tys[t0]? = some (cA, .byte)) {i : Int32} {x : Int32} (hin : vp_in i n) (hdg : decode cc pc = .ok (.bastore, 1))
    (kk : ∀ (f1 : Nat → Int32) (H1 : Heap) (locs1 : List Loc), va_P D cl (ws.set q0 (a, .inl (cA, n, .inl f1))) H1 → va_D A (ws.set q0 (a, .inl (cA, n, .inl f1))) → va_S A H0 H1 locs1 → W p l e R s m args below meth c H1 locs1 cells slots Q (F0 m (pc + 1) ls rest)) : W p l e R s m args below meth c H locs cells slots Q (F0 m pc ls (.int x :: .int i :: .ref a :: rest)) :=
  va_bast hexec hb hK hP hD hS q0 t0 ha ht hin hdg (fun H1 locs1 h1 h2 h3 => kk _ H1 locs1 h1 h2 h3)
/-- row i of a grid -/
theorem ow_gal (hexec : p.tables.exec = Jvm.exec) (hb : c.code = cc) (hK : va_K D cl tys s) (hP : va_P D cl ws H) (q0 t0 : Nat) {cA : ClassId} {ty : FieldType} {n i : Nat} {r : Nat → Nat} (ha : ws[q0]? = some (a, .inl (cA, n, .inr (.inr (.inr (.inr (fun i => if i < n then some (r i) else none))))))) (ht : tys[t0]? = some (cA, .array ty)) (hi : i < n) (hn : n < 2 ^ 31) (hdg : decode cc pc = .ok (.aaload, 1))
    (kk : W p l e R s m args below meth c H locs cells slots Q (F0 m (pc + 1) ls (.ref (r i) :: rest))) : W p l e R s m args below meth c H locs cells slots Q (F0 m pc ls (.int (nI i) :: .ref a :: rest)) := by
  refine ow_aldg hexec hb hK hP q0 t0 ha ht (vp_in_nI hi hn) hdg ?_
  rw [nI_clamp (by omega), if_pos hi]
  exact kk
theorem ow_gl {X : va_W} {r : Nat → Nat} {g : Nat → Nat → Int32} {cy : ClassId} {K N n0 i t0 : Nat} (hX : X.length = n0) (hexec : p.tables.exec = Jvm.exec) (hb : c.code = cc) (hK : va_K D cl tys s) (hP : va_P D cl (X ++ ow_rows r (fun j => .inl (cy, K, .inl (g j))) N) H) (hi : i < N) (ht : tys[t0]? = some (cy, .int)) {x : Int32} (hin : vp_in x K) (hdg : decode cc pc = .ok (.iaload, 1))
    (kk : ∀ y : Int32, W p l e R s m args below meth c H locs cells slots Q (F0 m (pc + 1) ls (.int y :: rest))) : W p l e R s m args below meth c H locs cells slots Q (F0 m pc ls (.int x :: .ref (r i) :: rest)) :=
  va_iald hexec hb hK hP (n0 + i) t0 (ow_app_get hX (ow_rows_get hi)) ht hin hdg (kk _)
theorem ow_gs_if {r : Nat → Nat} {g : Nat → Nat → Int32} {cy : ClassId} {K N i : Nat} {f : Nat → Int32} : ow_rows r (fun j => if j = i then .inl (cy, K, .inl f) else .inl (cy, K, .inl (g j))) N = ow_rows r (fun j => .inl (cy, K, .inl (if j = i then f else g j))) N := by
  unfold ow_rows
  apply List.map_congr_left
  intro j _
  by_cases h : j = i
  · simp [h]
  · simp [h]
theorem ow_gst {X : va_W} {r : Nat → Nat} {g : Nat → Nat → Int32} {cy : ClassId} {K N n0 i t0 : Nat} (hX : X.length = n0) (hexec : p.tables.exec = Jvm.exec) (hb : c.code = cc) (hK : va_K D cl tys s) (hP : va_P D cl (X ++ ow_rows r (fun j => .inl (cy, K, .inl (g j))) N) H) (hD : va_D A (X ++ ow_rows r (fun j => .inl (cy, K, .inl (g j))) N)) (hS : va_S A H0 H locs) (hi : i < N) (ht : tys[t0]? = some (cy, .int)) {x v : Int32} (hin : vp_in x K) (hdg : decode cc pc = .ok (.iastore, 1))
    (kk : ∀ (g1 : Nat → Nat → Int32) (H1 : Heap) (locs1 : List Loc), va_P D cl (X ++ ow_rows r (fun j => .inl (cy, K, .inl (g1 j))) N) H1 → va_D A (X ++ ow_rows r (fun j => .inl (cy, K, .inl (g1 j))) N) → va_S A H0 H1 locs1 → W p l e R s m args below meth c H1 locs1 cells slots Q (F0 m (pc + 1) ls rest)) : W p l e R s m args below meth c H locs cells slots Q (F0 m pc ls (.int v :: .int x :: .ref (r i) :: rest)) := by
  refine ow_iast hexec hb hK hP hD hS (n0 + i) t0 (ow_app_get hX (ow_rows_get hi)) ht hin hdg (fun f1 H1 locs1 h1 h2 h3 => ?_)
  rw [ow_app_set hX, ow_rows_set, ow_gs_if] at h1 h2
  exact kk _ H1 locs1 h1 h2 h3
end LOOPS
/-- some cells of X (by their places) ahead of the rest -/
theorem ow_Dpart {A : Nat → Prop} {X cx pl : va_W} (hD : va_D A (X ++ pl)) (is : List Nat) (hn : va_nd is = true) (hs : is.map (fun i => X[i]?) = cx.map some) : va_D A (cx ++ pl) := by
  have hlen : is.length = cx.length := by
    have h := congrArg List.length hs
    rw [List.length_map, List.length_map] at h
    exact h
  have hat : ∀ k : Nat, k < cx.length → ∃ a, is[k]? = some a ∧ a < X.length := fun k hk => by
    have h1 : (is.map (fun i => X[i]?))[k]? = (cx.map some)[k]? := by rw [hs]
    rw [List.getElem?_map, List.getElem?_map, List.getElem?_eq_getElem (show k < is.length by omega), List.getElem?_eq_getElem hk] at h1
    have h2 : X[is[k]'(by omega)]? = some cx[k] := by simpa using h1
    exact ⟨is[k]'(by omega), List.getElem?_eq_getElem (by omega), (List.getElem?_eq_some_iff.mp h2).1⟩
  refine ⟨fun i j p q hi hj hpq => ?_, fun k q hk => hD.2 _ q (va_part is hs k q hk)⟩
  have h1 := va_part is hs i p hi
  have h2 := va_part is hs j q hj
  have h3 := hD.1 _ _ p q h1 h2 hpq
  by_cases a1 : i < cx.length <;> by_cases a2 : j < cx.length
  · rw [if_pos a1, if_pos a2] at h3
    obtain ⟨x, hx, -⟩ := hat i a1
    obtain ⟨y, hy, -⟩ := hat j a2
    rw [hx, hy] at h3
    have h4 : x = y := h3
    subst h4
    exact va_nd_inj is hn i j x hx hy
  · rw [if_pos a1, if_neg a2] at h3
    obtain ⟨x, hx, hl⟩ := hat i a1
    rw [hx] at h3
    have h4 : x = X.length + (j - cx.length) := h3
    omega
  · rw [if_neg a1, if_pos a2] at h3
    obtain ⟨y, hy, hl⟩ := hat j a2
    rw [hy] at h3
    have h4 : X.length + (i - cx.length) = y := h3
    omega
  · rw [if_neg a1, if_neg a2] at h3
    omega
