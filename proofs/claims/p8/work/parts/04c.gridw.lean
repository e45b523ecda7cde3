/-! new T[n][m] and reading a row, in the worlds' words -/
/-- arrays of arrays of ty are known to the machine -/
def ow_AO (ty : FieldType) (U : State) : Prop := ∃ comp cA k, U.vm.findClass (FieldType.array ty).toString = some comp ∧ U.vm.classes[cA]? = some k ∧ k.kind = .array comp (.array ty) ∧ U.vm.findClass ("[" ++ (FieldType.array ty).toString) = some cA
theorem ow_AO.of {ty : FieldType} {B : Array Value} {U : State} (h : (Cond.arrayOver (.array ty)).before B U = true) : ow_AO ty U := by
  unfold Cond.before at h
  simp only [Cond.holds, Cond.value, beq_iff_eq] at h
  cases hc : U.vm.findClass (FieldType.array ty).toString with
  | none => simp [hc] at h
  | some comp =>
    simp only [hc, Option.bind_some, Option.bind_eq_some_iff, Option.map_eq_some_iff] at h
    obtain ⟨cA, hi, k, hk, hq⟩ := h
    obtain ⟨hlt, hp, -⟩ := Array.findIdx?_eq_some_iff_getElem.mp hi
    have hkk : U.vm.classes[cA] = k := (Array.getElem?_eq_some_iff.mp hk).2
    rw [hkk] at hp
    cases hkind : k.kind with
    | array component t =>
      rw [hkind] at hq hp
      simp at hq hp
      exact ⟨comp, cA, k, hc, hk, by rw [hkind, hp, hq.1], hq.2⟩
    | _ => rw [hkind] at hq; simp at hq
theorem ow_AO.moved {ty : FieldType} {u U : State} (hvm : u.vm.Alike U.vm) (h : ow_AO ty u) : ow_AO ty U := by
  obtain ⟨comp, cA, k, h1, h2, h3, h4⟩ := h
  obtain ⟨k1, hk1, he⟩ := hvm.2.2 _ _ h2
  exact ⟨comp, cA, k1, by rw [hvm.findClass]; exact h1, hk1, by rw [he]; exact h3, by rw [hvm.findClass]; exact h4⟩
/-- the rows of a grid, as cells -/
def ow_rows (r : Nat → Nat) (f : Nat → va_E) (N : Nat) : va_W := (List.range N).map (fun i => (r i, f i))
theorem ow_rows_get {r : Nat → Nat} {f : Nat → va_E} {N i : Nat} (h : i < N) : (ow_rows r f N)[i]? = some (r i, f i) := by
  unfold ow_rows
  rw [List.getElem?_map, List.getElem?_range h]
  rfl
theorem ow_rows_len {r : Nat → Nat} {f : Nat → va_E} {N : Nat} : (ow_rows r f N).length = N := by
  unfold ow_rows
  rw [List.length_map, List.length_range]
section GRIDX
variable {p : Program} {l : Launch} {e : Env} {R : Room} {s : State} {m : MethodId} {args : Array Value} {below : List Frame} {meth : Method} {c : Code} {H : Heap} {locs : List Loc} {cells slots : Nat} {Q : State → Prop}
variable {cc : ByteArray} {pc : Nat} {ls : Array Slot} {rest : List Value} {D : va_G} {cl : List vw_C} {A : Nat → Prop} {a : Nat} {tys : List (ClassId × FieldType)} {ws : va_W} {H0 : Heap}
/-- aaload out of a grid -/
theorem ow_aldg (hexec : p.tables.exec = Jvm.exec) (hb : c.code = cc) (hK : va_K D cl tys s) (hP : va_P D cl ws H) (q0 t0 : Nat) {cA : ClassId} {ty : FieldType} {n : Nat} {f : Nat → Option Nat} (ha : ws[q0]? = some (a, .inl (cA, n, .inr (.inr (.inr (.inr f)))))) (ht : tys[t0]? = some (cA, .array ty)) {i : Int32} (hin : vp_in i n) (hdg : decode cc pc = .ok (.aaload, 1))
    (kk : W p l e R s m args below meth c H locs cells slots Q (F0 m (pc + 1) ls (va_rf (f i.toNatClampNeg) :: rest))) : W p l e R s m args below meth c H locs cells slots Q (F0 m pc ls (.int i :: .ref a :: rest)) := by
  have hlt : i.toNatClampNeg < n := Nat.not_le.mp fun q => hin (Or.inr q)
  exact W.aald (v := va_rf (f i.toNatClampNeg)) (ty := .array ty) hexec hb (hP q0 _ ha) ((hK.2 t0 _ ht).1 n (fun j => va_rf (f j))) rfl (fun q => by cases q) (by show ¬ (i < 0 ∨ (arrV _ _ _).slots.size ≤ _); rw [arrV_size]; exact hin) (by show (arrV _ _ _).slots[_]? = _; rw [arrV_read _ _ hlt]) rfl rfl hdg kk
set_option maxHeartbeats 4000000 in
/-- multianewarray of two dimensions -/
theorem ow_mna (hexec : p.tables.exec = Jvm.exec) (hb : c.code = cc) {own : String} {index : Nat} {ty : FieldType} (hown : s.vm.findClass own = some m.cls) (hclink : (Cond.classLink own index ("[" ++ (FieldType.array ty).toString)).before args s = true) (hover : ow_AO ty s) (harr : (Cond.arrayClass ty).before args s = true)
    (hK : va_K D cl tys s) (hP : va_P D cl ws H) (hD : va_D A ws) (hS : va_S A H0 H locs) (hA : ∀ q, H0.size ≤ q → A q) {cy : ClassId} (hcy : s.vm.findClass (FieldType.array ty).toString = some cy) {n k : Int32} {N' K' : Nat} {z : vp_A} (hn : ¬ n < 0) (hk : ¬ k < 0) (hN : n.toNatClampNeg = N') (hM : k.toNatClampNeg = K')
    (hb1 : N' * 4 ≤ 536870912) (hb2 : K' * componentBytes ty ≤ 536870912) (hb3 : K' ≤ 536870912) (hdf : fits ty (defaultValue ty) = true) (hcells : cells + (1 + N') ≤ R.cells) (hslots : slots + (N' + N' * K') ≤ R.slots) (hz : ∀ x : ClassId, vp_cell x z = arrV x K' (fun _ => defaultValue ty)) (hdg : decode cc pc = .ok (.multianewarray index 2, 4))
    (kk : ∀ (q : Nat) (r : Nat → Nat) (cA : ClassId) (H1 : Heap), va_K D cl (tys ++ [(cA, .array ty)]) s →
      va_P D cl ((ws ++ [(q, .inl (cA, N', .inr (.inr (.inr (.inr (fun i => if i < N' then some (r i) else none))))))]) ++ ow_rows r (fun _ => .inl (cy, z)) N') H1 → va_D A ((ws ++ [(q, .inl (cA, N', .inr (.inr (.inr (.inr (fun i => if i < N' then some (r i) else none))))))]) ++ ow_rows r (fun _ => .inl (cy, z)) N') → va_S A H0 H1 locs →
      W p l e R s m args below meth c H1 locs (cells + 1 + N') (slots + N' + N' * K') Q (F0 m (pc + 4) ls (.ref q :: rest))) : W p l e R s m args below meth c H locs cells slots Q (F0 m pc ls (.int k :: .int n :: rest)) := by
  intro T hT X
  subst hT; subst hb
  obtain ⟨comp, cA, kA, hcomp, hkA, hkindA, hnameA⟩ := hover
  have e1 : comp = cy := Option.some.inj (hcomp.symm.trans hcy)
  subst e1
  obtain ⟨comp2, kC, cc2, hcomp2, hkC, hkindC⟩ := Cond.arrayClass_spec harr
  have e2 : comp2 = comp := Option.some.inj (hcomp2.symm.trans hcomp)
  subst e2
  have hpl : e.platform.magicAccessors = ({} : Platform).magicAccessors := by rw [X.admits.platform]
  obtain ⟨c0, hfc0, hcl⟩ := Cond.classLink_spec hown hclink e.platform hpl
  cases hnameA.symm.trans hfc0
  obtain ⟨hg₁, hwarm₁, hready₁⟩ := State.classEntry (e := e) X.warmed hcl
  generalize T.vm.noted m.cls index (.cls cA) = vm₁ at hg₁ hwarm₁ hready₁
  have hal : s.vm.Alike vm₁ := hwarm₁.alike
  obtain ⟨kA₁, hkA₁, heA⟩ := hal.2.2 _ _ hkA
  obtain ⟨kC₁, hkC₁, heC⟩ := hal.2.2 _ _ hkC
  have hkindA₁ : kA₁.kind = .array comp2 (.array ty) := by rw [heA]; exact hkindA
  have hkindC₁ : kC₁.kind = .array cc2 ty := by rw [heC]; exact hkindC
  have X₁ := X.noted hwarm₁
  obtain ⟨hr1, hr2⟩ := X.roomAbove hcells hslots
  have XF := ow_gs_stand X₁ cA comp2 N' K' (defaultValue ty) N'
  have hz1 : (ow_gs (T.setVm vm₁) cA comp2 N' K' (defaultValue ty) N').heap.size = T.heap.size + 1 + N' := (ow_gs_size (T.setVm vm₁) cA comp2 N' K' (defaultValue ty) N').1
  have hown1 : (ow_gs (T.setVm vm₁) cA comp2 N' K' (defaultValue ty) N').heap[T.heap.size]? = some (ow_go cA N' T.heap.size N') := ow_gs_own (T.setVm vm₁) cA comp2 N' K' (defaultValue ty) N'
  have hold : ∀ x : Nat, x < T.heap.size → (ow_gs (T.setVm vm₁) cA comp2 N' K' (defaultValue ty) N').heap[x]? = T.heap[x]? := fun x hx => ow_gs_old (T.setVm vm₁) cA comp2 N' K' (defaultValue ty) N' hx
  have hrow : ∀ j : Nat, j < N' → (ow_gs (T.setVm vm₁) cA comp2 N' K' (defaultValue ty) N').heap[T.heap.size + 1 + j]? = some (arrV comp2 K' (fun _ => defaultValue ty)) := fun j hj => ow_gs_row (T.setVm vm₁) cA comp2 N' K' (defaultValue ty) N' j hj
  have step : ∀ target, Steps p.tables e below ((ow_gs (T.setVm vm₁) cA comp2 N' K' (defaultValue ty) N').setTop (F0 m (pc + 4) ls (.ref T.heap.size :: rest))) target → Steps p.tables e below (T.setTop (F0 m pc ls (.int k :: .int n :: rest))) target := by
    intro target hrest
    have hl1 : n.toNatClampNeg ≤ e.platform.arrayLengthLimit := by rw [Launch.admits_arrayLengthLimit X.admits]; omega
    have hh1 : n.toNatClampNeg * componentBytes (.array ty) ≤ e.platform.maxHeapBytes := by
      rw [Launch.admits_maxHeapBytes X.admits]; show n.toNatClampNeg * 4 ≤ 536870912; omega
    have hl2 : k.toNatClampNeg ≤ e.platform.arrayLengthLimit := by rw [Launch.admits_arrayLengthLimit X.admits]; omega
    have hh2 : k.toNatClampNeg * componentBytes ty ≤ e.platform.maxHeapBytes := by rw [Launch.admits_maxHeapBytes X.admits, hM]; omega
    jvm_step X.here [hexec, hdg]
    simp only [multianewarray.sem, wp_bind', W.resolveClassAt_links (State.method?_setTop (F0 m pc ls (.int k :: .int n :: rest)) X.here.top) hg₁]
    rw [W.popN, if_neg (by decide)]
    refine ⟨F0 m pc ls (.int k :: .int n :: rest), State.topJava?_setTop' (s := T.setVm vm₁) (F0 m pc ls (.int k :: .int n :: rest)) X.here.top, [.int n, .int k], rest, rfl, rfl, ?_⟩
    simp only [List.mapM_cons, List.mapM_nil, wp_bind', wp_pure']
    have eS : ((T.setTop (F0 m pc ls (.int k :: .int n :: rest))).setVm vm₁).setTop { (F0 m pc ls (.int k :: .int n :: rest)) with stack := rest } = (T.setVm vm₁).setTop { (F0 m pc ls (.int k :: .int n :: rest)) with stack := rest } := by
      show ((T.setVm vm₁).setTop (F0 m pc ls (.int k :: .int n :: rest))).setTop _ = _
      rw [State.setTop_setTop]
    refine ow_wpGrid (k := kA₁) (ky := kC₁) (comp := cc2) (t0 := .array ty) (ty := ty) hkA₁ hkindA₁ rfl hkC₁ hkindC₁ hn hk hl1 hh1 hl2 hh2 hdf (by show T.heap.size + 1 + _ ≤ _; omega) (by show T.slotsUsed + _ + _ ≤ _; rw [hN, hM]; omega) (fun d' acts' => ?_)
    rw [hN, hM, eS, ow_gs_top]
    simp only [wp_bind', W.mark, W.pushRef, State.topJava?_setTop' _ XF.here.top, Option.some.injEq, exists_eq_left', State.setTop_setTop, State.heap_setTop]
    intro acts
    simp [jvm, XF.here.top]
    exact hrest
  generalize hF : ow_gs (T.setVm vm₁) cA comp2 N' K' (defaultValue ty) N' = F at XF hz1 hown1 hold hrow step
  have hout : ow_go cA N' T.heap.size N' = vp_cell cA (N', .inr (.inr (.inr (.inr (fun i => if i < N' then some (T.heap.size + 1 + i) else none))))) := rfl
  rw [hout] at hown1
  have hP0 : va_P D cl ws F.heap := hP.kept (fun k9 x hx => hold x.1 ((hP k9 x hx).lt))
  have hP1 : va_P D cl (ws ++ [(T.heap.size, .inl (cA, N', .inr (.inr (.inr (.inr (fun i => if i < N' then some (T.heap.size + 1 + i) else none))))))]) F.heap := hP0.app (fun k9 x hx => by
    have h0 : k9 < 1 := (List.getElem?_eq_some_iff.mp hx).1
    rw [show k9 = 0 by omega] at hx
    cases hx
    exact hown1)
  have hr : ∀ (k9 : Nat) (x : Nat × va_E), (ow_rows (fun i => T.heap.size + 1 + i) (fun _ => .inl (comp2, z)) N')[k9]? = some x → k9 < N' ∧ x = (T.heap.size + 1 + k9, .inl (comp2, z)) := fun k9 x hx => by
    have h9 : k9 < N' := by
      have := (List.getElem?_eq_some_iff.mp hx).1
      rw [ow_rows_len] at this
      exact this
    rw [ow_rows_get h9] at hx
    exact ⟨h9, (Option.some.inj hx).symm⟩
  have hP2 : va_P D cl ((ws ++ [(T.heap.size, .inl (cA, N', .inr (.inr (.inr (.inr (fun i => if i < N' then some (T.heap.size + 1 + i) else none))))))]) ++ ow_rows (fun i => T.heap.size + 1 + i) (fun _ => .inl (comp2, z)) N') F.heap := hP1.app (fun k9 x hx => by
    obtain ⟨h9, rfl⟩ := hr k9 x hx
    show F.heap[T.heap.size + 1 + k9]? = some (vp_cell _ _)
    rw [hz]
    exact hrow k9 h9)
  have hD1 := hD.push (e := .inl (cA, N', .inr (.inr (.inr (.inr (fun i => if i < N' then some (T.heap.size + 1 + i) else none)))))) hP rfl (hA _ hS.1)
  have hDr : va_D A (ow_rows (fun i => T.heap.size + 1 + i) (fun _ => .inl (comp2, z)) N') := ⟨fun i j x y hi hj hxy => by
    obtain ⟨-, rfl⟩ := hr i x hi
    obtain ⟨-, rfl⟩ := hr j y hj
    have h9 : T.heap.size + 1 + i = T.heap.size + 1 + j := hxy
    omega, fun k9 x hx => by
    obtain ⟨-, rfl⟩ := hr k9 x hx
    exact hA _ (by have := hS.1; show H0.size ≤ T.heap.size + 1 + k9; omega)⟩
  have hD2 : va_D A ((ws ++ [(T.heap.size, .inl (cA, N', .inr (.inr (.inr (.inr (fun i => if i < N' then some (T.heap.size + 1 + i) else none))))))]) ++ ow_rows (fun i => T.heap.size + 1 + i) (fun _ => .inl (comp2, z)) N') := hD1.app hDr (fun i j x y hx hy => by
    obtain ⟨-, rfl⟩ := hr j y hy
    have h1 : x.1 ≤ T.heap.size := by
      by_cases hl : i < ws.length
      · rw [List.getElem?_append_left hl] at hx
        exact Nat.le_of_lt ((hP i x hx).lt)
      · rw [List.getElem?_append_right (by omega)] at hx
        have h0 : i - ws.length < 1 := (List.getElem?_eq_some_iff.mp hx).1
        rw [show i - ws.length = 0 by omega] at hx
        cases hx
        exact Nat.le_refl _
    show x.1 ≠ T.heap.size + 1 + j
    omega)
  have hK2 : va_K D cl (tys ++ [(cA, .array ty)]) s := ⟨hK.1, fun k9 x hx => by
    by_cases hl : k9 < tys.length
    · rw [List.getElem?_append_left hl] at hx
      exact hK.2 k9 x hx
    · rw [List.getElem?_append_right (by omega)] at hx
      have h0 : k9 - tys.length < 1 := (List.getElem?_eq_some_iff.mp hx).1
      rw [show k9 - tys.length = 0 by omega] at hx
      cases hx
      exact ⟨fun N9 z9 => ⟨(fun q hq => by cases hq), kA, hkA, comp2, hkindA⟩, hnameA⟩⟩
  obtain ⟨t, a1, b1⟩ := kk T.heap.size (fun i => T.heap.size + 1 + i) cA F.heap hK2 hP2 hD2 ⟨by rw [hz1]; have := hS.1; omega, fun x h1 h2 => (hold x (Nat.lt_of_lt_of_le h1 hS.1)).trans (hS.2.1 x h1 h2), hS.2.2⟩ F rfl XF
  exact ⟨t, step t a1, b1⟩
end GRIDX
