/-! new T[n][m], both lengths known to be small: the rows of a grid -/
/-- the grid's own array, with the first i rows written -/
def ow_gt (h0 : Nat) (i : Nat) : Nat → Option Nat := fun j => if j < i then some (h0 + 1 + j) else none
def ow_go (cA : ClassId) (N h0 i : Nat) : Cell := arrV cA N (fun j => va_rf (ow_gt h0 i j))
/-- the machine's state when i rows are made -/
def ow_gs (S : State) (cA cy : ClassId) (N M : Nat) (v : Value) : Nat → State
  | 0 => S.pushCell (ow_go cA N S.heap.size 0)
  | i + 1 => ((ow_gs S cA cy N M v i).pushCell (arrV cy M (fun _ => v))).setCell S.heap.size (ow_go cA N S.heap.size (i + 1))
theorem ow_go_put (cA : ClassId) (N h0 i : Nat) : (ow_go cA N h0 i).setSlot i (.ref (h0 + 1 + i)) = ow_go cA N h0 (i + 1) := by
  unfold ow_go
  rw [arrV_store]
  congr 1
  funext j
  unfold updV ow_gt
  by_cases hj : j = i
  · subst hj
    simp [va_rf]
  · rw [if_neg hj]
    show va_rf (if j < i then some (h0 + 1 + j) else none) = _
    by_cases h2 : j < i
    · rw [if_pos h2, if_pos (show j < i + 1 by omega)]
    · rw [if_neg h2, if_neg (show ¬ j < i + 1 by omega)]
theorem ow_gs_size (S : State) (cA cy : ClassId) (N M : Nat) (v : Value) (i : Nat) : (ow_gs S cA cy N M v i).heap.size = S.heap.size + 1 + i ∧ (ow_gs S cA cy N M v i).vm = S.vm ∧ (ow_gs S cA cy N M v i).slotsUsed = S.slotsUsed + N + i * M := by
  induction i with
  | zero => exact ⟨by simp [ow_gs], rfl, by simp [ow_gs, ow_go, arrV_size]⟩
  | succ i ih =>
    obtain ⟨h1, h2, h3⟩ := ih
    refine ⟨?_, ?_, ?_⟩
    · simp [ow_gs, State.setCell, h1]; omega
    · simp [ow_gs, h2]
    · simp [ow_gs, h3, arrV_size, Nat.succ_mul]; omega
theorem ow_gs_own (S : State) (cA cy : ClassId) (N M : Nat) (v : Value) (i : Nat) : (ow_gs S cA cy N M v i).heap[S.heap.size]? = some (ow_go cA N S.heap.size i) := by
  induction i with
  | zero => simp [ow_gs]
  | succ i ih =>
    have hz := (ow_gs_size S cA cy N M v i).1
    have hlt : S.heap.size < (ow_gs S cA cy N M v i).heap.size := by omega
    have h1 : ((ow_gs S cA cy N M v i).pushCell (arrV cy M (fun _ => v))).heap[S.heap.size]? = some (ow_go cA N S.heap.size i) := by
      rw [State.heap_pushCell_of_lt (h := hlt)]
      exact ih
    exact State.heap_setCell_self h1
theorem ow_gs_old (S : State) (cA cy : ClassId) (N M : Nat) (v : Value) (i : Nat) {x : Nat} (hx : x < S.heap.size) : (ow_gs S cA cy N M v i).heap[x]? = S.heap[x]? := by
  induction i with
  | zero => exact State.heap_pushCell_of_lt _ _ hx
  | succ i ih =>
    have hz := (ow_gs_size S cA cy N M v i).1
    show (((ow_gs S cA cy N M v i).pushCell (arrV cy M (fun _ => v))).setCell S.heap.size _).heap[x]? = _
    have hlt : x < (ow_gs S cA cy N M v i).heap.size := by omega
    rw [State.heap_setCell_other (Nat.ne_of_gt hx), State.heap_pushCell_of_lt (h := hlt)]
    exact ih
theorem ow_gs_row (S : State) (cA cy : ClassId) (N M : Nat) (v : Value) (i : Nat) : ∀ j, j < i → (ow_gs S cA cy N M v i).heap[S.heap.size + 1 + j]? = some (arrV cy M (fun _ => v)) := by
  induction i with
  | zero => intro j h; exact absurd h (Nat.not_lt_zero j)
  | succ i ih =>
    intro j hj
    have hz := (ow_gs_size S cA cy N M v i).1
    show (((ow_gs S cA cy N M v i).pushCell (arrV cy M (fun _ => v))).setCell S.heap.size _).heap[S.heap.size + 1 + j]? = _
    rw [State.heap_setCell_other (show S.heap.size ≠ S.heap.size + 1 + j by omega)]
    by_cases h2 : j < i
    · have hlt : S.heap.size + 1 + j < (ow_gs S cA cy N M v i).heap.size := by omega
      rw [State.heap_pushCell_of_lt (h := hlt)]
      exact ih j h2
    · have h3 : S.heap.size + 1 + j = (ow_gs S cA cy N M v i).heap.size := by omega
      rw [h3]
      simp
theorem ow_gs_top (S : State) (f : JFrame) (cA cy : ClassId) (N M : Nat) (v : Value) (i : Nat) : ow_gs (S.setTop f) cA cy N M v i = (ow_gs S cA cy N M v i).setTop f := by
  induction i with
  | zero => rfl
  | succ i ih => simp only [ow_gs, ih, State.heap_setTop, State.pushCell_setTop, State.setCell_setTop]
section GRID
variable {p : Program} {l : Launch} {e : Env} {R : Room} {s : State} {m : MethodId} {args : Array Value} {below : List Frame} {meth : Method} {c : Code} {T : State} {locs : List Loc} {cells slots : Nat}
theorem ow_gs_stand (X : Stand p l e R s m args below meth c T locs cells slots) (cA cy : ClassId) (N M : Nat) (v : Value) (i : Nat) : Stand p l e R s m args below meth c (ow_gs T cA cy N M v i) locs (cells + 1 + i) (slots + N + i * M) := by
  induction i with
  | zero =>
    have h := X.pushed (ow_go cA N T.heap.size 0)
    rw [show (ow_go cA N T.heap.size 0).slots.size = N from arrV_size _ _ _] at h
    simpa [ow_gs] using h
  | succ i ih =>
    have hz := (ow_gs_size T cA cy N M v i).1
    have hlt : T.heap.size < (ow_gs T cA cy N M v i).heap.size := by omega
    have h1 : ((ow_gs T cA cy N M v i).pushCell (arrV cy M (fun _ => v))).heap[T.heap.size]? = some (ow_go cA N T.heap.size i) := by
      rw [State.heap_pushCell_of_lt (h := hlt)]
      exact ow_gs_own T cA cy N M v i
    have h := (ih.pushed (arrV cy M (fun _ => v))).stored h1 i (.ref (T.heap.size + 1 + i))
    rw [arrV_size, ow_go_put] at h
    have h2 : slots + N + (i + 1) * M = slots + N + i * M + M := by rw [Nat.succ_mul]; omega
    rw [h2]
    refine Stand.dropFresh h (fun x hx => ?_)
    rw [List.mem_singleton.mp hx]
    exact X.heapGrown
end GRID
section GRIDW
variable {E : CtlPost} {e : Env} {d : Bool} {acts : List Action} {s : State}
theorem ow_wpNew {cA comp : ClassId} {k : Class} {ty : FieldType} {n : Nat} {v : Value} (hk : s.vm.classes[cA]? = some k) (hkind : k.kind = .array comp ty) (hlim : n ≤ e.platform.arrayLengthLimit) (hby : n * componentBytes ty ≤ e.platform.maxHeapBytes) (hfit : fits ty v = true) (hc : s.heap.size < e.platform.maxCells) (hs : s.slotsUsed + n ≤ e.platform.maxSlots) {Q : Addr → Pre} (hq : ∀ acts', Q s.heap.size d acts' (s.pushCell (arrV cA n (fun _ => v)))) : wp (Jvm.newArray cA n v) Q E e d acts s := by
  have hf : ∀ i w, (Array.replicate n v)[i]? = some w → s.fitsSlot cA .none i w = true := by
    intro i w hw
    rw [Array.getElem?_replicate] at hw
    split at hw
    · cases hw
      simp [State.fitsSlot, State.slotType?, hk, hkind, hfit]
    · cases hw
  have h1 : ¬ n > e.platform.arrayLengthLimit := by omega
  have h2 : ¬ n * componentBytes ty > e.platform.maxHeapBytes := by omega
  simp only [Jvm.newArray, Jvm.arrayFits, wp_bind', W.ask, W.ite, h1, if_false, wp_pure', W.theClass, hk, hkind, h2, W.alloc, W.stop, Option.some.injEq, exists_eq_left', Array.size_replicate]
  rw [if_neg (by omega)]
  refine ⟨hc, hs, hf, ?_⟩
  rw [arrV_new]
  exact hq _
theorem ow_refFit {t : FieldType} (h : t.isReference = true) (r : Option Nat) : fits t (va_rf r) = true := by
  cases r <;> cases t <;> first | rfl | (simp [FieldType.isReference] at h)
theorem ow_wpRow {cy comp : ClassId} {k : Class} {ty : FieldType} {n : Int32} (hk : s.vm.classes[cy]? = some k) (hkind : k.kind = .array comp ty) (hn : ¬ n < 0) (hlim : n.toNatClampNeg ≤ e.platform.arrayLengthLimit) (hby : n.toNatClampNeg * componentBytes ty ≤ e.platform.maxHeapBytes) (hfit : fits ty (defaultValue ty) = true) (hc : s.heap.size < e.platform.maxCells) (hs : s.slotsUsed + n.toNatClampNeg ≤ e.platform.maxSlots) {Q : Addr → Pre} (hq : ∀ acts', Q s.heap.size d acts' (s.pushCell (arrV cy n.toNatClampNeg (fun _ => defaultValue ty)))) : wp (multianewarray.make cy [n]) Q E e d acts s := by
  rw [multianewarray.make]
  simp only [wp_bind', W.ite, hn, if_false, wp_pure', W.theClass, hk, hkind, Option.some.injEq, exists_eq_left']
  exact ow_wpNew hk hkind hlim hby hfit hc hs hq
theorem ow_wpGrid {cA cy comp : ClassId} {k ky : Class} {t0 ty : FieldType} {n m : Int32} (hk : s.vm.classes[cA]? = some k) (hkind : k.kind = .array cy t0) (href : t0.isReference = true) (hky : s.vm.classes[cy]? = some ky) (hkindy : ky.kind = .array comp ty) (hn : ¬ n < 0) (hm : ¬ m < 0)
    (hl1 : n.toNatClampNeg ≤ e.platform.arrayLengthLimit) (hb1 : n.toNatClampNeg * componentBytes t0 ≤ e.platform.maxHeapBytes) (hl2 : m.toNatClampNeg ≤ e.platform.arrayLengthLimit) (hb2 : m.toNatClampNeg * componentBytes ty ≤ e.platform.maxHeapBytes) (hfit : fits ty (defaultValue ty) = true)
    (hc : s.heap.size + 1 + n.toNatClampNeg ≤ e.platform.maxCells) (hs : s.slotsUsed + n.toNatClampNeg + n.toNatClampNeg * m.toNatClampNeg ≤ e.platform.maxSlots)
    {Q : Addr → Pre} (hq : ∀ d' acts', Q s.heap.size d' acts' (ow_gs s cA cy n.toNatClampNeg m.toNatClampNeg (defaultValue ty) n.toNatClampNeg)) : wp (multianewarray.make cA [n, m]) Q E e d acts s := by
  have hfind : ([m].find? (· < 0)) = none := by simp [hm]
  rw [multianewarray.make]
  simp only [wp_bind', W.ite, hn, if_false, wp_pure', W.theClass, hk, hkind, Option.some.injEq, exists_eq_left']
  refine ow_wpNew (v := .null) hk hkind hl1 hb1 (ow_refFit href none) (by omega) (by have := Nat.zero_le (n.toNatClampNeg * m.toNatClampNeg); omega) (fun acts1 => ?_)
  simp only [hfind]
  rw [ite_self, wp_bind', Std.Legacy.Range.forIn_eq_forIn_range']
  have hsz : ([:n.toNatClampNeg] : Std.Legacy.Range).size = n.toNatClampNeg := by simp [Std.Legacy.Range.size]
  rw [hsz]
  show wp (forIn (List.range' 0 n.toNatClampNeg 1) PUnit.unit _) _ E e d acts1 _
  generalize hNn : n.toNatClampNeg = N at *
  generalize hMm : m.toNatClampNeg = M at *
  refine wp_forIn_inv (fun rest S => ∃ i, rest = List.range' i (N - i) ∧ i ≤ N ∧ S = ow_gs s cA cy N M (defaultValue ty) i) _ _ ⟨0, rfl, Nat.zero_le _, ?_⟩ ?_ ?_
  · show s.pushCell _ = s.pushCell _
    congr 1
  · rintro x rest S d1 acts2 Q1 ⟨i, hr, hi, rfl⟩ hnext
    have hlt : i < N := by
      rcases Nat.lt_or_ge i N with q | q
      · exact q
      · rw [show N - i = 0 by omega] at hr
        simp at hr
    rw [show N - i = (N - (i + 1)) + 1 by omega, List.range'_succ] at hr
    obtain ⟨rfl, hr2⟩ := List.cons.inj hr
    obtain ⟨z1, z2, z3⟩ := ow_gs_size s cA cy N M (defaultValue ty) x
    have hmul : x * M + M ≤ N * M := by
      have h9 := Nat.mul_le_mul_right M (show x + 1 ≤ N from hlt)
      rw [Nat.succ_mul] at h9
      exact h9
    simp only [wp_bind']
    refine ow_wpRow (k := ky) (comp := comp) (ty := ty) (by rw [z2]; exact hky) hkindy hm (by rw [hMm]; exact hl2) (by rw [hMm]; exact hb2) hfit (by rw [z1]; omega) (by rw [z3, hMm]; omega) (fun acts3 => ?_)
    rw [hMm]
    have hlt2 : s.heap.size < (ow_gs s cA cy N M (defaultValue ty) x).heap.size := by omega
    have h1 : ((ow_gs s cA cy N M (defaultValue ty) x).pushCell (arrV cy M (fun _ => defaultValue ty))).heap[s.heap.size]? = some (ow_go cA N s.heap.size x) := by
      rw [State.heap_pushCell_of_lt (h := hlt2)]
      exact ow_gs_own s cA cy N M (defaultValue ty) x
    simp only [wp_bind', W.writeLoc, wp_pure']
    refine ⟨ow_go cA N s.heap.size x, h1, by simp [ow_go, arrV], by rw [show (ow_go cA N s.heap.size x).slots.size = N from arrV_size _ _ _]; exact hlt, ?_, hnext _ _ _ ⟨x + 1, hr2, hlt, ?_⟩⟩
    · have hfr := ow_refFit href (some (ow_gs s cA cy N M (defaultValue ty) x).heap.size)
      simp [State.fitsSlot, State.slotType?, z2, hk, hkind, ow_go, arrV]
      exact hfr
    · rw [z1, ow_go_put]
      rfl
  · rintro S d1 acts2 ⟨i, hr, hi, rfl⟩
    have h9 : i = N := by
      rcases Nat.lt_or_ge i N with q | q
      · rw [show N - i = (N - (i + 1)) + 1 by omega, List.range'_succ] at hr
        cases hr
      · omega
    subst h9
    simp only [wp_pure']
    exact hq _ _
end GRIDW
