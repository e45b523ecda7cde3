/-! a world by handles: a table says what each handle is (kind 0 int row, 1 byte row, 2 long row, 3 boolean row, 4 row of references, 9 object) -/
abbrev ow_MS := (Nat → Int32) × (Nat → Nat → Int32) × (Nat → Nat → Int64)
abbrev ow_Tb := List Nat × (Nat → Nat × Nat × List (Nat × Nat))
abbrev ow_Q5 := ClassId × ClassId × ClassId × ClassId × ClassId
def tw_val (u : Nat → Nat) (z : ow_MS) (p : Nat × Nat) : Value := if p.1 = 0 then .int (z.1 p.2) else .ref (u p.2)
def tw_cell (X : ow_Tb) (q : ow_Q5) (u : Nat → Nat) (z : ow_MS) (h : Nat) : va_E := match (X.2 h).1 with
  | 0 => .inl (q.1, (X.2 h).2.1, .inl (z.2.1 h))
  | 1 => .inl (q.2.1, (X.2 h).2.1, .inl (z.2.1 h))
  | 2 => .inl (q.2.2.1, (X.2 h).2.1, .inr (.inl (z.2.2 h)))
  | 3 => .inl (q.2.2.2.1, (X.2 h).2.1, .inl (z.2.1 h))
  | 4 => .inl (q.2.2.2.2, (X.2 h).2.1, .inr (.inr (.inr (.inr (fun i => ((X.2 h).2.2[i]?).map (fun p => u p.2))))))
  | _ => .inr ((X.2 h).2.1, (X.2 h).2.2.map (tw_val u z))
def tw (X : ow_Tb) (q : ow_Q5) (u : Nat → Nat) (z : ow_MS) : va_W := X.1.map (fun h => (u h, tw_cell X q u z h))
def tw_T (q : ow_Q5) (C : String) : List (ClassId × FieldType) := [(q.1, .int), (q.2.1, .byte), (q.2.2.1, .long), (q.2.2.2.1, .boolean), (q.2.2.2.2, .object C)]
def tw_in (X : ow_Tb) (h t : Nat) : Prop := h ∈ X.1 ∧ (X.2 h).1 = t
def tw_ob (X : ow_Tb) (h ci : Nat) (fs : List (Nat × Nat)) : Prop := h ∈ X.1 ∧ X.2 h = (9, ci, fs)
def tw_A (X : ow_Tb) (u : Nat → Nat) (a : Nat) : Prop := ∃ h, h ∈ X.1 ∧ a = u h
def tw_inj (X : ow_Tb) (u : Nat → Nat) : Prop := ∀ g, g ∈ X.1 → ∀ h, h ∈ X.1 → u g = u h → g = h
def tw_ok (X : ow_Tb) : Prop := X.1.Nodup ∧ ∀ h, h ∈ X.1 → 5 ≤ (X.2 h).1 → h % 1000 = 0 ∧ (X.2 h).2.2.length < 999 ∧ ∀ k p, (X.2 h).2.2[k]? = some p → p.1 = 0 → p.2 = h + 1 + k
def tw_chk (X : ow_Tb) : Bool := X.1.all (fun h => decide ((X.2 h).1 < 5) || (decide (h % 1000 = 0) && decide ((X.2 h).2.2.length < 999) && (List.range (X.2 h).2.2.length).all (fun k => match (X.2 h).2.2[k]? with
  | none => true
  | some p => decide (p.1 ≠ 0) || decide (p.2 = h + 1 + k))))
theorem tw_ok_of {X : ow_Tb} (hn : X.1.Nodup) (h : tw_chk X = true) : tw_ok X := by
  refine ⟨hn, fun g hg h5 => ?_⟩
  have h1 := List.all_eq_true.mp h g hg
  rw [Bool.or_eq_true, decide_eq_true_eq] at h1
  rcases h1 with h1 | h1
  · omega
  · rw [Bool.and_eq_true, Bool.and_eq_true, decide_eq_true_eq, decide_eq_true_eq] at h1
    refine ⟨h1.1.1, h1.1.2, fun k p hk hp => ?_⟩
    have h2 := List.all_eq_true.mp h1.2 k (List.mem_range.mpr (List.getElem?_eq_some_iff.mp hk).1)
    rw [hk] at h2
    rw [Bool.or_eq_true, decide_eq_true_eq, decide_eq_true_eq] at h2
    rcases h2 with h2 | h2
    · exact absurd hp h2
    · exact h2
theorem tw_ndj {L : List Nat} (hn : L.Nodup) {i j a : Nat} (hi : L[i]? = some a) (hj : L[j]? = some a) : i = j := by
  obtain ⟨h1, e1⟩ := List.getElem?_eq_some_iff.mp hi
  obtain ⟨h2, e2⟩ := List.getElem?_eq_some_iff.mp hj
  rcases Nat.lt_trichotomy i j with h | h | h
  · exact absurd (e1.trans e2.symm) (List.pairwise_iff_getElem.mp hn i j h1 h2 h)
  · exact h
  · exact absurd (e2.trans e1.symm) (List.pairwise_iff_getElem.mp hn j i h2 h1 h)
theorem tw_at {X : ow_Tb} (hO : tw_ok X) {h : Nat} (hh : h ∈ X.1) : ∃ k : Nat, (∀ q u z, (tw X q u z)[k]? = some (u h, tw_cell X q u z h)) ∧ ∀ q u z z', (∀ g, g ∈ X.1 → g ≠ h → tw_cell X q u z' g = tw_cell X q u z g) → (tw X q u z).set k (u h, tw_cell X q u z' h) = tw X q u z' := by
  obtain ⟨k, hk, e⟩ := List.getElem_of_mem hh
  have hg : X.1[k]? = some h := by rw [List.getElem?_eq_getElem hk, e]
  refine ⟨k, fun q u z => ?_, fun q u z z' hz => ?_⟩
  · unfold tw
    rw [List.getElem?_map, hg]
    rfl
  · apply List.ext_getElem?
    intro j
    unfold tw
    rw [List.getElem?_set, List.getElem?_map, List.getElem?_map, List.length_map]
    by_cases hj : k = j
    · subst hj
      rw [if_pos rfl, if_pos hk, hg]
      rfl
    · rw [if_neg hj]
      cases hm : X.1[j]? with
      | none => rfl
      | some g =>
        have hne : g ≠ h := by
          intro hgh
          subst hgh
          exact hj (tw_ndj hO.1 hg hm)
        show some (u g, tw_cell X q u z g) = some (u g, tw_cell X q u z' g)
        rw [hz g (List.mem_of_getElem? hm) hne]
theorem tw_D {X : ow_Tb} (hO : tw_ok X) {q : ow_Q5} {u : Nat → Nat} (hU : tw_inj X u) (z : ow_MS) : va_D (tw_A X u) (tw X q u z) := by
  constructor
  · intro i j p r hi hj e
    unfold tw at hi hj
    rw [List.getElem?_map] at hi hj
    cases hg : X.1[i]? with
    | none => rw [hg] at hi; cases hi
    | some g =>
      cases hh : X.1[j]? with
      | none => rw [hh] at hj; cases hj
      | some h =>
        rw [hg] at hi
        rw [hh] at hj
        have e1 : u g = p.1 := congrArg Prod.fst (Option.some.inj hi)
        have e2 : u h = r.1 := congrArg Prod.fst (Option.some.inj hj)
        have e3 : g = h := hU g (List.mem_of_getElem? hg) h (List.mem_of_getElem? hh) (by rw [e1, e2, e])
        subst e3
        exact tw_ndj hO.1 hg hh
  · intro k r hk
    unfold tw at hk
    rw [List.getElem?_map] at hk
    cases hg : X.1[k]? with
    | none => rw [hg] at hk; cases hk
    | some g =>
      rw [hg] at hk
      exact ⟨g, List.mem_of_getElem? hg, (congrArg Prod.fst (Option.some.inj hk)).symm⟩
section CELLS
variable {X : ow_Tb} {h : Nat} (q : ow_Q5) (u : Nat → Nat) (z : ow_MS)
theorem tw_c0 (hh : tw_in X h 0) : tw_cell X q u z h = .inl (q.1, (X.2 h).2.1, .inl (z.2.1 h)) := by
  unfold tw_cell
  rw [hh.2]
  rfl
theorem tw_c1 (hh : tw_in X h 1) : tw_cell X q u z h = .inl (q.2.1, (X.2 h).2.1, .inl (z.2.1 h)) := by
  unfold tw_cell
  rw [hh.2]
  rfl
theorem tw_c2 (hh : tw_in X h 2) : tw_cell X q u z h = .inl (q.2.2.1, (X.2 h).2.1, .inr (.inl (z.2.2 h))) := by
  unfold tw_cell
  rw [hh.2]
  rfl
theorem tw_c3 (hh : tw_in X h 3) : tw_cell X q u z h = .inl (q.2.2.2.1, (X.2 h).2.1, .inl (z.2.1 h)) := by
  unfold tw_cell
  rw [hh.2]
  rfl
theorem tw_c4 (hh : tw_in X h 4) : tw_cell X q u z h = .inl (q.2.2.2.2, (X.2 h).2.1, .inr (.inr (.inr (.inr (fun i => ((X.2 h).2.2[i]?).map (fun p => u p.2)))))) := by
  unfold tw_cell
  rw [hh.2]
  rfl
theorem tw_c9 {ci : Nat} {fs : List (Nat × Nat)} (hh : tw_ob X h ci fs) : tw_cell X q u z h = .inr (ci, fs.map (tw_val u z)) := by
  unfold tw_cell
  rw [hh.2]
  rfl
end CELLS
/-- what is written -/
def usF (z : ow_MS) (k : Nat) (x : Int32) : ow_MS := (fun j => if j = k then x else z.1 j, z.2)
def usI (z : ow_MS) (h i : Nat) (x : Int32) : ow_MS := (z.1, fun g => if g = h then upd (z.2.1 g) i x else z.2.1 g, z.2.2)
def usJ (z : ow_MS) (h i : Nat) (x : Int64) : ow_MS := (z.1, z.2.1, fun g => if g = h then vp_updL (z.2.2 g) i x else z.2.2 g)
section PURE
variable {O : Type}
def rdI (X : ow_Tb) (z : ow_MS) (h : Nat) (i : Int32) (K : Int32 → Option O) : Option O := if i < 0 ∨ (X.2 h).2.1 ≤ i.toNatClampNeg then none else K (z.2.1 h i.toNatClampNeg)
def rdJ (X : ow_Tb) (z : ow_MS) (h : Nat) (i : Int32) (K : Int64 → Option O) : Option O := if i < 0 ∨ (X.2 h).2.1 ≤ i.toNatClampNeg then none else K (z.2.2 h i.toNatClampNeg)
def wrI (X : ow_Tb) (z : ow_MS) (h : Nat) (i x : Int32) (K : ow_MS → Option O) : Option O := if i < 0 ∨ (X.2 h).2.1 ≤ i.toNatClampNeg then none else K (usI z h i.toNatClampNeg x)
def wrB (X : ow_Tb) (z : ow_MS) (h : Nat) (i x : Int32) (K : ow_MS → Option O) : Option O := if i < 0 ∨ (X.2 h).2.1 ≤ i.toNatClampNeg then none else K (usI z h i.toNatClampNeg (vp_nar .byte x))
def wrZ (X : ow_Tb) (z : ow_MS) (h : Nat) (i x : Int32) (K : ow_MS → Option O) : Option O := if i < 0 ∨ (X.2 h).2.1 ≤ i.toNatClampNeg then none else K (usI z h i.toNatClampNeg (vp_nar .boolean x))
def wrJ (X : ow_Tb) (z : ow_MS) (h : Nat) (i : Int32) (x : Int64) (K : ow_MS → Option O) : Option O := if i < 0 ∨ (X.2 h).2.1 ≤ i.toNatClampNeg then none else K (usJ z h i.toNatClampNeg x)
def rdF (z : ow_MS) (k : Nat) (K : Int32 → Option O) : Option O := K (z.1 k)
def wrF (z : ow_MS) (k : Nat) (x : Int32) (K : ow_MS → Option O) : Option O := K (usF z k x)
/-- a boolean field or answer -/
def okZ (x : Int32) (K : Option O) : Option O := if x = 0 ∨ x = 1 then K else none
def nzI (x : Int32) (K : Option O) : Option O := if x = 0 then none else K
def nzJ (x : Int64) (K : Option O) : Option O := if x = 0 then none else K
def nm1 {α : Type} (x : α) (K : α → Option O) : Option O := K x
def cs1 {α : Type} (o : Option (α × ow_MS)) (K : α → ow_MS → Option O) : Option O := match o with
  | none => none
  | some r => K r.1 r.2
def cs0 (o : Option ow_MS) (K : ow_MS → Option O) : Option O := match o with
  | none => none
  | some r => K r
theorem tw_isZ {x : Int32} (h : x = 0 ∨ x = 1) : narrow .boolean (.int x) = .int x := by
  rcases h with h | h <;> subst h <;> rfl
theorem tw_fitZ {x : Int32} (h : x = 0 ∨ x = 1) : fits .boolean (.int x) = true := by
  rcases h with h | h <;> subst h <;> rfl
theorem tw_it {P : Prop} {d : Decidable P} {U V : Option O} {out : O} (h : (@ite _ P d U V) = some out) (hc : P) : U = some out := by
  rw [if_pos hc] at h
  exact h
theorem tw_if {P : Prop} {d : Decidable P} {U V : Option O} {out : O} (h : (@ite _ P d U V) = some out) (hc : ¬ P) : V = some out := by
  rw [if_neg hc] at h
  exact h
theorem tw_gd {P : Prop} {d : Decidable P} {U : Option O} {out : O} (h : (@ite _ P d U none) = some out) : P ∧ U = some out := by
  by_cases hc : P
  · rw [if_pos hc] at h
    exact ⟨hc, h⟩
  · rw [if_neg hc] at h
    cases h
theorem tw_gdn {P : Prop} {d : Decidable P} {U : Option O} {out : O} (h : (@ite _ P d none U) = some out) : ¬ P ∧ U = some out := by
  by_cases hc : P
  · rw [if_pos hc] at h
    cases h
  · rw [if_neg hc] at h
    exact ⟨hc, h⟩
theorem tw_gZ {x : Int32} {U : Option O} {out : O} (h : okZ x U = some out) : (x = 0 ∨ x = 1) ∧ U = some out := tw_gd h
theorem tw_nzI {x : Int32} {U : Option O} {out : O} (h : nzI x U = some out) : ¬ x = 0 ∧ U = some out := tw_gdn h
theorem tw_nzJ {x : Int64} {U : Option O} {out : O} (h : nzJ x U = some out) : ¬ x = 0 ∧ U = some out := tw_gdn h
theorem tw_cl1 {α : Type} {o : Option (α × ow_MS)} {K : α → ow_MS → Option O} {out : O} (h : cs1 o K = some out) : ∃ x z, o = some (x, z) ∧ K x z = some out := by
  cases o with
  | none => cases h
  | some r => exact ⟨r.1, r.2, rfl, h⟩
theorem tw_cl0 {o : Option ow_MS} {K : ow_MS → Option O} {out : O} (h : cs0 o K = some out) : ∃ z, o = some z ∧ K z = some out := by
  cases o with
  | none => cases h
  | some r => exact ⟨r, rfl, h⟩
end PURE
/-! what a write leaves alike -/
theorem tw_usI_ne {X : ow_Tb} {q : ow_Q5} {u : Nat → Nat} {z : ow_MS} {h i : Nat} {x : Int32} : ∀ g, g ∈ X.1 → g ≠ h → tw_cell X q u (usI z h i x) g = tw_cell X q u z g := by
  intro g _ hne
  have e : (usI z h i x).2.1 g = z.2.1 g := if_neg hne
  have e2 : tw_val u (usI z h i x) = tw_val u z := rfl
  have e3 : (usI z h i x).2.2 g = z.2.2 g := rfl
  unfold tw_cell
  rw [e, e2, e3]
theorem tw_usJ_ne {X : ow_Tb} {q : ow_Q5} {u : Nat → Nat} {z : ow_MS} {h i : Nat} {x : Int64} : ∀ g, g ∈ X.1 → g ≠ h → tw_cell X q u (usJ z h i x) g = tw_cell X q u z g := by
  intro g _ hne
  have e : (usJ z h i x).2.2 g = z.2.2 g := if_neg hne
  have e2 : tw_val u (usJ z h i x) = tw_val u z := rfl
  have e3 : (usJ z h i x).2.1 g = z.2.1 g := rfl
  unfold tw_cell
  rw [e, e2, e3]
theorem tw_usF_ne {X : ow_Tb} (hO : tw_ok X) {q : ow_Q5} {u : Nat → Nat} {z : ow_MS} {h k ci : Nat} {x : Int32} {fs : List (Nat × Nat)} (hh : tw_ob X h ci fs) (hk : k < 999) : ∀ g, g ∈ X.1 → g ≠ h → tw_cell X q u (usF z (h + 1 + k) x) g = tw_cell X q u z g := by
  intro g hg hne
  have e1 : (usF z (h + 1 + k) x).2.1 g = z.2.1 g := rfl
  have e2 : (usF z (h + 1 + k) x).2.2 g = z.2.2 g := rfl
  have hh0 := (hO.2 h hh.1 (by rw [hh.2]; exact Nat.le_of_ble_eq_true rfl)).1
  by_cases h5 : 5 ≤ (X.2 g).1
  · obtain ⟨hg0, hlen, hp⟩ := hO.2 g hg h5
    have key : (X.2 g).2.2.map (tw_val u (usF z (h + 1 + k) x)) = (X.2 g).2.2.map (tw_val u z) := by
      apply List.map_congr_left
      intro r hr
      obtain ⟨j, hj, e⟩ := List.getElem_of_mem hr
      unfold tw_val
      by_cases h0 : r.1 = 0
      · have h9 := hp j r (by rw [List.getElem?_eq_getElem hj, e]) h0
        rw [if_pos h0, if_pos h0]
        show Value.int (if r.2 = h + 1 + k then x else z.1 r.2) = _
        rw [if_neg (by omega)]
      · rw [if_neg h0, if_neg h0]
    unfold tw_cell
    rw [e1, e2, key]
  · have h6 : (X.2 g).1 = 0 ∨ (X.2 g).1 = 1 ∨ (X.2 g).1 = 2 ∨ (X.2 g).1 = 3 ∨ (X.2 g).1 = 4 := by omega
    unfold tw_cell
    rcases h6 with e | e | e | e | e <;> rw [e]
    all_goals rfl
theorem tw_usF_at {X : ow_Tb} (hO : tw_ok X) {u : Nat → Nat} {z : ow_MS} {h k ci : Nat} {x : Int32} {fs : List (Nat × Nat)} (hh : tw_ob X h ci fs) (hf : fs[k]? = some (0, h + 1 + k)) : (fs.map (tw_val u z)).set k (.int x) = fs.map (tw_val u (usF z (h + 1 + k) x)) := by
  apply List.ext_getElem?
  intro j
  rw [List.getElem?_set, List.getElem?_map, List.getElem?_map, List.length_map]
  by_cases hj : k = j
  · subst hj
    rw [if_pos rfl, if_pos (List.getElem?_eq_some_iff.mp hf).1, hf]
    show some (Value.int x) = some (tw_val u (usF z (h + 1 + k) x) (0, h + 1 + k))
    unfold tw_val usF
    rw [if_pos rfl]
    exact congrArg (fun y => some (Value.int y)) (if_pos rfl).symm
  · rw [if_neg hj]
    cases hm : fs[j]? with
    | none => rfl
    | some r =>
      show some (tw_val u z r) = some (tw_val u (usF z (h + 1 + k) x) r)
      congr 1
      unfold tw_val
      by_cases h0 : r.1 = 0
      · have h9 := (hO.2 h hh.1 (by rw [hh.2]; exact Nat.le_of_ble_eq_true rfl)).2.2 j r (by rw [hh.2]; exact hm) h0
        rw [if_pos h0, if_pos h0]
        show _ = Value.int (if r.2 = h + 1 + k then x else z.1 r.2)
        rw [if_neg (by omega)]
      · rw [if_neg h0, if_neg h0]
/-- the world stands, and only its own cells have changed -/
def tw_M (D : va_G) (cl : List vw_C) (X : ow_Tb) (q : ow_Q5) (H0 : Heap) (u : Nat → Nat) (z : ow_MS) (H : Heap) (locs : List Loc) : Prop := va_P D cl (tw X q u z) H ∧ va_S (tw_A X u) H0 H locs
section RULES
variable {p : Program} {l : Launch} {e : Env} {R : Room} {s : State} {m : MethodId} {args : Array Value} {below : List Frame} {meth : Method} {c : Code} {H : Heap} {locs : List Loc} {cells slots : Nat} {Q : State → Prop}
variable {cc : ByteArray} {pc : Nat} {ls : Array Slot} {rest : List Value} {D : va_G} {cl : List vw_C} {H0 : Heap} {X : ow_Tb} {q : ow_Q5} {u : Nat → Nat} {z : ow_MS} {O : Type} {out : O} {C5 : String} {h : Nat}
theorem tw_iald (hO : tw_ok X) (hx : p.tables.exec = Jvm.exec) (hb : c.code = cc) (hK : va_K D cl (tw_T q C5) s) (hM : tw_M D cl X q H0 u z H locs) (hh : tw_in X h 0) {i : Int32} {K : Int32 → Option O} (hq : rdI X z h i K = some out) (hdg : decode cc pc = .ok (.iaload, 1)) (kk : ∀ x, K x = some out → W p l e R s m args below meth c H locs cells slots Q (F0 m (pc + 1) ls (.int x :: rest))) : W p l e R s m args below meth c H locs cells slots Q (F0 m pc ls (.int i :: .ref (u h) :: rest)) := by
  obtain ⟨k, hk, _⟩ := tw_at hO hh.1
  have h1 := hk q u z
  rw [tw_c0 q u z hh] at h1
  obtain ⟨hi, h2⟩ := tw_gdn hq
  exact va_iald hx hb hK hM.1 k 0 h1 rfl hi hdg (kk _ h2)
theorem tw_bald (hO : tw_ok X) (hx : p.tables.exec = Jvm.exec) (hb : c.code = cc) (hK : va_K D cl (tw_T q C5) s) (hM : tw_M D cl X q H0 u z H locs) (hh : tw_in X h 1) {i : Int32} {K : Int32 → Option O} (hq : rdI X z h i K = some out) (hdg : decode cc pc = .ok (.baload, 1)) (kk : ∀ x, K x = some out → W p l e R s m args below meth c H locs cells slots Q (F0 m (pc + 1) ls (.int x :: rest))) : W p l e R s m args below meth c H locs cells slots Q (F0 m pc ls (.int i :: .ref (u h) :: rest)) := by
  obtain ⟨k, hk, _⟩ := tw_at hO hh.1
  have h1 := hk q u z
  rw [tw_c1 q u z hh] at h1
  obtain ⟨hi, h2⟩ := tw_gdn hq
  exact va_bald hx hb hK hM.1 k 1 h1 rfl hi hdg (kk _ h2)
theorem tw_zald (hO : tw_ok X) (hx : p.tables.exec = Jvm.exec) (hb : c.code = cc) (hK : va_K D cl (tw_T q C5) s) (hM : tw_M D cl X q H0 u z H locs) (hh : tw_in X h 3) {i : Int32} {K : Int32 → Option O} (hq : rdI X z h i K = some out) (hdg : decode cc pc = .ok (.baload, 1)) (kk : ∀ x, K x = some out → W p l e R s m args below meth c H locs cells slots Q (F0 m (pc + 1) ls (.int x :: rest))) : W p l e R s m args below meth c H locs cells slots Q (F0 m pc ls (.int i :: .ref (u h) :: rest)) := by
  obtain ⟨k, hk, _⟩ := tw_at hO hh.1
  have h1 := hk q u z
  rw [tw_c3 q u z hh] at h1
  obtain ⟨hi, h2⟩ := tw_gdn hq
  exact va_zald hx hb hK hM.1 k 3 h1 rfl hi hdg (kk _ h2)
theorem tw_lald (hO : tw_ok X) (hx : p.tables.exec = Jvm.exec) (hb : c.code = cc) (hK : va_K D cl (tw_T q C5) s) (hM : tw_M D cl X q H0 u z H locs) (hh : tw_in X h 2) {i : Int32} {K : Int64 → Option O} (hq : rdJ X z h i K = some out) (hdg : decode cc pc = .ok (.laload, 1)) (kk : ∀ x, K x = some out → W p l e R s m args below meth c H locs cells slots Q (F0 m (pc + 1) ls (.long x :: rest))) : W p l e R s m args below meth c H locs cells slots Q (F0 m pc ls (.int i :: .ref (u h) :: rest)) := by
  obtain ⟨k, hk, _⟩ := tw_at hO hh.1
  have h1 := hk q u z
  rw [tw_c2 q u z hh] at h1
  obtain ⟨hi, h2⟩ := tw_gdn hq
  exact va_lald hx hb hK hM.1 k 2 h1 rfl hi hdg (kk _ h2)
theorem tw_iast (hO : tw_ok X) (hU : tw_inj X u) (hx : p.tables.exec = Jvm.exec) (hb : c.code = cc) (hK : va_K D cl (tw_T q C5) s) (hM : tw_M D cl X q H0 u z H locs) (hh : tw_in X h 0) {i : Int32} {x : Int32} {K : ow_MS → Option O} (hq : wrI X z h i x K = some out) (hdg : decode cc pc = .ok (.iastore, 1)) (kk : ∀ z1 H1 locs1, tw_M D cl X q H0 u z1 H1 locs1 → K z1 = some out → W p l e R s m args below meth c H1 locs1 cells slots Q (F0 m (pc + 1) ls rest)) : W p l e R s m args below meth c H locs cells slots Q (F0 m pc ls (.int x :: .int i :: .ref (u h) :: rest)) := by
  obtain ⟨k, hk, hs⟩ := tw_at hO hh.1
  have h1 := hk q u z
  rw [tw_c0 q u z hh] at h1
  obtain ⟨hi, h2⟩ := tw_gdn hq
  refine va_iast hx hb hK hM.1 (tw_D hO hU z) hM.2 k 0 h1 rfl hi hdg (fun H1 locs1 hP _ hS => kk _ H1 locs1 ⟨?_, hS⟩ h2)
  have h3 := hs q u z (usI z h i.toNatClampNeg x) tw_usI_ne
  rw [tw_c0 q u (usI z h i.toNatClampNeg x) hh] at h3
  rw [← h3]
  have h4 : (usI z h i.toNatClampNeg x).2.1 h = upd (z.2.1 h) i.toNatClampNeg x := if_pos rfl
  rw [h4]
  exact hP
theorem tw_bast (hO : tw_ok X) (hU : tw_inj X u) (hx : p.tables.exec = Jvm.exec) (hb : c.code = cc) (hK : va_K D cl (tw_T q C5) s) (hM : tw_M D cl X q H0 u z H locs) (hh : tw_in X h 1) {i : Int32} {x : Int32} {K : ow_MS → Option O} (hq : wrB X z h i x K = some out) (hdg : decode cc pc = .ok (.bastore, 1)) (kk : ∀ z1 H1 locs1, tw_M D cl X q H0 u z1 H1 locs1 → K z1 = some out → W p l e R s m args below meth c H1 locs1 cells slots Q (F0 m (pc + 1) ls rest)) : W p l e R s m args below meth c H locs cells slots Q (F0 m pc ls (.int x :: .int i :: .ref (u h) :: rest)) := by
  obtain ⟨k, hk, hs⟩ := tw_at hO hh.1
  have h1 := hk q u z
  rw [tw_c1 q u z hh] at h1
  obtain ⟨hi, h2⟩ := tw_gdn hq
  refine va_bast hx hb hK hM.1 (tw_D hO hU z) hM.2 k 1 h1 rfl hi hdg (fun H1 locs1 hP _ hS => kk _ H1 locs1 ⟨?_, hS⟩ h2)
  have h3 := hs q u z (usI z h i.toNatClampNeg (vp_nar .byte x)) tw_usI_ne
  rw [tw_c1 q u (usI z h i.toNatClampNeg (vp_nar .byte x)) hh] at h3
  rw [← h3]
  have h4 : (usI z h i.toNatClampNeg (vp_nar .byte x)).2.1 h = upd (z.2.1 h) i.toNatClampNeg (vp_nar .byte x) := if_pos rfl
  rw [h4]
  exact hP
theorem tw_zast (hO : tw_ok X) (hU : tw_inj X u) (hx : p.tables.exec = Jvm.exec) (hb : c.code = cc) (hK : va_K D cl (tw_T q C5) s) (hM : tw_M D cl X q H0 u z H locs) (hh : tw_in X h 3) {i : Int32} {x : Int32} {K : ow_MS → Option O} (hq : wrZ X z h i x K = some out) (hdg : decode cc pc = .ok (.bastore, 1)) (kk : ∀ z1 H1 locs1, tw_M D cl X q H0 u z1 H1 locs1 → K z1 = some out → W p l e R s m args below meth c H1 locs1 cells slots Q (F0 m (pc + 1) ls rest)) : W p l e R s m args below meth c H locs cells slots Q (F0 m pc ls (.int x :: .int i :: .ref (u h) :: rest)) := by
  obtain ⟨k, hk, hs⟩ := tw_at hO hh.1
  have h1 := hk q u z
  rw [tw_c3 q u z hh] at h1
  obtain ⟨hi, h2⟩ := tw_gdn hq
  refine va_zast hx hb hK hM.1 (tw_D hO hU z) hM.2 k 3 h1 rfl hi hdg (fun H1 locs1 hP _ hS => kk _ H1 locs1 ⟨?_, hS⟩ h2)
  have h3 := hs q u z (usI z h i.toNatClampNeg (vp_nar .boolean x)) tw_usI_ne
  rw [tw_c3 q u (usI z h i.toNatClampNeg (vp_nar .boolean x)) hh] at h3
  rw [← h3]
  have h4 : (usI z h i.toNatClampNeg (vp_nar .boolean x)).2.1 h = upd (z.2.1 h) i.toNatClampNeg (vp_nar .boolean x) := if_pos rfl
  rw [h4]
  exact hP
theorem tw_last (hO : tw_ok X) (hU : tw_inj X u) (hx : p.tables.exec = Jvm.exec) (hb : c.code = cc) (hK : va_K D cl (tw_T q C5) s) (hM : tw_M D cl X q H0 u z H locs) (hh : tw_in X h 2) {i : Int32} {x : Int64} {K : ow_MS → Option O} (hq : wrJ X z h i x K = some out) (hdg : decode cc pc = .ok (.lastore, 1)) (kk : ∀ z1 H1 locs1, tw_M D cl X q H0 u z1 H1 locs1 → K z1 = some out → W p l e R s m args below meth c H1 locs1 cells slots Q (F0 m (pc + 1) ls rest)) : W p l e R s m args below meth c H locs cells slots Q (F0 m pc ls (.long x :: .int i :: .ref (u h) :: rest)) := by
  obtain ⟨k, hk, hs⟩ := tw_at hO hh.1
  have h1 := hk q u z
  rw [tw_c2 q u z hh] at h1
  obtain ⟨hi, h2⟩ := tw_gdn hq
  refine va_last hx hb hK hM.1 (tw_D hO hU z) hM.2 k 2 h1 rfl hi hdg (fun H1 locs1 hP _ hS => kk _ H1 locs1 ⟨?_, hS⟩ h2)
  have h3 := hs q u z (usJ z h i.toNatClampNeg x) tw_usJ_ne
  rw [tw_c2 q u (usJ z h i.toNatClampNeg x) hh] at h3
  rw [← h3]
  have h4 : (usJ z h i.toNatClampNeg x).2.2 h = vp_updL (z.2.2 h) i.toNatClampNeg x := if_pos rfl
  rw [h4]
  exact hP
theorem tw_getI (hO : tw_ok X) (hx : p.tables.exec = Jvm.exec) (hb : c.code = cc) {own ref C : String} {T : u_T} {N ci index : Nat} {Ts : List Cond} (hts : ∀ w ∈ Ts, w.before args s = true) (hin : ∀ w ∈ u_ws C T N, w ∈ Ts) (hown : s.vm.findClass own = some m.cls) (hK : va_K D cl (tw_T q C5) s) (hM : tw_M D cl X q H0 u z H locs) {fs : List (Nat × Nat)} (hh : tw_ob X h ci fs) (hc : cl[ci]? = some (C, T, N)) (k : Nat) (hk : k < N) (hlink : (Cond.fieldLink own index ref (T k).2.1 (T k).2.2.1).before args s = true) (hsame : ∀ x, s.fieldFound? (T k).1 (T k).2.1 (T k).2.2.1 = some x → s.fieldFound? ref (T k).2.1 (T k).2.2.1 = some x) {g : Nat} (hf : fs[k]? = some (0, g)) {K : Int32 → Option O} (hq : rdF z g K = some out) (hdg : decode cc pc = .ok (.getfield index, 3)) (kk : ∀ x, K x = some out → W p l e R s m args below meth c H locs cells slots Q (F0 m (pc + 3) ls (.int x :: rest))) : W p l e R s m args below meth c H locs cells slots Q (F0 m pc ls (.ref (u h) :: rest)) := by
  obtain ⟨k0, h0, _⟩ := tw_at hO hh.1
  have h1 := h0 q u z
  rw [tw_c9 q u z hh] at h1
  exact va_get hx hb hts hin hown hK hM.1 k0 h1 hc k hk hlink hsame (v := .int (z.1 g)) (by rw [List.getElem?_map, hf]; rfl) hdg (kk _ hq)
theorem tw_getR (hO : tw_ok X) (hx : p.tables.exec = Jvm.exec) (hb : c.code = cc) {own ref C : String} {T : u_T} {N ci index : Nat} {Ts : List Cond} (hts : ∀ w ∈ Ts, w.before args s = true) (hin : ∀ w ∈ u_ws C T N, w ∈ Ts) (hown : s.vm.findClass own = some m.cls) (hK : va_K D cl (tw_T q C5) s) (hM : tw_M D cl X q H0 u z H locs) {fs : List (Nat × Nat)} (hh : tw_ob X h ci fs) (hc : cl[ci]? = some (C, T, N)) (k : Nat) (hk : k < N) (hlink : (Cond.fieldLink own index ref (T k).2.1 (T k).2.2.1).before args s = true) (hsame : ∀ x, s.fieldFound? (T k).1 (T k).2.1 (T k).2.2.1 = some x → s.fieldFound? ref (T k).2.1 (T k).2.2.1 = some x) {g : Nat} (hf : fs[k]? = some (1, g)) (hdg : decode cc pc = .ok (.getfield index, 3)) (kk : W p l e R s m args below meth c H locs cells slots Q (F0 m (pc + 3) ls (.ref (u g) :: rest))) : W p l e R s m args below meth c H locs cells slots Q (F0 m pc ls (.ref (u h) :: rest)) := by
  obtain ⟨k0, h0, _⟩ := tw_at hO hh.1
  have h1 := h0 q u z
  rw [tw_c9 q u z hh] at h1
  exact va_get hx hb hts hin hown hK hM.1 k0 h1 hc k hk hlink hsame (v := .ref (u g)) (by rw [List.getElem?_map, hf]; rfl) hdg kk
theorem tw_getIN (hO : tw_ok X) (hx : p.tables.exec = Jvm.exec) (hb : c.code = cc) {own ref C host : String} {T : u_T} {N ci index : Nat} {Ts : List Cond} (hts : ∀ w ∈ Ts, w.before args s = true) (hin : ∀ w ∈ u_ws C T N, w ∈ Ts) (hown : s.vm.findClass own = some m.cls) (hK : va_K D cl (tw_T q C5) s) (hM : tw_M D cl X q H0 u z H locs) {fs : List (Nat × Nat)} (hh : tw_ob X h ci fs) (hc : cl[ci]? = some (C, T, N)) (k : Nat) (hk : k < N) (hlink : (Cond.fieldLinkNest own index ref (T k).2.1 (T k).2.2.1 host).before args s = true) (hsame : ∀ x, s.fieldFound? (T k).1 (T k).2.1 (T k).2.2.1 = some x → s.fieldFound? ref (T k).2.1 (T k).2.2.1 = some x) {g : Nat} (hf : fs[k]? = some (0, g)) {K : Int32 → Option O} (hq : rdF z g K = some out) (hdg : decode cc pc = .ok (.getfield index, 3)) (kk : ∀ x, K x = some out → W p l e R s m args below meth c H locs cells slots Q (F0 m (pc + 3) ls (.int x :: rest))) : W p l e R s m args below meth c H locs cells slots Q (F0 m pc ls (.ref (u h) :: rest)) := by
  obtain ⟨k0, h0, _⟩ := tw_at hO hh.1
  have h1 := h0 q u z
  rw [tw_c9 q u z hh] at h1
  exact va_getN hx hb hts hin hown hK hM.1 k0 h1 hc k hk hlink hsame (v := .int (z.1 g)) (by rw [List.getElem?_map, hf]; rfl) hdg (kk _ hq)
theorem tw_getRN (hO : tw_ok X) (hx : p.tables.exec = Jvm.exec) (hb : c.code = cc) {own ref C host : String} {T : u_T} {N ci index : Nat} {Ts : List Cond} (hts : ∀ w ∈ Ts, w.before args s = true) (hin : ∀ w ∈ u_ws C T N, w ∈ Ts) (hown : s.vm.findClass own = some m.cls) (hK : va_K D cl (tw_T q C5) s) (hM : tw_M D cl X q H0 u z H locs) {fs : List (Nat × Nat)} (hh : tw_ob X h ci fs) (hc : cl[ci]? = some (C, T, N)) (k : Nat) (hk : k < N) (hlink : (Cond.fieldLinkNest own index ref (T k).2.1 (T k).2.2.1 host).before args s = true) (hsame : ∀ x, s.fieldFound? (T k).1 (T k).2.1 (T k).2.2.1 = some x → s.fieldFound? ref (T k).2.1 (T k).2.2.1 = some x) {g : Nat} (hf : fs[k]? = some (1, g)) (hdg : decode cc pc = .ok (.getfield index, 3)) (kk : W p l e R s m args below meth c H locs cells slots Q (F0 m (pc + 3) ls (.ref (u g) :: rest))) : W p l e R s m args below meth c H locs cells slots Q (F0 m pc ls (.ref (u h) :: rest)) := by
  obtain ⟨k0, h0, _⟩ := tw_at hO hh.1
  have h1 := h0 q u z
  rw [tw_c9 q u z hh] at h1
  exact va_getN hx hb hts hin hown hK hM.1 k0 h1 hc k hk hlink hsame (v := .ref (u g)) (by rw [List.getElem?_map, hf]; rfl) hdg kk
theorem tw_put (hO : tw_ok X) (hU : tw_inj X u) (hx : p.tables.exec = Jvm.exec) (hb : c.code = cc) {own ref C : String} {T : u_T} {N ci index : Nat} {Ts : List Cond} (hts : ∀ w ∈ Ts, w.before args s = true) (hin : ∀ w ∈ u_ws C T N, w ∈ Ts) (ty0 : Nat → FieldType) (hty : ∀ k, k < N → parseFieldDescriptor (T k).2.2.1 = some (ty0 k)) (hnm : ∀ a, a < N → ∀ b, b < N → a ≠ b → (T a).2.1 ≠ (T b).2.1) (hown : s.vm.findClass own = some m.cls) (hK : va_K D cl (tw_T q C5) s) (hM : tw_M D cl X q H0 u z H locs) {fs : List (Nat × Nat)} (hh : tw_ob X h ci fs) (hc : cl[ci]? = some (C, T, N)) (k : Nat) (hk : k < N) (hlink : (Cond.fieldLink own index ref (T k).2.1 (T k).2.2.1).before args s = true) (hsame : ∀ x, s.fieldFound? (T k).1 (T k).2.1 (T k).2.2.1 = some x → s.fieldFound? ref (T k).2.1 (T k).2.2.1 = some x) (hfin : (T k).2.2.2 = false) {ty : FieldType} {x : Int32} (hd : parseFieldDescriptor (T k).2.2.1 = some ty) (hn : narrow ty (.int x) = .int x) (hfit : fits ty (.int x) = true) (hf : fs[k]? = some (0, h + 1 + k)) (hk9 : k < 999) {K : ow_MS → Option O} (hq : wrF z (h + 1 + k) x K = some out) (hdg : decode cc pc = .ok (.putfield index, 3)) (kk : ∀ z1 H1 locs1, tw_M D cl X q H0 u z1 H1 locs1 → K z1 = some out → W p l e R s m args below meth c H1 locs1 cells slots Q (F0 m (pc + 3) ls rest)) : W p l e R s m args below meth c H locs cells slots Q (F0 m pc ls (.int x :: .ref (u h) :: rest)) := by
  obtain ⟨k0, h0, hs⟩ := tw_at hO hh.1
  have h1 := h0 q u z
  rw [tw_c9 q u z hh] at h1
  refine va_put hx hb hts hin ty0 hty hnm hown hK hM.1 (tw_D hO hU z) hM.2 k0 h1 hc k hk hlink hsame hfin hd hn hfit (by rw [List.length_map]; exact (List.getElem?_eq_some_iff.mp hf).1) hdg (fun H1 locs1 hP _ hS => kk _ H1 locs1 ⟨?_, hS⟩ hq)
  have h3 := hs q u z (usF z (h + 1 + k) x) (tw_usF_ne hO hh hk9)
  rw [tw_c9 q u (usF z (h + 1 + k) x) hh] at h3
  rw [← h3, ← tw_usF_at hO hh hf]
  exact hP
theorem tw_alen (hO : tw_ok X) (hx : p.tables.exec = Jvm.exec) (hb : c.code = cc) (hK : va_K D cl (tw_T q C5) s) (hM : tw_M D cl X q H0 u z H locs) (hh : tw_in X h 0) (hdg : decode cc pc = .ok (.arraylength, 1)) (kk : W p l e R s m args below meth c H locs cells slots Q (F0 m (pc + 1) ls (.int (Int32.ofNat (X.2 h).2.1) :: rest))) : W p l e R s m args below meth c H locs cells slots Q (F0 m pc ls (.ref (u h) :: rest)) := by
  obtain ⟨k, hk, _⟩ := tw_at hO hh.1
  have h1 := hk q u z
  rw [tw_c0 q u z hh] at h1
  exact va_alen hx hb hK hM.1 k 0 h1 rfl rfl hdg kk
theorem tw_cali {a : Array Value} {st0 : List Value} {r : Int32} {z1 : ow_MS} (hM : tw_M D cl X q H0 u z H locs) (hr : va_Run p l e R s m args below meth c H locs cells slots 0 0 (F0 m pc ls st0) rest (va_Qi (fun x (_ : Unit) => x = r) (fun _ t => va_P D cl (tw X q u z1) t.heap) (tw_A X u) a) (tw_A X u)) (kk : ∀ H1 locs1, tw_M D cl X q H0 u z1 H1 locs1 → W p l e R s m args below meth c H1 locs1 cells slots Q (F0 m (pc + 3) ls (.int r :: rest))) : W p l e R s m args below meth c H locs cells slots Q (F0 m pc ls st0) := by
  refine va_calli hr hM.2 (fun _ _ h => h) (fun _ h => h) (fun r1 _ t H1 locs1 ht _ hw hB _ _ hS => ?_)
  rw [hw]
  exact kk H1 locs1 ⟨by rw [← ht]; exact hB, hS⟩
theorem tw_call {a : Array Value} {st0 : List Value} {r : Int64} {z1 : ow_MS} (hM : tw_M D cl X q H0 u z H locs) (hr : va_Run p l e R s m args below meth c H locs cells slots 0 0 (F0 m pc ls st0) rest (va_Ql (fun x (_ : Unit) => x = r) (fun _ t => va_P D cl (tw X q u z1) t.heap) (tw_A X u) a) (tw_A X u)) (kk : ∀ H1 locs1, tw_M D cl X q H0 u z1 H1 locs1 → W p l e R s m args below meth c H1 locs1 cells slots Q (F0 m (pc + 3) ls (.long r :: rest))) : W p l e R s m args below meth c H locs cells slots Q (F0 m pc ls st0) := by
  refine va_calll hr hM.2 (fun _ _ h => h) (fun _ h => h) (fun r1 _ t H1 locs1 ht _ hw hB _ _ hS => ?_)
  rw [hw]
  exact kk H1 locs1 ⟨by rw [← ht]; exact hB, hS⟩
theorem tw_calv {a : Array Value} {st0 : List Value} {z1 : ow_MS} (hM : tw_M D cl X q H0 u z H locs) (hr : va_Run p l e R s m args below meth c H locs cells slots 0 0 (F0 m pc ls st0) rest (va_Qv (fun (_ : Unit) => True) (fun _ t => va_P D cl (tw X q u z1) t.heap) (tw_A X u) a) (tw_A X u)) (kk : ∀ H1 locs1, tw_M D cl X q H0 u z1 H1 locs1 → W p l e R s m args below meth c H1 locs1 cells slots Q (F0 m (pc + 3) ls rest)) : W p l e R s m args below meth c H locs cells slots Q (F0 m pc ls st0) := by
  refine va_callv hr hM.2 (fun _ _ h => h) (fun _ h => h) (fun _ t H1 locs1 ht _ _ hB _ _ hS => ?_)
  exact kk H1 locs1 ⟨by rw [← ht]; exact hB, hS⟩
end RULES
theorem tw_gV {c0 cy : Cond} {own C : String} {idx : Nat} {y : MethodName} {L : List Cond} (hL : L.all goodWord = true) (h1 : .methodLink own idx y ∈ L) (h2 : .instanceMethod y ∈ L) (h3 : .selects C y y ∈ L) (h4 : .initialized C ∈ L) (h5 : cy ∈ L) : GoodIn (c0 :: L) (wsV own idx C y (cy :: L)) := by
  have g : ∀ w ∈ L, w ∈ c0 :: L ∧ ((w.onTables && w.keeps) = true ∨ ∃ ty, w = .arrayClass ty) := fun w h => ⟨List.mem_cons_of_mem _ h, good_of_word (List.all_eq_true.mp hL w h)⟩
  intro w hw
  unfold wsV at hw
  rcases List.mem_append.mp hw with h | h
  · simp only [List.mem_cons, List.not_mem_nil, or_false] at h
    rcases h with h | h | h | h
    · rw [h]; exact g _ h1
    · rw [h]; exact g _ h2
    · rw [h]; exact g _ h3
    · rw [h]; exact g _ h4
  · rcases List.mem_cons.mp h with h | h
    · rw [h]; exact g _ h5
    · exact g _ h
theorem tw_gS {c0 cy : Cond} {own : String} {idx : Nat} {y : MethodName} {L : List Cond} (hL : L.all goodWord = true) (h1 : .methodLink own idx y ∈ L) (h2 : .static y ∈ L) (h4 : .initialized y.cls ∈ L) (h5 : cy ∈ L) : GoodIn (c0 :: L) (va_wsS own idx y (cy :: L)) := by
  have g : ∀ w ∈ L, w ∈ c0 :: L ∧ ((w.onTables && w.keeps) = true ∨ ∃ ty, w = .arrayClass ty) := fun w h => ⟨List.mem_cons_of_mem _ h, good_of_word (List.all_eq_true.mp hL w h)⟩
  intro w hw
  unfold va_wsS at hw
  rcases List.mem_append.mp hw with h | h
  · simp only [List.mem_cons, List.not_mem_nil, or_false] at h
    rcases h with h | h | h
    · rw [h]; exact g _ h1
    · rw [h]; exact g _ h2
    · rw [h]; exact g _ h4
  · rcases List.mem_cons.mp h with h | h
    · rw [h]; exact g _ h5
    · exact g _ h
