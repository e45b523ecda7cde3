/-! worlds by handles once more, for the class: kinds 0 int row, 1 byte row, 2 long row, 3 boolean row, 4 row of nets, 5 row of int rows, 6 row of long rows, 9 object -/
def uw_len (X : ow_Tb) (_ : ow_MS) (h : Nat) : Nat := (X.2 h).2.1
/-- addresses apart, and all of a kind -/
def uw_inj (X : ow_Tb) (u : Nat → Nat) (A : Nat → Prop) : Prop := tw_inj X u ∧ ∀ h, h ∈ X.1 → A (u h)
theorem uw_sub {X : ow_Tb} {u : Nat → Nat} {A : Nat → Prop} {a : Nat} (hU : uw_inj X u A) (h : tw_A X u a) : A a := by
  obtain ⟨g, hg, rfl⟩ := h
  exact hU.2 g hg
def uw_cell (X : ow_Tb) (q : Nat → ClassId) (u : Nat → Nat) (z : ow_MS) (h : Nat) : va_E := match (X.2 h).1 with
  | 0 => .inl (q 0, uw_len X z h, .inl (z.2.1 h))
  | 1 => .inl (q 1, uw_len X z h, .inl (z.2.1 h))
  | 2 => .inl (q 2, uw_len X z h, .inr (.inl (z.2.2 h)))
  | 3 => .inl (q 3, uw_len X z h, .inl (z.2.1 h))
  | 4 => .inl (q 4, (X.2 h).2.1, .inr (.inr (.inr (.inr (fun i => ((X.2 h).2.2[i]?).map (fun p => u p.2))))))
  | 5 => .inl (q 5, (X.2 h).2.1, .inr (.inr (.inr (.inr (fun i => ((X.2 h).2.2[i]?).map (fun p => u p.2))))))
  | 6 => .inl (q 6, (X.2 h).2.1, .inr (.inr (.inr (.inr (fun i => ((X.2 h).2.2[i]?).map (fun p => u p.2))))))
  | _ => .inr ((X.2 h).2.1, (X.2 h).2.2.map (tw_val u z))
def uw (X : ow_Tb) (q : Nat → ClassId) (u : Nat → Nat) (z : ow_MS) : va_W := X.1.map (fun h => (u h, uw_cell X q u z h))
def uw_T (q : Nat → ClassId) (C : String) : List (ClassId × FieldType) := [(q 0, .int), (q 1, .byte), (q 2, .long), (q 3, .boolean), (q 4, .object C), (q 5, .array .int), (q 6, .array .long)]
def uw_ok (X : ow_Tb) : Prop := X.1.Nodup ∧ ∀ h, h ∈ X.1 → 7 ≤ (X.2 h).1 → h % 1000 = 0 ∧ (X.2 h).2.2.length < 999 ∧ ∀ k p, (X.2 h).2.2[k]? = some p → p.1 = 0 → p.2 = h + 1 + k ∧ p.2 ∉ X.1
def uw_chk (X : ow_Tb) : Bool := X.1.all (fun h => decide ((X.2 h).1 < 7) || (decide (h % 1000 = 0) && decide ((X.2 h).2.2.length < 999) && (List.range (X.2 h).2.2.length).all (fun k => match (X.2 h).2.2[k]? with
  | none => true
  | some p => decide (p.1 ≠ 0) || (decide (p.2 = h + 1 + k) && !X.1.contains p.2))))
theorem uw_ok_of {X : ow_Tb} (hn : X.1.Nodup) (h : uw_chk X = true) : uw_ok X := by
  refine ⟨hn, fun g hg h5 => ?_⟩
  have h1 := List.all_eq_true.mp h g hg
  rw [Bool.or_eq_true, decide_eq_true_eq] at h1
  rcases h1 with h1 | h1
  · omega
  · rw [Bool.and_eq_true, Bool.and_eq_true, decide_eq_true_eq, decide_eq_true_eq] at h1
    refine ⟨h1.1.1, h1.1.2, fun k p hk hp => ?_⟩
    have h2 := List.all_eq_true.mp h1.2 k (List.mem_range.mpr (List.getElem?_eq_some_iff.mp hk).1)
    rw [hk] at h2
    rw [Bool.or_eq_true, decide_eq_true_eq, Bool.and_eq_true, decide_eq_true_eq] at h2
    rcases h2 with h2 | h2
    · exact absurd hp h2
    · refine ⟨h2.1, fun hm => ?_⟩
      have h3 := h2.2
      rw [List.contains_iff_mem.mpr hm] at h3
      cases h3
theorem uw_at {X : ow_Tb} (hO : uw_ok X) {h : Nat} (hh : h ∈ X.1) : ∃ k : Nat, (∀ q u z, (uw X q u z)[k]? = some (u h, uw_cell X q u z h)) ∧ ∀ q u z z', (∀ g, g ∈ X.1 → g ≠ h → uw_cell X q u z' g = uw_cell X q u z g) → (uw X q u z).set k (u h, uw_cell X q u z' h) = uw X q u z' := by
  obtain ⟨k, hk, e⟩ := List.getElem_of_mem hh
  have hg : X.1[k]? = some h := by rw [List.getElem?_eq_getElem hk, e]
  refine ⟨k, fun q u z => ?_, fun q u z z' hz => ?_⟩
  · unfold uw
    rw [List.getElem?_map, hg]
    rfl
  · apply List.ext_getElem?
    intro j
    unfold uw
    rw [List.getElem?_set, List.getElem?_map, List.getElem?_map, List.length_map]
    by_cases hj : k = j
    · subst hj
      rw [if_pos rfl, if_pos hk, hg]
      rfl
    · rw [if_neg hj]
      cases hm : X.1[j]? with
      | none => rfl
      | some g =>
        have hne : g ≠ h := by
          intro hgh
          subst hgh
          exact hj (tw_ndj hO.1 hg hm)
        show some (u g, uw_cell X q u z g) = some (u g, uw_cell X q u z' g)
        rw [hz g (List.mem_of_getElem? hm) hne]
theorem uw_D {X : ow_Tb} (hO : uw_ok X) {q : (Nat → ClassId)} {u : Nat → Nat} {A : Nat → Prop} (hU : uw_inj X u A) (z : ow_MS) : va_D A (uw X q u z) := by
  constructor
  · intro i j p r hi hj e
    unfold uw at hi hj
    rw [List.getElem?_map] at hi hj
    cases hg : X.1[i]? with
    | none => rw [hg] at hi; cases hi
    | some g =>
      cases hh : X.1[j]? with
      | none => rw [hh] at hj; cases hj
      | some h =>
        rw [hg] at hi
        rw [hh] at hj
        have e1 : u g = p.1 := congrArg Prod.fst (Option.some.inj hi)
        have e2 : u h = r.1 := congrArg Prod.fst (Option.some.inj hj)
        have e3 : g = h := hU.1 g (List.mem_of_getElem? hg) h (List.mem_of_getElem? hh) (by rw [e1, e2, e])
        subst e3
        exact tw_ndj hO.1 hg hh
  · intro k r hk
    unfold uw at hk
    rw [List.getElem?_map] at hk
    cases hg : X.1[k]? with
    | none => rw [hg] at hk; cases hk
    | some g =>
      rw [hg] at hk
      have e9 := congrArg Prod.fst (Option.some.inj hk)
      rw [← e9]
      exact hU.2 g (List.mem_of_getElem? hg)
section UCELLS
variable {X : ow_Tb} {h : Nat} (q : Nat → ClassId) (u : Nat → Nat) (z : ow_MS)
theorem uw_c0 (hh : tw_in X h 0) : uw_cell X q u z h = .inl (q 0, uw_len X z h, .inl (z.2.1 h)) := by
  unfold uw_cell
  rw [hh.2]
  rfl
theorem uw_c1 (hh : tw_in X h 1) : uw_cell X q u z h = .inl (q 1, uw_len X z h, .inl (z.2.1 h)) := by
  unfold uw_cell
  rw [hh.2]
  rfl
theorem uw_c2 (hh : tw_in X h 2) : uw_cell X q u z h = .inl (q 2, uw_len X z h, .inr (.inl (z.2.2 h))) := by
  unfold uw_cell
  rw [hh.2]
  rfl
theorem uw_c3 (hh : tw_in X h 3) : uw_cell X q u z h = .inl (q 3, uw_len X z h, .inl (z.2.1 h)) := by
  unfold uw_cell
  rw [hh.2]
  rfl
theorem uw_c4 (hh : tw_in X h 4) : uw_cell X q u z h = .inl (q 4, (X.2 h).2.1, .inr (.inr (.inr (.inr (fun i => ((X.2 h).2.2[i]?).map (fun p => u p.2)))))) := by
  unfold uw_cell
  rw [hh.2]
  rfl
theorem uw_c5 (hh : tw_in X h 5) : uw_cell X q u z h = .inl (q 5, (X.2 h).2.1, .inr (.inr (.inr (.inr (fun i => ((X.2 h).2.2[i]?).map (fun p => u p.2)))))) := by
  unfold uw_cell
  rw [hh.2]
  rfl
theorem uw_c6 (hh : tw_in X h 6) : uw_cell X q u z h = .inl (q 6, (X.2 h).2.1, .inr (.inr (.inr (.inr (fun i => ((X.2 h).2.2[i]?).map (fun p => u p.2)))))) := by
  unfold uw_cell
  rw [hh.2]
  rfl
theorem uw_c9 {ci : Nat} {fs : List (Nat × Nat)} (hh : tw_ob X h ci fs) : uw_cell X q u z h = .inr (ci, fs.map (tw_val u z)) := by
  unfold uw_cell
  rw [hh.2]
  rfl
end UCELLS
def usR (z : ow_MS) (h : Nat) (f : Nat → Int32) : ow_MS := (z.1, fun g => if g = h then f else z.2.1 g, z.2.2)
section UPURE
variable {O : Type}
def crI (X : ow_Tb) (z : ow_MS) (h : Nat) (i : Int32) (K : Int32 → Option O) : Option O := if i < 0 ∨ uw_len X z h ≤ i.toNatClampNeg then none else K (z.2.1 h i.toNatClampNeg)
def crJ (X : ow_Tb) (z : ow_MS) (h : Nat) (i : Int32) (K : Int64 → Option O) : Option O := if i < 0 ∨ uw_len X z h ≤ i.toNatClampNeg then none else K (z.2.2 h i.toNatClampNeg)
def ctI (X : ow_Tb) (z : ow_MS) (h : Nat) (i x : Int32) (K : ow_MS → Option O) : Option O := if i < 0 ∨ uw_len X z h ≤ i.toNatClampNeg then none else K (usI z h i.toNatClampNeg x)
def ctB (X : ow_Tb) (z : ow_MS) (h : Nat) (i x : Int32) (K : ow_MS → Option O) : Option O := if i < 0 ∨ uw_len X z h ≤ i.toNatClampNeg then none else K (usI z h i.toNatClampNeg (vp_nar .byte x))
def ctZ (X : ow_Tb) (z : ow_MS) (h : Nat) (i x : Int32) (K : ow_MS → Option O) : Option O := if i < 0 ∨ uw_len X z h ≤ i.toNatClampNeg then none else K (usI z h i.toNatClampNeg (vp_nar .boolean x))
def ctJ (X : ow_Tb) (z : ow_MS) (h : Nat) (i : Int32) (x : Int64) (K : ow_MS → Option O) : Option O := if i < 0 ∨ uw_len X z h ≤ i.toNatClampNeg then none else K (usJ z h i.toNatClampNeg x)
def cpI (X : ow_Tb) (z : ow_MS) (h : Nat) (sp : Int32) (g : Nat) (dp n : Int32) (K : ow_MS → Option O) : Option O := if sp < 0 ∨ dp < 0 ∨ n < 0 ∨ uw_len X z h < sp.toNatClampNeg + n.toNatClampNeg ∨ uw_len X z g < dp.toNatClampNeg + n.toNatClampNeg then none else K (usR z g (va_cpy (z.2.1 h) (z.2.1 g) sp.toNatClampNeg dp.toNatClampNeg n.toNatClampNeg))
def cpB (X : ow_Tb) (z : ow_MS) (h : Nat) (sp : Int32) (g : Nat) (dp n : Int32) (K : ow_MS → Option O) : Option O := if ∀ i, i < n.toNatClampNeg → fits .byte (.int (z.2.1 h (sp.toNatClampNeg + i))) = true then cpI X z h sp g dp n K else none
def cpJ (X : ow_Tb) (z : ow_MS) (h : Nat) (sp : Int32) (g : Nat) (dp n : Int32) (K : ow_MS → Option O) : Option O := if sp < 0 ∨ dp < 0 ∨ n < 0 ∨ uw_len X z h < sp.toNatClampNeg + n.toNatClampNeg ∨ uw_len X z g < dp.toNatClampNeg + n.toNatClampNeg then none else K (z.1, z.2.1, fun j => if j = g then va_cpy (z.2.2 h) (z.2.2 g) sp.toNatClampNeg dp.toNatClampNeg n.toNatClampNeg else z.2.2 j)
def crX (n : Nat) (i : Int32) (K : Nat → Option O) : Option O := if i < 0 ∨ n ≤ i.toNatClampNeg then none else K i.toNatClampNeg
end UPURE
theorem uw_usI_ne {X : ow_Tb} {q : Nat → ClassId} {u : Nat → Nat} {z : ow_MS} {h i : Nat} {x : Int32} : ∀ g, g ∈ X.1 → g ≠ h → uw_cell X q u (usI z h i x) g = uw_cell X q u z g := by
  intro g _ hne
  have e : (usI z h i x).2.1 g = z.2.1 g := if_neg hne
  have e2 : tw_val u (usI z h i x) = tw_val u z := rfl
  have e3 : (usI z h i x).2.2 g = z.2.2 g := rfl
  have e4 : uw_len X (usI z h i x) g = uw_len X z g := rfl
  unfold uw_cell
  rw [e, e2, e3, e4]
theorem uw_usR_ne {X : ow_Tb} {q : Nat → ClassId} {u : Nat → Nat} {z : ow_MS} {h : Nat} {f : Nat → Int32} : ∀ g, g ∈ X.1 → g ≠ h → uw_cell X q u (usR z h f) g = uw_cell X q u z g := by
  intro g _ hne
  have e : (usR z h f).2.1 g = z.2.1 g := if_neg hne
  have e2 : tw_val u (usR z h f) = tw_val u z := rfl
  have e3 : (usR z h f).2.2 g = z.2.2 g := rfl
  have e4 : uw_len X (usR z h f) g = uw_len X z g := rfl
  unfold uw_cell
  rw [e, e2, e3, e4]
theorem uw_usJ_ne {X : ow_Tb} {q : Nat → ClassId} {u : Nat → Nat} {z : ow_MS} {h i : Nat} {x : Int64} : ∀ g, g ∈ X.1 → g ≠ h → uw_cell X q u (usJ z h i x) g = uw_cell X q u z g := by
  intro g _ hne
  have e : (usJ z h i x).2.2 g = z.2.2 g := if_neg hne
  have e2 : tw_val u (usJ z h i x) = tw_val u z := rfl
  have e3 : (usJ z h i x).2.1 g = z.2.1 g := rfl
  have e4 : uw_len X (usJ z h i x) g = uw_len X z g := rfl
  unfold uw_cell
  rw [e, e2, e3, e4]
theorem uw_usF_ne {X : ow_Tb} (hO : uw_ok X) {q : Nat → ClassId} {u : Nat → Nat} {z : ow_MS} {h k ci : Nat} {x : Int32} {fs : List (Nat × Nat)} (hh : tw_ob X h ci fs) (hf : fs[k]? = some (0, h + 1 + k)) (hk : k < 999) : ∀ g, g ∈ X.1 → g ≠ h → uw_cell X q u (usF z (h + 1 + k) x) g = uw_cell X q u z g := by
  intro g hg hne
  have e1 : (usF z (h + 1 + k) x).2.1 g = z.2.1 g := rfl
  have e2 : (usF z (h + 1 + k) x).2.2 g = z.2.2 g := rfl
  obtain ⟨hh0, _, hp0⟩ := hO.2 h hh.1 (by rw [hh.2]; exact Nat.le_of_ble_eq_true rfl)
  have e4 : uw_len X (usF z (h + 1 + k) x) g = uw_len X z g := rfl
  by_cases h5 : 7 ≤ (X.2 g).1
  · obtain ⟨hg0, hlen, hp⟩ := hO.2 g hg h5
    have key : (X.2 g).2.2.map (tw_val u (usF z (h + 1 + k) x)) = (X.2 g).2.2.map (tw_val u z) := by
      apply List.map_congr_left
      intro r hr
      obtain ⟨j, hj, e⟩ := List.getElem_of_mem hr
      unfold tw_val
      by_cases h0 : r.1 = 0
      · have h9 := (hp j r (by rw [List.getElem?_eq_getElem hj, e]) h0).1
        rw [if_pos h0, if_pos h0]
        show Value.int (if r.2 = h + 1 + k then x else z.1 r.2) = _
        rw [if_neg (by omega)]
      · rw [if_neg h0, if_neg h0]
    unfold uw_cell
    rw [e1, e2, e4, key]
  · have h6 : (X.2 g).1 = 0 ∨ (X.2 g).1 = 1 ∨ (X.2 g).1 = 2 ∨ (X.2 g).1 = 3 ∨ (X.2 g).1 = 4 ∨ (X.2 g).1 = 5 ∨ (X.2 g).1 = 6 := by omega
    unfold uw_cell
    rw [e1, e2, e4]
    rcases h6 with e | e | e | e | e | e | e <;> rw [e] <;> rfl
theorem uw_usF_at {X : ow_Tb} (hO : uw_ok X) {u : Nat → Nat} {z : ow_MS} {h k ci : Nat} {x : Int32} {fs : List (Nat × Nat)} (hh : tw_ob X h ci fs) (hf : fs[k]? = some (0, h + 1 + k)) : (fs.map (tw_val u z)).set k (.int x) = fs.map (tw_val u (usF z (h + 1 + k) x)) := by
  apply List.ext_getElem?
  intro j
  rw [List.getElem?_set, List.getElem?_map, List.getElem?_map, List.length_map]
  by_cases hj : k = j
  · subst hj
    rw [if_pos rfl, if_pos (List.getElem?_eq_some_iff.mp hf).1, hf]
    show some (Value.int x) = some (tw_val u (usF z (h + 1 + k) x) (0, h + 1 + k))
    unfold tw_val usF
    rw [if_pos rfl]
    exact congrArg (fun y => some (Value.int y)) (if_pos rfl).symm
  · rw [if_neg hj]
    cases hm : fs[j]? with
    | none => rfl
    | some r =>
      show some (tw_val u z r) = some (tw_val u (usF z (h + 1 + k) x) r)
      congr 1
      unfold tw_val
      by_cases h0 : r.1 = 0
      · have h9 := ((hO.2 h hh.1 (by rw [hh.2]; exact Nat.le_of_ble_eq_true rfl)).2.2 j r (by rw [hh.2]; exact hm) h0).1
        rw [if_pos h0, if_pos h0]
        show _ = Value.int (if r.2 = h + 1 + k then x else z.1 r.2)
        rw [if_neg (by omega)]
      · rw [if_neg h0, if_neg h0]
/-- the world stands, and only its own cells have changed -/
def uw_M (D : va_G) (cl : List vw_C) (X : ow_Tb) (q : Nat → ClassId) (A : Nat → Prop) (H0 : Heap) (u : Nat → Nat) (z : ow_MS) (H : Heap) (locs : List Loc) : Prop := va_P D cl (uw X q u z) H ∧ va_S A H0 H locs
section URULES
variable {p : Program} {l : Launch} {e : Env} {R : Room} {s : State} {m : MethodId} {args : Array Value} {below : List Frame} {meth : Method} {c : Code} {H : Heap} {locs : List Loc} {cells slots : Nat} {Q : State → Prop}
variable {cc : ByteArray} {pc : Nat} {ls : Array Slot} {rest : List Value} {D : va_G} {cl : List vw_C} {A : Nat → Prop} {H0 : Heap} {X : ow_Tb} {q : Nat → ClassId} {u : Nat → Nat} {z : ow_MS} {O : Type} {out : O} {C5 : String} {h : Nat}
theorem uw_iald (hO : uw_ok X) (hx : p.tables.exec = Jvm.exec) (hb : c.code = cc) (hK : va_K D cl (uw_T q C5) s) (hM : uw_M D cl X q A H0 u z H locs) (hh : tw_in X h 0) {i : Int32} {K : Int32 → Option O} (hq : crI X z h i K = some out) (hdg : decode cc pc = .ok (.iaload, 1)) (kk : ∀ x, K x = some out → W p l e R s m args below meth c H locs cells slots Q (F0 m (pc + 1) ls (.int x :: rest))) : W p l e R s m args below meth c H locs cells slots Q (F0 m pc ls (.int i :: .ref (u h) :: rest)) := by
  obtain ⟨k, hk, _⟩ := uw_at hO hh.1
  have h1 := hk q u z
  rw [uw_c0 q u z hh] at h1
  obtain ⟨hi, h2⟩ := tw_gdn hq
  exact va_iald hx hb hK hM.1 k 0 h1 rfl hi hdg (kk _ h2)
theorem uw_bald (hO : uw_ok X) (hx : p.tables.exec = Jvm.exec) (hb : c.code = cc) (hK : va_K D cl (uw_T q C5) s) (hM : uw_M D cl X q A H0 u z H locs) (hh : tw_in X h 1) {i : Int32} {K : Int32 → Option O} (hq : crI X z h i K = some out) (hdg : decode cc pc = .ok (.baload, 1)) (kk : ∀ x, K x = some out → W p l e R s m args below meth c H locs cells slots Q (F0 m (pc + 1) ls (.int x :: rest))) : W p l e R s m args below meth c H locs cells slots Q (F0 m pc ls (.int i :: .ref (u h) :: rest)) := by
  obtain ⟨k, hk, _⟩ := uw_at hO hh.1
  have h1 := hk q u z
  rw [uw_c1 q u z hh] at h1
  obtain ⟨hi, h2⟩ := tw_gdn hq
  exact va_bald hx hb hK hM.1 k 1 h1 rfl hi hdg (kk _ h2)
theorem uw_zald (hO : uw_ok X) (hx : p.tables.exec = Jvm.exec) (hb : c.code = cc) (hK : va_K D cl (uw_T q C5) s) (hM : uw_M D cl X q A H0 u z H locs) (hh : tw_in X h 3) {i : Int32} {K : Int32 → Option O} (hq : crI X z h i K = some out) (hdg : decode cc pc = .ok (.baload, 1)) (kk : ∀ x, K x = some out → W p l e R s m args below meth c H locs cells slots Q (F0 m (pc + 1) ls (.int x :: rest))) : W p l e R s m args below meth c H locs cells slots Q (F0 m pc ls (.int i :: .ref (u h) :: rest)) := by
  obtain ⟨k, hk, _⟩ := uw_at hO hh.1
  have h1 := hk q u z
  rw [uw_c3 q u z hh] at h1
  obtain ⟨hi, h2⟩ := tw_gdn hq
  exact va_zald hx hb hK hM.1 k 3 h1 rfl hi hdg (kk _ h2)
theorem uw_lald (hO : uw_ok X) (hx : p.tables.exec = Jvm.exec) (hb : c.code = cc) (hK : va_K D cl (uw_T q C5) s) (hM : uw_M D cl X q A H0 u z H locs) (hh : tw_in X h 2) {i : Int32} {K : Int64 → Option O} (hq : crJ X z h i K = some out) (hdg : decode cc pc = .ok (.laload, 1)) (kk : ∀ x, K x = some out → W p l e R s m args below meth c H locs cells slots Q (F0 m (pc + 1) ls (.long x :: rest))) : W p l e R s m args below meth c H locs cells slots Q (F0 m pc ls (.int i :: .ref (u h) :: rest)) := by
  obtain ⟨k, hk, _⟩ := uw_at hO hh.1
  have h1 := hk q u z
  rw [uw_c2 q u z hh] at h1
  obtain ⟨hi, h2⟩ := tw_gdn hq
  exact va_lald hx hb hK hM.1 k 2 h1 rfl hi hdg (kk _ h2)
theorem uw_iast (hO : uw_ok X) (hU : uw_inj X u A) (hx : p.tables.exec = Jvm.exec) (hb : c.code = cc) (hK : va_K D cl (uw_T q C5) s) (hM : uw_M D cl X q A H0 u z H locs) (hh : tw_in X h 0) {i : Int32} {x : Int32} {K : ow_MS → Option O} (hq : ctI X z h i x K = some out) (hdg : decode cc pc = .ok (.iastore, 1)) (kk : ∀ z1 H1 locs1, uw_M D cl X q A H0 u z1 H1 locs1 → K z1 = some out → W p l e R s m args below meth c H1 locs1 cells slots Q (F0 m (pc + 1) ls rest)) : W p l e R s m args below meth c H locs cells slots Q (F0 m pc ls (.int x :: .int i :: .ref (u h) :: rest)) := by
  obtain ⟨k, hk, hs⟩ := uw_at hO hh.1
  have h1 := hk q u z
  rw [uw_c0 q u z hh] at h1
  obtain ⟨hi, h2⟩ := tw_gdn hq
  refine va_iast hx hb hK hM.1 (uw_D hO hU z) hM.2 k 0 h1 rfl hi hdg (fun H1 locs1 hP _ hS => kk _ H1 locs1 ⟨?_, hS⟩ h2)
  have h3 := hs q u z (usI z h i.toNatClampNeg x) uw_usI_ne
  rw [uw_c0 q u (usI z h i.toNatClampNeg x) hh] at h3
  rw [← h3]
  have h5 : uw_len X (usI z h i.toNatClampNeg x) h = uw_len X z h := rfl
  have h4 : (usI z h i.toNatClampNeg x).2.1 h = upd (z.2.1 h) i.toNatClampNeg x := if_pos rfl
  rw [h4, h5]
  exact hP
theorem uw_bast (hO : uw_ok X) (hU : uw_inj X u A) (hx : p.tables.exec = Jvm.exec) (hb : c.code = cc) (hK : va_K D cl (uw_T q C5) s) (hM : uw_M D cl X q A H0 u z H locs) (hh : tw_in X h 1) {i : Int32} {x : Int32} {K : ow_MS → Option O} (hq : ctB X z h i x K = some out) (hdg : decode cc pc = .ok (.bastore, 1)) (kk : ∀ z1 H1 locs1, uw_M D cl X q A H0 u z1 H1 locs1 → K z1 = some out → W p l e R s m args below meth c H1 locs1 cells slots Q (F0 m (pc + 1) ls rest)) : W p l e R s m args below meth c H locs cells slots Q (F0 m pc ls (.int x :: .int i :: .ref (u h) :: rest)) := by
  obtain ⟨k, hk, hs⟩ := uw_at hO hh.1
  have h1 := hk q u z
  rw [uw_c1 q u z hh] at h1
  obtain ⟨hi, h2⟩ := tw_gdn hq
  refine va_bast hx hb hK hM.1 (uw_D hO hU z) hM.2 k 1 h1 rfl hi hdg (fun H1 locs1 hP _ hS => kk _ H1 locs1 ⟨?_, hS⟩ h2)
  have h3 := hs q u z (usI z h i.toNatClampNeg (vp_nar .byte x)) uw_usI_ne
  rw [uw_c1 q u (usI z h i.toNatClampNeg (vp_nar .byte x)) hh] at h3
  rw [← h3]
  have h5 : uw_len X (usI z h i.toNatClampNeg (vp_nar .byte x)) h = uw_len X z h := rfl
  have h4 : (usI z h i.toNatClampNeg (vp_nar .byte x)).2.1 h = upd (z.2.1 h) i.toNatClampNeg (vp_nar .byte x) := if_pos rfl
  rw [h4, h5]
  exact hP
theorem uw_zast (hO : uw_ok X) (hU : uw_inj X u A) (hx : p.tables.exec = Jvm.exec) (hb : c.code = cc) (hK : va_K D cl (uw_T q C5) s) (hM : uw_M D cl X q A H0 u z H locs) (hh : tw_in X h 3) {i : Int32} {x : Int32} {K : ow_MS → Option O} (hq : ctZ X z h i x K = some out) (hdg : decode cc pc = .ok (.bastore, 1)) (kk : ∀ z1 H1 locs1, uw_M D cl X q A H0 u z1 H1 locs1 → K z1 = some out → W p l e R s m args below meth c H1 locs1 cells slots Q (F0 m (pc + 1) ls rest)) : W p l e R s m args below meth c H locs cells slots Q (F0 m pc ls (.int x :: .int i :: .ref (u h) :: rest)) := by
  obtain ⟨k, hk, hs⟩ := uw_at hO hh.1
  have h1 := hk q u z
  rw [uw_c3 q u z hh] at h1
  obtain ⟨hi, h2⟩ := tw_gdn hq
  refine va_zast hx hb hK hM.1 (uw_D hO hU z) hM.2 k 3 h1 rfl hi hdg (fun H1 locs1 hP _ hS => kk _ H1 locs1 ⟨?_, hS⟩ h2)
  have h3 := hs q u z (usI z h i.toNatClampNeg (vp_nar .boolean x)) uw_usI_ne
  rw [uw_c3 q u (usI z h i.toNatClampNeg (vp_nar .boolean x)) hh] at h3
  rw [← h3]
  have h5 : uw_len X (usI z h i.toNatClampNeg (vp_nar .boolean x)) h = uw_len X z h := rfl
  have h4 : (usI z h i.toNatClampNeg (vp_nar .boolean x)).2.1 h = upd (z.2.1 h) i.toNatClampNeg (vp_nar .boolean x) := if_pos rfl
  rw [h4, h5]
  exact hP
theorem uw_last (hO : uw_ok X) (hU : uw_inj X u A) (hx : p.tables.exec = Jvm.exec) (hb : c.code = cc) (hK : va_K D cl (uw_T q C5) s) (hM : uw_M D cl X q A H0 u z H locs) (hh : tw_in X h 2) {i : Int32} {x : Int64} {K : ow_MS → Option O} (hq : ctJ X z h i x K = some out) (hdg : decode cc pc = .ok (.lastore, 1)) (kk : ∀ z1 H1 locs1, uw_M D cl X q A H0 u z1 H1 locs1 → K z1 = some out → W p l e R s m args below meth c H1 locs1 cells slots Q (F0 m (pc + 1) ls rest)) : W p l e R s m args below meth c H locs cells slots Q (F0 m pc ls (.long x :: .int i :: .ref (u h) :: rest)) := by
  obtain ⟨k, hk, hs⟩ := uw_at hO hh.1
  have h1 := hk q u z
  rw [uw_c2 q u z hh] at h1
  obtain ⟨hi, h2⟩ := tw_gdn hq
  refine va_last hx hb hK hM.1 (uw_D hO hU z) hM.2 k 2 h1 rfl hi hdg (fun H1 locs1 hP _ hS => kk _ H1 locs1 ⟨?_, hS⟩ h2)
  have h3 := hs q u z (usJ z h i.toNatClampNeg x) uw_usJ_ne
  rw [uw_c2 q u (usJ z h i.toNatClampNeg x) hh] at h3
  rw [← h3]
  have h5 : uw_len X (usJ z h i.toNatClampNeg x) h = uw_len X z h := rfl
  have h4 : (usJ z h i.toNatClampNeg x).2.2 h = vp_updL (z.2.2 h) i.toNatClampNeg x := if_pos rfl
  rw [h4, h5]
  exact hP
theorem uw_getI (hO : uw_ok X) (hx : p.tables.exec = Jvm.exec) (hb : c.code = cc) {own ref C : String} {T : u_T} {N ci index : Nat} {Ts : List Cond} (hts : ∀ w ∈ Ts, w.before args s = true) (hin : ∀ w ∈ u_ws C T N, w ∈ Ts) (hown : s.vm.findClass own = some m.cls) (hK : va_K D cl (uw_T q C5) s) (hM : uw_M D cl X q A H0 u z H locs) {fs : List (Nat × Nat)} (hh : tw_ob X h ci fs) (hc : cl[ci]? = some (C, T, N)) (k : Nat) (hk : k < N) (hlink : (Cond.fieldLink own index ref (T k).2.1 (T k).2.2.1).before args s = true) (hsame : ∀ x, s.fieldFound? (T k).1 (T k).2.1 (T k).2.2.1 = some x → s.fieldFound? ref (T k).2.1 (T k).2.2.1 = some x) {g : Nat} (hf : fs[k]? = some (0, g)) {K : Int32 → Option O} (hq : rdF z g K = some out) (hdg : decode cc pc = .ok (.getfield index, 3)) (kk : ∀ x, K x = some out → W p l e R s m args below meth c H locs cells slots Q (F0 m (pc + 3) ls (.int x :: rest))) : W p l e R s m args below meth c H locs cells slots Q (F0 m pc ls (.ref (u h) :: rest)) := by
  obtain ⟨k0, h0, _⟩ := uw_at hO hh.1
  have h1 := h0 q u z
  rw [uw_c9 q u z hh] at h1
  exact va_get hx hb hts hin hown hK hM.1 k0 h1 hc k hk hlink hsame (v := .int (z.1 g)) (by rw [List.getElem?_map, hf]; rfl) hdg (kk _ hq)
theorem uw_getR (hO : uw_ok X) (hx : p.tables.exec = Jvm.exec) (hb : c.code = cc) {own ref C : String} {T : u_T} {N ci index : Nat} {Ts : List Cond} (hts : ∀ w ∈ Ts, w.before args s = true) (hin : ∀ w ∈ u_ws C T N, w ∈ Ts) (hown : s.vm.findClass own = some m.cls) (hK : va_K D cl (uw_T q C5) s) (hM : uw_M D cl X q A H0 u z H locs) {fs : List (Nat × Nat)} (hh : tw_ob X h ci fs) (hc : cl[ci]? = some (C, T, N)) (k : Nat) (hk : k < N) (hlink : (Cond.fieldLink own index ref (T k).2.1 (T k).2.2.1).before args s = true) (hsame : ∀ x, s.fieldFound? (T k).1 (T k).2.1 (T k).2.2.1 = some x → s.fieldFound? ref (T k).2.1 (T k).2.2.1 = some x) {g : Nat} (hf : fs[k]? = some (1, g)) (hdg : decode cc pc = .ok (.getfield index, 3)) (kk : W p l e R s m args below meth c H locs cells slots Q (F0 m (pc + 3) ls (.ref (u g) :: rest))) : W p l e R s m args below meth c H locs cells slots Q (F0 m pc ls (.ref (u h) :: rest)) := by
  obtain ⟨k0, h0, _⟩ := uw_at hO hh.1
  have h1 := h0 q u z
  rw [uw_c9 q u z hh] at h1
  exact va_get hx hb hts hin hown hK hM.1 k0 h1 hc k hk hlink hsame (v := .ref (u g)) (by rw [List.getElem?_map, hf]; rfl) hdg kk
theorem uw_put (hO : uw_ok X) (hU : uw_inj X u A) (hx : p.tables.exec = Jvm.exec) (hb : c.code = cc) {own ref C : String} {T : u_T} {N ci index : Nat} {Ts : List Cond} (hts : ∀ w ∈ Ts, w.before args s = true) (hin : ∀ w ∈ u_ws C T N, w ∈ Ts) (ty0 : Nat → FieldType) (hty : ∀ k, k < N → parseFieldDescriptor (T k).2.2.1 = some (ty0 k)) (hnm : ∀ a, a < N → ∀ b, b < N → a ≠ b → (T a).2.1 ≠ (T b).2.1) (hown : s.vm.findClass own = some m.cls) (hK : va_K D cl (uw_T q C5) s) (hM : uw_M D cl X q A H0 u z H locs) {fs : List (Nat × Nat)} (hh : tw_ob X h ci fs) (hc : cl[ci]? = some (C, T, N)) (k : Nat) (hk : k < N) (hlink : (Cond.fieldLink own index ref (T k).2.1 (T k).2.2.1).before args s = true) (hsame : ∀ x, s.fieldFound? (T k).1 (T k).2.1 (T k).2.2.1 = some x → s.fieldFound? ref (T k).2.1 (T k).2.2.1 = some x) (hfin : (T k).2.2.2 = false) {ty : FieldType} {x : Int32} (hd : parseFieldDescriptor (T k).2.2.1 = some ty) (hn : narrow ty (.int x) = .int x) (hfit : fits ty (.int x) = true) (hf : fs[k]? = some (0, h + 1 + k)) (hk9 : k < 999) {K : ow_MS → Option O} (hq : wrF z (h + 1 + k) x K = some out) (hdg : decode cc pc = .ok (.putfield index, 3)) (kk : ∀ z1 H1 locs1, uw_M D cl X q A H0 u z1 H1 locs1 → K z1 = some out → W p l e R s m args below meth c H1 locs1 cells slots Q (F0 m (pc + 3) ls rest)) : W p l e R s m args below meth c H locs cells slots Q (F0 m pc ls (.int x :: .ref (u h) :: rest)) := by
  obtain ⟨k0, h0, hs⟩ := uw_at hO hh.1
  have h1 := h0 q u z
  rw [uw_c9 q u z hh] at h1
  refine va_put hx hb hts hin ty0 hty hnm hown hK hM.1 (uw_D hO hU z) hM.2 k0 h1 hc k hk hlink hsame hfin hd hn hfit (by rw [List.length_map]; exact (List.getElem?_eq_some_iff.mp hf).1) hdg (fun H1 locs1 hP _ hS => kk _ H1 locs1 ⟨?_, hS⟩ hq)
  have h3 := hs q u z (usF z (h + 1 + k) x) (uw_usF_ne hO hh hf hk9)
  rw [uw_c9 q u (usF z (h + 1 + k) x) hh] at h3
  rw [← h3, ← uw_usF_at hO hh hf]
  exact hP
theorem uw_alen (hO : uw_ok X) (hx : p.tables.exec = Jvm.exec) (hb : c.code = cc) (hK : va_K D cl (uw_T q C5) s) (hM : uw_M D cl X q A H0 u z H locs) (hh : tw_in X h 0) (hdg : decode cc pc = .ok (.arraylength, 1)) (kk : W p l e R s m args below meth c H locs cells slots Q (F0 m (pc + 1) ls (.int (Int32.ofNat (uw_len X z h)) :: rest))) : W p l e R s m args below meth c H locs cells slots Q (F0 m pc ls (.ref (u h) :: rest)) := by
  obtain ⟨k, hk, _⟩ := uw_at hO hh.1
  have h1 := hk q u z
  rw [uw_c0 q u z hh] at h1
  exact va_alen hx hb hK hM.1 k 0 h1 rfl rfl hdg kk
theorem uw_cali {a : Array Value} {st0 : List Value} {r : Int32} {z1 : ow_MS} (hU : uw_inj X u A) (hM : uw_M D cl X q A H0 u z H locs) (hr : va_Run p l e R s m args below meth c H locs cells slots 0 0 (F0 m pc ls st0) rest (va_Qi (fun x (_ : Unit) => x = r) (fun _ t => va_P D cl (uw X q u z1) t.heap) (tw_A X u) a) (tw_A X u)) (kk : ∀ H1 locs1, uw_M D cl X q A H0 u z1 H1 locs1 → W p l e R s m args below meth c H1 locs1 cells slots Q (F0 m (pc + 3) ls (.int r :: rest))) : W p l e R s m args below meth c H locs cells slots Q (F0 m pc ls st0) := by
  refine va_calli hr hM.2 (fun _ _ h => uw_sub hU h) (fun _ h => uw_sub hU h) (fun r1 _ t H1 locs1 ht _ hw hB _ _ hS => ?_)
  rw [hw]
  exact kk H1 locs1 ⟨by rw [← ht]; exact hB, hS⟩
theorem uw_call {a : Array Value} {st0 : List Value} {r : Int64} {z1 : ow_MS} (hU : uw_inj X u A) (hM : uw_M D cl X q A H0 u z H locs) (hr : va_Run p l e R s m args below meth c H locs cells slots 0 0 (F0 m pc ls st0) rest (va_Ql (fun x (_ : Unit) => x = r) (fun _ t => va_P D cl (uw X q u z1) t.heap) (tw_A X u) a) (tw_A X u)) (kk : ∀ H1 locs1, uw_M D cl X q A H0 u z1 H1 locs1 → W p l e R s m args below meth c H1 locs1 cells slots Q (F0 m (pc + 3) ls (.long r :: rest))) : W p l e R s m args below meth c H locs cells slots Q (F0 m pc ls st0) := by
  refine va_calll hr hM.2 (fun _ _ h => uw_sub hU h) (fun _ h => uw_sub hU h) (fun r1 _ t H1 locs1 ht _ hw hB _ _ hS => ?_)
  rw [hw]
  exact kk H1 locs1 ⟨by rw [← ht]; exact hB, hS⟩
theorem uw_calv {a : Array Value} {st0 : List Value} {z1 : ow_MS} (hU : uw_inj X u A) (hM : uw_M D cl X q A H0 u z H locs) (hr : va_Run p l e R s m args below meth c H locs cells slots 0 0 (F0 m pc ls st0) rest (va_Qv (fun (_ : Unit) => True) (fun _ t => va_P D cl (uw X q u z1) t.heap) (tw_A X u) a) (tw_A X u)) (kk : ∀ H1 locs1, uw_M D cl X q A H0 u z1 H1 locs1 → W p l e R s m args below meth c H1 locs1 cells slots Q (F0 m (pc + 3) ls rest)) : W p l e R s m args below meth c H locs cells slots Q (F0 m pc ls st0) := by
  refine va_callv hr hM.2 (fun _ _ h => uw_sub hU h) (fun _ h => uw_sub hU h) (fun _ t H1 locs1 ht _ _ hB _ _ hS => ?_)
  exact kk H1 locs1 ⟨by rw [← ht]; exact hB, hS⟩
theorem uw_alen2 (hO : uw_ok X) (hx : p.tables.exec = Jvm.exec) (hb : c.code = cc) (hK : va_K D cl (uw_T q C5) s) (hM : uw_M D cl X q A H0 u z H locs) (hh : tw_in X h 2) (hdg : decode cc pc = .ok (.arraylength, 1)) (kk : W p l e R s m args below meth c H locs cells slots Q (F0 m (pc + 1) ls (.int (Int32.ofNat (uw_len X z h)) :: rest))) : W p l e R s m args below meth c H locs cells slots Q (F0 m pc ls (.ref (u h) :: rest)) := by
  obtain ⟨k, hk, _⟩ := uw_at hO hh.1
  have h1 := hk q u z
  rw [uw_c2 q u z hh] at h1
  exact va_alen hx hb hK hM.1 k 2 h1 rfl rfl hdg kk
theorem uw_alen1 (hO : uw_ok X) (hx : p.tables.exec = Jvm.exec) (hb : c.code = cc) (hK : va_K D cl (uw_T q C5) s) (hM : uw_M D cl X q A H0 u z H locs) (hh : tw_in X h 1) (hdg : decode cc pc = .ok (.arraylength, 1)) (kk : W p l e R s m args below meth c H locs cells slots Q (F0 m (pc + 1) ls (.int (Int32.ofNat (uw_len X z h)) :: rest))) : W p l e R s m args below meth c H locs cells slots Q (F0 m pc ls (.ref (u h) :: rest)) := by
  obtain ⟨k, hk, _⟩ := uw_at hO hh.1
  have h1 := hk q u z
  rw [uw_c1 q u z hh] at h1
  exact va_alen hx hb hK hM.1 k 1 h1 rfl rfl hdg kk
theorem uw_aaldN (hO : uw_ok X) (hx : p.tables.exec = Jvm.exec) (hb : c.code = cc) (hK : va_K D cl (uw_T q C5) s) (hM : uw_M D cl X q A H0 u z H locs) (hh : tw_in X h 4) {i : Int32} {K : Nat → Option O} (hq : crX (X.2 h).2.1 i K = some out) (hg : ∀ j, j < (X.2 h).2.1 → ∃ g, (X.2 h).2.2[j]? = some (1, g)) (hdg : decode cc pc = .ok (.aaload, 1)) (kk : ∀ j g, j < (X.2 h).2.1 → (X.2 h).2.2[j]? = some (1, g) → K j = some out → W p l e R s m args below meth c H locs cells slots Q (F0 m (pc + 1) ls (.ref (u g) :: rest))) : W p l e R s m args below meth c H locs cells slots Q (F0 m pc ls (.int i :: .ref (u h) :: rest)) := by
  obtain ⟨k, hk, _⟩ := uw_at hO hh.1
  have h1 := hk q u z
  rw [uw_c4 q u z hh] at h1
  obtain ⟨hi, h2⟩ := tw_gdn hq
  refine va_aldq hx hb hK hM.1 k 4 h1 rfl (n := (X.2 h).2.1) hi hdg ?_
  have hj : i.toNatClampNeg < (X.2 h).2.1 := by omega
  obtain ⟨g, hg⟩ := hg _ hj
  have e9 : va_rf (((X.2 h).2.2[i.toNatClampNeg]?).map (fun p => u p.2)) = .ref (u g) := by rw [hg]; rfl
  rw [e9]
  exact kk _ g hj hg h2
theorem uw_aaldI (hO : uw_ok X) (hx : p.tables.exec = Jvm.exec) (hb : c.code = cc) (hK : va_K D cl (uw_T q C5) s) (hM : uw_M D cl X q A H0 u z H locs) (hh : tw_in X h 5) {i : Int32} {K : Nat → Option O} (hq : crX (X.2 h).2.1 i K = some out) (hg : ∀ j, j < (X.2 h).2.1 → ∃ g, (X.2 h).2.2[j]? = some (1, g)) (hdg : decode cc pc = .ok (.aaload, 1)) (kk : ∀ j g, j < (X.2 h).2.1 → (X.2 h).2.2[j]? = some (1, g) → K j = some out → W p l e R s m args below meth c H locs cells slots Q (F0 m (pc + 1) ls (.ref (u g) :: rest))) : W p l e R s m args below meth c H locs cells slots Q (F0 m pc ls (.int i :: .ref (u h) :: rest)) := by
  obtain ⟨k, hk, _⟩ := uw_at hO hh.1
  have h1 := hk q u z
  rw [uw_c5 q u z hh] at h1
  obtain ⟨hi, h2⟩ := tw_gdn hq
  refine ow_aldg hx hb hK hM.1 k 5 h1 rfl (n := (X.2 h).2.1) hi hdg ?_
  have hj : i.toNatClampNeg < (X.2 h).2.1 := by omega
  obtain ⟨g, hg⟩ := hg _ hj
  have e9 : va_rf (((X.2 h).2.2[i.toNatClampNeg]?).map (fun p => u p.2)) = .ref (u g) := by rw [hg]; rfl
  rw [e9]
  exact kk _ g hj hg h2
theorem uw_aaldJ (hO : uw_ok X) (hx : p.tables.exec = Jvm.exec) (hb : c.code = cc) (hK : va_K D cl (uw_T q C5) s) (hM : uw_M D cl X q A H0 u z H locs) (hh : tw_in X h 6) {i : Int32} {K : Nat → Option O} (hq : crX (X.2 h).2.1 i K = some out) (hg : ∀ j, j < (X.2 h).2.1 → ∃ g, (X.2 h).2.2[j]? = some (1, g)) (hdg : decode cc pc = .ok (.aaload, 1)) (kk : ∀ j g, j < (X.2 h).2.1 → (X.2 h).2.2[j]? = some (1, g) → K j = some out → W p l e R s m args below meth c H locs cells slots Q (F0 m (pc + 1) ls (.ref (u g) :: rest))) : W p l e R s m args below meth c H locs cells slots Q (F0 m pc ls (.int i :: .ref (u h) :: rest)) := by
  obtain ⟨k, hk, _⟩ := uw_at hO hh.1
  have h1 := hk q u z
  rw [uw_c6 q u z hh] at h1
  obtain ⟨hi, h2⟩ := tw_gdn hq
  refine ow_aldg hx hb hK hM.1 k 6 h1 rfl (n := (X.2 h).2.1) hi hdg ?_
  have hj : i.toNatClampNeg < (X.2 h).2.1 := by omega
  obtain ⟨g, hg⟩ := hg _ hj
  have e9 : va_rf (((X.2 h).2.2[i.toNatClampNeg]?).map (fun p => u p.2)) = .ref (u g) := by rw [hg]; rfl
  rw [e9]
  exact kk _ g hj hg h2
theorem uw_cpI (hO : uw_ok X) (hU : uw_inj X u A) (hx : p.tables.exec = Jvm.exec) (hb : c.code = cc) (hml : c.maxLocals = ls.size) {own : String} {index : Nat} (hown : s.vm.findClass own = some m.cls) (hlink : (Cond.methodLink own index arraycopyName).before args s = true) (hnat : (Cond.native arraycopyName).before args s = true) (hstat : (Cond.static arraycopyName).before args s = true) (hini : (Cond.initialized "java/lang/System").before args s = true) (hK : va_K D cl (uw_T q C5) s) (hM : uw_M D cl X q A H0 u z H locs) {g : Nat} (hh : tw_in X h 0) (hg : tw_in X g 0) {sp dp n : Int32} {K : ow_MS → Option O} (hq : cpI X z h sp g dp n K = some out) (hframes : 1 ≤ R.frames) (hlocals : (rest.map fun v => v.category).sum + (nativeFrameWords "java/lang/System" "arraycopy" 5 + 11) ≤ R.locals) (hdg : decode cc pc = .ok (.invokestatic index, 3)) (kk : ∀ z1 H1 locs1, uw_M D cl X q A H0 u z1 H1 locs1 → K z1 = some out → W p l e R s m args below meth c H1 locs1 cells slots Q (F0 m (pc + 3) ls rest)) : W p l e R s m args below meth c H locs cells slots Q (F0 m pc ls (.int n :: .int dp :: .ref (u g) :: .int sp :: .ref (u h) :: rest)) := by
  obtain ⟨k, hk, _⟩ := uw_at hO hh.1
  obtain ⟨k2, hk2, hs⟩ := uw_at hO hg.1
  have h1 := hk q u z
  rw [uw_c0 q u z hh] at h1
  have h2 := hk2 q u z
  rw [uw_c0 q u z hg] at h2
  obtain ⟨hi, hq⟩ := tw_gdn hq
  refine va_copyi (ty := .int) hx hb hml hown hlink hnat hstat hini hK hM.1 (uw_D hO hU z) hM.2 k k2 0 0 h1 h2 rfl rfl rfl (fun e => hi (Or.inl e)) (fun e => hi (Or.inr (Or.inl e))) (fun e => hi (Or.inr (Or.inr (Or.inl e)))) (by omega) (by omega) (fun _ _ => rfl) hframes hlocals hdg (fun H1 locs1 hP _ hS => kk _ H1 locs1 ⟨?_, hS⟩ hq)
  have h3 := hs q u z (usR z g (va_cpy (z.2.1 h) (z.2.1 g) sp.toNatClampNeg dp.toNatClampNeg n.toNatClampNeg)) uw_usR_ne
  rw [uw_c0 q u (usR z g (va_cpy (z.2.1 h) (z.2.1 g) sp.toNatClampNeg dp.toNatClampNeg n.toNatClampNeg)) hg] at h3
  rw [← h3]
  have h5 : uw_len X (usR z g (va_cpy (z.2.1 h) (z.2.1 g) sp.toNatClampNeg dp.toNatClampNeg n.toNatClampNeg)) g = uw_len X z g := rfl
  have h4 : (usR z g (va_cpy (z.2.1 h) (z.2.1 g) sp.toNatClampNeg dp.toNatClampNeg n.toNatClampNeg)).2.1 g = va_cpy (z.2.1 h) (z.2.1 g) sp.toNatClampNeg dp.toNatClampNeg n.toNatClampNeg := if_pos rfl
  rw [h4, h5]
  exact hP
theorem uw_cpB (hO : uw_ok X) (hU : uw_inj X u A) (hx : p.tables.exec = Jvm.exec) (hb : c.code = cc) (hml : c.maxLocals = ls.size) {own : String} {index : Nat} (hown : s.vm.findClass own = some m.cls) (hlink : (Cond.methodLink own index arraycopyName).before args s = true) (hnat : (Cond.native arraycopyName).before args s = true) (hstat : (Cond.static arraycopyName).before args s = true) (hini : (Cond.initialized "java/lang/System").before args s = true) (hK : va_K D cl (uw_T q C5) s) (hM : uw_M D cl X q A H0 u z H locs) {g : Nat} (hh : tw_in X h 1) (hg : tw_in X g 1) {sp dp n : Int32} {K : ow_MS → Option O} (hq : cpB X z h sp g dp n K = some out) (hframes : 1 ≤ R.frames) (hlocals : (rest.map fun v => v.category).sum + (nativeFrameWords "java/lang/System" "arraycopy" 5 + 11) ≤ R.locals) (hdg : decode cc pc = .ok (.invokestatic index, 3)) (kk : ∀ z1 H1 locs1, uw_M D cl X q A H0 u z1 H1 locs1 → K z1 = some out → W p l e R s m args below meth c H1 locs1 cells slots Q (F0 m (pc + 3) ls rest)) : W p l e R s m args below meth c H locs cells slots Q (F0 m pc ls (.int n :: .int dp :: .ref (u g) :: .int sp :: .ref (u h) :: rest)) := by
  obtain ⟨k, hk, _⟩ := uw_at hO hh.1
  obtain ⟨k2, hk2, hs⟩ := uw_at hO hg.1
  have h1 := hk q u z
  rw [uw_c1 q u z hh] at h1
  have h2 := hk2 q u z
  rw [uw_c1 q u z hg] at h2
  obtain ⟨hft, hq⟩ := tw_gd hq
  obtain ⟨hi, hq⟩ := tw_gdn hq
  refine va_copyi (ty := .byte) hx hb hml hown hlink hnat hstat hini hK hM.1 (uw_D hO hU z) hM.2 k k2 1 1 h1 h2 rfl rfl rfl (fun e => hi (Or.inl e)) (fun e => hi (Or.inr (Or.inl e))) (fun e => hi (Or.inr (Or.inr (Or.inl e)))) (by omega) (by omega) hft hframes hlocals hdg (fun H1 locs1 hP _ hS => kk _ H1 locs1 ⟨?_, hS⟩ hq)
  have h3 := hs q u z (usR z g (va_cpy (z.2.1 h) (z.2.1 g) sp.toNatClampNeg dp.toNatClampNeg n.toNatClampNeg)) uw_usR_ne
  rw [uw_c1 q u (usR z g (va_cpy (z.2.1 h) (z.2.1 g) sp.toNatClampNeg dp.toNatClampNeg n.toNatClampNeg)) hg] at h3
  rw [← h3]
  have h5 : uw_len X (usR z g (va_cpy (z.2.1 h) (z.2.1 g) sp.toNatClampNeg dp.toNatClampNeg n.toNatClampNeg)) g = uw_len X z g := rfl
  have h4 : (usR z g (va_cpy (z.2.1 h) (z.2.1 g) sp.toNatClampNeg dp.toNatClampNeg n.toNatClampNeg)).2.1 g = va_cpy (z.2.1 h) (z.2.1 g) sp.toNatClampNeg dp.toNatClampNeg n.toNatClampNeg := if_pos rfl
  rw [h4, h5]
  exact hP
theorem uw_cpJ (hO : uw_ok X) (hU : uw_inj X u A) (hx : p.tables.exec = Jvm.exec) (hb : c.code = cc) (hml : c.maxLocals = ls.size) {own : String} {index : Nat} (hown : s.vm.findClass own = some m.cls) (hlink : (Cond.methodLink own index arraycopyName).before args s = true) (hnat : (Cond.native arraycopyName).before args s = true) (hstat : (Cond.static arraycopyName).before args s = true) (hini : (Cond.initialized "java/lang/System").before args s = true) (hK : va_K D cl (uw_T q C5) s) (hM : uw_M D cl X q A H0 u z H locs) {g : Nat} (hh : tw_in X h 2) (hg : tw_in X g 2) {sp dp n : Int32} {K : ow_MS → Option O} (hq : cpJ X z h sp g dp n K = some out) (hframes : 1 ≤ R.frames) (hlocals : (rest.map fun v => v.category).sum + (nativeFrameWords "java/lang/System" "arraycopy" 5 + 11) ≤ R.locals) (hdg : decode cc pc = .ok (.invokestatic index, 3)) (kk : ∀ z1 H1 locs1, uw_M D cl X q A H0 u z1 H1 locs1 → K z1 = some out → W p l e R s m args below meth c H1 locs1 cells slots Q (F0 m (pc + 3) ls rest)) : W p l e R s m args below meth c H locs cells slots Q (F0 m pc ls (.int n :: .int dp :: .ref (u g) :: .int sp :: .ref (u h) :: rest)) := by
  obtain ⟨k, hk, _⟩ := uw_at hO hh.1
  obtain ⟨k2, hk2, hs⟩ := uw_at hO hg.1
  have h1 := hk q u z
  rw [uw_c2 q u z hh] at h1
  have h2 := hk2 q u z
  rw [uw_c2 q u z hg] at h2
  obtain ⟨hi, hq⟩ := tw_gdn hq
  refine va_copyl (ty := .long) hx hb hml hown hlink hnat hstat hini hK hM.1 (uw_D hO hU z) hM.2 k k2 2 2 h1 h2 rfl rfl rfl (fun e => hi (Or.inl e)) (fun e => hi (Or.inr (Or.inl e))) (fun e => hi (Or.inr (Or.inr (Or.inl e)))) (by omega) (by omega) (fun _ _ => rfl) hframes hlocals hdg (fun H1 locs1 hP _ hS => kk _ H1 locs1 ⟨?_, hS⟩ hq)
  have h3 := hs q u z (z.1, z.2.1, fun j => if j = g then va_cpy (z.2.2 h) (z.2.2 g) sp.toNatClampNeg dp.toNatClampNeg n.toNatClampNeg else z.2.2 j) (by
    intro j _ hne
    unfold uw_cell
    dsimp only
    rw [if_neg hne]
    rfl)
  rw [uw_c2 q u _ hg] at h3
  rw [← h3]
  dsimp only
  rw [if_pos rfl]
  exact hP
end URULES
