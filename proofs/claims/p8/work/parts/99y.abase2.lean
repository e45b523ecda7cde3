/-! new blocks of handles: all numbers and rows of them are 0 -/
def usZ (z : ow_MS) (bl : List Nat) : ow_MS := (fun j => if bl.contains (j / 1000) = true then 0 else z.1 j, fun g => if bl.contains (g / 1000) = true then (fun _ => 0) else z.2.1 g, fun g => if bl.contains (g / 1000) = true then (fun _ => 0) else z.2.2 g)
/-- addresses of new handles out of a list -/
def uml (u : Nat → Nat) (Y ad : List Nat) (h : Nat) : Nat := match Y.idxOf? h with
  | some i => ad.getD i 0
  | none => u h
theorem uml_ne {u : Nat → Nat} {Y ad : List Nat} {h : Nat} (hh : h ∉ Y) : uml u Y ad h = u h := by
  unfold uml
  rw [List.idxOf?_eq_none_iff.mpr hh]
theorem al_listS {X X1 : ow_Tb} {q : Nat → ClassId} {u u1 : Nat → Nat} {z z1 : ow_MS} {o k0 : Nat} {Y : List Nat} {co : va_E} {ws : va_W} (hk0 : X.1[k0]? = some o) (hnd : X.1.Nodup) (hX1 : X1.1 = X.1 ++ Y) (hu : ∀ g, g ∈ X.1 → u1 g = u g) (hc : ∀ g, g ∈ X.1 → g ≠ o → nw_cell X1 q u1 z1 g = nw_cell X q u z g) (ho : nw_cell X1 q u1 z1 o = co) (hh : ws = Y.map (fun h => (u1 h, nw_cell X1 q u1 z1 h))) : (nw X q u z ++ ws).set k0 (u o, co) = nw X1 q u1 z1 := by
  have hlt : k0 < X.1.length := (List.getElem?_eq_some_iff.mp hk0).1
  unfold nw
  rw [hX1, List.map_append, List.set_append_left _ _ (by rw [List.length_map]; exact hlt), ← hh]
  congr 1
  apply List.ext_getElem?
  intro j
  rw [List.getElem?_set, List.getElem?_map, List.getElem?_map, List.length_map]
  by_cases hj : k0 = j
  · subst hj
    rw [if_pos rfl, if_pos hlt, hk0]
    show some (u o, co) = some (u1 o, nw_cell X1 q u1 z1 o)
    rw [ho, hu o (List.mem_of_getElem? hk0)]
  · rw [if_neg hj]
    cases hm : X.1[j]? with
    | none => rfl
    | some g =>
      have hne : g ≠ o := by
        intro e9
        subst e9
        exact hj (tw_ndj hnd hk0 hm)
      show some (u g, nw_cell X q u z g) = some (u1 g, nw_cell X1 q u1 z1 g)
      rw [hc g (List.mem_of_getElem? hm) hne, hu g (List.mem_of_getElem? hm)]
