/-! new blocks of handles: all numbers and rows of them are 0 -/
def usZ (z : ow_MS) (bl : List Nat) : ow_MS := (fun j => if bl.contains (j / 1000) = true then 0 else z.1 j, fun g => if bl.contains (g / 1000) = true then (fun _ => 0) else z.2.1 g, fun g => if bl.contains (g / 1000) = true then (fun _ => 0) else z.2.2 g)
/-- addresses of new handles out of a list -/
def uml (u : Nat → Nat) (Y ad : List Nat) (h : Nat) : Nat := match Y.idxOf? h with
  | some i => ad.getD i 0
  | none => u h
theorem uml_ne {u : Nat → Nat} {Y ad : List Nat} {h : Nat} (hh : h ∉ Y) : uml u Y ad h = u h := by
  unfold uml
  rw [List.idxOf?_eq_none_iff.mpr hh]
theorem al_listS {X X1 : ow_Tb} {q : Nat → ClassId} {u u1 : Nat → Nat} {z z1 : ow_MS} {o k0 : Nat} {Y : List Nat} {co : va_E} {ws : va_W} (hk0 : X.1[k0]? = some o) (hnd : X.1.Nodup) (hX1 : X1.1 = X.1 ++ Y) (hu : ∀ g, g ∈ X.1 → u1 g = u g) (hc : ∀ g, g ∈ X.1 → g ≠ o → nw_cell X1 q u1 z1 g = nw_cell X q u z g) (ho : nw_cell X1 q u1 z1 o = co) (hh : ws = Y.map (fun h => (u1 h, nw_cell X1 q u1 z1 h))) : (nw X q u z ++ ws).set k0 (u o, co) = nw X1 q u1 z1 := by
  have hlt : k0 < X.1.length := (List.getElem?_eq_some_iff.mp hk0).1
  unfold nw
  rw [hX1, List.map_append, List.set_append_left _ _ (by rw [List.length_map]; exact hlt), ← hh]
  congr 1
  apply List.ext_getElem?
  intro j
  rw [List.getElem?_set, List.getElem?_map, List.getElem?_map, List.length_map]
  by_cases hj : k0 = j
  · subst hj
    rw [if_pos rfl, if_pos hlt, hk0]
    show some (u o, co) = some (u1 o, nw_cell X1 q u1 z1 o)
    rw [ho, hu o (List.mem_of_getElem? hk0)]
  · rw [if_neg hj]
    cases hm : X.1[j]? with
    | none => rfl
    | some g =>
      have hne : g ≠ o := by
        intro e9
        subst e9
        exact hj (tw_ndj hnd hk0 hm)
      show some (u g, nw_cell X q u z g) = some (u1 g, nw_cell X1 q u1 z1 g)
      rw [hc g (List.mem_of_getElem? hm) hne, hu g (List.mem_of_getElem? hm)]
def as_chk (X X1 : ow_Tb) (o k h : Nat) (Y bl : List Nat) : Bool := decide (X1.1 = X.1 ++ Y) && decide (X1.1.Nodup) && X.1.contains o && decide ((X.2 o).1 = 9) && decide (k < (X.2 o).2.2.length) && Y.contains h && decide (X1.2 o = (9, (X.2 o).2.1, (X.2 o).2.2.set k (1, h))) && X.1.all (fun g => (g == o || decide (X1.2 g = X.2 g)) && !bl.contains (g / 1000) && (X.2 g).2.2.all (fun p => !Y.contains p.2 && !bl.contains (p.2 / 1000)))
theorem as_facts {X X1 : ow_Tb} {o k h : Nat} {Y bl : List Nat} (hc : as_chk X X1 o k h Y bl = true) : X1.1 = X.1 ++ Y ∧ X1.1.Nodup ∧ o ∈ X.1 ∧ (X.2 o).1 = 9 ∧ k < (X.2 o).2.2.length ∧ h ∈ Y ∧ X1.2 o = (9, (X.2 o).2.1, (X.2 o).2.2.set k (1, h)) ∧ (∀ g, g ∈ X.1 → g ≠ o → X1.2 g = X.2 g) ∧ (∀ g, g ∈ X.1 → bl.contains (g / 1000) = false) ∧ ∀ g, g ∈ X.1 → ∀ p, p ∈ (X.2 g).2.2 → p.2 ∉ Y ∧ bl.contains (p.2 / 1000) = false := by
  unfold as_chk at hc
  simp only [Bool.and_eq_true, decide_eq_true_eq] at hc
  obtain ⟨⟨⟨⟨⟨⟨⟨h1, h2⟩, h3⟩, h4⟩, h5⟩, h6⟩, h7⟩, h8⟩ := hc
  have h9 := List.all_eq_true.mp h8
  have key : ∀ g, g ∈ X.1 → ((g == o) = true ∨ X1.2 g = X.2 g) ∧ bl.contains (g / 1000) = false ∧ ∀ p, p ∈ (X.2 g).2.2 → p.2 ∉ Y ∧ bl.contains (p.2 / 1000) = false := by
    intro g hg
    have h10 := h9 g hg
    simp only [Bool.and_eq_true, Bool.or_eq_true, decide_eq_true_eq, Bool.not_eq_true'] at h10
    refine ⟨h10.1.1, h10.1.2, fun p hp => ?_⟩
    have h11 := List.all_eq_true.mp h10.2 p hp
    simp only [Bool.and_eq_true, Bool.not_eq_true'] at h11
    refine ⟨fun hm => ?_, h11.2⟩
    have h12 := h11.1
    rw [List.contains_iff_mem.mpr hm] at h12
    cases h12
  refine ⟨h1, h2, List.contains_iff_mem.mp h3, h4, h5, List.contains_iff_mem.mp h6, h7, fun g hg hne => ?_, fun g hg => (key g hg).2.1, fun g hg => (key g hg).2.2⟩
  rcases (key g hg).1 with e9 | e9
  · exact absurd (beq_iff_eq.mp e9) hne
  · exact e9
/-- the sub-object's cells stand behind: they become part of the world -/
theorem al_sub {D : va_G} {cl : List vw_C} {A : Nat → Prop} {H0 H : Heap} {locs : List Loc} {X X1 : ow_Tb} {q : Nat → ClassId} {u : Nat → Nat} {z : ow_MS} {o k h k0 ci : Nat} {Y bl ad : List Nat} {ws : va_W} (hck : as_chk X X1 o k h Y bl = true) (hnd : X.1.Nodup) (hk0 : X.1[k0]? = some o) (hci : (X.2 o).2.1 = ci) (hws : ws = Y.map (fun g => (uml u Y ad g, nw_cell X1 q (uml u Y ad) (usZ z bl) g))) (hP : va_P D cl ((nw X q u z ++ ws).set k0 (u o, .inr (ci, ((X.2 o).2.2.map (nv_val u z)).set k (.ref (uml u Y ad h))))) H) (hD : va_D A ((nw X q u z ++ ws).set k0 (u o, .inr (ci, ((X.2 o).2.2.map (nv_val u z)).set k (.ref (uml u Y ad h)))))) (hS : va_S A H0 H locs) : al_M D cl X1 q A H0 (uml u Y ad) (usZ z bl) H locs := by
  obtain ⟨f1, f2, f3, f4, f5, f6, f7, f8, f9, f10⟩ := as_facts hck
  have hnY : ∀ g, g ∈ X.1 → g ∉ Y := by
    intro g hg hY
    rw [f1, List.nodup_append] at f2
    exact f2.2.2 g hg g hY rfl
  have hus : ∀ g, g ∈ X.1 → uml u Y ad g = u g := fun g hg => uml_ne (hnY g hg)
  have hz1 : ∀ g, g ∈ X.1 → (usZ z bl).2.1 g = z.2.1 g := fun g hg => if_neg (by rw [f9 g hg]; decide)
  have hz2 : ∀ g, g ∈ X.1 → (usZ z bl).2.2 g = z.2.2 g := fun g hg => if_neg (by rw [f9 g hg]; decide)
  have hz0 : ∀ g, g ∈ X.1 → ∀ p, p ∈ (X.2 g).2.2 → (usZ z bl).1 p.2 = z.1 p.2 := fun g hg p hp => if_neg (by rw [(f10 g hg p hp).2]; decide)
  have key := al_listS (X := X) (X1 := X1) (q := q) (u := u) (u1 := uml u Y ad) (z := z) (z1 := usZ z bl) (o := o) (k0 := k0) (Y := Y) (co := .inr (ci, ((X.2 o).2.2.map (nv_val u z)).set k (.ref (uml u Y ad h)))) (ws := ws) hk0 hnd f1 hus (fun g hg hne => al_keep (f8 g hg hne) (fun p hp => uml_ne (f10 g hg p hp).1) (hz1 g hg) (hz2 g hg) (hz0 g hg)) (by
    rw [al_obj (X := X1) (by rw [f7]), f7]
    show Sum.inr ((X.2 o).2.1, ((X.2 o).2.2.set k (1, h)).map (nv_val (uml u Y ad) (usZ z bl))) = _
    rw [hci, List.map_set]
    have e2 : (X.2 o).2.2.map (nv_val (uml u Y ad) (usZ z bl)) = (X.2 o).2.2.map (nv_val u z) := by
      apply List.map_congr_left
      intro p hp
      unfold nv_val
      rw [uml_ne (f10 o f3 p hp).1, hz0 o f3 p hp]
    have e3 : nv_val (uml u Y ad) (usZ z bl) (1, h) = .ref (uml u Y ad h) := by
      unfold nv_val
      rw [if_neg (fun e9 => absurd e9 (by show ¬ (1 : Nat) = 0; decide)), if_pos rfl]
    rw [e2, e3]) hws
  rw [key] at hP hD
  exact ⟨hP, hD, hS, f2⟩
