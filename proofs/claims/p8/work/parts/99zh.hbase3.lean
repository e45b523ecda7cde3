theorem al_grid {N : Nat} {r u1 : Nat → Nat} {es : List (Nat × Nat)} (hlen : es.length = N) (h : ∀ i, i < N → (es[i]?).map (fun (p : Nat × Nat) => u1 p.2) = some (r i)) : (fun (i : Nat) => if i < N then some (r i) else none) = fun (i : Nat) => (es[i]?).map (fun (p : Nat × Nat) => u1 p.2) := by
  funext i
  by_cases hi : i < N
  · rw [if_pos hi, h i hi]
  · rw [if_neg hi, List.getElem?_eq_none (by omega)]
    rfl
def am_chk (X X1 Y : ow_Tb) (o k h : Nat) (bl : List Nat) : Bool := decide (X1.1 = X.1 ++ Y.1) && decide (X1.1.Nodup) && X.1.contains o && decide ((X.2 o).1 = 9) && decide (k < (X.2 o).2.2.length) && Y.1.contains h && decide (X1.2 o = (9, (X.2 o).2.1, (X.2 o).2.2.set k (1, h))) && X.1.all (fun g => (g == o || decide (X1.2 g = X.2 g)) && (!bl.contains (g / 1000) && (X.2 g).2.2.all (fun p => !bl.contains (p.2 / 1000)))) && Y.1.all (fun g => decide (X1.2 g = Y.2 g) && (bl.contains (g / 1000) && (Y.2 g).2.2.all (fun p => bl.contains (p.2 / 1000))))
/-- cells that stay, with another address map and another state -/
theorem al_keptZ {X X1 : ow_Tb} {q : Nat → ClassId} {u u1 : Nat → Nat} {z z1 : ow_MS} {g : Nat} (hX : X1.2 g = X.2 g) (h1 : z1.2.1 g = z.2.1 g) (h2 : z1.2.2 g = z.2.2 g) (hu : ∀ p, p ∈ (X.2 g).2.2 → u1 p.2 = u p.2 ∧ z1.1 p.2 = z.1 p.2) : nw_cell X1 q u1 z1 g = nw_cell X q u z g := al_keep hX (fun p hp => (hu p hp).1) h1 h2 (fun p hp => (hu p hp).2)
theorem am_facts {X X1 Y : ow_Tb} {o k h : Nat} {bl : List Nat} (hc : am_chk X X1 Y o k h bl = true) : X1.1 = X.1 ++ Y.1 ∧ X1.1.Nodup ∧ o ∈ X.1 ∧ (X.2 o).1 = 9 ∧ k < (X.2 o).2.2.length ∧ h ∈ Y.1 ∧ X1.2 o = (9, (X.2 o).2.1, (X.2 o).2.2.set k (1, h)) ∧ (∀ g, g ∈ X.1 → (g = o ∨ X1.2 g = X.2 g) ∧ bl.contains (g / 1000) = false ∧ ∀ p, p ∈ (X.2 g).2.2 → bl.contains (p.2 / 1000) = false) ∧ ∀ g, g ∈ Y.1 → X1.2 g = Y.2 g ∧ bl.contains (g / 1000) = true ∧ ∀ p, p ∈ (Y.2 g).2.2 → bl.contains (p.2 / 1000) = true := by
  unfold am_chk at hc
  simp only [Bool.and_eq_true, decide_eq_true_eq] at hc
  obtain ⟨⟨⟨⟨⟨⟨⟨⟨h1, h2⟩, h3⟩, h4⟩, h5⟩, h6⟩, h7⟩, h8⟩, h9⟩ := hc
  refine ⟨h1, h2, List.contains_iff_mem.mp h3, h4, h5, List.contains_iff_mem.mp h6, h7, fun g hg => ?_, fun g hg => ?_⟩
  · have h10 := List.all_eq_true.mp h8 g hg
    simp only [Bool.and_eq_true, Bool.or_eq_true, decide_eq_true_eq, Bool.not_eq_true', beq_iff_eq] at h10
    refine ⟨h10.1, h10.2.1, fun p hp => ?_⟩
    have h11 := List.all_eq_true.mp h10.2.2 p hp
    simp only [Bool.not_eq_true'] at h11
    exact h11
  · have h10 := List.all_eq_true.mp h9 g hg
    simp only [Bool.and_eq_true, decide_eq_true_eq] at h10
    exact ⟨h10.1, h10.2.1, fun p hp => List.all_eq_true.mp h10.2.2 p hp⟩
/-- a sub-object with a table, addresses and a state of its own comes into field k of o -/
theorem al_extM {D : va_G} {cl : List vw_C} {A : Nat → Prop} {H0 H : Heap} {locs : List Loc} {X X1 Y : ow_Tb} {q : Nat → ClassId} {u u2 : Nat → Nat} {z z2 : ow_MS} {o k h ci : Nat} {bl : List Nat} (hck : am_chk X X1 Y o k h bl = true) (hk0 : X.1[0]? = some o) (hci : (X.2 o).2.1 = ci) (hnd : X.1.Nodup) (hz : ∀ j, bl.contains (j / 1000) = true → z.1 j = z2.1 j ∧ z.2.1 j = z2.2.1 j ∧ z.2.2 j = z2.2.2 j) (hP : va_P D cl ((nw X q u z ++ nw Y q u2 z2).set 0 (u o, .inr (ci, ((X.2 o).2.2.map (nv_val u z)).set k (.ref (u2 h))))) H) (hD : va_D A ((nw X q u z ++ nw Y q u2 z2).set 0 (u o, .inr (ci, ((X.2 o).2.2.map (nv_val u z)).set k (.ref (u2 h)))))) (hS : va_S A H0 H locs) : ∃ u1, u1 o = u o ∧ al_M D cl X1 q A H0 u1 z H locs := by
  obtain ⟨f1, f2, f3, f4, f5, f6, f7, f8, f9⟩ := am_facts hck
  let u1 : Nat → Nat := fun g => if bl.contains (g / 1000) = true then u2 g else u g
  have hu0 : ∀ g, bl.contains (g / 1000) = false → u1 g = u g := fun g hg => if_neg (by rw [hg]; decide)
  have hu2 : ∀ g, bl.contains (g / 1000) = true → u1 g = u2 g := fun g hg => if_pos hg
  have key := al_listS (X := X) (X1 := X1) (q := q) (u := u) (u1 := u1) (z := z) (z1 := z) (o := o) (k0 := 0) (Y := Y.1) (co := .inr (ci, ((X.2 o).2.2.map (nv_val u z)).set k (.ref (u2 h)))) (ws := nw Y q u2 z2) hk0 hnd f1 (fun g hg => hu0 g (f8 g hg).2.1) (fun g hg hne => al_keptZ ((f8 g hg).1.resolve_left hne) rfl rfl (fun p hp => ⟨hu0 _ ((f8 g hg).2.2 p hp), rfl⟩)) (by
    rw [al_obj (X := X1) (by rw [f7]), f7]
    show Sum.inr ((X.2 o).2.1, ((X.2 o).2.2.set k (1, h)).map (nv_val u1 z)) = _
    rw [hci, List.map_set]
    have e2 : (X.2 o).2.2.map (nv_val u1 z) = (X.2 o).2.2.map (nv_val u z) := by
      apply List.map_congr_left
      intro p hp
      unfold nv_val
      rw [hu0 _ ((f8 o f3).2.2 p hp)]
    have e3 : nv_val u1 z (1, h) = .ref (u2 h) := by
      unfold nv_val
      rw [if_neg (fun e9 => absurd e9 (by show ¬ (1 : Nat) = 0; decide)), if_pos rfl, hu2 h (f9 h f6).2.1]
    rw [e2, e3]) (by
    unfold nw
    apply List.map_congr_left
    intro g hg
    obtain ⟨g1, g2, g3⟩ := f9 g hg
    have hzz := hz g g2
    rw [hu2 g g2, al_keptZ (X := Y) (X1 := X1) (u := u2) (u1 := u1) (z := z2) (z1 := z) g1 hzz.2.1 hzz.2.2 (fun p hp => ⟨hu2 _ (g3 p hp), (hz _ (g3 p hp)).1⟩)])
  rw [key] at hP hD
  exact ⟨u1, hu0 o (f8 o f3).2.1, hP, hD, hS, f2⟩
def aL_chk (X X1 : ow_Tb) (h : Nat) : Bool := decide (X1.1 = X.1 ++ [h]) && decide (X1.1.Nodup) && X.1.all (fun g => decide (X1.2 g = X.2 g) && (X.2 g).2.2.all (fun p => p.1 == 0 || p.2 != h))
/-- a row that no field holds -/
theorem al_extL {D : va_G} {cl : List vw_C} {A : Nat → Prop} {H0 H : Heap} {locs : List Loc} {X X1 : ow_Tb} {q : Nat → ClassId} {u : Nat → Nat} {z : ow_MS} {h a : Nat} {ce : va_E} (hck : (aL_chk X X1 h && ok_row X) = true) (hc : ∀ u1 : Nat → Nat, nw_cell X1 q u1 z h = ce) (hP : va_P D cl (nw X q u z ++ [(a, ce)]) H) (hD : va_D A (nw X q u z ++ [(a, ce)])) (hS : va_S A H0 H locs) : ∃ u1, (∀ g, g ∈ X.1 → u1 g = u g) ∧ u1 h = a ∧ al_M D cl X1 q A H0 u1 z H locs := by
  rw [Bool.and_eq_true] at hck
  obtain ⟨hck, hrow⟩ := hck
  unfold aL_chk at hck
  simp only [Bool.and_eq_true, decide_eq_true_eq] at hck
  obtain ⟨⟨f1, f2⟩, f3⟩ := hck
  have hn : h ∉ X.1 := by
    intro hm
    rw [f1, List.nodup_append] at f2
    exact f2.2.2 h hm h (List.mem_singleton.mpr rfl) rfl
  have hus : ∀ g, g ∈ X.1 → usV u h a g = u g := fun g hg => if_neg (fun e9 => hn (by rw [← e9]; exact hg))
  have hA : usV u h a h = a := if_pos rfl
  have key : nw X q u z ++ [(a, ce)] = nw X1 q (usV u h a) z := by
    unfold nw
    rw [f1, List.map_append]
    congr 1
    · apply List.map_congr_left
      intro g hg
      have h1 := List.all_eq_true.mp f3 g hg
      simp only [Bool.and_eq_true, decide_eq_true_eq] at h1
      rw [hus g hg]
      have h2 : nw_cell X1 q (usV u h a) z g = nw_cell X q u z g := al_kept h1.1 (ok_row_at hrow hg) (fun p hp => by
        have h3 := List.all_eq_true.mp h1.2 p hp
        simp only [Bool.or_eq_true, beq_iff_eq, bne_iff_ne] at h3
        exact h3.imp id (fun h4 => if_neg h4))
      rw [h2]
    · show [(a, ce)] = [(usV u h a h, nw_cell X1 q (usV u h a) z h)]
      rw [hA, hc]
  rw [key] at hP hD
  exact ⟨usV u h a, hus, hA, hP, hD, hS, f2⟩
theorem goodIn_mono {L M ws : List Cond} (h : GoodIn L ws) (hs : ∀ w ∈ L, w ∈ M) : GoodIn M ws := fun w hw => ⟨hs w (h w hw).1, (h w hw).2⟩
/-! the same where no number twice is known -/
def am_chk0 (X X1 Y : ow_Tb) (o k h : Nat) (bl : List Nat) : Bool := decide (X1.1 = X.1 ++ Y.1) && X.1.contains o && decide ((X.2 o).1 = 9) && decide (k < (X.2 o).2.2.length) && Y.1.contains h && decide (X1.2 o = (9, (X.2 o).2.1, (X.2 o).2.2.set k (1, h))) && X.1.all (fun g => (g == o || decide (X1.2 g = X.2 g)) && (!bl.contains (g / 1000) && (X.2 g).2.2.all (fun p => !bl.contains (p.2 / 1000)))) && Y.1.all (fun g => decide (X1.2 g = Y.2 g) && (bl.contains (g / 1000) && (Y.2 g).2.2.all (fun p => bl.contains (p.2 / 1000))))
theorem am_fast {X X1 Y : ow_Tb} {o k h : Nat} {bl : List Nat} (hn : X1.1.Nodup) (hc : am_chk0 X X1 Y o k h bl = true) : am_chk X X1 Y o k h bl = true := by
  unfold am_chk
  rw [decide_eq_true hn, Bool.and_true]
  exact hc
def aL_chk0 (X X1 : ow_Tb) (h : Nat) : Bool := decide (X1.1 = X.1 ++ [h]) && X.1.all (fun g => decide (X1.2 g = X.2 g) && (X.2 g).2.2.all (fun p => p.1 == 0 || p.2 != h))
theorem aL_fast {X X1 : ow_Tb} {h : Nat} (hn : X1.1.Nodup) (hc : (aL_chk0 X X1 h && ok_row X) = true) : (aL_chk X X1 h && ok_row X) = true := by
  unfold aL_chk
  rw [decide_eq_true hn, Bool.and_true]
  exact hc
