/-! constructors by handles -/
def q5f (q : ow_Q5) (i : Nat) : ClassId := match i with
  | 0 => q.1
  | 1 => q.2.1
  | 2 => q.2.2.1
  | 3 => q.2.2.2.1
  | _ => q.2.2.2.2
/-- a table in which one handle is another thing -/
def pT (F : Nat → Nat × Nat × List (Nat × Nat)) (o : Nat) (r : Nat × Nat × List (Nat × Nat)) (L : List Nat) : ow_Tb := (L, fun h => if h = o then r else F h)
/-- the fields before the one at k: those behind it are null -/
def pfs (l : List (Nat × Nat)) (k : Nat) : List (Nat × Nat) := l.mapIdx (fun i p => if p.1 = 1 ∧ k ≤ i then (2, 0) else p)
def zeroS : ow_MS := (fun _ => 0, fun _ _ => 0, fun _ _ => 0)
theorem al_he {X : ow_Tb} {q : Nat → ClassId} {u : Nat → Nat} {z : ow_MS} {o ci k0 : Nat} (hk0 : X.1[k0]? = some o) (h9 : (X.2 o).1 = 9) (hci : (X.2 o).2.1 = ci) : (nw X q u z)[k0]? = some (u o, .inr (ci, (X.2 o).2.2.map (nv_val u z))) := by
  unfold nw
  rw [List.getElem?_map, hk0]
  show some (u o, nw_cell X q u z o) = _
  rw [al_obj h9, hci]
theorem al_heA {X : ow_Tb} {q : Nat → ClassId} {u : Nat → Nat} {z : ow_MS} {o ci k0 : Nat} {ws : va_W} (hk0 : X.1[k0]? = some o) (h9 : (X.2 o).1 = 9) (hci : (X.2 o).2.1 = ci) : (nw X q u z ++ ws)[k0]? = some (u o, .inr (ci, (X.2 o).2.2.map (nv_val u z))) := by
  have h := al_he (q := q) (u := u) (z := z) hk0 h9 hci
  rw [List.getElem?_append_left (List.getElem?_eq_some_iff.mp h).1]
  exact h
theorem al_lastc {W : va_W} {c : Nat × va_E} : (W ++ [c])[W.length]? = some c := by
  rw [List.getElem?_append_right (Nat.le_refl _), Nat.sub_self]
  rfl
theorem al_setl {W : va_W} {c d : Nat × va_E} : (W ++ [c]).set W.length d = W ++ [d] := by
  rw [List.set_append_right _ _ (Nat.le_refl _), Nat.sub_self]
  rfl
theorem al_ndr : ∀ (n k : Nat), va_nd ((List.range n).map (fun i => i + k)) = true := by
  intro n
  induction n with
  | zero => intro k; rfl
  | succ n ih =>
    intro k
    rw [List.range_succ_eq_map, List.map_cons, List.map_map]
    show (decide _ && va_nd _) = true
    rw [Bool.and_eq_true]
    constructor
    · rw [decide_eq_true_eq]
      intro h
      obtain ⟨a, _, e⟩ := List.mem_map.mp h
      have e9 : Nat.succ a + k = 0 + k := e
      omega
    · have := ih (k + 1)
      have e9 : ((fun i => i + k) ∘ Nat.succ) = (fun i => i + (k + 1)) := by
        funext i
        show Nat.succ i + k = i + (k + 1)
        omega
      rw [e9]
      exact this
theorem al_nd0 (n : Nat) : va_nd (List.range n) = true := by
  have h := al_ndr n 0
  have e9 : (List.range n).map (fun i => i + 0) = List.range n := by
    rw [show (fun i : Nat => i + 0) = id from rfl, List.map_id]
  rw [e9] at h
  exact h
theorem al_pick {W S : va_W} : (List.range W.length).map (fun i => (W ++ S)[i]?) = W.map some := by
  apply List.ext_getElem?
  intro i
  rw [List.getElem?_map, List.getElem?_map]
  by_cases hi : i < W.length
  · rw [List.getElem?_range hi, List.getElem?_eq_getElem hi]
    show some ((W ++ S)[i]?) = some (some W[i])
    rw [List.getElem?_append_left hi, List.getElem?_eq_getElem hi]
  · rw [List.getElem?_eq_none (by rw [List.length_range]; omega), List.getElem?_eq_none (by omega)]
    rfl
/-- a made cell gives place to what its constructor made of it -/
theorem al_join {A0 : Nat → Prop} {D : va_G} {cl : List vw_C} {W w1 : va_W} {c : Nat × va_E} {H H1 : Heap} (hP : va_P D cl (W ++ [c]) H) (hD : va_D A0 (W ++ [c])) (hk : ∀ q : Nat, q < H.size → ¬ va_A [c] H.size q → H1[q]? = H[q]?) (hF : ∀ q, va_A [c] H.size q → A0 q) (hP1 : va_P D cl w1 H1) (hD1 : va_D (va_A [c] H.size) w1) : va_P D cl (W ++ w1) H1 ∧ va_D A0 (W ++ w1) := by
  refine va_join (ws := W ++ [c]) (wc := [c]) hP hD [W.length] (List.range W.length) ?_ al_pick (al_nd0 _) (fun i hi hm => ?_) hk hF hP1 hD1
  · show [(W ++ [c])[W.length]?] = [some c]
    rw [al_lastc]
  · rw [List.mem_singleton] at hm
    rw [List.mem_range] at hi
    omega
theorem al_subP {D : va_G} {cl : List vw_C} {W : va_W} {c : Nat × va_E} {H : Heap} (hP : va_P D cl (W ++ [c]) H) : va_P D cl [c] H := by
  intro k x hk
  have h0 : k < 1 := (List.getElem?_eq_some_iff.mp hk).1
  obtain rfl : k = 0 := by omega
  cases hk
  exact hP W.length _ al_lastc
theorem al_subD {A : Nat → Prop} {W : va_W} {c : Nat × va_E} (hD : va_D A (W ++ [c])) : va_D A [c] := hD.sub [W.length] rfl (by show [(W ++ [c])[W.length]?] = [some c]; rw [al_lastc])
theorem al_freeC {A0 : Nat → Prop} {W : va_W} {c : Nat × va_E} {H0 H : Heap} {locs : List Loc} (hD : va_D A0 (W ++ [c])) (hS : va_S A0 H0 H locs) (hA : ∀ q, H0.size ≤ q → A0 q) : ∀ q, va_A [c] H.size q → A0 q := va_free hD hS hA [W.length] (by show [(W ++ [c])[W.length]?] = [some c]; rw [al_lastc])
def ax_chk (X X1 : ow_Tb) (o k h : Nat) (Y : List Nat) : Bool := decide (X1.1 = X.1 ++ Y) && decide (X1.1.Nodup) && X.1.contains o && decide ((X.2 o).1 = 9) && decide (k < (X.2 o).2.2.length) && Y.contains h && decide (X1.2 o = (9, (X.2 o).2.1, (X.2 o).2.2.set k (1, h))) && X.1.all (fun g => (g == o || decide (X1.2 g = X.2 g)) && (X.2 g).2.2.all (fun p => p.1 == 0 || !Y.contains p.2))
theorem ax_facts {X X1 : ow_Tb} {o k h : Nat} {Y : List Nat} (hc : ax_chk X X1 o k h Y = true) : X1.1 = X.1 ++ Y ∧ X1.1.Nodup ∧ o ∈ X.1 ∧ (X.2 o).1 = 9 ∧ k < (X.2 o).2.2.length ∧ h ∈ Y ∧ X1.2 o = (9, (X.2 o).2.1, (X.2 o).2.2.set k (1, h)) ∧ (∀ g, g ∈ X.1 → g ≠ o → X1.2 g = X.2 g) ∧ ∀ g, g ∈ X.1 → ∀ p, p ∈ (X.2 g).2.2 → p.1 = 0 ∨ p.2 ∉ Y := by
  unfold ax_chk at hc
  simp only [Bool.and_eq_true, decide_eq_true_eq] at hc
  obtain ⟨⟨⟨⟨⟨⟨⟨h1, h2⟩, h3⟩, h4⟩, h5⟩, h6⟩, h7⟩, h8⟩ := hc
  have h9 := List.all_eq_true.mp h8
  refine ⟨h1, h2, List.contains_iff_mem.mp h3, h4, h5, List.contains_iff_mem.mp h6, h7, fun g hg hne => ?_, fun g hg p hp => ?_⟩
  · have h10 := h9 g hg
    simp only [Bool.and_eq_true, Bool.or_eq_true, decide_eq_true_eq] at h10
    rcases h10.1 with e9 | e9
    · exact absurd (beq_iff_eq.mp e9) hne
    · exact e9
  · have h10 := h9 g hg
    simp only [Bool.and_eq_true, Bool.or_eq_true, decide_eq_true_eq] at h10
    have h11 := List.all_eq_true.mp h10.2 p hp
    simp only [Bool.or_eq_true, Bool.not_eq_true', beq_iff_eq] at h11
    rcases h11 with h11 | h11
    · exact Or.inl h11
    · refine Or.inr (fun hm => ?_)
      rw [List.contains_iff_mem.mpr hm] at h11
      cases h11
/-- cells that were there stay, with another address map -/
theorem al_kept {X X1 : ow_Tb} {q : Nat → ClassId} {u u1 : Nat → Nat} {z : ow_MS} {g : Nat} (hX : X1.2 g = X.2 g) (hk : (X.2 g).1 < 7 → ∀ p, p ∈ (X.2 g).2.2 → p.1 = 1) (hu : ∀ p, p ∈ (X.2 g).2.2 → p.1 = 0 ∨ u1 p.2 = u p.2) : nw_cell X1 q u1 z g = nw_cell X q u z g := by
  have e1 : (X.2 g).2.2.map (nv_val u1 z) = (X.2 g).2.2.map (nv_val u z) := by
    apply List.map_congr_left
    intro p hp
    unfold nv_val
    rcases hu p hp with h | h
    · rw [if_pos h, if_pos h]
    · rw [h]
  have e2 : (X.2 g).1 < 7 → (fun (i : Nat) => ((X.2 g).2.2[i]?).map (fun (p : Nat × Nat) => u1 p.2)) = (fun (i : Nat) => ((X.2 g).2.2[i]?).map (fun (p : Nat × Nat) => u p.2)) := by
    intro h7
    funext i
    cases hm : (X.2 g).2.2[i]? with
    | none => rfl
    | some p =>
      show some (u1 p.2) = some (u p.2)
      have hp := List.mem_of_getElem? hm
      rcases hu p hp with h | h
      · rw [hk h7 p hp] at h
        cases h
      · rw [h]
  unfold nw_cell
  rw [hX]
  split
  all_goals (first | rfl | rw [e1] | (rw [e2 (by omega)]))
def ok_row (X : ow_Tb) : Bool := X.1.all (fun g => decide (7 ≤ (X.2 g).1) || (X.2 g).2.2.all (fun p => p.1 == 1))
theorem ok_row_at {X : ow_Tb} (h : ok_row X = true) {g : Nat} (hg : g ∈ X.1) : (X.2 g).1 < 7 → ∀ p, p ∈ (X.2 g).2.2 → p.1 = 1 := by
  intro h7 p hp
  have h1 := List.all_eq_true.mp h g hg
  rw [Bool.or_eq_true, decide_eq_true_eq] at h1
  rcases h1 with h1 | h1
  · omega
  · exact beq_iff_eq.mp (List.all_eq_true.mp h1 p hp)
/-- new cells stand behind, and the first of them (or another) comes into field k of o -/
theorem al_ext {D : va_G} {cl : List vw_C} {A : Nat → Prop} {H0 H : Heap} {locs : List Loc} {X X1 : ow_Tb} {q : Nat → ClassId} {u : Nat → Nat} {z : ow_MS} {o k h k0 ci : Nat} {Y ad : List Nat} {ws : va_W} (hck : (ax_chk X X1 o k h Y && ok_row X) = true) (hk0 : X.1[k0]? = some o) (hci : (X.2 o).2.1 = ci) (hnd : X.1.Nodup) (hws : ws = Y.map (fun g => (uml u Y ad g, nw_cell X1 q (uml u Y ad) z g))) (hP : va_P D cl ((nw X q u z ++ ws).set k0 (u o, .inr (ci, ((X.2 o).2.2.map (nv_val u z)).set k (.ref (uml u Y ad h))))) H) (hD : va_D A ((nw X q u z ++ ws).set k0 (u o, .inr (ci, ((X.2 o).2.2.map (nv_val u z)).set k (.ref (uml u Y ad h)))))) (hS : va_S A H0 H locs) : ∃ u1, u1 o = u o ∧ al_M D cl X1 q A H0 u1 z H locs := by
  rw [Bool.and_eq_true] at hck
  obtain ⟨f1, f2, f3, f4, f5, f6, f7, f8, f10⟩ := ax_facts hck.1
  have hnY : ∀ g, g ∈ X.1 → g ∉ Y := by
    intro g hg hY
    rw [f1, List.nodup_append] at f2
    exact f2.2.2 g hg g hY rfl
  have hus : ∀ g, g ∈ X.1 → uml u Y ad g = u g := fun g hg => uml_ne (hnY g hg)
  have hfl : ∀ g, g ∈ X.1 → ∀ p, p ∈ (X.2 g).2.2 → p.1 = 0 ∨ uml u Y ad p.2 = u p.2 := fun g hg p hp => (f10 g hg p hp).imp id (fun h9 => uml_ne h9)
  have key := al_listS (X := X) (X1 := X1) (q := q) (u := u) (u1 := uml u Y ad) (z := z) (z1 := z) (o := o) (k0 := k0) (Y := Y) (co := .inr (ci, ((X.2 o).2.2.map (nv_val u z)).set k (.ref (uml u Y ad h)))) (ws := ws) hk0 hnd f1 hus (fun g hg hne => al_kept (f8 g hg hne) (ok_row_at hck.2 hg) (hfl g hg)) (by
    rw [al_obj (X := X1) (by rw [f7]), f7]
    show Sum.inr ((X.2 o).2.1, ((X.2 o).2.2.set k (1, h)).map (nv_val (uml u Y ad) z)) = _
    rw [hci, List.map_set]
    have e2 : (X.2 o).2.2.map (nv_val (uml u Y ad) z) = (X.2 o).2.2.map (nv_val u z) := by
      apply List.map_congr_left
      intro p hp
      unfold nv_val
      rcases hfl o f3 p hp with h9 | h9
      · rw [if_pos h9, if_pos h9]
      · rw [h9]
    have e3 : nv_val (uml u Y ad) z (1, h) = .ref (uml u Y ad h) := by
      unfold nv_val
      rw [if_neg (fun e9 => absurd e9 (by show ¬ (1 : Nat) = 0; decide)), if_pos rfl]
    rw [e2, e3]) hws
  rw [key] at hP hD
  exact ⟨uml u Y ad, hus o f3, hP, hD, hS, f2⟩
/-! the checks of tables under construction, where both tables are one function with one row changed -/
def fk_row (F : Nat → Nat × Nat × List (Nat × Nat)) (o : Nat) (Y : List Nat) (g : Nat) : Bool := g == o || ((F g).2.2.all (fun p => p.1 == 0 || !Y.contains p.2) && (decide (7 ≤ (F g).1) || (F g).2.2.all (fun p => p.1 == 1)))
def fk_ax (F : Nat → Nat × Nat × List (Nat × Nat)) (o : Nat) (v v1 : Nat × Nat × List (Nat × Nat)) (l : List Nat) (n n1 k h : Nat) (Y : List Nat) : Bool := decide (l.take n1 = l.take n ++ Y) && (l.take n).contains o && decide (v.1 = 9) && decide (k < v.2.2.length) && Y.contains h && decide (v1 = (9, v.2.1, v.2.2.set k (1, h))) && v.2.2.all (fun p => p.1 == 0 || !Y.contains p.2) && (l.take n).all (fk_row F o Y)
theorem fk_o (F : Nat → Nat × Nat × List (Nat × Nat)) (o : Nat) (w : Nat × Nat × List (Nat × Nat)) (L : List Nat) : (pT F o w L).2 o = w := if_pos rfl
theorem fk_g (F : Nat → Nat × Nat × List (Nat × Nat)) {o g : Nat} (h : g ≠ o) (w : Nat × Nat × List (Nat × Nat)) (L : List Nat) : (pT F o w L).2 g = F g := if_neg h
theorem ax_fast {F : Nat → Nat × Nat × List (Nat × Nat)} {o n n1 k h : Nat} {v v1 : Nat × Nat × List (Nat × Nat)} {l Y : List Nat} (hn : l.Nodup) (hc : fk_ax F o v v1 l n n1 k h Y = true) : (ax_chk (pT F o v (l.take n)) (pT F o v1 (l.take n1)) o k h Y && ok_row (pT F o v (l.take n))) = true := by
  unfold fk_ax at hc
  simp only [Bool.and_eq_true, decide_eq_true_eq] at hc
  obtain ⟨⟨⟨⟨⟨⟨⟨h1, h2⟩, h3⟩, h4⟩, h5⟩, h6⟩, h7⟩, h8⟩ := hc
  have h9 := List.all_eq_true.mp h8
  rw [Bool.and_eq_true]
  refine ⟨?_, ?_⟩
  · unfold ax_chk
    simp only [Bool.and_eq_true, decide_eq_true_eq, fk_o]
    refine ⟨⟨⟨⟨⟨⟨⟨h1, hn.sublist (List.take_sublist _ _)⟩, h2⟩, h3⟩, h4⟩, h5⟩, h6⟩, List.all_eq_true.mpr (fun g hg => ?_)⟩
    by_cases e : g = o
    · rw [e]
      simp only [fk_o, beq_self_eq_true, Bool.true_or, Bool.true_and]
      exact h7
    · have h10 := h9 g hg
      unfold fk_row at h10
      rw [Bool.or_eq_true, Bool.and_eq_true, beq_iff_eq] at h10
      rcases h10 with h10 | h10
      · exact absurd h10 e
      · rw [fk_g F e, fk_g F e, Bool.and_eq_true]
        refine ⟨?_, h10.1⟩
        rw [Bool.or_eq_true]
        exact Or.inr (decide_eq_true rfl)
  · unfold ok_row
    refine List.all_eq_true.mpr (fun g hg => ?_)
    by_cases e : g = o
    · rw [e, fk_o, h3]
      rfl
    · have h10 := h9 g hg
      unfold fk_row at h10
      rw [Bool.or_eq_true, Bool.and_eq_true, beq_iff_eq] at h10
      rcases h10 with h10 | h10
      · exact absurd h10 e
      · rw [fk_g F e]
        exact h10.2
/-! the same checks, where what no row may hold is told along the list once -/
section FK3
variable {F : Nat → Nat × Nat × List (Nat × Nat)} {o : Nat} {l L M Y : List Nat} {n n1 g : Nat}
def fk_P (F : Nat → Nat × Nat × List (Nat × Nat)) (L : List Nat) (g : Nat) : Bool := (F g).2.2.all (fun p => p.1 == 0 || L.contains p.2) && (decide (7 ≤ (F g).1) || (F g).2.2.all (fun p => p.1 == 1))
def fk_N (F : Nat → Nat × Nat × List (Nat × Nat)) (o : Nat) (L : List Nat) : Prop := ∀ g, g ∈ L → g ≠ o → fk_P F L g = true
theorem fk_mono (h : ∀ x, x ∈ L → x ∈ M) (hp : fk_P F L g = true) : fk_P F M g = true := by
  unfold fk_P at hp ⊢
  rw [Bool.and_eq_true] at hp ⊢
  refine ⟨List.all_eq_true.mpr (fun p h1 => ?_), hp.2⟩
  have h2 := List.all_eq_true.mp hp.1 p h1
  rw [Bool.or_eq_true] at h2 ⊢
  rcases h2 with h2 | h2
  · exact Or.inl h2
  · exact Or.inr (List.contains_iff_mem.mpr (h _ (List.contains_iff_mem.mp h2)))
theorem fk_first (h : L.all (fun g => g == o || fk_P F L g) = true) : fk_N F o L := by
  intro g hg hne
  have h1 := List.all_eq_true.mp h g hg
  rw [Bool.or_eq_true, beq_iff_eq] at h1
  exact h1.resolve_left hne
theorem fk_step (hN : fk_N F o (l.take n)) (e : l.take n1 = l.take n ++ Y) (h : Y.all (fun g => g == o || fk_P F (l.take n1) g) = true) : fk_N F o (l.take n1) := by
  intro g hg hne
  have hg2 := hg
  rw [e] at hg2
  rcases List.mem_append.mp hg2 with h1 | h1
  · exact fk_mono (fun x hx => by rw [e]; exact List.mem_append_left _ hx) (hN g h1 hne)
  · have h2 := List.all_eq_true.mp h g h1
    rw [Bool.or_eq_true, beq_iff_eq] at h2
    exact h2.resolve_left hne
theorem fk_rows (hn : l.Nodup) (hN : fk_N F o (l.take n)) (e : l.take n1 = l.take n ++ Y) : (l.take n).all (fk_row F o Y) = true := by
  have hd : (l.take n ++ Y).Nodup := by
    rw [← e]
    exact hn.sublist (List.take_sublist _ _)
  refine List.all_eq_true.mpr (fun g hg => ?_)
  unfold fk_row
  rw [Bool.or_eq_true, beq_iff_eq]
  by_cases hgo : g = o
  · exact Or.inl hgo
  · refine Or.inr ?_
    have h1 := hN g hg hgo
    unfold fk_P at h1
    rw [Bool.and_eq_true] at h1 ⊢
    refine ⟨List.all_eq_true.mpr (fun p hp => ?_), h1.2⟩
    have h2 := List.all_eq_true.mp h1.1 p hp
    rw [Bool.or_eq_true] at h2 ⊢
    rcases h2 with h2 | h2
    · exact Or.inl h2
    · refine Or.inr ?_
      rw [Bool.not_eq_true']
      cases hc : Y.contains p.2 with
      | false => rfl
      | true => exact absurd rfl ((List.pairwise_append.mp hd).2.2 p.2 (List.contains_iff_mem.mp h2) p.2 (List.contains_iff_mem.mp hc))
def fk_ax0 (o : Nat) (v v1 : Nat × Nat × List (Nat × Nat)) (l : List Nat) (n n1 k h : Nat) (Y : List Nat) : Bool := decide (l.take n1 = l.take n ++ Y) && (l.take n).contains o && decide (v.1 = 9) && decide (k < v.2.2.length) && Y.contains h && decide (v1 = (9, v.2.1, v.2.2.set k (1, h))) && v.2.2.all (fun p => p.1 == 0 || !Y.contains p.2)
theorem ax_fast3 {k h : Nat} {v v1 : Nat × Nat × List (Nat × Nat)} (hn : l.Nodup) (hN : fk_N F o (l.take n)) (hc : fk_ax0 o v v1 l n n1 k h Y = true) : (ax_chk (pT F o v (l.take n)) (pT F o v1 (l.take n1)) o k h Y && ok_row (pT F o v (l.take n))) = true := by
  refine ax_fast hn ?_
  unfold fk_ax
  rw [Bool.and_eq_true]
  refine ⟨hc, fk_rows (n1 := n1) hn hN ?_⟩
  unfold fk_ax0 at hc
  simp only [Bool.and_eq_true, decide_eq_true_eq] at hc
  exact hc.1.1.1.1.1.1
end FK3
/-- the fields before the one at k, along the list -/
def pfr (k : Nat) : Nat → List (Nat × Nat) → List (Nat × Nat)
  | _, [] => []
  | i, p :: t => (if p.1 = 1 ∧ k ≤ i then (2, 0) else p) :: pfr k (i + 1) t
theorem pfs_go : ∀ (l : List (Nat × Nat)) (k i : Nat), pfr k i l = l.mapIdx (fun j p => if p.1 = 1 ∧ k ≤ i + j then (2, 0) else p) := by
  intro l
  induction l with
  | nil =>
    intro k i
    rfl
  | cons p t ih =>
    intro k i
    rw [List.mapIdx_cons]
    have e : (fun (j : Nat) (p : Nat × Nat) => if p.1 = 1 ∧ k ≤ i + 1 + j then (2, 0) else p) = (fun (j : Nat) (p : Nat × Nat) => if p.1 = 1 ∧ k ≤ i + (j + 1) then (2, 0) else p) := by
      funext j p
      rw [show i + 1 + j = i + (j + 1) by omega]
    show (if p.1 = 1 ∧ k ≤ i then (2, 0) else p) :: pfr k (i + 1) t = (if p.1 = 1 ∧ k ≤ i + 0 then (2, 0) else p) :: t.mapIdx (fun j p => if p.1 = 1 ∧ k ≤ i + (j + 1) then (2, 0) else p)
    rw [ih k (i + 1), e, Nat.add_zero]
theorem pfs_r (l : List (Nat × Nat)) (k : Nat) : pfs l k = pfr k 0 l := by
  unfold pfs
  rw [pfs_go]
  simp only [Nat.zero_add]
theorem ax_fast4 {F : Nat → Nat × Nat × List (Nat × Nat)} {o n n1 k h a b k0 k1 : Nat} {R : List (Nat × Nat)} {l Y : List Nat} (hn : l.Nodup) (hN : fk_N F o (l.take n)) (hc : fk_ax0 o (a, b, pfr k0 0 R) (a, b, pfr k1 0 R) l n n1 k h Y = true) : (ax_chk (pT F o (a, b, pfs R k0) (l.take n)) (pT F o (a, b, pfs R k1) (l.take n1)) o k h Y && ok_row (pT F o (a, b, pfs R k0) (l.take n))) = true := by
  rw [pfs_r, pfs_r]
  exact ax_fast3 hn hN hc
