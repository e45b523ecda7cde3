def ay_chk (X X1 : ow_Tb) (r h : Nat) (Y : List Nat) : Bool := decide (X1.1 = X.1 ++ Y) && decide (X1.1.Nodup) && X.1.contains r && decide ((X.2 r).1 = 4) && Y.contains h && decide (X1.2 r = (4, (X.2 r).2.1, (X.2 r).2.2 ++ [(1, h)])) && X.1.all (fun g => (g == r || decide (X1.2 g = X.2 g)) && (X.2 g).2.2.all (fun p => p.1 == 0 || !Y.contains p.2))
theorem ay_facts {X X1 : ow_Tb} {r h : Nat} {Y : List Nat} (hc : ay_chk X X1 r h Y = true) : X1.1 = X.1 ++ Y ∧ X1.1.Nodup ∧ r ∈ X.1 ∧ (X.2 r).1 = 4 ∧ h ∈ Y ∧ X1.2 r = (4, (X.2 r).2.1, (X.2 r).2.2 ++ [(1, h)]) ∧ (∀ g, g ∈ X.1 → g ≠ r → X1.2 g = X.2 g) ∧ ∀ g, g ∈ X.1 → ∀ p, p ∈ (X.2 g).2.2 → p.1 = 0 ∨ p.2 ∉ Y := by
  unfold ay_chk at hc
  simp only [Bool.and_eq_true, decide_eq_true_eq] at hc
  obtain ⟨⟨⟨⟨⟨⟨h1, h2⟩, h3⟩, h4⟩, h6⟩, h7⟩, h8⟩ := hc
  have h9 := List.all_eq_true.mp h8
  refine ⟨h1, h2, List.contains_iff_mem.mp h3, h4, List.contains_iff_mem.mp h6, h7, fun g hg hne => ?_, fun g hg p hp => ?_⟩
  · have h10 := h9 g hg
    simp only [Bool.and_eq_true, Bool.or_eq_true, decide_eq_true_eq] at h10
    rcases h10.1 with e9 | e9
    · exact absurd (beq_iff_eq.mp e9) hne
    · exact e9
  · have h10 := h9 g hg
    simp only [Bool.and_eq_true, Bool.or_eq_true, decide_eq_true_eq] at h10
    have h11 := List.all_eq_true.mp h10.2 p hp
    simp only [Bool.or_eq_true, Bool.not_eq_true', beq_iff_eq] at h11
    rcases h11 with h11 | h11
    · exact Or.inl h11
    · refine Or.inr (fun hm => ?_)
      rw [List.contains_iff_mem.mpr hm] at h11
      cases h11
theorem al_row4 {X : ow_Tb} {q : Nat → ClassId} {u : Nat → Nat} {z : ow_MS} {r : Nat} (h : (X.2 r).1 = 4) : nw_cell X q u z r = .inl (q 4, (X.2 r).2.1, .inr (.inr (.inr (.inr (fun i => ((X.2 r).2.2[i]?).map (fun p => u p.2)))))) := by
  unfold nw_cell
  rw [h]
  rfl
theorem al_he4 {X : ow_Tb} {q : Nat → ClassId} {u : Nat → Nat} {z : ow_MS} {r k0 : Nat} {ws : va_W} (hk0 : X.1[k0]? = some r) (h4 : (X.2 r).1 = 4) : (nw X q u z ++ ws)[k0]? = some (u r, .inl (q 4, (X.2 r).2.1, .inr (.inr (.inr (.inr (fun i => ((X.2 r).2.2[i]?).map (fun p => u p.2))))))) := by
  have h : (nw X q u z)[k0]? = some (u r, nw_cell X q u z r) := by
    unfold nw
    rw [List.getElem?_map, hk0]
    rfl
  rw [List.getElem?_append_left (List.getElem?_eq_some_iff.mp h).1, h, al_row4 h4]
theorem al_he4' {X : ow_Tb} {q : Nat → ClassId} {u : Nat → Nat} {z : ow_MS} {r k0 : Nat} (hk0 : X.1[k0]? = some r) (h4 : (X.2 r).1 = 4) : (nw X q u z)[k0]? = some (u r, .inl (q 4, (X.2 r).2.1, .inr (.inr (.inr (.inr (fun i => ((X.2 r).2.2[i]?).map (fun p => u p.2))))))) := by
  have h := al_he4 (q := q) (u := u) (z := z) (ws := []) hk0 h4
  rw [List.append_nil] at h
  exact h
/-- new cells stand behind, and one of them comes into the row r of references, at its end -/
theorem al_extA {D : va_G} {cl : List vw_C} {A : Nat → Prop} {H0 H : Heap} {locs : List Loc} {X X1 : ow_Tb} {q : Nat → ClassId} {u : Nat → Nat} {z : ow_MS} {r h k0 o n : Nat} {Y ad : List Nat} {ws : va_W} (hck : (ay_chk X X1 r h Y && ok_row X) = true) (hk0 : X.1[k0]? = some r) (hn : (X.2 r).2.2.length = n) (hnd : X.1.Nodup) (ho : o ∈ X.1) (hws : ws = Y.map (fun g => (uml u Y ad g, nw_cell X1 q (uml u Y ad) z g))) (hP : va_P D cl ((nw X q u z ++ ws).set k0 (u r, .inl (q 4, (X.2 r).2.1, .inr (.inr (.inr (.inr (va_up (fun i => ((X.2 r).2.2[i]?).map (fun p => u p.2)) n (some (uml u Y ad h))))))))) H) (hD : va_D A ((nw X q u z ++ ws).set k0 (u r, .inl (q 4, (X.2 r).2.1, .inr (.inr (.inr (.inr (va_up (fun i => ((X.2 r).2.2[i]?).map (fun p => u p.2)) n (some (uml u Y ad h)))))))))) (hS : va_S A H0 H locs) : ∃ u1, u1 o = u o ∧ al_M D cl X1 q A H0 u1 z H locs := by
  rw [Bool.and_eq_true] at hck
  obtain ⟨f1, f2, f3, f4, f6, f7, f8, f10⟩ := ay_facts hck.1
  have hnY : ∀ g, g ∈ X.1 → g ∉ Y := by
    intro g hg hY
    rw [f1, List.nodup_append] at f2
    exact f2.2.2 g hg g hY rfl
  have hus : ∀ g, g ∈ X.1 → uml u Y ad g = u g := fun g hg => uml_ne (hnY g hg)
  have hfl : ∀ g, g ∈ X.1 → ∀ p, p ∈ (X.2 g).2.2 → p.1 = 0 ∨ uml u Y ad p.2 = u p.2 := fun g hg p hp => (f10 g hg p hp).imp id (fun h9 => uml_ne h9)
  have key := al_listS (X := X) (X1 := X1) (q := q) (u := u) (u1 := uml u Y ad) (z := z) (z1 := z) (o := r) (k0 := k0) (Y := Y) (co := .inl (q 4, (X.2 r).2.1, .inr (.inr (.inr (.inr (va_up (fun i => ((X.2 r).2.2[i]?).map (fun p => u p.2)) n (some (uml u Y ad h)))))))) (ws := ws) hk0 hnd f1 hus (fun g hg hne => al_kept (f8 g hg hne) (ok_row_at hck.2 hg) (hfl g hg)) (by
    rw [al_row4 (X := X1) (by rw [f7]), f7]
    show Sum.inl (q 4, (X.2 r).2.1, Sum.inr (Sum.inr (Sum.inr (Sum.inr (fun i => (((X.2 r).2.2 ++ [(1, h)])[i]?).map (fun (p : Nat × Nat) => uml u Y ad p.2)))))) = _
    have e1 : (fun i => (((X.2 r).2.2 ++ [(1, h)])[i]?).map (fun (p : Nat × Nat) => uml u Y ad p.2)) = va_up (fun i => ((X.2 r).2.2[i]?).map (fun p => u p.2)) n (some (uml u Y ad h)) := by
      funext i
      rcases Nat.lt_trichotomy i n with hi | hi | hi
      · rw [va_up_ne _ _ (by omega), List.getElem?_append_left (by omega)]
        cases hm : (X.2 r).2.2[i]? with
        | none => rfl
        | some p =>
          have hp := List.mem_of_getElem? hm
          show some (uml u Y ad p.2) = some (u p.2)
          rcases hfl r f3 p hp with h9 | h9
          · rw [ok_row_at hck.2 f3 (by omega) p hp] at h9
            cases h9
          · rw [h9]
      · subst hi
        rw [va_up_self, List.getElem?_append_right (by omega), hn, Nat.sub_self]
        rfl
      · rw [va_up_ne _ _ (by omega), List.getElem?_eq_none (by rw [List.length_append, hn]; show n + 1 ≤ i; omega), List.getElem?_eq_none (by omega)]
        rfl
    rw [e1]) hws
  rw [key] at hP hD
  exact ⟨uml u Y ad, hus o ho, hP, hD, hS, f2⟩
/-! where no field is null -/
def nk_at (X Y : ow_Tb) (lim h : Nat) : Bool := decide (X.2 h = Y.2 h) && (decide ((X.2 h).1 < lim) || (decide ((X.2 h).1 = 9) && (X.2 h).2.2.all (fun p => decide (p.1 ≤ 1))))
theorem nk_val {u : Nat → Nat} {z : ow_MS} {l : List (Nat × Nat)} (h : l.all (fun p => decide (p.1 ≤ 1)) = true) : l.map (nv_val u z) = l.map (tw_val u z) := by
  apply List.map_congr_left
  intro p hp
  have h1 := of_decide_eq_true (List.all_eq_true.mp h p hp)
  unfold nv_val tw_val
  by_cases h0 : p.1 = 0
  · rw [if_pos h0, if_pos h0]
  · rw [if_neg h0, if_neg h0, if_pos (by omega)]
theorem nk_tw {X Y : ow_Tb} {q : ow_Q5} {u : Nat → Nat} {z : ow_MS} {h : Nat} (hk : nk_at X Y 5 h = true) : nw_cell X (q5f q) u z h = tw_cell Y q u z h := by
  unfold nk_at at hk
  rw [Bool.and_eq_true, decide_eq_true_eq] at hk
  obtain ⟨e, hk⟩ := hk
  unfold nw_cell tw_cell
  rw [← e]
  rw [Bool.or_eq_true, decide_eq_true_eq] at hk
  rcases hk with hk | hk
  · have h5 : (X.2 h).1 = 0 ∨ (X.2 h).1 = 1 ∨ (X.2 h).1 = 2 ∨ (X.2 h).1 = 3 ∨ (X.2 h).1 = 4 := by omega
    rcases h5 with h5 | h5 | h5 | h5 | h5
    all_goals (rw [h5]; rfl)
  · rw [Bool.and_eq_true, decide_eq_true_eq] at hk
    rw [hk.1, nk_val hk.2]
    rfl
theorem nk_uw {X Y : ow_Tb} {q : Nat → ClassId} {u : Nat → Nat} {z : ow_MS} {h : Nat} (hk : nk_at X Y 7 h = true) : nw_cell X q u z h = uw_cell Y q u z h := by
  unfold nk_at at hk
  rw [Bool.and_eq_true, decide_eq_true_eq] at hk
  obtain ⟨e, hk⟩ := hk
  unfold nw_cell uw_cell uw_len
  rw [← e]
  rw [Bool.or_eq_true, decide_eq_true_eq] at hk
  rcases hk with hk | hk
  · have h5 : (X.2 h).1 = 0 ∨ (X.2 h).1 = 1 ∨ (X.2 h).1 = 2 ∨ (X.2 h).1 = 3 ∨ (X.2 h).1 = 4 ∨ (X.2 h).1 = 5 ∨ (X.2 h).1 = 6 := by omega
    rcases h5 with h5 | h5 | h5 | h5 | h5 | h5 | h5
    all_goals (rw [h5]; rfl)
  · rw [Bool.and_eq_true, decide_eq_true_eq] at hk
    rw [hk.1, nk_val hk.2]
    rfl
/-- all handles of Y stand in X, as the same things -/
def nk_in (X Y : ow_Tb) (lim : Nat) : Bool := Y.1.all (fun h => X.1.contains h && nk_at X Y lim h)
def nk_out (X Y : ow_Tb) (lim : Nat) : Bool := X.1.all (fun h => Y.1.contains h && nk_at X Y lim h)
theorem nk_map {D : va_G} {cl : List vw_C} {H : Heap} {L M : List Nat} {u : Nat → Nat} {f g : Nat → va_E} (hs : ∀ h, h ∈ M → h ∈ L ∧ f h = g h) (hP : va_P D cl (L.map (fun h => (u h, f h))) H) : va_P D cl (M.map (fun h => (u h, g h))) H := by
  intro k x hk
  rw [List.getElem?_map] at hk
  cases hm : M[k]? with
  | none => rw [hm] at hk; cases hk
  | some h =>
    rw [hm] at hk
    obtain ⟨h1, h2⟩ := hs h (List.mem_of_getElem? hm)
    obtain ⟨j, hj, e⟩ := List.getElem_of_mem h1
    have h3 : (L.map (fun h => (u h, f h)))[j]? = some (u h, f h) := by
      rw [List.getElem?_map, List.getElem?_eq_getElem hj, e]
      rfl
    have h4 := hP j _ h3
    rw [h2] at h4
    have h5 : x = (u h, g h) := (Option.some.inj hk).symm
    rw [h5]
    exact h4
theorem nk_toT {D : va_G} {cl : List vw_C} {X Y : ow_Tb} {q : ow_Q5} {u : Nat → Nat} {z : ow_MS} {H : Heap} (hk : nk_in X Y 5 = true) (hP : va_P D cl (nw X (q5f q) u z) H) : va_P D cl (tw Y q u z) H := nk_map (fun h hh => by
  have h1 := List.all_eq_true.mp hk h hh
  rw [Bool.and_eq_true] at h1
  exact ⟨List.contains_iff_mem.mp h1.1, nk_tw h1.2⟩) hP
theorem nk_ofT {D : va_G} {cl : List vw_C} {X Y : ow_Tb} {q : ow_Q5} {u : Nat → Nat} {z : ow_MS} {H : Heap} (hk : nk_out X Y 5 = true) (hP : va_P D cl (tw Y q u z) H) : va_P D cl (nw X (q5f q) u z) H := nk_map (fun h hh => by
  have h1 := List.all_eq_true.mp hk h hh
  rw [Bool.and_eq_true] at h1
  exact ⟨List.contains_iff_mem.mp h1.1, (nk_tw h1.2).symm⟩) hP
theorem nk_toU {D : va_G} {cl : List vw_C} {X Y : ow_Tb} {q : Nat → ClassId} {u : Nat → Nat} {z : ow_MS} {H : Heap} (hk : nk_in X Y 7 = true) (hP : va_P D cl (nw X q u z) H) : va_P D cl (uw Y q u z) H := nk_map (fun h hh => by
  have h1 := List.all_eq_true.mp hk h hh
  rw [Bool.and_eq_true] at h1
  exact ⟨List.contains_iff_mem.mp h1.1, nk_uw h1.2⟩) hP
theorem nk_ofU {D : va_G} {cl : List vw_C} {X Y : ow_Tb} {q : Nat → ClassId} {u : Nat → Nat} {z : ow_MS} {H : Heap} (hk : nk_out X Y 7 = true) (hP : va_P D cl (uw Y q u z) H) : va_P D cl (nw X q u z) H := nk_map (fun h hh => by
  have h1 := List.all_eq_true.mp hk h hh
  rw [Bool.and_eq_true] at h1
  exact ⟨List.contains_iff_mem.mp h1.1, (nk_uw h1.2).symm⟩) hP
theorem nk_Dz {A : Nat → Prop} {L : List Nat} {u : Nat → Nat} {f g : Nat → va_E} (hD : va_D A (L.map (fun h => (u h, f h)))) : va_D A (L.map (fun h => (u h, g h))) := by
  have key : ∀ (k : Nat) (x : Nat × va_E), (L.map (fun h => (u h, g h)))[k]? = some x → ∃ y : Nat × va_E, (L.map (fun h => (u h, f h)))[k]? = some y ∧ y.1 = x.1 := by
    intro k x hk
    rw [List.getElem?_map] at hk
    cases hm : L[k]? with
    | none => rw [hm] at hk; cases hk
    | some h =>
      rw [hm] at hk
      refine ⟨(u h, f h), by rw [List.getElem?_map, hm]; rfl, ?_⟩
      rw [← Option.some.inj hk]
  refine ⟨fun i j x y hi hj e => ?_, fun k x hk => ?_⟩
  · obtain ⟨x1, h1, e1⟩ := key i x hi
    obtain ⟨y1, h2, e2⟩ := key j y hj
    exact hD.1 i j x1 y1 h1 h2 (by rw [e1, e2, e])
  · obtain ⟨x1, h1, e1⟩ := key k x hk
    rw [← e1]
    exact hD.2 k x1 h1
theorem nk_inj {A : Nat → Prop} {L M : List Nat} {u : Nat → Nat} {f : Nat → va_E} (hs : ∀ h, h ∈ M → h ∈ L) (hD : va_D A (L.map (fun h => (u h, f h)))) : (∀ g, g ∈ M → ∀ h, h ∈ M → u g = u h → g = h) ∧ ∀ h, h ∈ M → A (u h) := by
  have at' : ∀ h, h ∈ M → ∃ j : Nat, (L.map (fun h => (u h, f h)))[j]? = some (u h, f h) ∧ L[j]? = some h := by
    intro h hh
    obtain ⟨j, hj, e⟩ := List.getElem_of_mem (hs h hh)
    have e1 : L[j]? = some h := by rw [List.getElem?_eq_getElem hj, e]
    exact ⟨j, by rw [List.getElem?_map, e1]; rfl, e1⟩
  refine ⟨fun g hg h hh e => ?_, fun h hh => ?_⟩
  · obtain ⟨i, h1, e1⟩ := at' g hg
    obtain ⟨j, h2, e2⟩ := at' h hh
    have e3 := hD.1 i j _ _ h1 h2 e
    subst e3
    exact Option.some.inj (e1.symm.trans e2)
  · obtain ⟨j, h1, _⟩ := at' h hh
    exact hD.2 j _ h1
theorem nk_sub {X Y : ow_Tb} {lim : Nat} (hk : nk_in X Y lim = true) : ∀ h, h ∈ Y.1 → h ∈ X.1 := fun h hh => by
  have h1 := List.all_eq_true.mp hk h hh
  rw [Bool.and_eq_true] at h1
  exact List.contains_iff_mem.mp h1.1
section ALQ
variable {p : Program} {l : Launch} {e : Env} {R : Room} {s : State} {m : MethodId} {args : Array Value} {below : List Frame} {meth : Method} {c : Code} {H : Heap} {locs : List Loc} {cells slots : Nat} {Q : State → Prop}
variable {cc : ByteArray} {pc : Nat} {ls : Array Slot} {rest : List Value} {D : va_G} {cl : List vw_C} {A : Nat → Prop} {a : Nat} {tys : List (ClassId × FieldType)} {ws : va_W} {H0 : Heap}
/-- a row of references is made, its class known already -/
theorem al_newq (hexec : p.tables.exec = Jvm.exec) (hb : c.code = cc) {own C : String} {index : Nat} (hown : s.vm.findClass own = some m.cls) (hclink : (Cond.classLink own index C).before args s = true) (hover : va_AO C s) (hK : va_K D cl tys s) (hP : va_P D cl ws H) (hD : va_D A ws) (hS : va_S A H0 H locs) (hA : ∀ q, H0.size ≤ q → A q) (t0 : Nat) {cA : ClassId} (ht : tys[t0]? = some (cA, .object C))
    {n : Int32} {N' : Nat} (hn : ¬ n < 0) (hN : n.toNatClampNeg = N') (hbytes : N' * 4 ≤ 536870912) (hcells : cells + 1 ≤ R.cells) (hslots : slots + N' ≤ R.slots) (hdg : decode cc pc = .ok (.anewarray index, 3))
    (kk : ∀ (q : Nat) (H1 : Heap), va_P D cl (ws ++ [(q, .inl (cA, N', .inr (.inr (.inr (.inr (fun _ => none))))))]) H1 → va_D A (ws ++ [(q, .inl (cA, N', .inr (.inr (.inr (.inr (fun _ => none))))))]) → va_S A H0 H1 locs → W p l e R s m args below meth c H1 locs (cells + 1) (slots + N') Q (F0 m (pc + 3) ls (.ref q :: rest))) : W p l e R s m args below meth c H locs cells slots Q (F0 m pc ls (.int n :: rest)) := by
  refine va_newq hexec hb hown hclink hover hK hP hD hS hA hn hN hbytes hcells hslots hdg (fun q cB H1 hK1 hP1 hD1 hS1 => ?_)
  obtain ⟨_, _, _, _, _, h1⟩ := (hK.2 t0 _ ht).2
  obtain ⟨_, _, _, _, _, h2⟩ := (hK1.2 tys.length (cB, .object C) (by simp)).2
  have h3 : cB = cA := Option.some.inj (h2.symm.trans h1)
  subst h3
  exact kk q H1 hP1 hD1 hS1
/-- a grid is made, its class known already -/
theorem al_mna (hexec : p.tables.exec = Jvm.exec) (hb : c.code = cc) {own : String} {index : Nat} {ty : FieldType} (hown : s.vm.findClass own = some m.cls) (hclink : (Cond.classLink own index ("[" ++ (FieldType.array ty).toString)).before args s = true) (hover : ow_AO ty s) (harr : (Cond.arrayClass ty).before args s = true)
    (hK : va_K D cl tys s) (hP : va_P D cl ws H) (hD : va_D A ws) (hS : va_S A H0 H locs) (hA : ∀ q, H0.size ≤ q → A q) {cy : ClassId} (hcy : s.vm.findClass (FieldType.array ty).toString = some cy) (t0 : Nat) {cA : ClassId} (ht : tys[t0]? = some (cA, .array ty)) {n k : Int32} {N' K' : Nat} {z : vp_A} (hn : ¬ n < 0) (hk : ¬ k < 0) (hN : n.toNatClampNeg = N') (hM : k.toNatClampNeg = K')
    (hb1 : N' * 4 ≤ 536870912) (hb2 : K' * componentBytes ty ≤ 536870912) (hb3 : K' ≤ 536870912) (hdf : fits ty (defaultValue ty) = true) (hcells : cells + (1 + N') ≤ R.cells) (hslots : slots + (N' + N' * K') ≤ R.slots) (hz : ∀ x : ClassId, vp_cell x z = arrV x K' (fun _ => defaultValue ty)) (hdg : decode cc pc = .ok (.multianewarray index 2, 4))
    (kk : ∀ (q : Nat) (r : Nat → Nat) (H1 : Heap), va_P D cl ((ws ++ [(q, .inl (cA, N', .inr (.inr (.inr (.inr (fun i => if i < N' then some (r i) else none))))))]) ++ ow_rows r (fun _ => .inl (cy, z)) N') H1 → va_D A ((ws ++ [(q, .inl (cA, N', .inr (.inr (.inr (.inr (fun i => if i < N' then some (r i) else none))))))]) ++ ow_rows r (fun _ => .inl (cy, z)) N') → va_S A H0 H1 locs →
      W p l e R s m args below meth c H1 locs (cells + 1 + N') (slots + N' + N' * K') Q (F0 m (pc + 4) ls (.ref q :: rest))) : W p l e R s m args below meth c H locs cells slots Q (F0 m pc ls (.int k :: .int n :: rest)) := by
  refine ow_mna hexec hb hown hclink hover harr hK hP hD hS hA hcy hn hk hN hM hb1 hb2 hb3 hdf hcells hslots hz hdg (fun q r cB H1 hK1 hP1 hD1 hS1 => ?_)
  have h1 := (hK.2 t0 _ ht).2
  have h2 := (hK1.2 tys.length (cB, .array ty) (by simp)).2
  have h3 : cB = cA := Option.some.inj (h2.symm.trans h1)
  subst h3
  exact kk q r H1 hP1 hD1 hS1
end ALQ
def fk_ay (F : Nat → Nat × Nat × List (Nat × Nat)) (o : Nat) (v v1 : Nat × Nat × List (Nat × Nat)) (l : List Nat) (n n1 h : Nat) (Y : List Nat) : Bool := decide (l.take n1 = l.take n ++ Y) && (l.take n).contains o && decide (v.1 = 4) && Y.contains h && decide (v1 = (4, v.2.1, v.2.2 ++ [(1, h)])) && v.2.2.all (fun p => p.1 == 0 || !Y.contains p.2) && v.2.2.all (fun p => p.1 == 1) && (l.take n).all (fk_row F o Y)
theorem ay_fast {F : Nat → Nat × Nat × List (Nat × Nat)} {o n n1 h : Nat} {v v1 : Nat × Nat × List (Nat × Nat)} {l Y : List Nat} (hn : l.Nodup) (hc : fk_ay F o v v1 l n n1 h Y = true) : (ay_chk (pT F o v (l.take n)) (pT F o v1 (l.take n1)) o h Y && ok_row (pT F o v (l.take n))) = true := by
  unfold fk_ay at hc
  simp only [Bool.and_eq_true, decide_eq_true_eq] at hc
  obtain ⟨⟨⟨⟨⟨⟨⟨h1, h2⟩, h3⟩, h5⟩, h6⟩, h7⟩, h4⟩, h8⟩ := hc
  have h9 := List.all_eq_true.mp h8
  rw [Bool.and_eq_true]
  refine ⟨?_, ?_⟩
  · unfold ay_chk
    simp only [Bool.and_eq_true, decide_eq_true_eq, fk_o]
    refine ⟨⟨⟨⟨⟨⟨h1, hn.sublist (List.take_sublist _ _)⟩, h2⟩, h3⟩, h5⟩, h6⟩, List.all_eq_true.mpr (fun g hg => ?_)⟩
    by_cases e : g = o
    · rw [e]
      simp only [fk_o, beq_self_eq_true, Bool.true_or, Bool.true_and]
      exact h7
    · have h10 := h9 g hg
      unfold fk_row at h10
      rw [Bool.or_eq_true, Bool.and_eq_true, beq_iff_eq] at h10
      rcases h10 with h10 | h10
      · exact absurd h10 e
      · rw [fk_g F e, fk_g F e, Bool.and_eq_true]
        refine ⟨?_, h10.1⟩
        rw [Bool.or_eq_true]
        exact Or.inr (decide_eq_true rfl)
  · unfold ok_row
    refine List.all_eq_true.mpr (fun g hg => ?_)
    by_cases e : g = o
    · rw [e, fk_o, Bool.or_eq_true]
      exact Or.inr h4
    · have h10 := h9 g hg
      unfold fk_row at h10
      rw [Bool.or_eq_true, Bool.and_eq_true, beq_iff_eq] at h10
      rcases h10 with h10 | h10
      · exact absurd h10 e
      · rw [fk_g F e]
        exact h10.2
def fk_ay0 (o : Nat) (v v1 : Nat × Nat × List (Nat × Nat)) (l : List Nat) (n n1 h : Nat) (Y : List Nat) : Bool := decide (l.take n1 = l.take n ++ Y) && (l.take n).contains o && decide (v.1 = 4) && Y.contains h && decide (v1 = (4, v.2.1, v.2.2 ++ [(1, h)])) && v.2.2.all (fun p => p.1 == 0 || !Y.contains p.2) && v.2.2.all (fun p => p.1 == 1)
theorem ay_fast3 {F : Nat → Nat × Nat × List (Nat × Nat)} {o n n1 h : Nat} {v v1 : Nat × Nat × List (Nat × Nat)} {l Y : List Nat} (hn : l.Nodup) (hN : fk_N F o (l.take n)) (hc : fk_ay0 o v v1 l n n1 h Y = true) : (ay_chk (pT F o v (l.take n)) (pT F o v1 (l.take n1)) o h Y && ok_row (pT F o v (l.take n))) = true := by
  refine ay_fast hn ?_
  unfold fk_ay
  rw [Bool.and_eq_true]
  refine ⟨hc, fk_rows (n1 := n1) hn hN ?_⟩
  unfold fk_ay0 at hc
  simp only [Bool.and_eq_true, decide_eq_true_eq] at hc
  exact hc.1.1.1.1.1.1
