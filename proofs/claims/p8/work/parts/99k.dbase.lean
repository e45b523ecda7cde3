/-! rows that grow -/
def dPhi (v : Nat → Nat) : Nat := v 43011 + v 43012 + v 43013 + v 43014 + v 43015 + v 43016
def usV (v : Nat → Nat) (h n : Nat) : Nat → Nat := fun g => if g = h then n else v g
/-- what is charged for growing from a to b: cells, slots -/
def dca (a b : Nat → Nat) : Nat := dPhi b / 640 - dPhi a / 640
def dsl (a b : Nat → Nat) : Nat := 2 * (dPhi b - dPhi a)
def chV {α : Type} (v : Nat → Nat) (o : Option (α × (Nat → Nat) × ow_MS)) : Option (α × (Nat → Nat) × ow_MS) := match o with
  | none => none
  | some r => if dPhi v ≤ dPhi r.2.1 then some r else none
theorem dd_ch {α : Type} {v : Nat → Nat} {o : Option (α × (Nat → Nat) × ow_MS)} {r : α} {w : Nat → Nat} {z : ow_MS} (h : chV v o = some (r, w, z)) : dPhi v ≤ dPhi w ∧ o = some (r, w, z) := by
  cases o with
  | none => cases h
  | some x =>
    have h2 : (if dPhi v ≤ dPhi x.2.1 then some x else none) = some (r, w, z) := h
    obtain ⟨h3, h4⟩ := tw_gd h2
    obtain rfl := Option.some.inj h4
    exact ⟨h3, rfl⟩
def dc1 {α O : Type} (o : Option (α × (Nat → Nat) × ow_MS)) (K : α → (Nat → Nat) → ow_MS → Option O) : Option O := match o with
  | none => none
  | some r => K r.1 r.2.1 r.2.2
theorem dd_dc1 {α O : Type} {o : Option (α × (Nat → Nat) × ow_MS)} {K : α → (Nat → Nat) → ow_MS → Option O} {out : O} (h : dc1 o K = some out) : ∃ x v z, o = some (x, v, z) ∧ K x v z = some out := by
  cases o with
  | none => cases h
  | some r => exact ⟨r.1, r.2.1, r.2.2, rfl, h⟩
/-- a new row of n zeros for handle h -/
def nwR {O : Type} (vl : Nat → Nat) (z : ow_MS) (h : Nat) (n : Int32) (K : (Nat → Nat) → ow_MS → Option O) : Option O := if n < 0 ∨ 100000000 < n.toNatClampNeg ∨ n.toNatClampNeg < 2 * vl h ∨ n.toNatClampNeg < vl h + 640 then none else K (usV vl h n.toNatClampNeg) (usR z h (fun _ => 0))
/-- a longer copy of row h in its place -/
def cpR {O : Type} (vl : Nat → Nat) (z : ow_MS) (h : Nat) (n : Int32) (K : (Nat → Nat) → ow_MS → Option O) : Option O := if n < 0 ∨ 100000000 < n.toNatClampNeg ∨ n.toNatClampNeg < 2 * vl h ∨ n.toNatClampNeg < vl h + 640 then none else K (usV vl h n.toNatClampNeg) (usR z h (va_cpy (z.2.1 h) (fun _ => 0) 0 0 (vl h)))
theorem dPhi_us {v : Nat → Nat} {h n : Nat} (hh : h ∈ dynL) (hn : v h ≤ n) : dPhi (usV v h n) = dPhi v + (n - v h) := by
  unfold dynL at hh
  simp only [List.mem_cons, List.not_mem_nil, or_false] at hh
  unfold dPhi usV
  rcases hh with rfl | rfl | rfl | rfl | rfl | rfl <;> simp <;> omega
theorem dca_add {a b c : Nat → Nat} (h1 : dPhi a ≤ dPhi b) (h2 : dPhi b ≤ dPhi c) : dca a b + dca b c ≤ dca a c := by
  unfold dca
  have := Nat.div_le_div_right (c := 640) h1
  have := Nat.div_le_div_right (c := 640) h2
  omega
theorem dsl_add {a b c : Nat → Nat} (h1 : dPhi a ≤ dPhi b) (h2 : dPhi b ≤ dPhi c) : dsl a b + dsl b c ≤ dsl a c := by
  unfold dsl
  omega
theorem dca_le {a b c : Nat → Nat} (h2 : dPhi b ≤ dPhi c) : dca a b ≤ dca a c := by
  unfold dca
  have := Nat.div_le_div_right (c := 640) h2
  omega
theorem dsl_le {a b c : Nat → Nat} (h2 : dPhi b ≤ dPhi c) : dsl a b ≤ dsl a c := by
  unfold dsl
  omega
theorem dca_new {a v : Nat → Nat} {h n : Nat} (hh : h ∈ dynL) (h0 : dPhi a ≤ dPhi v) (h1 : v h + 640 ≤ n) : dca a v + 1 ≤ dca a (usV v h n) := by
  have e := dPhi_us (v := v) (h := h) (n := n) hh (by omega)
  unfold dca
  rw [e]
  have := Nat.div_le_div_right (c := 640) h0
  omega
theorem dsl_new {a v : Nat → Nat} {h n : Nat} (hh : h ∈ dynL) (h0 : dPhi a ≤ dPhi v) (h1 : 2 * v h ≤ n) : dsl a v + n ≤ dsl a (usV v h n) := by
  have e := dPhi_us (v := v) (h := h) (n := n) hh (by omega)
  unfold dsl
  rw [e]
  omega
/-! which cells a method that grows rows may change -/
def cd_A (u : Nat → Nat) (sz a : Nat) : Prop := (∃ h, h ∈ cX_l ∧ a = u h) ∨ sz ≤ a
def cd_U (u u1 : Nat → Nat) (sz : Nat) : Prop := tw_inj cX0 u1 ∧ (∀ h, h ∈ cX_l → cd_A u sz (u1 h)) ∧ ∀ h, h ∉ dynL → u1 h = u h
theorem dd_refs : ∀ g, g ∈ cX_l → g ≠ 43000 → ∀ p, p ∈ (cX0.2 g).2.2 → p.2 ∉ dynL := by decide +kernel
theorem dd_obj {k : Nat} (hk : 43000 + 1 + k ∈ dynL) (u : Nat → Nat) (z : ow_MS) (f : Nat → Int32) (q9 : Nat) : ((cX_o1 43000).map (tw_val u z)).set k (.ref q9) = (cX_o1 43000).map (tw_val (usV u (43000 + 1 + k) q9) (usR z (43000 + 1 + k) f)) := by
  have h : k = 10 ∨ k = 11 ∨ k = 12 ∨ k = 13 ∨ k = 14 ∨ k = 15 := by
    unfold dynL at hk
    simp only [List.mem_cons, List.not_mem_nil, or_false] at hk
    omega
  rcases h with rfl | rfl | rfl | rfl | rfl | rfl <;> rfl
theorem dd_sh {vl : Nat → Nat} {g h n : Nat} (hne : g ≠ h) : (cX (usV vl h n)).2 g = (cX vl).2 g := by
  unfold cX
  dsimp only
  have : usV vl h n g = vl g := if_neg hne
  rw [this]
theorem dd_cell {vl u : Nat → Nat} {q : Nat → ClassId} {z : ow_MS} {g h n q9 : Nat} {f : Nat → Int32} (hh : h ∈ dynL) (hg : g ∈ cX_l) (hne : g ≠ h) (h0 : g ≠ 43000) : uw_cell (cX (usV vl h n)) q (usV u h q9) (usR z h f) g = uw_cell (cX vl) q u z g := by
  have e1 := dd_sh (vl := vl) (n := n) hne
  have e2 : (usR z h f).2.1 g = z.2.1 g := if_neg hne
  have e3 : (usR z h f).2.2 g = z.2.2 g := rfl
  have hr : ∀ p, p ∈ ((cX vl).2 g).2.2 → p.2 ≠ h := by
    intro p hp e
    rcases cX_eq vl g with e5 | ⟨_, e6⟩
    · rw [e5] at hp
      exact dd_refs g hg h0 p hp (by rw [e]; exact hh)
    · rw [e6] at hp
      cases hp
  have e4 : ((cX vl).2 g).2.2.map (tw_val (usV u h q9) (usR z h f)) = ((cX vl).2 g).2.2.map (tw_val u z) := by
    apply List.map_congr_left
    intro p hp
    unfold tw_val
    have : usV u h q9 p.2 = u p.2 := if_neg (hr p hp)
    rw [this]
    rfl
  have e7 : (fun (i : Nat) => (((cX vl).2 g).2.2[i]?).map (fun (p : Nat × Nat) => usV u h q9 p.2)) = (fun (i : Nat) => (((cX vl).2 g).2.2[i]?).map (fun (p : Nat × Nat) => u p.2)) := by
    funext i
    cases hm : ((cX vl).2 g).2.2[i]? with
    | none => rfl
    | some p =>
      show some (usV u h q9 p.2) = some (u p.2)
      rw [show usV u h q9 p.2 = u p.2 from if_neg (hr p (List.mem_of_getElem? hm))]
  unfold uw_cell uw_len
  rw [e1, e2, e3, e4, e7]
/-- the row that was made -/
abbrev dd_row (q : Nat → ClassId) (q9 N : Nat) (f : Nat → Int32) : Nat × va_E := (q9, .inl (q 0, N, .inl f))
abbrev dd_ob9 (u : Nat → Nat) (z : ow_MS) (k q9 : Nat) : Nat × va_E := (u 43000, .inr (4, ((cX_o1 43000).map (tw_val u z)).set k (.ref q9)))
section DRULES
variable {p : Program} {l : Launch} {e : Env} {R : Room} {s : State} {m : MethodId} {args : Array Value} {below : List Frame} {meth : Method} {c : Code} {H : Heap} {locs : List Loc} {cells slots : Nat} {Q : State → Prop}
variable {cc : ByteArray} {pc : Nat} {ls : Array Slot} {rest : List Value} {D : va_G} {A : Nat → Prop} {H0 : Heap} {q : Nat → ClassId} {vl u : Nat → Nat} {z : ow_MS} {O : Type} {out : O}
/-- the new row takes the old one's place -/
theorem dd_re {q9 N k k0 : Nat} {f : Nat → Int32} (hk : 43000 + 1 + k ∈ dynL) (hk0 : ∀ q u z, (uw (cX vl) q u z)[k0]? = some (u 43000, uw_cell (cX vl) q u z 43000)) (hP : va_P D vwCl ((uw (cX vl) q u z ++ [dd_row q q9 N f]).set k0 (dd_ob9 u z k q9)) H) (hD : va_D A ((uw (cX vl) q u z ++ [dd_row q q9 N f]).set k0 (dd_ob9 u z k q9))) : va_P D vwCl (uw (cX (usV vl (43000 + 1 + k) N)) q (usV u (43000 + 1 + k) q9) (usR z (43000 + 1 + k) f)) H ∧ uw_inj (cX (usV vl (43000 + 1 + k) N)) (usV u (43000 + 1 + k) q9) A := by
  have hlen : k0 < (uw (cX vl) q u z).length := (List.getElem?_eq_some_iff.mp (hk0 q u z)).1
  have hh0 : (43000 : Nat) ≠ 43000 + 1 + k := by omega
  -- where each handle's cell stands
  have place : ∀ g, g ∈ cX_l → ∃ j, ((uw (cX vl) q u z ++ [dd_row q q9 N f]).set k0 (dd_ob9 u z k q9))[j]? = some (usV u (43000 + 1 + k) q9 g, uw_cell (cX (usV vl (43000 + 1 + k) N)) q (usV u (43000 + 1 + k) q9) (usR z (43000 + 1 + k) f) g) ∧ (g = 43000 + 1 + k → j = (uw (cX vl) q u z).length) ∧ (g ≠ 43000 + 1 + k → cX_l[j]? = some g ∧ j < (uw (cX vl) q u z).length) := by
    intro g hg
    by_cases e1 : g = 43000 + 1 + k
    · refine ⟨(uw (cX vl) q u z).length, ?_, fun _ => rfl, fun h => absurd e1 h⟩
      rw [List.getElem?_set_ne (by omega), List.getElem?_append_right (Nat.le_refl _), Nat.sub_self, e1]
      have e2 : usV u (43000 + 1 + k) q9 (43000 + 1 + k) = q9 := if_pos rfl
      have e3 : tw_in (cX (usV vl (43000 + 1 + k) N)) (43000 + 1 + k) 0 := by
        refine ⟨by rw [← e1]; exact hg, ?_⟩
        unfold cX
        dsimp only
        rw [if_pos (List.contains_iff_mem.mpr hk)]
      rw [e2, uw_c0 q _ _ e3]
      have e4 : uw_len (cX (usV vl (43000 + 1 + k) N)) (usR z (43000 + 1 + k) f) (43000 + 1 + k) = N := by
        unfold uw_len cX
        dsimp only
        rw [if_pos (List.contains_iff_mem.mpr hk)]
        exact if_pos rfl
      have e5 : (usR z (43000 + 1 + k) f).2.1 (43000 + 1 + k) = f := if_pos rfl
      rw [e4, e5]
      rfl
    · by_cases e2 : g = 43000
      · subst e2
        refine ⟨k0, ?_, fun h => absurd h e1, fun _ => ?_⟩
        · rw [List.getElem?_set_self (by rw [List.length_append]; omega)]
          have e3 : usV u (43000 + 1 + k) q9 43000 = u 43000 := if_neg hh0
          rw [e3, uw_c9 q _ _ (co_X1 (vl := usV vl (43000 + 1 + k) N) (n := 43000) (by unfold cw_X1 ci_X1; exact List.mem_singleton.mpr rfl)), ← dd_obj hk u z f q9]
        · have h9 := hk0 q (fun x => x) z
          unfold uw at h9
          rw [List.getElem?_map] at h9
          refine ⟨?_, hlen⟩
          cases hm : (cX vl).1[k0]? with
          | none => rw [hm] at h9; cases h9
          | some g =>
            rw [hm] at h9
            have : g = 43000 := congrArg Prod.fst (Option.some.inj h9)
            rw [← this]
            exact hm
      · obtain ⟨j, hj, e3⟩ := List.getElem_of_mem hg
        have hjg : cX_l[j]? = some g := by rw [List.getElem?_eq_getElem hj, e3]
        have hlj : j < (uw (cX vl) q u z).length := by
          unfold uw
          rw [List.length_map]
          exact hj
        have huj : (uw (cX vl) q u z)[j]? = some (u g, uw_cell (cX vl) q u z g) := by
          unfold uw
          rw [List.getElem?_map, show (cX vl).1[j]? = some g from hjg]
          rfl
        have hne : k0 ≠ j := by
          intro e4
          subst e4
          have h9 := (hk0 q (fun x => x) z)
          have h10 : (uw (cX vl) q (fun x => x) z)[k0]? = some (g, uw_cell (cX vl) q (fun x => x) z g) := by
            unfold uw
            rw [List.getElem?_map, show (cX vl).1[k0]? = some g from hjg]
            rfl
          rw [h10] at h9
          exact e2 (congrArg Prod.fst (Option.some.inj h9))
        refine ⟨j, ?_, fun h => absurd h e1, fun _ => ⟨hjg, hlj⟩⟩
        rw [List.getElem?_set_ne hne, List.getElem?_append_left hlj, huj]
        have e5 : usV u (43000 + 1 + k) q9 g = u g := if_neg e1
        rw [e5, dd_cell hk hg e1 e2]
  refine ⟨?_, ?_, ?_⟩
  · intro j x hj
    unfold uw at hj
    rw [List.getElem?_map] at hj
    cases hm : (cX (usV vl (43000 + 1 + k) N)).1[j]? with
    | none => rw [hm] at hj; cases hj
    | some g =>
      rw [hm] at hj
      obtain ⟨i, hi, _⟩ := place g (List.mem_of_getElem? hm)
      obtain rfl := Option.some.inj hj
      exact hP i _ hi
  · intro g hg h hh eu
    obtain ⟨i, hi, hi1, hi2⟩ := place g hg
    obtain ⟨j, hj, hj1, hj2⟩ := place h hh
    have eij := hD.1 i j _ _ hi hj eu
    by_cases e1 : g = 43000 + 1 + k
    · by_cases e2 : h = 43000 + 1 + k
      · rw [e1, e2]
      · have := hi1 e1
        have := (hj2 e2).2
        omega
    · by_cases e2 : h = 43000 + 1 + k
      · have := hj1 e2
        have := (hi2 e1).2
        omega
      · have h1 := (hi2 e1).1
        have h2 := (hj2 e2).1
        rw [eij, h2] at h1
        exact (Option.some.inj h1).symm
  · intro g hg
    obtain ⟨i, hi, _⟩ := place g hg
    exact hD.2 i _ hi
/-- putfield of the new row -/
theorem dd_put {own ref : String} {index k N q9 : Nat} {f : Nat → Int32} {Ts : List Cond} (hx : p.tables.exec = Jvm.exec) (hb : c.code = cc) (hts : ∀ w ∈ Ts, w.before args s = true) (hin : ∀ w ∈ u_ws RX1 TX1 20, w ∈ Ts) (hown : s.vm.findClass own = some m.cls) (hK : va_K D vwCl (uw_T q RX7) s) (hP : va_P D vwCl (uw (cX vl) q u z ++ [dd_row q q9 N f]) H) (hD : va_D A (uw (cX vl) q u z ++ [dd_row q q9 N f])) (hS : va_S A H0 H locs) {n0 : Nat} (hn0 : cw_X1 n0) (hk : k < 20) (hdk : n0 + 1 + k ∈ dynL) (hlink : (Cond.fieldLink own index ref (TX1 k).2.1 (TX1 k).2.2.1).before args s = true) (hsame : ∀ x, s.fieldFound? (TX1 k).1 (TX1 k).2.1 (TX1 k).2.2.1 = some x → s.fieldFound? ref (TX1 k).2.1 (TX1 k).2.2.1 = some x) (hfin : (TX1 k).2.2.2 = false) (hd : parseFieldDescriptor (TX1 k).2.2.1 = some (.array .int)) (hdg : decode cc pc = .ok (.putfield index, 3))
    (kk : ∀ H1 locs1, uw_inj (cX (usV vl (n0 + 1 + k) N)) (usV u (n0 + 1 + k) q9) A → uw_M D vwCl (cX (usV vl (n0 + 1 + k) N)) q A H0 (usV u (n0 + 1 + k) q9) (usR z (n0 + 1 + k) f) H1 locs1 → W p l e R s m args below meth c H1 locs1 cells slots Q (F0 m (pc + 3) ls rest)) : W p l e R s m args below meth c H locs cells slots Q (F0 m pc ls (.ref q9 :: .ref (u n0) :: rest)) := by
  obtain rfl : n0 = 43000 := List.mem_singleton.mp hn0
  have hco := co_X1 (vl := vl) hn0
  obtain ⟨k0, hk0, _⟩ := uw_at (cX_ok (vl := vl)) hco.1
  have h1 := hk0 q u z
  rw [uw_c9 q u z hco] at h1
  have hlen : k0 < (uw (cX vl) q u z).length := (List.getElem?_eq_some_iff.mp h1).1
  refine va_put (ci := 4) (C := RX1) (T := TX1) (N := 20) hx hb hts hin tyX1 tyX1_ok nmX1 hown hK hP hD hS k0 (by rw [List.getElem?_append_left hlen]; exact h1) rfl k hk hlink hsame hfin (ty := .array .int) hd rfl rfl (by rw [List.length_map]; exact hk) hdg (fun H1 locs1 hP1 hD1 hS1 => ?_)
  obtain ⟨hP2, hU2⟩ := dd_re hdk hk0 hP1 hD1
  exact kk H1 locs1 hU2 ⟨hP2, hS1⟩
theorem dd_new {own ref : String} {index k : Nat} {Ts : List Cond} {vl0 vlE : Nat → Nat} (hx : p.tables.exec = Jvm.exec) (hb : c.code = cc) (harr : (Cond.arrayClass .int).before args s = true) (hts : ∀ w ∈ Ts, w.before args s = true) (hin : ∀ w ∈ u_ws RX1 TX1 20, w ∈ Ts) (hown : s.vm.findClass own = some m.cls) (hK : va_K D vwCl (uw_T q RX7) s) (hA : ∀ q, H0.size ≤ q → A q) (hU : uw_inj (cX vl) u A) (hM : uw_M D vwCl (cX vl) q A H0 u z H locs) {n0 : Nat} (hn0 : cw_X1 n0) (hk : k < 20) (hdk : n0 + 1 + k ∈ dynL) (hlink : (Cond.fieldLink own index ref (TX1 k).2.1 (TX1 k).2.2.1).before args s = true) (hsame : ∀ x, s.fieldFound? (TX1 k).1 (TX1 k).2.1 (TX1 k).2.2.1 = some x → s.fieldFound? ref (TX1 k).2.1 (TX1 k).2.2.1 = some x) (hfin : (TX1 k).2.2.2 = false) (hd : parseFieldDescriptor (TX1 k).2.2.1 = some (.array .int)) {α : Type} {r : α} {z9 : ow_MS} {n : Int32} {K : (Nat → Nat) → ow_MS → Option (α × (Nat → Nat) × ow_MS)} (h0 : dPhi vl0 ≤ dPhi vl) (hq : nwR vl z (n0 + 1 + k) n (fun v z => chV v (K v z)) = some (r, vlE, z9)) (hR1 : R.cells = dca vl0 vlE) (hR2 : R.slots = dsl vl0 vlE) (d1 : decode cc pc = .ok (.newarray .int, 2)) (d2 : decode cc (pc + 2) = .ok (.putfield index, 3))
    (kk : ∀ v1 u1 z1 H1 locs1, uw_inj (cX v1) u1 A → (∀ h, h ∉ dynL → u1 h = u h) → dPhi vl0 ≤ dPhi v1 → dPhi v1 ≤ dPhi vlE → uw_M D vwCl (cX v1) q A H0 u1 z1 H1 locs1 → K v1 z1 = some (r, vlE, z9) → W p l e R s m args below meth c H1 locs1 (dca vl0 v1) (dsl vl0 v1) Q (F0 m (pc + 5) ls rest)) : W p l e R s m args below meth c H locs (dca vl0 vl) (dsl vl0 vl) Q (F0 m pc ls (.int n :: .ref (u n0) :: rest)) := by
  obtain ⟨hi, hq⟩ := tw_gdn hq
  obtain ⟨hle, hq⟩ := dd_ch hq
  have hph := dPhi_us (v := vl) (n := n.toNatClampNeg) hdk (by omega)
  have hc := dca_new (a := vl0) (v := vl) (n := n.toNatClampNeg) hdk h0 (by omega)
  have hs := dsl_new (a := vl0) (v := vl) (n := n.toNatClampNeg) hdk h0 (by omega)
  have hc2 := dca_le (a := vl0) hle
  have hs2 := dsl_le (a := vl0) hle
  refine ow_newa (N' := n.toNatClampNeg) (a0 := (n.toNatClampNeg, .inl (fun _ => 0))) (ty := .int) hx hb harr rfl hK hM.1 (uw_D cX_ok hU z) hM.2 hA 0 rfl (fun _ h => h) (fun _ => rfl) (fun e9 => hi (Or.inl e9)) rfl (by show n.toNatClampNeg * 4 ≤ 536870912; omega) (by rw [hR1]; omega) (by rw [hR2]; omega) d1 (fun q9 H1 hP hD hS => ?_)
  refine W.widen (k := dca vl0 (usV vl (n0 + 1 + k) n.toNatClampNeg)) (n := dsl vl0 (usV vl (n0 + 1 + k) n.toNatClampNeg)) hc hs ?_
  refine dd_put hx hb hts hin hown hK hP hD hS hn0 hk hdk hlink hsame hfin hd d2 (fun H2 locs2 hU2 hM2 => ?_)
  exact kk _ _ _ H2 locs2 hU2 (fun h hh => if_neg (fun e9 => hh (by rw [e9]; exact hdk))) (by omega) hle hM2 hq
end DRULES
