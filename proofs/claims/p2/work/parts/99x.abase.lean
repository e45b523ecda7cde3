/-! worlds under construction -/
def nv_val (u : Nat → Nat) (z : ow_MS) (p : Nat × Nat) : Value := if p.1 = 0 then .int (z.1 p.2) else if p.1 = 1 then .ref (u p.2) else .null
def nw_cell (X : ow_Tb) (q : Nat → ClassId) (u : Nat → Nat) (z : ow_MS) (h : Nat) : va_E := match (X.2 h).1 with
  | 0 => .inl (q 0, (X.2 h).2.1, .inl (z.2.1 h))
  | 1 => .inl (q 1, (X.2 h).2.1, .inl (z.2.1 h))
  | 2 => .inl (q 2, (X.2 h).2.1, .inr (.inl (z.2.2 h)))
  | 3 => .inl (q 3, (X.2 h).2.1, .inl (z.2.1 h))
  | 4 => .inl (q 4, (X.2 h).2.1, .inr (.inr (.inr (.inr (fun i => ((X.2 h).2.2[i]?).map (fun p => u p.2))))))
  | 5 => .inl (q 5, (X.2 h).2.1, .inr (.inr (.inr (.inr (fun i => ((X.2 h).2.2[i]?).map (fun p => u p.2))))))
  | 6 => .inl (q 6, (X.2 h).2.1, .inr (.inr (.inr (.inr (fun i => ((X.2 h).2.2[i]?).map (fun p => u p.2))))))
  | _ => .inr ((X.2 h).2.1, (X.2 h).2.2.map (nv_val u z))
def nw (X : ow_Tb) (q : Nat → ClassId) (u : Nat → Nat) (z : ow_MS) : va_W := X.1.map (fun h => (u h, nw_cell X q u z h))
theorem al_list {X X1 : ow_Tb} {q : Nat → ClassId} {u u1 : Nat → Nat} {z z1 : ow_MS} {o h k0 : Nat} {co ch : va_E} (hk0 : X.1[k0]? = some o) (hnd : X.1.Nodup) (hX1 : X1.1 = X.1 ++ [h]) (hu : ∀ g, g ∈ X.1 → u1 g = u g) (hc : ∀ g, g ∈ X.1 → g ≠ o → nw_cell X1 q u1 z1 g = nw_cell X q u z g) (ho : nw_cell X1 q u1 z1 o = co) (hh : nw_cell X1 q u1 z1 h = ch) : (nw X q u z ++ [(u1 h, ch)]).set k0 (u o, co) = nw X1 q u1 z1 := by
  have hlt : k0 < X.1.length := (List.getElem?_eq_some_iff.mp hk0).1
  unfold nw
  rw [hX1, List.map_append, List.set_append_left _ _ (by rw [List.length_map]; exact hlt)]
  congr 1
  · apply List.ext_getElem?
    intro j
    rw [List.getElem?_set, List.getElem?_map, List.getElem?_map, List.length_map]
    by_cases hj : k0 = j
    · subst hj
      rw [if_pos rfl, if_pos hlt, hk0]
      show some (u o, co) = some (u1 o, nw_cell X1 q u1 z1 o)
      rw [ho, hu o (List.mem_of_getElem? hk0)]
    · rw [if_neg hj]
      cases hm : X.1[j]? with
      | none => rfl
      | some g =>
        have hne : g ≠ o := by
          intro e9
          subst e9
          exact hj (tw_ndj hnd hk0 hm)
        show some (u g, nw_cell X q u z g) = some (u1 g, nw_cell X1 q u1 z1 g)
        rw [hc g (List.mem_of_getElem? hm) hne, hu g (List.mem_of_getElem? hm)]
  · show [(u1 h, ch)] = [(u1 h, nw_cell X1 q u1 z1 h)]
    rw [hh]
def al_chk (X X1 : ow_Tb) (o k h : Nat) (sh : Nat × Nat × List (Nat × Nat)) : Bool := decide (X1.1 = X.1 ++ [h]) && !X.1.contains h && X.1.contains o && decide ((X.2 o).1 = 9) && decide (k < (X.2 o).2.2.length) && decide (X1.2 h = sh) && decide (X1.2 o = (9, (X.2 o).2.1, (X.2 o).2.2.set k (1, h))) && X.1.all (fun g => (g == o || decide (X1.2 g = X.2 g)) && (X.2 g).2.2.all (fun p => p.2 != h))
theorem al_facts {X X1 : ow_Tb} {o k h : Nat} {sh : Nat × Nat × List (Nat × Nat)} (hc : al_chk X X1 o k h sh = true) : X1.1 = X.1 ++ [h] ∧ h ∉ X.1 ∧ o ∈ X.1 ∧ (X.2 o).1 = 9 ∧ k < (X.2 o).2.2.length ∧ X1.2 h = sh ∧ X1.2 o = (9, (X.2 o).2.1, (X.2 o).2.2.set k (1, h)) ∧ (∀ g, g ∈ X.1 → g ≠ o → X1.2 g = X.2 g) ∧ ∀ g, g ∈ X.1 → ∀ p, p ∈ (X.2 g).2.2 → p.2 ≠ h := by
  unfold al_chk at hc
  simp only [Bool.and_eq_true, decide_eq_true_eq, Bool.not_eq_true'] at hc
  obtain ⟨⟨⟨⟨⟨⟨⟨h1, h2⟩, h3⟩, h4⟩, h5⟩, h6⟩, h7⟩, h8⟩ := hc
  have h9 := List.all_eq_true.mp h8
  refine ⟨h1, fun hm => ?_, List.contains_iff_mem.mp h3, h4, h5, h6, h7, fun g hg hne => ?_, fun g hg p hp => ?_⟩
  · rw [List.contains_iff_mem.mpr hm] at h2
    cases h2
  · have h10 := h9 g hg
    rw [Bool.and_eq_true, Bool.or_eq_true, beq_iff_eq, decide_eq_true_eq] at h10
    rcases h10.1 with e9 | e9
    · exact absurd e9 hne
    · exact e9
  · have h10 := h9 g hg
    rw [Bool.and_eq_true] at h10
    have h11 := List.all_eq_true.mp h10.2 p hp
    exact bne_iff_ne.mp h11
def usRJ (z : ow_MS) (h : Nat) (f : Nat → Int64) : ow_MS := (z.1, z.2.1, fun g => if g = h then f else z.2.2 g)
/-- cells that were there stay as they are -/
theorem al_keep {X X1 : ow_Tb} {q : Nat → ClassId} {u u1 : Nat → Nat} {z z1 : ow_MS} {g : Nat} (hX : X1.2 g = X.2 g) (hu : ∀ p, p ∈ (X.2 g).2.2 → u1 p.2 = u p.2) (h1 : z1.2.1 g = z.2.1 g) (h2 : z1.2.2 g = z.2.2 g) (h0 : ∀ p, p ∈ (X.2 g).2.2 → z1.1 p.2 = z.1 p.2) : nw_cell X1 q u1 z1 g = nw_cell X q u z g := by
  have e1 : (X.2 g).2.2.map (nv_val u1 z1) = (X.2 g).2.2.map (nv_val u z) := by
    apply List.map_congr_left
    intro p hp
    unfold nv_val
    rw [hu p hp, h0 p hp]
  have e2 : (fun (i : Nat) => ((X.2 g).2.2[i]?).map (fun (p : Nat × Nat) => u1 p.2)) = (fun (i : Nat) => ((X.2 g).2.2[i]?).map (fun (p : Nat × Nat) => u p.2)) := by
    funext i
    cases hm : (X.2 g).2.2[i]? with
    | none => rfl
    | some p =>
      show some (u1 p.2) = some (u p.2)
      rw [hu p (List.mem_of_getElem? hm)]
  unfold nw_cell
  rw [hX, h1, h2, e1, e2]
def al_M (D : va_G) (cl : List vw_C) (X : ow_Tb) (q : Nat → ClassId) (A : Nat → Prop) (H0 : Heap) (u : Nat → Nat) (z : ow_MS) (H : Heap) (locs : List Loc) : Prop := va_P D cl (nw X q u z) H ∧ va_D A (nw X q u z) ∧ va_S A H0 H locs ∧ X.1.Nodup
theorem al_nd {L : List Nat} {h : Nat} (hn : L.Nodup) (hh : h ∉ L) : (L ++ [h]).Nodup := by
  rw [List.nodup_append]
  refine ⟨hn, by simp, ?_⟩
  intro a ha b hb e9
  rw [List.mem_singleton] at hb
  subst hb
  subst e9
  exact hh ha
theorem al_obj {X : ow_Tb} {q : Nat → ClassId} {u : Nat → Nat} {z : ow_MS} {o : Nat} (h : (X.2 o).1 = 9) : nw_cell X q u z o = .inr ((X.2 o).2.1, (X.2 o).2.2.map (nv_val u z)) := by
  unfold nw_cell
  rw [h]
  rfl
section ALLOC
variable {p : Program} {l : Launch} {e : Env} {R : Room} {s : State} {m : MethodId} {args : Array Value} {below : List Frame} {meth : Method} {c : Code} {H : Heap} {locs : List Loc} {cells slots : Nat} {Q : State → Prop}
variable {cc : ByteArray} {pc : Nat} {ls : Array Slot} {rest : List Value} {D : va_G} {cl : List vw_C} {A : Nat → Prop} {H0 : Heap} {X X1 : ow_Tb} {q : Nat → ClassId} {u : Nat → Nat} {z : ow_MS} {tys : List (ClassId × FieldType)}
theorem al_row0 (hx : p.tables.exec = Jvm.exec) (hb : c.code = cc) (harr : (Cond.arrayClass .int).before args s = true) (hK : va_K D cl tys s) (ht : tys[0]? = some (q 0, .int)) (hM : al_M D cl X q A H0 u z H locs) (hA : ∀ q, H0.size ≤ q → A q) {o k h N : Nat} (hck : al_chk X X1 o k h (0, N, []) = true) {n : Int32} (hn : ¬ n < 0) (hN : n.toNatClampNeg = N) (hbytes : N * componentBytes .int ≤ 536870912) (hcells : cells + 1 ≤ R.cells) (hslots : slots + N ≤ R.slots)
    {own ref C : String} {T : u_T} {NF ci index : Nat} {Ts : List Cond} (hci : (X.2 o).2.1 = ci) (hts : ∀ w ∈ Ts, w.before args s = true) (hin : ∀ w ∈ u_ws C T NF, w ∈ Ts) (ty0 : Nat → FieldType) (hty0 : ∀ k, k < NF → parseFieldDescriptor (T k).2.2.1 = some (ty0 k)) (hnm : ∀ a, a < NF → ∀ b, b < NF → a ≠ b → (T a).2.1 ≠ (T b).2.1) (hown : s.vm.findClass own = some m.cls) (hc : cl[ci]? = some (C, T, NF)) (hk : k < NF) (hlink : (Cond.fieldLink own index ref (T k).2.1 (T k).2.2.1).before args s = true) (hsame : ∀ x, s.fieldFound? (T k).1 (T k).2.1 (T k).2.2.1 = some x → s.fieldFound? ref (T k).2.1 (T k).2.2.1 = some x) (hfin : (T k).2.2.2 = true) (hin2 : meth.name = "<init>") (hdecl : (T k).1 = own) (hd : parseFieldDescriptor (T k).2.2.1 = some (.array .int)) (d1 : decode cc pc = .ok (.newarray .int, 2)) (d2 : decode cc (pc + 2) = .ok (.putfield index, 3))
    (kk : ∀ (q9 : Nat) (H1 : Heap) (locs1 : List Loc), al_M D cl X1 q A H0 (usV u h q9) (usR z h (fun _ => 0)) H1 locs1 → W p l e R s m args below meth c H1 locs1 (cells + 1) (slots + N) Q (F0 m (pc + 5) ls rest)) : W p l e R s m args below meth c H locs cells slots Q (F0 m pc ls (.int n :: .ref (u o) :: rest)) := by
  obtain ⟨f1, f2, f3, f4, f5, f6, f7, f8, f9⟩ := al_facts hck
  obtain ⟨hP, hD, hS, hnd⟩ := hM
  obtain ⟨k0, hk0, e0⟩ := List.getElem_of_mem f3
  have hg0 : X.1[k0]? = some o := by rw [List.getElem?_eq_getElem hk0, e0]
  have he : (nw X q u z)[k0]? = some (u o, .inr ((X.2 o).2.1, (X.2 o).2.2.map (nv_val u z))) := by
    unfold nw
    rw [List.getElem?_map, hg0]
    show some (u o, nw_cell X q u z o) = _
    rw [al_obj f4]
  rw [hci] at he
  have hho : o ≠ h := fun e9 => f2 (by rw [← e9]; exact f3)
  refine ow_np (N' := N) (a0 := (N, .inl (fun _ => 0))) (ty := .int) (fty := .array .int) hx hb harr rfl hK hP hD hS hA 0 ht (fun _ h => h) (fun _ => rfl) hn hN hbytes hcells hslots hts hin ty0 hty0 hnm hown k0 he hc k hk hlink hsame hfin hin2 hdecl hd (fun _ => rfl) (fun _ => rfl) (by rw [List.length_map]; exact f5) d1 d2 (fun q9 H1 locs1 hP1 hD1 hS1 => ?_)
  have hus : ∀ g, g ∈ X.1 → usV u h q9 g = u g := fun g hg => if_neg (fun e9 => f2 (by rw [← e9]; exact hg))
  have key : (nw X q u z ++ ([(q9, .inl (q 0, (N, .inl (fun _ => 0))))] : va_W)).set k0 (u o, .inr (ci, ((X.2 o).2.2.map (nv_val u z)).set k (.ref q9))) = nw X1 q (usV u h q9) (usR z h (fun _ => 0)) := by
    have e1 : usV u h q9 h = q9 := if_pos rfl
    have := al_list (X := X) (X1 := X1) (q := q) (u := u) (u1 := usV u h q9) (z := z) (z1 := usR z h (fun _ => 0)) (o := o) (h := h) (k0 := k0) (co := .inr (ci, ((X.2 o).2.2.map (nv_val u z)).set k (.ref q9))) (ch := .inl (q 0, (N, .inl (fun _ => 0)))) hg0 hnd f1 hus (fun g hg hne => al_keep (f8 g hg hne) (fun p hp => if_neg (f9 g hg p hp)) (if_neg (fun e9 => f2 (by rw [← e9]; exact hg))) rfl (fun _ _ => rfl)) ?_ ?_
    · rw [e1] at this
      exact this
    · rw [al_obj (X := X1) (by rw [f7]), f7]
      show Sum.inr ((X.2 o).2.1, ((X.2 o).2.2.set k (1, h)).map (nv_val (usV u h q9) (usR z h (fun _ => 0)))) = _
      rw [hci, List.map_set]
      have e2 : (X.2 o).2.2.map (nv_val (usV u h q9) (usR z h (fun _ => 0))) = (X.2 o).2.2.map (nv_val u z) := by
        apply List.map_congr_left
        intro p hp
        unfold nv_val
        have : usV u h q9 p.2 = u p.2 := if_neg (f9 o f3 p hp)
        rw [this]
        rfl
      have e3 : nv_val (usV u h q9) (usR z h (fun _ => 0)) (1, h) = .ref q9 := by
        unfold nv_val
        rw [if_neg (fun e9 => absurd e9 (by show ¬ (1 : Nat) = 0; decide)), if_pos rfl, e1]
      rw [e2, e3]
    · unfold nw_cell
      rw [f6]
      show Sum.inl (q 0, N, Sum.inl ((usR z h (fun _ => 0)).2.1 h)) = _
      have e4 : (usR z h (fun _ => 0)).2.1 h = fun _ => 0 := if_pos rfl
      rw [e4]
  rw [key] at hP1 hD1
  exact kk q9 H1 locs1 ⟨hP1, hD1, hS1, by rw [f1]; exact al_nd hnd f2⟩
theorem al_row1 (hx : p.tables.exec = Jvm.exec) (hb : c.code = cc) (harr : (Cond.arrayClass .byte).before args s = true) (hK : va_K D cl tys s) (ht : tys[1]? = some (q 1, .byte)) (hM : al_M D cl X q A H0 u z H locs) (hA : ∀ q, H0.size ≤ q → A q) {o k h N : Nat} (hck : al_chk X X1 o k h (1, N, []) = true) {n : Int32} (hn : ¬ n < 0) (hN : n.toNatClampNeg = N) (hbytes : N * componentBytes .byte ≤ 536870912) (hcells : cells + 1 ≤ R.cells) (hslots : slots + N ≤ R.slots)
    {own ref C : String} {T : u_T} {NF ci index : Nat} {Ts : List Cond} (hci : (X.2 o).2.1 = ci) (hts : ∀ w ∈ Ts, w.before args s = true) (hin : ∀ w ∈ u_ws C T NF, w ∈ Ts) (ty0 : Nat → FieldType) (hty0 : ∀ k, k < NF → parseFieldDescriptor (T k).2.2.1 = some (ty0 k)) (hnm : ∀ a, a < NF → ∀ b, b < NF → a ≠ b → (T a).2.1 ≠ (T b).2.1) (hown : s.vm.findClass own = some m.cls) (hc : cl[ci]? = some (C, T, NF)) (hk : k < NF) (hlink : (Cond.fieldLink own index ref (T k).2.1 (T k).2.2.1).before args s = true) (hsame : ∀ x, s.fieldFound? (T k).1 (T k).2.1 (T k).2.2.1 = some x → s.fieldFound? ref (T k).2.1 (T k).2.2.1 = some x) (hfin : (T k).2.2.2 = true) (hin2 : meth.name = "<init>") (hdecl : (T k).1 = own) (hd : parseFieldDescriptor (T k).2.2.1 = some (.array .byte)) (d1 : decode cc pc = .ok (.newarray .byte, 2)) (d2 : decode cc (pc + 2) = .ok (.putfield index, 3))
    (kk : ∀ (q9 : Nat) (H1 : Heap) (locs1 : List Loc), al_M D cl X1 q A H0 (usV u h q9) (usR z h (fun _ => 0)) H1 locs1 → W p l e R s m args below meth c H1 locs1 (cells + 1) (slots + N) Q (F0 m (pc + 5) ls rest)) : W p l e R s m args below meth c H locs cells slots Q (F0 m pc ls (.int n :: .ref (u o) :: rest)) := by
  obtain ⟨f1, f2, f3, f4, f5, f6, f7, f8, f9⟩ := al_facts hck
  obtain ⟨hP, hD, hS, hnd⟩ := hM
  obtain ⟨k0, hk0, e0⟩ := List.getElem_of_mem f3
  have hg0 : X.1[k0]? = some o := by rw [List.getElem?_eq_getElem hk0, e0]
  have he : (nw X q u z)[k0]? = some (u o, .inr ((X.2 o).2.1, (X.2 o).2.2.map (nv_val u z))) := by
    unfold nw
    rw [List.getElem?_map, hg0]
    show some (u o, nw_cell X q u z o) = _
    rw [al_obj f4]
  rw [hci] at he
  have hho : o ≠ h := fun e9 => f2 (by rw [← e9]; exact f3)
  refine ow_np (N' := N) (a0 := (N, .inl (fun _ => 0))) (ty := .byte) (fty := .array .byte) hx hb harr rfl hK hP hD hS hA 1 ht (fun _ h => h) (fun _ => rfl) hn hN hbytes hcells hslots hts hin ty0 hty0 hnm hown k0 he hc k hk hlink hsame hfin hin2 hdecl hd (fun _ => rfl) (fun _ => rfl) (by rw [List.length_map]; exact f5) d1 d2 (fun q9 H1 locs1 hP1 hD1 hS1 => ?_)
  have hus : ∀ g, g ∈ X.1 → usV u h q9 g = u g := fun g hg => if_neg (fun e9 => f2 (by rw [← e9]; exact hg))
  have key : (nw X q u z ++ ([(q9, .inl (q 1, (N, .inl (fun _ => 0))))] : va_W)).set k0 (u o, .inr (ci, ((X.2 o).2.2.map (nv_val u z)).set k (.ref q9))) = nw X1 q (usV u h q9) (usR z h (fun _ => 0)) := by
    have e1 : usV u h q9 h = q9 := if_pos rfl
    have := al_list (X := X) (X1 := X1) (q := q) (u := u) (u1 := usV u h q9) (z := z) (z1 := usR z h (fun _ => 0)) (o := o) (h := h) (k0 := k0) (co := .inr (ci, ((X.2 o).2.2.map (nv_val u z)).set k (.ref q9))) (ch := .inl (q 1, (N, .inl (fun _ => 0)))) hg0 hnd f1 hus (fun g hg hne => al_keep (f8 g hg hne) (fun p hp => if_neg (f9 g hg p hp)) (if_neg (fun e9 => f2 (by rw [← e9]; exact hg))) rfl (fun _ _ => rfl)) ?_ ?_
    · rw [e1] at this
      exact this
    · rw [al_obj (X := X1) (by rw [f7]), f7]
      show Sum.inr ((X.2 o).2.1, ((X.2 o).2.2.set k (1, h)).map (nv_val (usV u h q9) (usR z h (fun _ => 0)))) = _
      rw [hci, List.map_set]
      have e2 : (X.2 o).2.2.map (nv_val (usV u h q9) (usR z h (fun _ => 0))) = (X.2 o).2.2.map (nv_val u z) := by
        apply List.map_congr_left
        intro p hp
        unfold nv_val
        have : usV u h q9 p.2 = u p.2 := if_neg (f9 o f3 p hp)
        rw [this]
        rfl
      have e3 : nv_val (usV u h q9) (usR z h (fun _ => 0)) (1, h) = .ref q9 := by
        unfold nv_val
        rw [if_neg (fun e9 => absurd e9 (by show ¬ (1 : Nat) = 0; decide)), if_pos rfl, e1]
      rw [e2, e3]
    · unfold nw_cell
      rw [f6]
      show Sum.inl (q 1, N, Sum.inl ((usR z h (fun _ => 0)).2.1 h)) = _
      have e4 : (usR z h (fun _ => 0)).2.1 h = fun _ => 0 := if_pos rfl
      rw [e4]
  rw [key] at hP1 hD1
  exact kk q9 H1 locs1 ⟨hP1, hD1, hS1, by rw [f1]; exact al_nd hnd f2⟩
theorem al_row2 (hx : p.tables.exec = Jvm.exec) (hb : c.code = cc) (harr : (Cond.arrayClass .long).before args s = true) (hK : va_K D cl tys s) (ht : tys[2]? = some (q 2, .long)) (hM : al_M D cl X q A H0 u z H locs) (hA : ∀ q, H0.size ≤ q → A q) {o k h N : Nat} (hck : al_chk X X1 o k h (2, N, []) = true) {n : Int32} (hn : ¬ n < 0) (hN : n.toNatClampNeg = N) (hbytes : N * componentBytes .long ≤ 536870912) (hcells : cells + 1 ≤ R.cells) (hslots : slots + N ≤ R.slots)
    {own ref C : String} {T : u_T} {NF ci index : Nat} {Ts : List Cond} (hci : (X.2 o).2.1 = ci) (hts : ∀ w ∈ Ts, w.before args s = true) (hin : ∀ w ∈ u_ws C T NF, w ∈ Ts) (ty0 : Nat → FieldType) (hty0 : ∀ k, k < NF → parseFieldDescriptor (T k).2.2.1 = some (ty0 k)) (hnm : ∀ a, a < NF → ∀ b, b < NF → a ≠ b → (T a).2.1 ≠ (T b).2.1) (hown : s.vm.findClass own = some m.cls) (hc : cl[ci]? = some (C, T, NF)) (hk : k < NF) (hlink : (Cond.fieldLink own index ref (T k).2.1 (T k).2.2.1).before args s = true) (hsame : ∀ x, s.fieldFound? (T k).1 (T k).2.1 (T k).2.2.1 = some x → s.fieldFound? ref (T k).2.1 (T k).2.2.1 = some x) (hfin : (T k).2.2.2 = true) (hin2 : meth.name = "<init>") (hdecl : (T k).1 = own) (hd : parseFieldDescriptor (T k).2.2.1 = some (.array .long)) (d1 : decode cc pc = .ok (.newarray .long, 2)) (d2 : decode cc (pc + 2) = .ok (.putfield index, 3))
    (kk : ∀ (q9 : Nat) (H1 : Heap) (locs1 : List Loc), al_M D cl X1 q A H0 (usV u h q9) (usRJ z h (fun _ => 0)) H1 locs1 → W p l e R s m args below meth c H1 locs1 (cells + 1) (slots + N) Q (F0 m (pc + 5) ls rest)) : W p l e R s m args below meth c H locs cells slots Q (F0 m pc ls (.int n :: .ref (u o) :: rest)) := by
  obtain ⟨f1, f2, f3, f4, f5, f6, f7, f8, f9⟩ := al_facts hck
  obtain ⟨hP, hD, hS, hnd⟩ := hM
  obtain ⟨k0, hk0, e0⟩ := List.getElem_of_mem f3
  have hg0 : X.1[k0]? = some o := by rw [List.getElem?_eq_getElem hk0, e0]
  have he : (nw X q u z)[k0]? = some (u o, .inr ((X.2 o).2.1, (X.2 o).2.2.map (nv_val u z))) := by
    unfold nw
    rw [List.getElem?_map, hg0]
    show some (u o, nw_cell X q u z o) = _
    rw [al_obj f4]
  rw [hci] at he
  have hho : o ≠ h := fun e9 => f2 (by rw [← e9]; exact f3)
  refine ow_np (N' := N) (a0 := (N, .inr (.inl (fun _ => 0)))) (ty := .long) (fty := .array .long) hx hb harr rfl hK hP hD hS hA 2 ht (fun _ h => h) (fun _ => rfl) hn hN hbytes hcells hslots hts hin ty0 hty0 hnm hown k0 he hc k hk hlink hsame hfin hin2 hdecl hd (fun _ => rfl) (fun _ => rfl) (by rw [List.length_map]; exact f5) d1 d2 (fun q9 H1 locs1 hP1 hD1 hS1 => ?_)
  have hus : ∀ g, g ∈ X.1 → usV u h q9 g = u g := fun g hg => if_neg (fun e9 => f2 (by rw [← e9]; exact hg))
  have key : (nw X q u z ++ ([(q9, .inl (q 2, (N, .inr (.inl (fun _ => 0)))))] : va_W)).set k0 (u o, .inr (ci, ((X.2 o).2.2.map (nv_val u z)).set k (.ref q9))) = nw X1 q (usV u h q9) (usRJ z h (fun _ => 0)) := by
    have e1 : usV u h q9 h = q9 := if_pos rfl
    have := al_list (X := X) (X1 := X1) (q := q) (u := u) (u1 := usV u h q9) (z := z) (z1 := usRJ z h (fun _ => 0)) (o := o) (h := h) (k0 := k0) (co := .inr (ci, ((X.2 o).2.2.map (nv_val u z)).set k (.ref q9))) (ch := .inl (q 2, (N, .inr (.inl (fun _ => 0))))) hg0 hnd f1 hus (fun g hg hne => al_keep (f8 g hg hne) (fun p hp => if_neg (f9 g hg p hp)) rfl (if_neg (fun e9 => f2 (by rw [← e9]; exact hg))) (fun _ _ => rfl)) ?_ ?_
    · rw [e1] at this
      exact this
    · rw [al_obj (X := X1) (by rw [f7]), f7]
      show Sum.inr ((X.2 o).2.1, ((X.2 o).2.2.set k (1, h)).map (nv_val (usV u h q9) (usRJ z h (fun _ => 0)))) = _
      rw [hci, List.map_set]
      have e2 : (X.2 o).2.2.map (nv_val (usV u h q9) (usRJ z h (fun _ => 0))) = (X.2 o).2.2.map (nv_val u z) := by
        apply List.map_congr_left
        intro p hp
        unfold nv_val
        have : usV u h q9 p.2 = u p.2 := if_neg (f9 o f3 p hp)
        rw [this]
        rfl
      have e3 : nv_val (usV u h q9) (usRJ z h (fun _ => 0)) (1, h) = .ref q9 := by
        unfold nv_val
        rw [if_neg (fun e9 => absurd e9 (by show ¬ (1 : Nat) = 0; decide)), if_pos rfl, e1]
      rw [e2, e3]
    · unfold nw_cell
      rw [f6]
      show Sum.inl (q 2, N, (fun f => Sum.inr (Sum.inl f)) ((usRJ z h (fun _ => 0)).2.2 h)) = _
      have e4 : (usRJ z h (fun _ => 0)).2.2 h = fun _ => 0 := if_pos rfl
      rw [e4]
  rw [key] at hP1 hD1
  exact kk q9 H1 locs1 ⟨hP1, hD1, hS1, by rw [f1]; exact al_nd hnd f2⟩
theorem al_row3 (hx : p.tables.exec = Jvm.exec) (hb : c.code = cc) (harr : (Cond.arrayClass .boolean).before args s = true) (hK : va_K D cl tys s) (ht : tys[3]? = some (q 3, .boolean)) (hM : al_M D cl X q A H0 u z H locs) (hA : ∀ q, H0.size ≤ q → A q) {o k h N : Nat} (hck : al_chk X X1 o k h (3, N, []) = true) {n : Int32} (hn : ¬ n < 0) (hN : n.toNatClampNeg = N) (hbytes : N * componentBytes .boolean ≤ 536870912) (hcells : cells + 1 ≤ R.cells) (hslots : slots + N ≤ R.slots)
    {own ref C : String} {T : u_T} {NF ci index : Nat} {Ts : List Cond} (hci : (X.2 o).2.1 = ci) (hts : ∀ w ∈ Ts, w.before args s = true) (hin : ∀ w ∈ u_ws C T NF, w ∈ Ts) (ty0 : Nat → FieldType) (hty0 : ∀ k, k < NF → parseFieldDescriptor (T k).2.2.1 = some (ty0 k)) (hnm : ∀ a, a < NF → ∀ b, b < NF → a ≠ b → (T a).2.1 ≠ (T b).2.1) (hown : s.vm.findClass own = some m.cls) (hc : cl[ci]? = some (C, T, NF)) (hk : k < NF) (hlink : (Cond.fieldLink own index ref (T k).2.1 (T k).2.2.1).before args s = true) (hsame : ∀ x, s.fieldFound? (T k).1 (T k).2.1 (T k).2.2.1 = some x → s.fieldFound? ref (T k).2.1 (T k).2.2.1 = some x) (hfin : (T k).2.2.2 = true) (hin2 : meth.name = "<init>") (hdecl : (T k).1 = own) (hd : parseFieldDescriptor (T k).2.2.1 = some (.array .boolean)) (d1 : decode cc pc = .ok (.newarray .boolean, 2)) (d2 : decode cc (pc + 2) = .ok (.putfield index, 3))
    (kk : ∀ (q9 : Nat) (H1 : Heap) (locs1 : List Loc), al_M D cl X1 q A H0 (usV u h q9) (usR z h (fun _ => 0)) H1 locs1 → W p l e R s m args below meth c H1 locs1 (cells + 1) (slots + N) Q (F0 m (pc + 5) ls rest)) : W p l e R s m args below meth c H locs cells slots Q (F0 m pc ls (.int n :: .ref (u o) :: rest)) := by
  obtain ⟨f1, f2, f3, f4, f5, f6, f7, f8, f9⟩ := al_facts hck
  obtain ⟨hP, hD, hS, hnd⟩ := hM
  obtain ⟨k0, hk0, e0⟩ := List.getElem_of_mem f3
  have hg0 : X.1[k0]? = some o := by rw [List.getElem?_eq_getElem hk0, e0]
  have he : (nw X q u z)[k0]? = some (u o, .inr ((X.2 o).2.1, (X.2 o).2.2.map (nv_val u z))) := by
    unfold nw
    rw [List.getElem?_map, hg0]
    show some (u o, nw_cell X q u z o) = _
    rw [al_obj f4]
  rw [hci] at he
  have hho : o ≠ h := fun e9 => f2 (by rw [← e9]; exact f3)
  refine ow_np (N' := N) (a0 := (N, .inl (fun _ => 0))) (ty := .boolean) (fty := .array .boolean) hx hb harr rfl hK hP hD hS hA 3 ht (fun _ h => h) (fun _ => rfl) hn hN hbytes hcells hslots hts hin ty0 hty0 hnm hown k0 he hc k hk hlink hsame hfin hin2 hdecl hd (fun _ => rfl) (fun _ => rfl) (by rw [List.length_map]; exact f5) d1 d2 (fun q9 H1 locs1 hP1 hD1 hS1 => ?_)
  have hus : ∀ g, g ∈ X.1 → usV u h q9 g = u g := fun g hg => if_neg (fun e9 => f2 (by rw [← e9]; exact hg))
  have key : (nw X q u z ++ ([(q9, .inl (q 3, (N, .inl (fun _ => 0))))] : va_W)).set k0 (u o, .inr (ci, ((X.2 o).2.2.map (nv_val u z)).set k (.ref q9))) = nw X1 q (usV u h q9) (usR z h (fun _ => 0)) := by
    have e1 : usV u h q9 h = q9 := if_pos rfl
    have := al_list (X := X) (X1 := X1) (q := q) (u := u) (u1 := usV u h q9) (z := z) (z1 := usR z h (fun _ => 0)) (o := o) (h := h) (k0 := k0) (co := .inr (ci, ((X.2 o).2.2.map (nv_val u z)).set k (.ref q9))) (ch := .inl (q 3, (N, .inl (fun _ => 0)))) hg0 hnd f1 hus (fun g hg hne => al_keep (f8 g hg hne) (fun p hp => if_neg (f9 g hg p hp)) (if_neg (fun e9 => f2 (by rw [← e9]; exact hg))) rfl (fun _ _ => rfl)) ?_ ?_
    · rw [e1] at this
      exact this
    · rw [al_obj (X := X1) (by rw [f7]), f7]
      show Sum.inr ((X.2 o).2.1, ((X.2 o).2.2.set k (1, h)).map (nv_val (usV u h q9) (usR z h (fun _ => 0)))) = _
      rw [hci, List.map_set]
      have e2 : (X.2 o).2.2.map (nv_val (usV u h q9) (usR z h (fun _ => 0))) = (X.2 o).2.2.map (nv_val u z) := by
        apply List.map_congr_left
        intro p hp
        unfold nv_val
        have : usV u h q9 p.2 = u p.2 := if_neg (f9 o f3 p hp)
        rw [this]
        rfl
      have e3 : nv_val (usV u h q9) (usR z h (fun _ => 0)) (1, h) = .ref q9 := by
        unfold nv_val
        rw [if_neg (fun e9 => absurd e9 (by show ¬ (1 : Nat) = 0; decide)), if_pos rfl, e1]
      rw [e2, e3]
    · unfold nw_cell
      rw [f6]
      show Sum.inl (q 3, N, Sum.inl ((usR z h (fun _ => 0)).2.1 h)) = _
      have e4 : (usR z h (fun _ => 0)).2.1 h = fun _ => 0 := if_pos rfl
      rw [e4]
  rw [key] at hP1 hD1
  exact kk q9 H1 locs1 ⟨hP1, hD1, hS1, by rw [f1]; exact al_nd hnd f2⟩
end ALLOC
