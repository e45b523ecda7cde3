theorem yo_ary {args : Array Value} {s : State} {ty : FieldType} (h : (Cond.arrayClass ty).before args s = true) (hra : ∀ x : ClassId, s.vm.findClass ("[" ++ ty.toString) = some x → va_RA s x ty) : ∃ cA : ClassId, ArrOfT s cA ty ∧ va_RA s cA ty := by
  obtain ⟨cA, kA, comp, h1, h2, h3⟩ := Cond.arrayClass_spec h
  exact ⟨cA, fun n z => ⟨fun k h => (by cases h), kA, h2, comp, h3⟩, hra cA h1⟩
theorem yo_str {args : Array Value} {s : State} {own tx : String} {k : Nat} (h1 : (Cond.stringRef own k tx).before args s = true) (h2 : (Cond.exactly (.string own k) "java/lang/String").before args s = true) : ∃ a : Nat, vk_R own k tx a s := by
  obtain ⟨a, c, cell, kk, e1, -⟩ := Cond.exactly_spec h2
  exact ⟨a, vk_R.of h1 e1⟩
theorem yo_grid {ty : FieldType} {s : State} (h : ow_AO ty s) : ∃ cA : ClassId, ArrOfT s cA (.array ty) ∧ va_RA s cA (.array ty) := by
  obtain ⟨comp, cA, k, h1, h2, h3, h4⟩ := h
  exact ⟨cA, fun n z => ⟨fun k h => (by cases h), k, h2, comp, h3⟩, h4⟩
theorem yo_objs {C : String} {B : Array Value} {U : State} (h : (Cond.arrayOver (.object C)).before B U = true) (hC : (FieldType.object C).toString = "L" ++ C ++ ";") : ∃ cA : ClassId, ArrOfT U cA (.object C) ∧ va_RA U cA (.object C) := by
  unfold Cond.before at h
  simp only [Cond.holds, Cond.value, beq_iff_eq] at h
  cases hc : U.vm.findClass C with
  | none => simp [hc] at h
  | some comp =>
    simp only [hc, Option.bind_some, Option.bind_eq_some_iff, Option.map_eq_some_iff] at h
    obtain ⟨cA, hi, k, hk, hq⟩ := h
    obtain ⟨hlt, hp, -⟩ := Array.findIdx?_eq_some_iff_getElem.mp hi
    have hkk : U.vm.classes[cA] = k := (Array.getElem?_eq_some_iff.mp hk).2
    rw [hkk] at hp
    cases hkind : k.kind with
    | array component t =>
      rw [hkind] at hq hp
      simp at hq hp
      have e9 : k.kind = .array comp (.object C) := by rw [hkind, hp, hq.1]
      exact ⟨cA, fun n z => ⟨fun k h => (by cases h), k, hk, comp, e9⟩, k, comp, hk, e9, hc, hq.2⟩
    | _ => rw [hkind] at hq; simp at hq
theorem dv_iff {A : Nat → Prop} {ws : va_W} (h : va_D A ws) : (ws.map Prod.fst).Nodup := by
  unfold List.Nodup
  rw [List.pairwise_iff_getElem]
  intro i j hi hj hij e
  rw [List.length_map] at hi hj
  rw [List.getElem_map, List.getElem_map] at e
  have := h.1 i j ws[i] ws[j] (List.getElem?_eq_getElem hi) (List.getElem?_eq_getElem hj) e
  omega
theorem dv_of {A : Nat → Prop} {ws : va_W} (h : (ws.map Prod.fst).Nodup) (hA : ∀ x, x ∈ ws → A x.1) : va_D A ws := by
  refine ⟨fun i j x y hi hj e => ?_, fun k x hk => hA x (List.mem_of_getElem? hk)⟩
  have h1 : (ws.map Prod.fst)[i]? = some x.1 := by rw [List.getElem?_map, hi]; rfl
  have h2 : (ws.map Prod.fst)[j]? = some x.1 := by rw [List.getElem?_map, hj, e]; rfl
  exact tw_ndj h h1 h2
theorem dv_mem {A : Nat → Prop} {ws : va_W} (h : va_D A ws) {x : Nat × va_E} (hx : x ∈ ws) : A x.1 := by
  obtain ⟨k, hk⟩ := List.getElem?_of_mem hx
  exact h.2 k x hk
theorem dv_split {A : Nat → Prop} {P Q R : va_W} (h : va_D A ((P ++ Q) ++ R)) : va_D A (P ++ R) ∧ ∀ x, x ∈ P ++ R → ∀ y, y ∈ Q → x.1 ≠ y.1 := by
  have h1 := dv_iff h
  rw [List.map_append, List.map_append, List.nodup_append, List.nodup_append] at h1
  obtain ⟨⟨n1, n2, n3⟩, n4, n5⟩ := h1
  constructor
  · refine dv_of ?_ (fun x hx => dv_mem h ?_)
    · rw [List.map_append, List.nodup_append]
      exact ⟨n1, n4, fun a ha b hb => n5 a (List.mem_append_left _ ha) b hb⟩
    · rcases List.mem_append.mp hx with hx | hx
      · exact List.mem_append_left _ (List.mem_append_left _ hx)
      · exact List.mem_append_right _ hx
  · intro x hx y hy
    have hy1 : y.1 ∈ Q.map Prod.fst := List.mem_map.mpr ⟨y, hy, rfl⟩
    rcases List.mem_append.mp hx with hx | hx
    · exact n3 x.1 (List.mem_map.mpr ⟨x, hx, rfl⟩) y.1 hy1
    · exact fun e => n5 y.1 (List.mem_append_right _ hy1) x.1 (List.mem_map.mpr ⟨x, hx, rfl⟩) e.symm
theorem pv_split {D : va_G} {cl : List vw_C} {P Q R : va_W} {H : Heap} (h : va_P D cl ((P ++ Q) ++ R) H) : va_P D cl (P ++ R) H ∧ va_P D cl Q H := by
  have key : ∀ x, x ∈ (P ++ Q) ++ R → va_at D cl x H := fun x hx => by
    obtain ⟨k, hk⟩ := List.getElem?_of_mem hx
    exact h k x hk
  constructor
  · intro k x hk
    rcases List.mem_append.mp (List.mem_of_getElem? hk) with hx | hx
    · exact key x (List.mem_append_left _ (List.mem_append_left _ hx))
    · exact key x (List.mem_append_right _ hx)
  · intro k x hk
    exact key x (List.mem_append_left _ (List.mem_append_right _ (List.mem_of_getElem? hk)))
/-- what is left of whole: a statement of pure functions alone -/
def PureP : Prop := ∀ (L : Nat) (xs : Nat → Int32), L ≤ 3072 → ∃ (K : Nat) (z8 z0 zA z1 m1 m2 : ow_MS) (SE : ow_LwS), ce_X8i_b8 K 24000 zeroS = some z8 ∧ ce_X0i_b0 K 41000 53001 zeroS = some z0 ∧ ce_X1i_b1 K 43000 zeroS = some zA ∧ ce_X1j_b1b K 43000 53001 (usZ zA [53]) = some z1 ∧ qe_X13_makeSimples_a K Z13 = some m1 ∧ qe_X13_makePermutations_a K m1 = some m2 ∧ ltrun K xs (L / 6) 0 (vl0, Zc z8 z0 z1, usZ m2 blM) = some SE
def xo11 : ow_Tb := (xl11 ++ [52001], (cX vl0).2)
