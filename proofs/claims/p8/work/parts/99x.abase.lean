/-! worlds under construction -/
def nv_val (u : Nat → Nat) (z : ow_MS) (p : Nat × Nat) : Value := if p.1 = 0 then .int (z.1 p.2) else if p.1 = 1 then .ref (u p.2) else .null
def nw_cell (X : ow_Tb) (q : Nat → ClassId) (u : Nat → Nat) (z : ow_MS) (h : Nat) : va_E := match (X.2 h).1 with
  | 0 => .inl (q 0, (X.2 h).2.1, .inl (z.2.1 h))
  | 1 => .inl (q 1, (X.2 h).2.1, .inl (z.2.1 h))
  | 2 => .inl (q 2, (X.2 h).2.1, .inr (.inl (z.2.2 h)))
  | 3 => .inl (q 3, (X.2 h).2.1, .inl (z.2.1 h))
  | 4 => .inl (q 4, (X.2 h).2.1, .inr (.inr (.inr (.inr (fun i => ((X.2 h).2.2[i]?).map (fun p => u p.2))))))
  | 5 => .inl (q 5, (X.2 h).2.1, .inr (.inr (.inr (.inr (fun i => ((X.2 h).2.2[i]?).map (fun p => u p.2))))))
  | 6 => .inl (q 6, (X.2 h).2.1, .inr (.inr (.inr (.inr (fun i => ((X.2 h).2.2[i]?).map (fun p => u p.2))))))
  | _ => .inr ((X.2 h).2.1, (X.2 h).2.2.map (nv_val u z))
def nw (X : ow_Tb) (q : Nat → ClassId) (u : Nat → Nat) (z : ow_MS) : va_W := X.1.map (fun h => (u h, nw_cell X q u z h))
/-- cells that were there stay as they are -/
theorem al_keep {X X1 : ow_Tb} {q : Nat → ClassId} {u u1 : Nat → Nat} {z z1 : ow_MS} {g : Nat} (hX : X1.2 g = X.2 g) (hu : ∀ p, p ∈ (X.2 g).2.2 → u1 p.2 = u p.2) (h1 : z1.2.1 g = z.2.1 g) (h2 : z1.2.2 g = z.2.2 g) (h0 : ∀ p, p ∈ (X.2 g).2.2 → z1.1 p.2 = z.1 p.2) : nw_cell X1 q u1 z1 g = nw_cell X q u z g := by
  have e1 : (X.2 g).2.2.map (nv_val u1 z1) = (X.2 g).2.2.map (nv_val u z) := by
    apply List.map_congr_left
    intro p hp
    unfold nv_val
    rw [hu p hp, h0 p hp]
  have e2 : (fun (i : Nat) => ((X.2 g).2.2[i]?).map (fun (p : Nat × Nat) => u1 p.2)) = (fun (i : Nat) => ((X.2 g).2.2[i]?).map (fun (p : Nat × Nat) => u p.2)) := by
    funext i
    cases hm : (X.2 g).2.2[i]? with
    | none => rfl
    | some p =>
      show some (u1 p.2) = some (u p.2)
      rw [hu p (List.mem_of_getElem? hm)]
  unfold nw_cell
  rw [hX, h1, h2, e1, e2]
def al_M (D : va_G) (cl : List vw_C) (X : ow_Tb) (q : Nat → ClassId) (A : Nat → Prop) (H0 : Heap) (u : Nat → Nat) (z : ow_MS) (H : Heap) (locs : List Loc) : Prop := va_P D cl (nw X q u z) H ∧ va_D A (nw X q u z) ∧ va_S A H0 H locs ∧ X.1.Nodup
theorem al_obj {X : ow_Tb} {q : Nat → ClassId} {u : Nat → Nat} {z : ow_MS} {o : Nat} (h : (X.2 o).1 = 9) : nw_cell X q u z o = .inr ((X.2 o).2.1, (X.2 o).2.2.map (nv_val u z)) := by
  unfold nw_cell
  rw [h]
  rfl
section ALLOC
variable {p : Program} {l : Launch} {e : Env} {R : Room} {s : State} {m : MethodId} {args : Array Value} {below : List Frame} {meth : Method} {c : Code} {H : Heap} {locs : List Loc} {cells slots : Nat} {Q : State → Prop}
variable {cc : ByteArray} {pc : Nat} {ls : Array Slot} {rest : List Value} {D : va_G} {cl : List vw_C} {A : Nat → Prop} {H0 : Heap} {X X1 : ow_Tb} {q : Nat → ClassId} {u : Nat → Nat} {z : ow_MS} {tys : List (ClassId × FieldType)}
end ALLOC
