/-! summit: which simple braids the class lists, and which begin with which -/
def orG (n : Nat) : List Nat := if n = 4 then [3, 2, 1, 8, 7, 5, 6, 4, 14, 13, 11, 12, 10, 9, 19, 17, 18, 16, 15, 22, 21, 20, 23] else if n = 3 then [2, 1, 4, 3, 5] else [1]
def chG9 (n s : Nat) : Int32 := chA9 n (pkG n s) n
theorem ls_2 : lsF 2 6 = (orG 2).map (fun t => (pkG 2 t, chG9 2 t)) := by decide +kernel
theorem ls_3 : lsF 3 6 = (orG 3).map (fun t => (pkG 3 t, chG9 3 t)) := by decide +kernel
theorem ls_4 : lsF 4 6 = (orG 4).map (fun t => (pkG 4 t, chG9 4 t)) := by decide +kernel
def gGO (n s t : Nat) : Bool := decide ((chG9 n s &&& (chG9 n t ^^^ (-1))) = 0) == decide (ddG n t s = 0)
theorem go_2 : ∀ s : Fin 2, ∀ t : Fin 2, gGO 2 s.val t.val = true := by decide +kernel
theorem go_3 : ∀ s : Fin 6, ∀ t : Fin 6, gGO 3 s.val t.val = true := by decide +kernel
theorem go_4 : ∀ s : Fin 24, ∀ t : Fin 24, gGO 4 s.val t.val = true := by decide +kernel
def gOR (n : Nat) : Bool := decide (orG n).Nodup && (List.range (gNN n)).all (fun t => decide (t = 0) || (orG n).contains t) && (orG n).all (fun t => decide (t ≠ 0 ∧ t < gNN n))
theorem or_c : ∀ n : Fin 5, 2 ≤ n.val → gOR n.val = true := by decide +kernel
section XS8B
theorem ls_n {n : Nat} (h2 : 2 ≤ n) (h4 : n ≤ 4) : lsF n 6 = (orG n).map (fun t => (pkG n t, chG9 n t)) := by
  have : n = 2 ∨ n = 3 ∨ n = 4 := by omega
  rcases this with rfl | rfl | rfl
  · exact ls_2
  · exact ls_3
  · exact ls_4
theorem go_n {n s t : Nat} (h2 : 2 ≤ n) (h4 : n ≤ 4) (hs : s < gNN n) (ht : t < gNN n) : (chG9 n s &&& (chG9 n t ^^^ (-1))) = 0 ↔ ddG n t s = 0 := by
  have k : gGO n s t = true := by
    have : n = 2 ∨ n = 3 ∨ n = 4 := by omega
    rcases this with rfl | rfl | rfl
    · exact go_2 ⟨s, hs⟩ ⟨t, ht⟩
    · exact go_3 ⟨s, hs⟩ ⟨t, ht⟩
    · exact go_4 ⟨s, hs⟩ ⟨t, ht⟩
  unfold gGO at k
  exact decide_eq_decide.mp (beq_iff_eq.mp k)
theorem or_n {n : Nat} (h2 : 2 ≤ n) (h4 : n ≤ 4) : (orG n).Nodup ∧ (∀ t, t < gNN n → t ≠ 0 → t ∈ orG n) ∧ ∀ t, t ∈ orG n → t ≠ 0 ∧ t < gNN n := by
  have k := or_c ⟨n, by omega⟩ h2
  unfold gOR at k
  rw [Bool.and_eq_true, Bool.and_eq_true] at k
  refine ⟨of_decide_eq_true k.1.1, fun t t1 t0 => ?_, fun t ht => of_decide_eq_true (List.all_eq_true.mp k.2 t ht)⟩
  have := List.all_eq_true.mp k.1.2 t (List.mem_range.mpr t1)
  rcases (Bool.or_eq_true _ _).mp this with h9 | h9
  · exact absurd (of_decide_eq_true h9) t0
  · exact List.contains_iff_mem.mp h9
end XS8B
