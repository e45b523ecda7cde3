/-! permutations as the class numbers them: conjugation goes through itself -/
def gSD9 (h o x : Nat) : Bool := decide (cjG (cjG h o) (cjG h x) = cjG h (cjG o x))
def gCA9 (h o : Nat) : Bool := decide (ivC (cjG h o) = cjG h (ivC o)) && decide (cjG (ivC h) (cjG h o) = o) && decide (cjG h (cjG (ivC h) o) = o) && decide (cjG h o < 24) && decide (ivC o < 24) && (decide (24 ≤ h) || decide (h < 6 ∧ o < 6 → cjG h o < 6 ∧ ivC o < 6) && decide (h < 2 ∧ o < 2 → cjG h o < 2 ∧ ivC o < 2) && decide (h < 1 ∧ o < 1 → cjG h o < 1 ∧ ivC o < 1))
theorem sd9_c : ∀ h : Fin 24, ∀ o : Fin 24, ∀ x : Fin 24, gSD9 h.val o.val x.val = true := by decide +kernel
theorem ca9_c : ∀ h : Fin 24, ∀ o : Fin 24, gCA9 h.val o.val = true := by decide +kernel
theorem sd9 {h o x : Nat} (h1 : h < 24) (h2 : o < 24) (h3 : x < 24) : cjG (cjG h o) (cjG h x) = cjG h (cjG o x) := of_decide_eq_true (sd9_c ⟨h, h1⟩ ⟨o, h2⟩ ⟨x, h3⟩)
theorem ca9 {h o : Nat} (h1 : h < 24) (h2 : o < 24) : ivC (cjG h o) = cjG h (ivC o) ∧ cjG (ivC h) (cjG h o) = o ∧ cjG h (cjG (ivC h) o) = o ∧ cjG h o < 24 ∧ ivC o < 24 := by
  have k := ca9_c ⟨h, h1⟩ ⟨o, h2⟩
  unfold gCA9 at k
  rw [Bool.and_eq_true, Bool.and_eq_true, Bool.and_eq_true, Bool.and_eq_true, Bool.and_eq_true] at k
  obtain ⟨⟨⟨⟨⟨k1, k2⟩, k3⟩, k4⟩, k5⟩, -⟩ := k
  exact ⟨of_decide_eq_true k1, of_decide_eq_true k2, of_decide_eq_true k3, of_decide_eq_true k4, of_decide_eq_true k5⟩
theorem ca9_m {m h o : Nat} (hm1 : 1 ≤ m) (hm4 : m ≤ 4) (h1 : h < thM m) (h2 : o < thM m) : cjG h o < thM m ∧ ivC o < thM m := by
  have b := (thM_le m).2
  have k := ca9_c ⟨h, by omega⟩ ⟨o, by omega⟩
  unfold gCA9 at k
  rw [Bool.and_eq_true, Bool.and_eq_true, Bool.and_eq_true, Bool.and_eq_true, Bool.and_eq_true, Bool.or_eq_true, Bool.and_eq_true, Bool.and_eq_true] at k
  obtain ⟨⟨⟨⟨⟨k1, k2⟩, k3⟩, k4⟩, k5⟩, k6⟩ := k
  have q4 : cjG h o < 24 := of_decide_eq_true k4
  have q5 : ivC o < 24 := of_decide_eq_true k5
  rcases k6 with k6 | ⟨⟨k6, k7⟩, k8⟩
  · have k6 : 24 ≤ h := of_decide_eq_true k6
    omega
  have q6 : h < 6 ∧ o < 6 → cjG h o < 6 ∧ ivC o < 6 := of_decide_eq_true k6
  have q7 : h < 2 ∧ o < 2 → cjG h o < 2 ∧ ivC o < 2 := of_decide_eq_true k7
  have q8 : h < 1 ∧ o < 1 → cjG h o < 1 ∧ ivC o < 1 := of_decide_eq_true k8
  have : m = 1 ∨ m = 2 ∨ m = 3 ∨ m = 4 := by omega
  rcases this with rfl | rfl | rfl | rfl
  · exact q8 ⟨h1, h2⟩
  · exact q7 ⟨h1, h2⟩
  · exact q6 ⟨h1, h2⟩
  · exact ⟨q4, q5⟩
