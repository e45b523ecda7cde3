/-! signature: as many squares as changes of sign -/
/-- vectors at right angles by the form: a with a positive square, b with a negative one -/
def dt9 (n : Nat) (A : mQ99) (a : Nat) (fp : Nat → Nat → Rat) (b : Nat) (fn : Nat → Nat → Rat) : Prop := (∀ i, i < a → 0 < fA9 n A (fp i) (fp i)) ∧ (∀ i, i < b → fA9 n A (fn i) (fn i) < 0) ∧ (∀ i j, i < a → j < a → i ≠ j → fA9 n A (fp i) (fp j) = 0) ∧ (∀ i j, i < b → j < b → i ≠ j → fA9 n A (fn i) (fn j) = 0) ∧ ∀ i j, i < a → j < b → fA9 n A (fp i) (fn j) = 0
section XSGI
variable {n : Nat} {A : mQ99}
theorem dt_pos (hs : smQ9 n A) {a b : Nat} {fp fn : Nat → Nat → Rat} (h : dt9 n A a fp b fn) (c : Nat → Rat) (hc : ∃ i, i < a ∧ c i ≠ 0) : 0 < fA9 n A (cbQ9 a fp c) (cbQ9 a fp c) := by
  obtain ⟨h1, h2, h3, h4, h5⟩ := h
  rw [fA_sq hs h3]
  obtain ⟨i, hi, hne⟩ := hc
  exact qS_ps (fun l hl => Rat.mul_nonneg (sq_nn9 (c l)) (Rat.le_of_lt (h1 l hl))) ⟨i, hi, Rat.mul_pos (sq_ps9 hne) (h1 i hi)⟩
theorem dt_neg (hs : smQ9 n A) {a b : Nat} {fp fn : Nat → Nat → Rat} (h : dt9 n A a fp b fn) (c : Nat → Rat) (hc : ∃ i, i < b ∧ c i ≠ 0) : fA9 n A (cbQ9 b fn c) (cbQ9 b fn c) < 0 := by
  obtain ⟨h1, h2, h3, h4, h5⟩ := h
  rw [fA_sq hs h4]
  obtain ⟨i, hi, hne⟩ := hc
  have a1 : 0 < qS9 (fun l => -(c l * c l * fA9 n A (fn l) (fn l))) b := qS_ps (fun l hl => by
    have := Rat.mul_nonneg (sq_nn9 (c l)) (show 0 ≤ -fA9 n A (fn l) (fn l) by
      have := h2 l hl
      grind)
    grind) ⟨i, hi, by
    have := Rat.mul_pos (sq_ps9 hne) (show 0 < -fA9 n A (fn i) (fn i) by
      have := h2 i hi
      grind)
    grind⟩
  rw [qS_neg] at a1
  grind
theorem dt_le (hs : smQ9 n A) {a b : Nat} {fp fn : Nat → Nat → Rat} (h : dt9 n A a fp b fn) : a ≤ vP9 A n ∧ b ≤ vM9 A n := ⟨vP_sp hs (dt_pos hs h), vM_sp hs (dt_neg hs h)⟩
/-- as many as there can be -/
theorem dt_max (hs : smQ9 n A) : ∀ (r a b : Nat) (fp fn : Nat → Nat → Rat), dt9 n A a fp b fn → n ≤ a + b + r → ∃ a2 b2 fp2 fn2, dt9 n A a2 fp2 b2 fn2 ∧ ∀ x, (∀ i, i < a2 → fA9 n A (fp2 i) x = 0) → (∀ i, i < b2 → fA9 n A (fn2 i) x = 0) → fA9 n A x x = 0 := by
  intro r
  induction r with
  | zero =>
    intro a b fp fn h hn
    refine ⟨a, b, fp, fn, h, fun x h1 h2 => ?_⟩
    have key : ∀ (a b : Nat) (fp fn : Nat → Nat → Rat), dt9 n A a fp b fn → a + b ≤ n := fun a b fp fn h => by
      have a1 := dt_le hs h
      have a2 := v_sum (A := A) (n := n)
      omega
    obtain ⟨p1, p2, p3, p4, p5⟩ := h
    by_cases h0 : fA9 n A x x = 0
    · exact h0
    · rcases Rat.le_total (a := 0) (b := fA9 n A x x) with h9 | h9
      · have hp : 0 < fA9 n A x x := Rat.lt_of_le_of_ne h9 (fun h => h0 h.symm)
        have e1 : ∀ i, i < a → (fun i => if i = a then x else fp i) i = fp i := fun i hi => if_neg (by omega)
        have e2 : (fun i => if i = a then x else fp i) a = x := if_pos rfl
        have := key (a + 1) b (fun i => if i = a then x else fp i) fn ⟨fun i hi => by
          by_cases h8 : i = a
          · rw [h8, e2]
            exact hp
          · rw [e1 i (by omega)]
            exact p1 i (by omega), p2, fun i j hi hj hij => by
          by_cases h8 : i = a
          · rw [h8, e2, e1 j (by omega), fA_cm hs]
            exact h1 j (by omega)
          · by_cases h7 : j = a
            · rw [h7, e2, e1 i (by omega)]
              exact h1 i (by omega)
            · rw [e1 i (by omega), e1 j (by omega)]
              exact p3 i j (by omega) (by omega) hij, p4, fun i j hi hj => by
          by_cases h8 : i = a
          · rw [h8, e2, fA_cm hs]
            exact h2 j hj
          · rw [e1 i (by omega)]
            exact p5 i j (by omega) hj⟩
        omega
      · have hp : fA9 n A x x < 0 := Rat.lt_of_le_of_ne h9 h0
        have e1 : ∀ i, i < b → (fun i => if i = b then x else fn i) i = fn i := fun i hi => if_neg (by omega)
        have e2 : (fun i => if i = b then x else fn i) b = x := if_pos rfl
        have := key a (b + 1) fp (fun i => if i = b then x else fn i) ⟨p1, fun i hi => by
          by_cases h8 : i = b
          · rw [h8, e2]
            exact hp
          · rw [e1 i (by omega)]
            exact p2 i (by omega), p3, fun i j hi hj hij => by
          by_cases h8 : i = b
          · rw [h8, e2, e1 j (by omega), fA_cm hs]
            exact h2 j (by omega)
          · by_cases h7 : j = b
            · rw [h7, e2, e1 i (by omega)]
              exact h2 i (by omega)
            · rw [e1 i (by omega), e1 j (by omega)]
              exact p4 i j (by omega) (by omega) hij, fun i j hi hj => by
          by_cases h8 : j = b
          · rw [h8, e2]
            exact h1 i hi
          · rw [e1 j (by omega)]
            exact p5 i j hi (by omega)⟩
        omega
  | succ r ih =>
    intro a b fp fn h hn
    by_cases hx : ∃ x, (∀ i, i < a → fA9 n A (fp i) x = 0) ∧ (∀ i, i < b → fA9 n A (fn i) x = 0) ∧ fA9 n A x x ≠ 0
    · obtain ⟨x, h1, h2, h0⟩ := hx
      obtain ⟨p1, p2, p3, p4, p5⟩ := h
      rcases Rat.le_total (a := 0) (b := fA9 n A x x) with h9 | h9
      · have hp : 0 < fA9 n A x x := Rat.lt_of_le_of_ne h9 (fun h => h0 h.symm)
        have e1 : ∀ i, i < a → (fun i => if i = a then x else fp i) i = fp i := fun i hi => if_neg (by omega)
        have e2 : (fun i => if i = a then x else fp i) a = x := if_pos rfl
        exact ih (a + 1) b (fun i => if i = a then x else fp i) fn ⟨fun i hi => by
          by_cases h8 : i = a
          · rw [h8, e2]
            exact hp
          · rw [e1 i (by omega)]
            exact p1 i (by omega), p2, fun i j hi hj hij => by
          by_cases h8 : i = a
          · rw [h8, e2, e1 j (by omega), fA_cm hs]
            exact h1 j (by omega)
          · by_cases h7 : j = a
            · rw [h7, e2, e1 i (by omega)]
              exact h1 i (by omega)
            · rw [e1 i (by omega), e1 j (by omega)]
              exact p3 i j (by omega) (by omega) hij, p4, fun i j hi hj => by
          by_cases h8 : i = a
          · rw [h8, e2, fA_cm hs]
            exact h2 j hj
          · rw [e1 i (by omega)]
            exact p5 i j (by omega) hj⟩ (by omega)
      · have hp : fA9 n A x x < 0 := Rat.lt_of_le_of_ne h9 h0
        have e1 : ∀ i, i < b → (fun i => if i = b then x else fn i) i = fn i := fun i hi => if_neg (by omega)
        have e2 : (fun i => if i = b then x else fn i) b = x := if_pos rfl
        exact ih a (b + 1) fp (fun i => if i = b then x else fn i) ⟨p1, fun i hi => by
          by_cases h8 : i = b
          · rw [h8, e2]
            exact hp
          · rw [e1 i (by omega)]
            exact p2 i (by omega), p3, fun i j hi hj hij => by
          by_cases h8 : i = b
          · rw [h8, e2, e1 j (by omega), fA_cm hs]
            exact h2 j (by omega)
          · by_cases h7 : j = b
            · rw [h7, e2, e1 i (by omega)]
              exact h2 i (by omega)
            · rw [e1 i (by omega), e1 j (by omega)]
              exact p4 i j (by omega) (by omega) hij, fun i j hi hj => by
          by_cases h8 : j = b
          · rw [h8, e2]
            exact h1 i hi
          · rw [e1 j (by omega)]
            exact p5 i j hi (by omega)⟩ (by omega)
    · refine ⟨a, b, fp, fn, h, fun x h1 h2 => ?_⟩
      by_cases h0 : fA9 n A x x = 0
      · exact h0
      · exact absurd ⟨x, h1, h2, h0⟩ hx
/-- what is left when the parts along the vectors are taken away -/
theorem dt_rest (hs : smQ9 n A) {a : Nat} {f : Nat → Nat → Rat} (ho : ∀ i j, i < a → j < a → i ≠ j → fA9 n A (f i) (f j) = 0) (hn : ∀ i, i < a → fA9 n A (f i) (f i) ≠ 0) (x : Nat → Rat) : ∀ i, i < a → fA9 n A (f i) (fun e => 1 * x e + -1 * cbQ9 a f (fun l => fA9 n A (f l) x * (fA9 n A (f l) (f l))⁻¹) e) = 0 := by
  intro i hi
  rw [fA_lR, fA_R]
  have e : ∀ l, l < a → fA9 n A (f l) x * (fA9 n A (f l) (f l))⁻¹ * fA9 n A (f i) (f l) = dl9 i l * (fA9 n A (f l) x * (fA9 n A (f l) (f l))⁻¹ * fA9 n A (f i) (f l)) := fun l hl => by
    by_cases h9 : l = i
    · rw [show dl9 i l = 1 from if_pos h9, Rat.one_mul]
    · rw [ho i l hi hl (fun h => h9 h.symm)]
      grind
  rw [qS_cg e]
  have e2 := qD_dl (x := fun l => fA9 n A (f l) x * (fA9 n A (f l) (f l))⁻¹ * fA9 n A (f i) (f l)) hi
  unfold qD9 at e2
  rw [e2]
  have e3 := Rat.inv_mul_cancel _ (hn i hi)
  grind
/-- the numbers of squares are the changes of sign -/
theorem dt_ex (hs : smQ9 n A) : ∃ fn : Nat → Nat → Rat, (∀ x, (∀ i, i < vM9 A n → fA9 n A (fn i) x = 0) → 0 ≤ fA9 n A x x) ∧ ∀ c : Nat → Rat, (∃ i, i < vM9 A n ∧ c i ≠ 0) → fA9 n A (cbQ9 (vM9 A n) fn c) (cbQ9 (vM9 A n) fn c) < 0 := by
  obtain ⟨a, b, fp, fn, hd, hm⟩ := dt_max hs n 0 0 (fun _ _ => 0) (fun _ _ => 0) ⟨fun i hi => absurd hi (by omega), fun i hi => absurd hi (by omega), fun i j hi => absurd hi (by omega), fun i j hi => absurd hi (by omega), fun i j hi => absurd hi (by omega)⟩ (by omega)
  have hle := dt_le hs hd
  have hneg := dt_neg hs hd
  obtain ⟨p1, p2, p3, p4, p5⟩ := hd
  have n1 : ∀ i, i < a → fA9 n A (fp i) (fp i) ≠ 0 := fun i hi h => by
    have := p1 i hi
    rw [h] at this
    exact absurd this (by decide)
  have n2 : ∀ i, i < b → fA9 n A (fn i) (fn i) ≠ 0 := fun i hi h => by
    have := p2 i hi
    rw [h] at this
    exact absurd this (by decide)
  -- at right angles to all: 0 with every vector
  have rad : ∀ x, (∀ i, i < a → fA9 n A (fp i) x = 0) → (∀ i, i < b → fA9 n A (fn i) x = 0) → ∀ y, fA9 n A x y = 0 := by
    intro x h1 h2 y
    have r1 := dt_rest hs p3 n1 y
    generalize hc1 : (fun l => fA9 n A (fp l) y * (fA9 n A (fp l) (fp l))⁻¹) = c1 at r1
    generalize hy1 : (fun e => 1 * y e + -1 * cbQ9 a fp c1 e) = y1 at r1
    have r2 := dt_rest hs p4 n2 y1
    generalize hc2 : (fun l => fA9 n A (fn l) y1 * (fA9 n A (fn l) (fn l))⁻¹) = c2 at r2
    have r3 : ∀ i, i < a → fA9 n A (fp i) (fun e => 1 * y1 e + -1 * cbQ9 b fn c2 e) = 0 := fun i hi => by
      rw [fA_lR, r1 i hi, fA_R, qS_cg (g := fun _ => 0) (fun l hl => by rw [p5 i l hi hl, Rat.mul_zero]), qS_0]
      grind
    generalize hy2 : (fun e => 1 * y1 e + -1 * cbQ9 b fn c2 e) = y2 at r2 r3
    have q1 := hm y2 r3 r2
    have q2 := hm x h1 h2
    have q3 := hm (fun e => 1 * x e + 1 * y2 e) (fun i hi => by rw [fA_lR, h1 i hi, r3 i hi]; grind) (fun i hi => by rw [fA_lR, h2 i hi, r2 i hi]; grind)
    rw [fA_lR, fA_lL hs, fA_lL hs, q1, q2, fA_cm hs y2 x] at q3
    have q4 : fA9 n A x y2 = 0 := by grind
    have q5 : fA9 n A x y1 = 0 := by
      rw [← hy2, fA_lR, fA_R, qS_cg (g := fun _ => 0) (fun l hl => by rw [fA_cm hs, h2 l hl, Rat.mul_zero]), qS_0] at q4
      grind
    rw [← hy1, fA_lR, fA_R, qS_cg (g := fun _ => 0) (fun l hl => by rw [fA_cm hs, h1 l hl, Rat.mul_zero]), qS_0] at q5
    grind
  have rk := rk_E (A := A) (n := n) (g := fun _ => 1) (b := a + b) (fun _ _ => by decide) (sm_sy hs) (fun e => if e < a then qV9 n A (fp e) else qV9 n A (fn (e - a))) (by
    have a2 := v_sum (A := A) (n := n)
    omega) (fun x hx i hi => by
    have h1 : ∀ i, i < a → fA9 n A (fp i) x = 0 := fun i hi => by
      have := hx i (by omega)
      rw [if_pos hi, qD_cm] at this
      rw [fA_cm hs]
      exact this
    have h2 : ∀ i, i < b → fA9 n A (fn i) x = 0 := fun i hi => by
      have := hx (a + i) (by omega)
      rw [if_neg (by omega), show a + i - a = i by omega, qD_cm] at this
      rw [fA_cm hs]
      exact this
    have := rad x h1 h2 (dl9 i)
    rw [fA_cm hs] at this
    have e : fA9 n A (dl9 i) x = qV9 n A x i := qD_dl hi
    rw [← e]
    exact this)
  have eb : vM9 A n = b := by omega
  rw [eb]
  refine ⟨fn, fun x hx => ?_, hneg⟩
  have r1 := dt_rest hs p3 n1 x
  generalize hc1 : (fun l => fA9 n A (fp l) x * (fA9 n A (fp l) (fp l))⁻¹) = c1 at r1
  have r2 : ∀ i, i < b → fA9 n A (fn i) (fun e => 1 * x e + -1 * cbQ9 a fp c1 e) = 0 := fun i hi => by
    rw [fA_lR, hx i hi, fA_R, qS_cg (g := fun _ => 0) (fun l hl => by rw [fA_cm hs, p5 l i hl hi, Rat.mul_zero]), qS_0]
    grind
  generalize hy1 : (fun e => 1 * x e + -1 * cbQ9 a fp c1 e) = y1 at r1 r2
  have q1 := hm y1 r1 r2
  have ex : fA9 n A x x = fA9 n A (fun e => 1 * y1 e + 1 * cbQ9 a fp c1 e) (fun e => 1 * y1 e + 1 * cbQ9 a fp c1 e) := by
    refine fA_cg (fun e _ => ?_) (fun e _ => ?_)
    · rw [← hy1]
      grind
    · rw [← hy1]
      grind
  have ey : fA9 n A y1 (cbQ9 a fp c1) = 0 := by
    rw [fA_R, qS_cg (g := fun _ => 0) (fun l hl => by rw [fA_cm hs, r1 l hl, Rat.mul_zero]), qS_0]
  have es : 0 ≤ fA9 n A (cbQ9 a fp c1) (cbQ9 a fp c1) := by
    rw [fA_sq hs p3]
    exact qS_nn (fun l hl => Rat.mul_nonneg (sq_nn9 (c1 l)) (Rat.le_of_lt (p1 l hl)))
  rw [ex, fA_lR, fA_lL hs, fA_lL hs, fA_cm hs (cbQ9 a fp c1) y1, q1, ey]
  grind
end XSGI
