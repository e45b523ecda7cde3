/-! signature: coefficients by bordering -/
abbrev mQ99 := Nat → Nat → Rat
def qS9 (f : Nat → Rat) : Nat → Rat
  | 0 => 0
  | n + 1 => qS9 f n + f n
/-- a matrix times a column -/
def qV9 (n : Nat) (A : mQ99) (w : Nat → Rat) (i : Nat) : Rat := qS9 (fun k => A i k * w k) n
/-- a row times a column -/
def qD9 (n : Nat) (v w : Nat → Rat) : Rat := qS9 (fun k => v k * w k) n
/-- N_j times a column, for coefficients E -/
def qN9 (n : Nat) (A : mQ99) (E : Nat → Rat) (w : Nat → Rat) : Nat → Nat → Rat
  | 0 => w
  | j + 1 => fun i => E (j + 1) * w i - qV9 n A (qN9 n A E w j) i
/-- the coefficients of the first n rows and columns -/
def qE9 (A : mQ99) : Nat → Nat → Rat
  | 0, k => if k = 0 then 1 else 0
  | n + 1, 0 => 1
  | n + 1, 1 => qE9 A n 1 + A n n
  | n + 1, k + 2 => qE9 A n (k + 2) + A n n * qE9 A n (k + 1) - qD9 n (A n) (qN9 n A (qE9 A n) (fun i => A i n) k)
def dl9 (n i : Nat) : Rat := if i = n then 1 else 0
section XSG5
theorem qS_cg {f g : Nat → Rat} : ∀ {n : Nat}, (∀ i, i < n → f i = g i) → qS9 f n = qS9 g n := by
  intro n
  induction n with
  | zero => exact fun _ => rfl
  | succ n ih =>
    intro h
    show qS9 f n + f n = qS9 g n + g n
    rw [ih (fun i hi => h i (by omega)), h n (by omega)]
theorem qS_neg {f : Nat → Rat} : ∀ {n : Nat}, qS9 (fun i => -f i) n = -qS9 f n := by
  intro n
  induction n with
  | zero => exact Rat.neg_zero.symm
  | succ n ih =>
    show qS9 (fun i => -f i) n + -f n = -(qS9 f n + f n)
    rw [ih]
    grind
theorem qS_0 : ∀ {n : Nat}, qS9 (fun _ => 0) n = 0 := by
  intro n
  induction n with
  | zero => rfl
  | succ n ih =>
    show qS9 (fun _ => 0) n + 0 = 0
    rw [ih]
    exact Rat.add_zero 0
theorem qE_0 {A : mQ99} : ∀ {n : Nat}, qE9 A n 0 = 1 := by
  intro n
  cases n with
  | zero => rfl
  | succ n => rfl
/-- the column of N_j at the border -/
theorem qN_col {n : Nat} {A : mQ99} : ∀ j, qN9 (n + 1) A (qE9 A (n + 1)) (dl9 n) j n = qE9 A n j ∧ ∀ i, i < n → qN9 (n + 1) A (qE9 A (n + 1)) (dl9 n) j i = if j = 0 then 0 else -qN9 n A (qE9 A n) (fun i => A i n) (j - 1) i := by
  have d0 : dl9 n n = 1 := if_pos rfl
  have d1 : ∀ i, i < n → dl9 n i = 0 := fun i hi => if_neg (by omega)
  intro j
  induction j with
  | zero =>
    refine ⟨?_, fun i hi => ?_⟩
    · show dl9 n n = qE9 A n 0
      rw [d0, qE_0]
    · rw [if_pos rfl]
      exact d1 i hi
  | succ j ih =>
    obtain ⟨a, b⟩ := ih
    cases j with
    | zero =>
      have e : ∀ i, qV9 (n + 1) A (qN9 (n + 1) A (qE9 A (n + 1)) (dl9 n) 0) i = A i n := fun i => by
        show qS9 (fun k => A i k * dl9 n k) n + A i n * dl9 n n = A i n
        rw [d0, qS_cg (g := fun _ => 0) (fun k hk => by rw [d1 k hk]; exact Rat.mul_zero _), qS_0]
        grind
      refine ⟨?_, fun i hi => ?_⟩
      · show (qE9 A n 1 + A n n) * dl9 n n - qV9 (n + 1) A (qN9 (n + 1) A (qE9 A (n + 1)) (dl9 n) 0) n = qE9 A n 1
        rw [e, d0]
        grind
      · rw [if_neg (by omega)]
        show (qE9 A n 1 + A n n) * dl9 n i - qV9 (n + 1) A (qN9 (n + 1) A (qE9 A (n + 1)) (dl9 n) 0) i = -(A i n)
        rw [e, d1 i hi]
        grind
    | succ j =>
      have e : ∀ i, qV9 (n + 1) A (qN9 (n + 1) A (qE9 A (n + 1)) (dl9 n) (j + 1)) i = -qS9 (fun k => A i k * qN9 n A (qE9 A n) (fun i => A i n) j k) n + A i n * qE9 A n (j + 1) := fun i => by
        show qS9 (fun k => A i k * qN9 (n + 1) A (qE9 A (n + 1)) (dl9 n) (j + 1) k) n + A i n * qN9 (n + 1) A (qE9 A (n + 1)) (dl9 n) (j + 1) n = _
        rw [a, ← qS_neg]
        refine congrArg (fun s => s + A i n * qE9 A n (j + 1)) (qS_cg (fun k hk => ?_))
        rw [b k hk, if_neg (by omega)]
        show A i k * -qN9 n A (qE9 A n) (fun i => A i n) j k = _
        grind
      refine ⟨?_, fun i hi => ?_⟩
      · show (qE9 A n (j + 2) + A n n * qE9 A n (j + 1) - qD9 n (A n) (qN9 n A (qE9 A n) (fun i => A i n) j)) * dl9 n n - qV9 (n + 1) A (qN9 (n + 1) A (qE9 A (n + 1)) (dl9 n) (j + 1)) n = qE9 A n (j + 2)
        rw [e, d0]
        unfold qD9
        grind
      · rw [if_neg (by omega)]
        show qE9 A (n + 1) (j + 2) * dl9 n i - qV9 (n + 1) A (qN9 (n + 1) A (qE9 A (n + 1)) (dl9 n) (j + 1)) i = -(qE9 A n (j + 1) * A i n - qS9 (fun k => A i k * qN9 n A (qE9 A n) (fun i => A i n) j k) n)
        rw [e, d1 i hi]
        grind
end XSG5
