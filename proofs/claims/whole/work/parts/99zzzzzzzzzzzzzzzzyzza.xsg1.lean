/-! signature: Newton by squares; changes of sign -/
/-- elementary symmetric sums -/
def el9 : List Rat → Int → Rat
  | [], k => if k = 0 then 1 else 0
  | d :: l, k => el9 l k + d * el9 l (k - 1)
/-- e_a e_b - e_(a-1) e_(b+1) -/
def Yn9 (a b : Int) (l : List Rat) : Rat := el9 l a * el9 l b - el9 l (a - 1) * el9 l (b + 1)
/-- the sum over the d in l of d^2 g (l without d) -/
def Rm9 (g : List Rat → Rat) : List Rat → Rat
  | [] => 0
  | d :: l => d * d * g l + Rm9 (fun m => g (d :: m)) l
section XSG1
theorem Rm_add {g h : List Rat → Rat} : ∀ {l : List Rat}, Rm9 (fun m => g m + h m) l = Rm9 g l + Rm9 h l := by
  intro l
  induction l generalizing g h with
  | nil => exact (Rat.add_zero 0).symm
  | cons d l ih =>
    show d * d * (g l + h l) + Rm9 (fun m => g (d :: m) + h (d :: m)) l = d * d * g l + Rm9 (fun m => g (d :: m)) l + (d * d * h l + Rm9 (fun m => h (d :: m)) l)
    rw [ih]
    grind
theorem Rm_mul {c : Rat} {g : List Rat → Rat} : ∀ {l : List Rat}, Rm9 (fun m => c * g m) l = c * Rm9 g l := by
  intro l
  induction l generalizing g with
  | nil => exact (Rat.mul_zero c).symm
  | cons d l ih =>
    show d * d * (c * g l) + Rm9 (fun m => c * g (d :: m)) l = c * (d * d * g l + Rm9 (fun m => g (d :: m)) l)
    rw [ih]
    grind
theorem sq_nn (d : Rat) : 0 ≤ d * d := by
  rcases Rat.le_total (a := 0) (b := d) with h | h
  · exact Rat.mul_nonneg h h
  · have h9 : 0 ≤ -d := by grind
    have := Rat.mul_nonneg h9 h9
    grind
theorem Rm_nn {g : List Rat → Rat} : ∀ {l : List Rat}, (∀ m, m.length + 1 = l.length → 0 ≤ g m) → 0 ≤ Rm9 g l := by
  intro l
  induction l generalizing g with
  | nil => exact fun _ => Rat.le_refl
  | cons d l ih =>
    intro h
    have a := Rat.mul_nonneg (sq_nn d) (h l rfl)
    have b := ih (g := fun m => g (d :: m)) (fun m hm => h (d :: m) (by
      show m.length + 1 + 1 = l.length + 1
      omega))
    show 0 ≤ d * d * g l + Rm9 (fun m => g (d :: m)) l
    grind
theorem Yn_cons {a b : Int} {d : Rat} {l : List Rat} : Yn9 a b (d :: l) = Yn9 a b l + d * (Yn9 a (b - 1) l + Yn9 (a - 1) b l) + d * d * Yn9 (a - 1) (b - 1) l := by
  show (el9 l a + d * el9 l (a - 1)) * (el9 l b + d * el9 l (b - 1)) - (el9 l (a - 1) + d * el9 l (a - 1 - 1)) * (el9 l (b + 1) + d * el9 l (b + 1 - 1)) = _
  unfold Yn9
  rw [show b + 1 - 1 = b by omega, show b - 1 + 1 = b by omega]
  grind
/-- Newton, by squares -/
theorem Rm_Y {a b : Int} {l : List Rat} : Rm9 (Yn9 (a - 1) (b - 1)) l = (a : Rat) * (el9 l a * el9 l b) - ((b + 1 : Int) : Rat) * (el9 l (a - 1) * el9 l (b + 1)) := by
  induction l generalizing a b with
  | nil =>
    show (0 : Rat) = (a : Rat) * ((if a = 0 then 1 else 0) * (if b = 0 then 1 else 0)) - ((b + 1 : Int) : Rat) * ((if a - 1 = 0 then 1 else 0) * (if b + 1 = 0 then 1 else 0))
    by_cases h1 : a = 0
    · subst h1
      rw [if_neg (show ¬ (0 : Int) - 1 = 0 by omega)]
      grind
    · rw [if_neg h1]
      by_cases h2 : b + 1 = 0
      · rw [h2]
        grind
      · rw [if_neg h2]
        grind
  | cons d l ih =>
    have e : (fun m => Yn9 (a - 1) (b - 1) (d :: m)) = (fun m => (Yn9 (a - 1) (b - 1) m + d * (Yn9 (a - 1) (b - 1 - 1) m + Yn9 (a - 1 - 1) (b - 1) m)) + d * d * Yn9 (a - 1 - 1) (b - 1 - 1) m) := funext (fun m => Yn_cons)
    show d * d * Yn9 (a - 1) (b - 1) l + Rm9 (fun m => Yn9 (a - 1) (b - 1) (d :: m)) l = _
    rw [e, Rm_add, Rm_add, Rm_mul, Rm_mul, Rm_add, ih, ih, ih, ih]
    show _ = (a : Rat) * ((el9 l a + d * el9 l (a - 1)) * (el9 l b + d * el9 l (b - 1))) - ((b + 1 : Int) : Rat) * ((el9 l (a - 1) + d * el9 l (a - 1 - 1)) * (el9 l (b + 1) + d * el9 l (b + 1 - 1)))
    unfold Yn9
    rw [show b + 1 - 1 = b by omega, show b - 1 + 1 = b by omega]
    have q1 : ((b + 1 : Int) : Rat) = (b : Rat) + 1 := by simp
    have q2 : ((a - 1 : Int) : Rat) = (a : Rat) - 1 := by simp
    rw [q1, q2]
    grind
theorem U_sq {j : Int} {l : List Rat} : ((j : Rat) + 1) * Yn9 j j l = el9 l j * el9 l j + Rm9 (Yn9 (j - 1) (j - 1)) l := by
  have h := Rm_Y (a := j) (b := j) (l := l)
  rw [h]
  unfold Yn9
  have q1 : ((j + 1 : Int) : Rat) = (j : Rat) + 1 := by simp
  rw [q1]
  grind
theorem el_neg {l : List Rat} {k : Int} (hk : k < 0) : el9 l k = 0 := by
  induction l generalizing k with
  | nil => exact if_neg (by omega)
  | cons d l ih =>
    show el9 l k + d * el9 l (k - 1) = 0
    rw [ih hk, ih (by omega)]
    grind
theorem el_0 {l : List Rat} : el9 l 0 = 1 := by
  induction l with
  | nil => rfl
  | cons d l ih =>
    show el9 l 0 + d * el9 l (0 - 1) = 1
    rw [ih, el_neg (by omega)]
    grind
theorem U_nn : ∀ (n : Nat) (j : Int) (l : List Rat), j < n → 0 ≤ Yn9 j j l := by
  intro n
  induction n with
  | zero =>
    intro j l h
    unfold Yn9
    rw [el_neg (show j < 0 by omega), el_neg (show j - 1 < 0 by omega)]
    grind
  | succ n ih =>
    intro j l h
    by_cases hj : j < 0
    · unfold Yn9
      rw [el_neg hj, el_neg (show j - 1 < 0 by omega)]
      grind
    · have h1 := U_sq (j := j) (l := l)
      have h2 := sq_nn (el9 l j)
      have h3 : 0 ≤ Rm9 (Yn9 (j - 1) (j - 1)) l := Rm_nn (fun m _ => ih (j - 1) m (by omega))
      have hj0 : (0 : Rat) ≤ (j : Rat) := by
        have : ((0 : Int) : Rat) ≤ (j : Rat) := Rat.intCast_le_intCast.mpr (by omega)
        simpa using this
      rcases Rat.le_total (a := 0) (b := Yn9 j j l) with h4 | h4
      · exact h4
      · have h5 : 0 ≤ -Yn9 j j l := by grind
        have h6 := Rat.mul_nonneg hj0 h5
        grind
/-- Newton's inequality, with a rest -/
theorem U_ge {j : Nat} {l : List Rat} : el9 l j * el9 l j ≤ (((j : Int) : Rat) + 1) * Yn9 j j l := by
  rw [U_sq]
  have h3 : 0 ≤ Rm9 (Yn9 ((j : Int) - 1) ((j : Int) - 1)) l := Rm_nn (fun m _ => U_nn j _ m (by omega))
  grind
end XSG1
