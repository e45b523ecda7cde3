/-! signature: a diagonal matrix with a border -/
/-- the sum over the pairs (d, y) of y^2 g d (the other d) -/
def Rq9 (g : Rat → List Rat → Rat) : List (Rat × Rat) → Rat
  | [] => 0
  | p :: l => p.2 * p.2 * g p.1 (l.map Prod.fst) + Rq9 (fun c m => g c (p.1 :: m)) l
/-- the coefficients of a diagonal matrix with a border: corner a -/
def Ea9 (a : Rat) (l : List (Rat × Rat)) (k : Int) : Rat := el9 (l.map Prod.fst) k + a * el9 (l.map Prod.fst) (k - 1) - Rq9 (fun _ m => el9 m (k - 2)) l
section XSG4
theorem Rq_add {g h : Rat → List Rat → Rat} : ∀ {l : List (Rat × Rat)}, Rq9 (fun c m => g c m + h c m) l = Rq9 g l + Rq9 h l := by
  intro l
  induction l generalizing g h with
  | nil => exact (Rat.add_zero 0).symm
  | cons p l ih =>
    show p.2 * p.2 * (g p.1 (l.map Prod.fst) + h p.1 (l.map Prod.fst)) + Rq9 (fun c m => g c (p.1 :: m) + h c (p.1 :: m)) l = p.2 * p.2 * g p.1 (l.map Prod.fst) + Rq9 (fun c m => g c (p.1 :: m)) l + (p.2 * p.2 * h p.1 (l.map Prod.fst) + Rq9 (fun c m => h c (p.1 :: m)) l)
    rw [ih (g := fun c m => g c (p.1 :: m)) (h := fun c m => h c (p.1 :: m))]
    grind
theorem Rq_mul {s : Rat} {g : Rat → List Rat → Rat} : ∀ {l : List (Rat × Rat)}, Rq9 (fun c m => s * g c m) l = s * Rq9 g l := by
  intro l
  induction l generalizing g with
  | nil => exact (Rat.mul_zero s).symm
  | cons p l ih =>
    show p.2 * p.2 * (s * g p.1 (l.map Prod.fst)) + Rq9 (fun c m => s * g c (p.1 :: m)) l = s * (p.2 * p.2 * g p.1 (l.map Prod.fst) + Rq9 (fun c m => g c (p.1 :: m)) l)
    rw [ih (g := fun c m => g c (p.1 :: m))]
    grind
theorem Rq_nn {g : Rat → List Rat → Rat} (h : ∀ c m, 0 ≤ g c m) : ∀ {l : List (Rat × Rat)}, 0 ≤ Rq9 g l := by
  intro l
  induction l generalizing g with
  | nil => exact Rat.le_refl
  | cons p l ih =>
    have a := Rat.mul_nonneg (sq_nn p.2) (h p.1 (l.map Prod.fst))
    have b := ih (g := fun c m => g c (p.1 :: m)) (fun c m => h c (p.1 :: m))
    show 0 ≤ p.2 * p.2 * g p.1 (l.map Prod.fst) + Rq9 (fun c m => g c (p.1 :: m)) l
    grind
theorem Rq_cg {g h : Rat → List Rat → Rat} : ∀ {l : List (Rat × Rat)}, (∀ c m, (∀ k, el9 (c :: m) k = el9 (l.map Prod.fst) k) → g c m = h c m) → Rq9 g l = Rq9 h l := by
  intro l
  induction l generalizing g h with
  | nil => exact fun _ => rfl
  | cons p l ih =>
    intro H
    show p.2 * p.2 * g p.1 (l.map Prod.fst) + Rq9 (fun c m => g c (p.1 :: m)) l = p.2 * p.2 * h p.1 (l.map Prod.fst) + Rq9 (fun c m => h c (p.1 :: m)) l
    rw [H p.1 (l.map Prod.fst) (fun k => rfl), ih (g := fun c m => g c (p.1 :: m)) (h := fun c m => h c (p.1 :: m)) (fun c m hm => H c (p.1 :: m) (fun k => ?_))]
    have h1 := hm k
    have h2 := hm (k - 1)
    have e1 : el9 (c :: m) k = el9 m k + c * el9 m (k - 1) := rfl
    have e2 : el9 (c :: m) (k - 1) = el9 m (k - 1) + c * el9 m (k - 1 - 1) := rfl
    show el9 m k + p.1 * el9 m (k - 1) + c * (el9 m (k - 1) + p.1 * el9 m (k - 1 - 1)) = el9 (l.map Prod.fst) k + p.1 * el9 (l.map Prod.fst) (k - 1)
    rw [← h1, ← h2, e1, e2]
    grind
theorem arr_Q {a : Rat} {l : List (Rat × Rat)} {k : Int} : Ea9 a l k * el9 (l.map Prod.fst) k - Ea9 a l (k + 1) * el9 (l.map Prod.fst) (k - 1) = Yn9 k k (l.map Prod.fst) + Rq9 (fun _ m => Yn9 (k - 1) (k - 1) m) l := by
  have e : Rq9 (fun _ m => Yn9 (k - 1) (k - 1) m) l = Rq9 (fun c m => el9 (l.map Prod.fst) (k - 1) * el9 m (k - 1) + -el9 (l.map Prod.fst) k * el9 m (k - 2)) l := by
    refine Rq_cg (fun c m hm => ?_)
    have h1 := hm k
    have h2 := hm (k - 1)
    have e1 : el9 (c :: m) k = el9 m k + c * el9 m (k - 1) := rfl
    have e2 : el9 (c :: m) (k - 1) = el9 m (k - 1) + c * el9 m (k - 1 - 1) := rfl
    unfold Yn9
    rw [← h1, ← h2, e1, e2, show k - 1 - 1 = k - 2 by omega, show k - 1 + 1 = k by omega]
    grind
  rw [e, Rq_add (g := fun c m => el9 (l.map Prod.fst) (k - 1) * el9 m (k - 1)) (h := fun c m => -el9 (l.map Prod.fst) k * el9 m (k - 2)), Rq_mul, Rq_mul]
  unfold Ea9 Yn9
  rw [show k + 1 - 1 = k by omega, show k + 1 - 2 = k - 1 by omega]
  grind
/-- what lemma Z wants, for a diagonal matrix with a border -/
theorem arr_ge {a : Rat} {l : List (Rat × Rat)} {k : Nat} : el9 (l.map Prod.fst) k * el9 (l.map Prod.fst) k ≤ (((k : Int) : Rat) + 1) * (Ea9 a l k * el9 (l.map Prod.fst) k - Ea9 a l ((k : Int) + 1) * el9 (l.map Prod.fst) ((k : Int) - 1)) := by
  rw [arr_Q]
  have h1 := U_ge (j := k) (l := l.map Prod.fst)
  have h2 : 0 ≤ Rq9 (fun _ m => Yn9 ((k : Int) - 1) ((k : Int) - 1) m) l := Rq_nn (fun c m => U_nn k _ m (by omega))
  have hk : (0 : Rat) ≤ ((k : Int) : Rat) + 1 := by
    have : ((0 : Int) : Rat) ≤ ((k : Int) : Rat) := Rat.intCast_le_intCast.mpr (by omega)
    grind
  have h3 := Rat.mul_nonneg hk h2
  grind
end XSG4
