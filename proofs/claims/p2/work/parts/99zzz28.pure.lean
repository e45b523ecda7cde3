section
/-! 99zzzzzzzzzzzzzzzzyzzzs.xcv6 -/
/-! cover: a product of a column and a row added -/
/-- added to the first j rows -/
def upD9 (m : Nat → Nat → Int) (u v : Nat → Int) (j : Nat) : Nat → Nat → Int := fun a b => if a < j then m a b + u a * v b else m a b
section XCV6
variable {m : Nat → Nat → Int} {u v : Nat → Int}
theorem up_rw {k t : Nat} (ht : t < k) : ∀ j, j ≤ t → dtD9 k (rwD9 (upD9 m u v j) t v) = dtD9 k (rwD9 m t v) := by
  intro j
  induction j with
  | zero =>
    intro _
    refine dt_cg k (fun a b _ _ => ?_)
    unfold rwD9 upD9
    rw [if_neg (Nat.not_lt_zero a)]
  | succ j ih =>
    intro hj
    have a := dt_row (k := k) (r := j) (t := t) (m := rwD9 (upD9 m u v j) t v) (by omega) ht (by omega) (u j)
    rw [ih (by omega)] at a
    rw [← a]
    refine dt_cg k (fun x b _ _ => ?_)
    unfold rwD9 upD9
    by_cases h1 : x = j
    · rw [if_neg (show ¬ x = t from by omega), if_pos (show x < j + 1 from by omega), if_pos h1]
      dsimp only
      rw [if_neg (show ¬ j = t from by omega), if_neg (show ¬ j < j from by omega), if_pos (show t = t from rfl), h1]
    · rw [if_neg h1]
      by_cases h2 : x = t
      · rw [if_pos h2, if_pos h2]
      · rw [if_neg h2, if_neg h2]
        by_cases h3 : x < j
        · rw [if_pos h3, if_pos (by omega)]
        · rw [if_neg h3, if_neg (by omega)]
theorem up_dt {k : Nat} : ∀ j, j ≤ k → dtD9 k (upD9 m u v j) = dtD9 k m + zS9 (fun a => u a * dtD9 k (rwD9 m a v)) j := by
  intro j
  induction j with
  | zero =>
    intro _
    show _ = dtD9 k m + 0
    rw [Int.add_zero]
    refine dt_cg k (fun a b _ _ => ?_)
    unfold upD9
    rw [if_neg (Nat.not_lt_zero a)]
  | succ j ih =>
    intro hj
    have e : dtD9 k (upD9 m u v (j + 1)) = dtD9 k (rwD9 (upD9 m u v j) j (fun b => 1 * upD9 m u v j j b + u j * v b)) := by
      refine dt_cg k (fun x b _ _ => ?_)
      unfold rwD9 upD9
      by_cases h1 : x = j
      · rw [if_pos (show x < j + 1 from by omega), if_pos h1]
        dsimp only
        rw [if_neg (show ¬ j < j from by omega), h1, Int.one_mul]
      · rw [if_neg h1]
        by_cases h3 : x < j
        · rw [if_pos h3, if_pos (by omega)]
        · rw [if_neg h3, if_neg (by omega)]
    rw [e, dt_lin k j _ _ _ 1 (u j) (by omega), rw_self, up_rw (by omega) j (Nat.le_refl j), ih (by omega), Int.one_mul, Int.add_assoc]
    rfl
/-- a product of a column and a row added to all -/
theorem dt_rk1 (k : Nat) : dtD9 k (fun a b => m a b + u a * v b) = dtD9 k m + zS9 (fun a => u a * dtD9 k (rwD9 m a v)) k := by
  rw [← up_dt k (Nat.le_refl k)]
  refine dt_cg k (fun a b ha _ => ?_)
  unfold upD9
  rw [if_pos ha]
end XCV6
end
