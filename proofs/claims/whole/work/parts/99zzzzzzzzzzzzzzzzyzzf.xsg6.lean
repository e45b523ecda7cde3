/-! signature: what lemma Z wants, by bordering -/
/-- e_j N_j - e_(j+1) N_(j-1) times a column -/
def qW9 (n : Nat) (A : mQ99) (E : Nat → Rat) (w : Nat → Rat) (j i : Nat) : Rat := E j * qN9 n A E w j i - E (j + 1) * (if j = 0 then 0 else qN9 n A E w (j - 1) i)
section XSG6
variable {n : Nat} {A : mQ99}
theorem qS_add {f g : Nat → Rat} : ∀ {n : Nat}, qS9 (fun i => f i + g i) n = qS9 f n + qS9 g n := by
  intro n
  induction n with
  | zero => exact (Rat.add_zero 0).symm
  | succ n ih =>
    show qS9 (fun i => f i + g i) n + (f n + g n) = qS9 f n + f n + (qS9 g n + g n)
    rw [ih]
    grind
theorem qS_mul {c : Rat} {f : Nat → Rat} : ∀ {n : Nat}, qS9 (fun i => c * f i) n = c * qS9 f n := by
  intro n
  induction n with
  | zero => exact (Rat.mul_zero c).symm
  | succ n ih =>
    show qS9 (fun i => c * f i) n + c * f n = c * (qS9 f n + f n)
    rw [ih]
    grind
theorem qD_lin {v x y : Nat → Rat} {a b : Rat} : qD9 n v (fun i => a * x i - b * y i) = a * qD9 n v x - b * qD9 n v y := by
  unfold qD9
  rw [qS_cg (g := fun k => a * (v k * x k) + -b * (v k * y k)) (fun k _ => by grind), qS_add, qS_mul, qS_mul]
  grind
/-- e_k(A^) e_k(A) - e_(k+1)(A^) e_(k-1)(A) = U_k(A) + v W_(k-1)(A) w -/
theorem qQ_s (k : Nat) : qE9 A (n + 1) (k + 1) * qE9 A n (k + 1) - qE9 A (n + 1) (k + 2) * qE9 A n k = (qE9 A n (k + 1) * qE9 A n (k + 1) - qE9 A n (k + 2) * qE9 A n k) + qD9 n (A n) (qW9 n A (qE9 A n) (fun i => A i n) k) := by
  cases k with
  | zero =>
    have e : qD9 n (A n) (qW9 n A (qE9 A n) (fun i => A i n) 0) = qD9 n (A n) (fun i => A i n) := by
      unfold qD9
      refine qS_cg (fun i hi => ?_)
      show A n i * (qE9 A n 0 * A i n - qE9 A n 1 * 0) = A n i * A i n
      rw [qE_0]
      grind
    rw [e, qE_0]
    show (qE9 A n 1 + A n n) * qE9 A n 1 - (qE9 A n 2 + A n n * qE9 A n 1 - qD9 n (A n) (fun i => A i n)) * 1 = _
    grind
  | succ k =>
    have e : qD9 n (A n) (qW9 n A (qE9 A n) (fun i => A i n) (k + 1)) = qE9 A n (k + 1) * qD9 n (A n) (qN9 n A (qE9 A n) (fun i => A i n) (k + 1)) - qE9 A n (k + 2) * qD9 n (A n) (qN9 n A (qE9 A n) (fun i => A i n) k) := qD_lin
    rw [e]
    show (qE9 A n (k + 2) + A n n * qE9 A n (k + 1) - qD9 n (A n) (qN9 n A (qE9 A n) (fun i => A i n) k)) * qE9 A n (k + 2) - (qE9 A n (k + 3) + A n n * qE9 A n (k + 2) - qD9 n (A n) (qN9 n A (qE9 A n) (fun i => A i n) (k + 1))) * qE9 A n (k + 1) = _
    grind
/-- the corner of W at the border -/
theorem qW_cor (k : Nat) : qW9 (n + 1) A (qE9 A (n + 1)) (dl9 n) (k + 1) n = qE9 A (n + 1) (k + 1) * qE9 A n (k + 1) - qE9 A (n + 1) (k + 2) * qE9 A n k := by
  unfold qW9
  rw [if_neg (by omega), (qN_col (k + 1)).1]
  show _ - qE9 A (n + 1) (k + 2) * qN9 (n + 1) A (qE9 A (n + 1)) (dl9 n) k n = _
  rw [(qN_col k).1]
end XSG6
