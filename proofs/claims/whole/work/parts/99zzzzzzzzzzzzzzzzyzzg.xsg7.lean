/-! signature: N_j as a sum of powers -/
def qA9 (n : Nat) (A : mQ99) (w : Nat → Rat) : Nat → Nat → Rat
  | 0 => w
  | i + 1 => qV9 n A (qA9 n A w i)
def sn9 (i : Nat) : Rat := if i % 2 = 0 then 1 else -1
section XSG7
variable {n : Nat} {A : mQ99} {w : Nat → Rat}
theorem sn_s {i : Nat} : sn9 (i + 1) = -sn9 i := by
  unfold sn9
  rcases Nat.mod_two_eq_zero_or_one i with h | h
  · rw [if_pos h, if_neg (by omega)]
  · rw [if_pos (show (i + 1) % 2 = 0 by omega), if_neg (show ¬ i % 2 = 0 by omega)]
    grind
theorem qS_hd {f : Nat → Rat} : ∀ {m : Nat}, qS9 f (m + 1) = f 0 + qS9 (fun i => f (i + 1)) m := by
  intro m
  induction m with
  | zero =>
    show (0 : Rat) + f 0 = f 0 + 0
    grind
  | succ m ih =>
    show qS9 f (m + 1) + f (m + 1) = f 0 + (qS9 (fun i => f (i + 1)) m + f (m + 1))
    rw [ih]
    grind
theorem qS_sw {f : Nat → Nat → Rat} {m : Nat} : ∀ {k : Nat}, qS9 (fun i => qS9 (fun j => f i j) m) k = qS9 (fun j => qS9 (fun i => f i j) k) m := by
  intro k
  induction k with
  | zero => exact (qS_0).symm
  | succ k ih =>
    show qS9 (fun i => qS9 (fun j => f i j) m) k + qS9 (fun j => f k j) m = qS9 (fun j => qS9 (fun i => f i j) k + f k j) m
    rw [ih, qS_add]
theorem qV_sum {c : Nat → Rat} {x : Nat → Nat → Rat} {m i : Nat} : qV9 n A (fun k => qS9 (fun l => c l * x l k) m) i = qS9 (fun l => c l * qV9 n A (x l) i) m := by
  unfold qV9
  have e1 : ∀ k, k < n → A i k * qS9 (fun l => c l * x l k) m = qS9 (fun l => c l * (A i k * x l k)) m := fun k _ => by
    rw [← qS_mul]
    exact qS_cg (fun l _ => by grind)
  rw [qS_cg e1, qS_sw]
  exact qS_cg (fun l _ => qS_mul)
theorem qN_poly {E : Nat → Rat} (h0 : E 0 = 1) : ∀ j, qN9 n A E w j = fun i => qS9 (fun l => (sn9 l * E (j - l)) * qA9 n A w l i) (j + 1) := by
  intro j
  induction j with
  | zero =>
    funext i
    show w i = 0 + (sn9 0 * E 0) * w i
    rw [h0, show sn9 0 = 1 from rfl]
    grind
  | succ j ih =>
    funext i
    show E (j + 1) * w i - qV9 n A (qN9 n A E w j) i = _
    rw [ih, qV_sum, qS_hd (m := j + 1) (f := fun l => (sn9 l * E (j + 1 - l)) * qA9 n A w l i)]
    have e : qS9 (fun l => (sn9 (l + 1) * E (j + 1 - (l + 1))) * qA9 n A w (l + 1) i) (j + 1) = -qS9 (fun l => (sn9 l * E (j - l)) * qV9 n A (qA9 n A w l) i) (j + 1) := by
      rw [← qS_neg]
      refine qS_cg (fun l _ => ?_)
      rw [sn_s, show j + 1 - (l + 1) = j - l by omega]
      show -sn9 l * E (j - l) * qV9 n A (qA9 n A w l) i = _
      grind
    rw [e, show sn9 0 = 1 from rfl]
    show E (j + 1) * w i - _ = 1 * E (j + 1) * w i + _
    grind
end XSG7
