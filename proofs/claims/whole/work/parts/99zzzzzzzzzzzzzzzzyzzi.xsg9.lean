/-! signature: sums over triangles -/
section XSG9
variable {n : Nat} {A : mQ99} {E w : Nat → Rat}
theorem qA_add {i : Nat} : ∀ l, qA9 n A (qA9 n A w i) l = qA9 n A w (i + l) := by
  intro l
  induction l with
  | zero => rfl
  | succ l ih =>
    show qV9 n A (qA9 n A (qA9 n A w i) l) = qV9 n A (qA9 n A w (i + l))
    rw [ih]
theorem sn_add {i : Nat} : ∀ l, sn9 i * sn9 l = sn9 (i + l) := by
  intro l
  induction l with
  | zero =>
    rw [show sn9 0 = 1 from rfl]
    exact Rat.mul_one _
  | succ l ih =>
    rw [sn_s, show i + (l + 1) = i + l + 1 from rfl, sn_s, ← ih]
    grind
theorem qS_c {c : Rat} : ∀ m, qS9 (fun _ => c) m = (m : Rat) * c := by
  intro m
  induction m with
  | zero =>
    show (0 : Rat) = ((0 : Nat) : Rat) * c
    simp
  | succ m ih =>
    show qS9 (fun _ => c) m + c = ((m + 1 : Nat) : Rat) * c
    rw [ih, show ((m + 1 : Nat) : Rat) = (m : Rat) + 1 by simp]
    grind
theorem qS_tri {g : Nat → Rat} : ∀ m, qS9 (fun i => qS9 (fun l => g (i + l)) (m - i + 1)) (m + 1) = qS9 (fun s => ((s : Rat) + 1) * g s) (m + 1) := by
  intro m
  induction m with
  | zero =>
    show (0 : Rat) + (0 + g (0 + 0)) = 0 + (((0 : Nat) : Rat) + 1) * g 0
    simp
    grind
  | succ m ih =>
    have e1 : qS9 (fun i => qS9 (fun l => g (i + l)) (m + 1 - i + 1)) (m + 1) = qS9 (fun i => qS9 (fun l => g (i + l)) (m - i + 1)) (m + 1) + qS9 (fun _ => g (m + 1)) (m + 1) := by
      rw [← qS_add]
      refine qS_cg (fun i hi => ?_)
      rw [show m + 1 - i + 1 = m - i + 1 + 1 by omega]
      show qS9 (fun l => g (i + l)) (m - i + 1) + g (i + (m - i + 1)) = _
      rw [show i + (m - i + 1) = m + 1 by omega]
    have e2 : qS9 (fun l => g (m + 1 + l)) (m + 1 - (m + 1) + 1) = g (m + 1) := by
      rw [show m + 1 - (m + 1) + 1 = 1 by omega]
      show (0 : Rat) + g (m + 1 + 0) = g (m + 1)
      exact Rat.zero_add _
    show qS9 (fun i => qS9 (fun l => g (i + l)) (m + 1 - i + 1)) (m + 1) + qS9 (fun l => g (m + 1 + l)) (m + 1 - (m + 1) + 1) = qS9 (fun s => ((s : Rat) + 1) * g s) (m + 1) + (((m + 1 : Nat) : Rat) + 1) * g (m + 1)
    rw [e1, e2, ih, qS_c]
    grind
/-- sum (-1)^i N_(m-i) A^i = sum (-1)^s (s + 1) e_(m-s) A^s -/
theorem qN_A (h0 : E 0 = 1) (m x : Nat) : qS9 (fun i => sn9 i * qN9 n A E (qA9 n A w i) (m - i) x) (m + 1) = qS9 (fun s => ((s : Rat) + 1) * (sn9 s * E (m - s) * qA9 n A w s x)) (m + 1) := by
  rw [← qS_tri (g := fun s => sn9 s * E (m - s) * qA9 n A w s x) m]
  refine qS_cg (fun i hi => ?_)
  rw [qN_poly h0]
  show sn9 i * qS9 (fun l => sn9 l * E (m - i - l) * qA9 n A (qA9 n A w i) l x) (m - i + 1) = _
  rw [← qS_mul]
  refine qS_cg (fun l hl => ?_)
  rw [qA_add, ← sn_add, show m - (i + l) = m - i - l by omega]
  grind
end XSG9
