/-! signature: traces -/
/-- the trace of the i-th power -/
def qT9 (n : Nat) (A : mQ99) (i : Nat) : Rat := qS9 (fun c => qA9 n A (dl9 c) i c) n
section XSG8
variable {n : Nat} {A : mQ99} {E : Nat → Rat}
theorem tr_N (h0 : E 0 = 1) (j : Nat) : qS9 (fun c => qN9 n A E (dl9 c) j c) n = qS9 (fun l => (sn9 l * E (j - l)) * qT9 n A l) (j + 1) := by
  have e1 : ∀ c, c < n → qN9 n A E (dl9 c) j c = qS9 (fun l => (sn9 l * E (j - l)) * qA9 n A (dl9 c) l c) (j + 1) := fun c _ => by rw [qN_poly h0]
  rw [qS_cg e1, qS_sw]
  exact qS_cg (fun l _ => qS_mul)
theorem tr_0 : ∀ {n : Nat}, qT9 n A 0 = (n : Rat) := by
  intro n
  have key : ∀ m, qS9 (fun c => qA9 n A (dl9 c) 0 c) m = (m : Rat) := by
    intro m
    induction m with
    | zero => rfl
    | succ m ih =>
      show qS9 (fun c => qA9 n A (dl9 c) 0 c) m + dl9 m m = ((m + 1 : Nat) : Rat)
      rw [ih, show dl9 m m = 1 from if_pos rfl]
      simp
  exact key n
end XSG8
