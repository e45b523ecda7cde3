/-! signature: tr N_j = (n - j) e_j -/
section XSGB
variable {A : mQ99}
theorem trE_0 {n : Nat} {E : Nat → Rat} : qS9 (fun c => qN9 n A E (dl9 c) 0 c) n = (n : Rat) := tr_0 (A := A) (n := n)
theorem cs_s {m : Nat} : ((m + 1 : Nat) : Rat) = (m : Rat) + 1 := by simp
/-- what the row at the border adds to the trace -/
theorem trE_r {n : Nat} (x : Nat → Rat) (m : Nat) : qS9 (fun c => qN9 (n + 1) A (qE9 A (n + 1)) (dl9 c) (m + 1) n * x c) n = -qD9 n (A n) (qN9 n A (qE9 A n) x m) := by
  have e1 : qS9 (fun c => qN9 (n + 1) A (qE9 A (n + 1)) (dl9 c) (m + 1) n * x c) n = qS9 (fun c => -(x c * qN9 n (tA9 A) (qE9 A n) (A n) m c)) n := qS_cg (fun c hc => by
    rw [qN_row hc, if_neg (by omega), show m + 1 - 1 = m by omega]
    grind)
  have e2 : qS9 (fun c => x c * qN9 n (tA9 A) (qE9 A n) (A n) m c) n = qD9 n x (qN9 n (tA9 A) (qE9 A n) (A n) m) := rfl
  rw [e1, qS_neg, e2, qN_adj qE_0, qD_cm]
theorem trE_r0 {n : Nat} (x : Nat → Rat) : qS9 (fun c => qN9 (n + 1) A (qE9 A (n + 1)) (dl9 c) 0 n * x c) n = 0 := by
  rw [qS_cg (g := fun _ => 0) (fun c hc => by rw [qN_row hc, if_pos rfl]; exact Rat.zero_mul _), qS_0]
/-- the trace of the block -/
theorem trE_b {n : Nat} (j : Nat) : qS9 (fun c => qN9 (n + 1) A (qE9 A (n + 1)) (dl9 c) j c) n = qS9 (fun l => sn9 l * qE9 A (n + 1) (j - l) * qT9 n A l) (j + 1) - qS9 (fun l => sn9 l * qS9 (fun c => qN9 (n + 1) A (qE9 A (n + 1)) (dl9 c) (j - 1 - l) n * qA9 n A (fun i => A i n) l c) n) j := by
  have e1 : qS9 (fun c => qN9 (n + 1) A (qE9 A (n + 1)) (dl9 c) j c) n = qS9 (fun c => qS9 (fun l => sn9 l * qE9 A (n + 1) (j - l) * qA9 n A (dl9 c) l c) (j + 1) + -qS9 (fun l => sn9 l * (qN9 (n + 1) A (qE9 A (n + 1)) (dl9 c) (j - 1 - l) n * qA9 n A (fun i => A i n) l c)) j) n := qS_cg (fun c hc => by
    rw [qN_blk hc (qE9 A (n + 1)) qE_0 j c hc]
    have e2 : qS9 (fun l => sn9 l * qN9 (n + 1) A (qE9 A (n + 1)) (dl9 c) (j - 1 - l) n * qA9 n A (fun i => A i n) l c) j = qS9 (fun l => sn9 l * (qN9 (n + 1) A (qE9 A (n + 1)) (dl9 c) (j - 1 - l) n * qA9 n A (fun i => A i n) l c)) j := qS_cg (fun l _ => Rat.mul_assoc _ _ _)
    rw [e2]
    grind)
  rw [e1, qS_add, qS_neg, qS_sw (m := j + 1) (k := n), qS_sw (m := j) (k := n)]
  have e3 : qS9 (fun l => qS9 (fun c => sn9 l * qE9 A (n + 1) (j - l) * qA9 n A (dl9 c) l c) n) (j + 1) = qS9 (fun l => sn9 l * qE9 A (n + 1) (j - l) * qT9 n A l) (j + 1) := qS_cg (fun l _ => qS_mul)
  have e4 : qS9 (fun l => qS9 (fun c => sn9 l * (qN9 (n + 1) A (qE9 A (n + 1)) (dl9 c) (j - 1 - l) n * qA9 n A (fun i => A i n) l c)) n) j = qS9 (fun l => sn9 l * qS9 (fun c => qN9 (n + 1) A (qE9 A (n + 1)) (dl9 c) (j - 1 - l) n * qA9 n A (fun i => A i n) l c) n) j := qS_cg (fun l _ => qS_mul)
  rw [e3, e4]
  grind
/-- THE TRACE: tr N_j = (n - j) e_j -/
theorem tr_E : ∀ n j, qS9 (fun c => qN9 n A (qE9 A n) (dl9 c) j c) n = ((n : Rat) - (j : Rat)) * qE9 A n j := by
  intro n
  induction n with
  | zero =>
    intro j
    show (0 : Rat) = (((0 : Nat) : Rat) - (j : Rat)) * (if j = 0 then 1 else 0)
    by_cases h : j = 0
    · subst h
      simp
      grind
    · rw [if_neg h]
      exact (Rat.mul_zero _).symm
  | succ n ih =>
    intro j
    have ihT : ∀ j, qS9 (fun l => sn9 l * qE9 A n (j - l) * qT9 n A l) (j + 1) = ((n : Rat) - (j : Rat)) * qE9 A n j := fun j => by
      rw [← ih j, tr_N qE_0]
    cases j with
    | zero =>
      rw [trE_0, qE_0]
      simp
      grind
    | succ j =>
      show qS9 (fun c => qN9 (n + 1) A (qE9 A (n + 1)) (dl9 c) (j + 1) c) n + qN9 (n + 1) A (qE9 A (n + 1)) (dl9 n) (j + 1) n = _
      rw [(qN_col (j + 1)).1, trE_b]
      cases j with
      | zero =>
        have e1 : qS9 (fun l => sn9 l * qS9 (fun c => qN9 (n + 1) A (qE9 A (n + 1)) (dl9 c) (0 + 1 - 1 - l) n * qA9 n A (fun i => A i n) l c) n) (0 + 1) = 0 := by
          show (0 : Rat) + sn9 0 * qS9 (fun c => qN9 (n + 1) A (qE9 A (n + 1)) (dl9 c) 0 n * qA9 n A (fun i => A i n) 0 c) n = 0
          rw [trE_r0]
          grind
        have e2 := ihT 1
        have e3 : qS9 (fun l => sn9 l * qE9 A n (1 - l) * qT9 n A l) (1 + 1) = (0 + sn9 0 * qE9 A n 1 * qT9 n A 0) + sn9 1 * qE9 A n 0 * qT9 n A 1 := rfl
        have e4 : qS9 (fun l => sn9 l * qE9 A (n + 1) (0 + 1 - l) * qT9 n A l) (0 + 1 + 1) = (0 + sn9 0 * (qE9 A n 1 + A n n) * qT9 n A 0) + sn9 1 * 1 * qT9 n A 1 := rfl
        have e5 : qE9 A (n + 1) (0 + 1) = qE9 A n 1 + A n n := rfl
        rw [e3, qE_0, tr_0, show sn9 0 = 1 from rfl, show sn9 1 = -1 from rfl, show ((1 : Nat) : Rat) = 1 from rfl] at e2
        rw [e1, e4, tr_0, e5, show sn9 0 = 1 from rfl, show sn9 1 = -1 from rfl, cs_s, show ((0 + 1 : Nat) : Rat) = 1 from rfl]
        grind
      | succ m =>
        -- the second sum
        have s2 : qS9 (fun l => sn9 l * qS9 (fun c => qN9 (n + 1) A (qE9 A (n + 1)) (dl9 c) (m + 1 + 1 - 1 - l) n * qA9 n A (fun i => A i n) l c) n) (m + 1 + 1) = -qS9 (fun s => ((s : Rat) + 1) * (sn9 s * qE9 A n (m - s) * qD9 n (A n) (qA9 n A (fun i => A i n) s))) (m + 1) := by
          have e1 : qS9 (fun l => sn9 l * qS9 (fun c => qN9 (n + 1) A (qE9 A (n + 1)) (dl9 c) (m + 1 + 1 - 1 - l) n * qA9 n A (fun i => A i n) l c) n) (m + 1 + 1) = qS9 (fun l => sn9 l * qS9 (fun c => qN9 (n + 1) A (qE9 A (n + 1)) (dl9 c) (m + 1 + 1 - 1 - l) n * qA9 n A (fun i => A i n) l c) n) (m + 1) + sn9 (m + 1) * qS9 (fun c => qN9 (n + 1) A (qE9 A (n + 1)) (dl9 c) (m + 1 + 1 - 1 - (m + 1)) n * qA9 n A (fun i => A i n) (m + 1) c) n := rfl
          rw [e1, show m + 1 + 1 - 1 - (m + 1) = 0 by omega, trE_r0]
          have e2 : qS9 (fun l => sn9 l * qS9 (fun c => qN9 (n + 1) A (qE9 A (n + 1)) (dl9 c) (m + 1 + 1 - 1 - l) n * qA9 n A (fun i => A i n) l c) n) (m + 1) = qS9 (fun l => -(sn9 l * qD9 n (A n) (qN9 n A (qE9 A n) (qA9 n A (fun i => A i n) l) (m - l)))) (m + 1) := qS_cg (fun l hl => by
            rw [show m + 1 + 1 - 1 - l = (m - l) + 1 by omega, trE_r]
            grind)
          rw [e2, qS_neg]
          have e3 : qS9 (fun l => sn9 l * qD9 n (A n) (qN9 n A (qE9 A n) (qA9 n A (fun i => A i n) l) (m - l))) (m + 1) = qD9 n (A n) (fun x => qS9 (fun l => sn9 l * qN9 n A (qE9 A n) (qA9 n A (fun i => A i n) l) (m - l) x) (m + 1)) := qD_sum.symm
          have e4 : qD9 n (A n) (fun x => qS9 (fun l => sn9 l * qN9 n A (qE9 A n) (qA9 n A (fun i => A i n) l) (m - l) x) (m + 1)) = qD9 n (A n) (fun x => qS9 (fun s => ((s : Rat) + 1) * (sn9 s * qE9 A n (m - s)) * qA9 n A (fun i => A i n) s x) (m + 1)) := qD_cg (fun i _ => rfl) (fun x _ => by
            show qS9 (fun l => sn9 l * qN9 n A (qE9 A n) (qA9 n A (fun i => A i n) l) (m - l) x) (m + 1) = _
            rw [qN_A qE_0]
            exact qS_cg (fun s _ => by grind))
          have e5 : qD9 n (A n) (fun x => qS9 (fun s => ((s : Rat) + 1) * (sn9 s * qE9 A n (m - s)) * qA9 n A (fun i => A i n) s x) (m + 1)) = qS9 (fun s => ((s : Rat) + 1) * (sn9 s * qE9 A n (m - s)) * qD9 n (A n) (qA9 n A (fun i => A i n) s)) (m + 1) := qD_sum
          have e6 : qS9 (fun s => ((s : Rat) + 1) * (sn9 s * qE9 A n (m - s)) * qD9 n (A n) (qA9 n A (fun i => A i n) s)) (m + 1) = qS9 (fun s => ((s : Rat) + 1) * (sn9 s * qE9 A n (m - s) * qD9 n (A n) (qA9 n A (fun i => A i n) s))) (m + 1) := qS_cg (fun s _ => by grind)
          rw [e3, e4, e5, e6]
          grind
        -- v N_m w as a sum
        have nm : qD9 n (A n) (qN9 n A (qE9 A n) (fun i => A i n) m) = qS9 (fun s => sn9 s * qE9 A n (m - s) * qD9 n (A n) (qA9 n A (fun i => A i n) s)) (m + 1) := by
          rw [qN_poly qE_0]
          exact qD_sum
        -- the first sum
        have s1 : qS9 (fun l => sn9 l * qE9 A (n + 1) (m + 1 + 1 - l) * qT9 n A l) (m + 1 + 1 + 1) = ((n : Rat) - ((m + 1 + 1 : Nat) : Rat)) * qE9 A n (m + 1 + 1) + A n n * (((n : Rat) - ((m + 1 : Nat) : Rat)) * qE9 A n (m + 1)) - qS9 (fun s => ((n : Rat) - (m : Rat) + (s : Rat)) * (sn9 s * qE9 A n (m - s) * qD9 n (A n) (qA9 n A (fun i => A i n) s))) (m + 1) := by
          rw [← ihT (m + 1 + 1), ← ihT (m + 1)]
          have e1 : qS9 (fun l => sn9 l * qE9 A (n + 1) (m + 1 + 1 - l) * qT9 n A l) (m + 1) = qS9 (fun l => (sn9 l * qE9 A n (m + 1 + 1 - l) * qT9 n A l + A n n * (sn9 l * qE9 A n (m + 1 - l) * qT9 n A l)) + -(sn9 l * qT9 n A l * qD9 n (A n) (qN9 n A (qE9 A n) (fun i => A i n) (m - l)))) (m + 1) := qS_cg (fun l hl => by
            rw [show m + 1 + 1 - l = (m - l) + 2 by omega, show m + 1 - l = (m - l) + 1 by omega]
            show sn9 l * (qE9 A n ((m - l) + 2) + A n n * qE9 A n ((m - l) + 1) - qD9 n (A n) (qN9 n A (qE9 A n) (fun i => A i n) (m - l))) * qT9 n A l = _
            grind)
          have e2 : qS9 (fun l => sn9 l * qT9 n A l * qD9 n (A n) (qN9 n A (qE9 A n) (fun i => A i n) (m - l))) (m + 1) = qS9 (fun s => ((n : Rat) - (m : Rat) + (s : Rat)) * (sn9 s * qE9 A n (m - s) * qD9 n (A n) (qA9 n A (fun i => A i n) s))) (m + 1) := by
            have e3 : qS9 (fun l => sn9 l * qT9 n A l * qD9 n (A n) (qN9 n A (qE9 A n) (fun i => A i n) (m - l))) (m + 1) = qS9 (fun l => qS9 (fun s => sn9 l * qT9 n A l * (sn9 s * qE9 A n (m - l - s) * qD9 n (A n) (qA9 n A (fun i => A i n) s))) (m - l + 1)) (m + 1) := qS_cg (fun l _ => by
              rw [qN_poly qE_0, qD_sum, ← qS_mul])
            rw [e3, qS_tsw]
            refine qS_cg (fun s hs => ?_)
            have e4 : qS9 (fun l => sn9 l * qT9 n A l * (sn9 s * qE9 A n (m - l - s) * qD9 n (A n) (qA9 n A (fun i => A i n) s))) (m - s + 1) = qS9 (fun l => (sn9 s * qD9 n (A n) (qA9 n A (fun i => A i n) s)) * (sn9 l * qE9 A n (m - s - l) * qT9 n A l)) (m - s + 1) := qS_cg (fun l _ => by
              rw [show m - l - s = m - s - l by omega]
              grind)
            rw [e4, qS_mul, ihT]
            have e5 : ((m - s : Nat) : Rat) = (m : Rat) - (s : Rat) := by
              have e6 : ((m - s + s : Nat) : Rat) = (m : Rat) := by rw [show m - s + s = m by omega]
              have e7 : ((m - s + s : Nat) : Rat) = ((m - s : Nat) : Rat) + (s : Rat) := by simp
              grind
            rw [e5]
            grind
          have e8 : qS9 (fun l => sn9 l * qE9 A (n + 1) (m + 1 + 1 - l) * qT9 n A l) (m + 1 + 1 + 1) = qS9 (fun l => sn9 l * qE9 A (n + 1) (m + 1 + 1 - l) * qT9 n A l) (m + 1) + sn9 (m + 1) * qE9 A (n + 1) (m + 1 + 1 - (m + 1)) * qT9 n A (m + 1) + sn9 (m + 1 + 1) * qE9 A (n + 1) (m + 1 + 1 - (m + 1 + 1)) * qT9 n A (m + 1 + 1) := rfl
          have e9 : qS9 (fun l => sn9 l * qE9 A n (m + 1 + 1 - l) * qT9 n A l) (m + 1 + 1 + 1) = qS9 (fun l => sn9 l * qE9 A n (m + 1 + 1 - l) * qT9 n A l) (m + 1) + sn9 (m + 1) * qE9 A n (m + 1 + 1 - (m + 1)) * qT9 n A (m + 1) + sn9 (m + 1 + 1) * qE9 A n (m + 1 + 1 - (m + 1 + 1)) * qT9 n A (m + 1 + 1) := rfl
          have e10 : qS9 (fun l => sn9 l * qE9 A n (m + 1 - l) * qT9 n A l) (m + 1 + 1) = qS9 (fun l => sn9 l * qE9 A n (m + 1 - l) * qT9 n A l) (m + 1) + sn9 (m + 1) * qE9 A n (m + 1 - (m + 1)) * qT9 n A (m + 1) := rfl
          rw [e8, e9, e10, e1, qS_add, qS_add, qS_neg, e2, qS_mul, show m + 1 + 1 - (m + 1) = 1 by omega, show m + 1 + 1 - (m + 1 + 1) = 0 by omega, show m + 1 - (m + 1) = 0 by omega, qE_0, qE_0, show qE9 A (n + 1) 1 = qE9 A n 1 + A n n from rfl]
          grind
        have dif : qS9 (fun s => ((n : Rat) - (m : Rat) + (s : Rat)) * (sn9 s * qE9 A n (m - s) * qD9 n (A n) (qA9 n A (fun i => A i n) s))) (m + 1) = qS9 (fun s => ((s : Rat) + 1) * (sn9 s * qE9 A n (m - s) * qD9 n (A n) (qA9 n A (fun i => A i n) s))) (m + 1) + ((n : Rat) - (m : Rat) - 1) * qD9 n (A n) (qN9 n A (qE9 A n) (fun i => A i n) m) := by
          rw [nm, ← qS_mul, ← qS_add]
          exact qS_cg (fun s _ => by grind)
        have eh : qE9 A (n + 1) (m + 1 + 1) = qE9 A n (m + 2) + A n n * qE9 A n (m + 1) - qD9 n (A n) (qN9 n A (qE9 A n) (fun i => A i n) m) := rfl
        rw [s1, s2, dif, eh, cs_s, cs_s, cs_s]
        generalize qS9 (fun s => ((s : Rat) + 1) * (sn9 s * qE9 A n (m - s) * qD9 n (A n) (qA9 n A (fun i => A i n) s))) (m + 1) = S
        generalize qD9 n (A n) (qN9 n A (qE9 A n) (fun i => A i n) m) = D
        show ((n : Rat) - ((m : Rat) + 1 + 1)) * qE9 A n (m + 2) + A n n * (((n : Rat) - ((m : Rat) + 1)) * qE9 A n (m + 1)) - (S + ((n : Rat) - (m : Rat) - 1) * D) - -S + qE9 A n (m + 2) = ((n : Rat) + 1 - ((m : Rat) + 1 + 1)) * (qE9 A n (m + 2) + A n n * qE9 A n (m + 1) - D)
        grind
end XSGB
