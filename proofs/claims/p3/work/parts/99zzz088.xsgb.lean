section
/-! 99zzzzzzzzzzzzzzzzyzzk.xsgb -/
/-! signature: tr N_j = (n - j) e_j -/
section XSGB
variable {A : mQ99}
theorem trE_0 {n : Nat} {E : Nat → Rat} : qS9 (fun c => qN9 n A E (dl9 c) 0 c) n = (n : Rat) := tr_0 (A := A) (n := n)
theorem cs_s {m : Nat} : ((m + 1 : Nat) : Rat) = (m : Rat) + 1 := by simp
/-- what the row at the border adds to the trace -/
theorem trE_r {n : Nat} (x : Nat → Rat) (m : Nat) : qS9 (fun c => qN9 (n + 1) A (qE9 A (n + 1)) (dl9 c) (m + 1) n * x c) n = -qD9 n (A n) (qN9 n A (qE9 A n) x m) := by
  have e1 : qS9 (fun c => qN9 (n + 1) A (qE9 A (n + 1)) (dl9 c) (m + 1) n * x c) n = qS9 (fun c => -(x c * qN9 n (tA9 A) (qE9 A n) (A n) m c)) n := qS_cg (fun c hc => by
    rw [qN_row hc, if_neg (by omega), show m + 1 - 1 = m by omega]
    grind)
  have e2 : qS9 (fun c => x c * qN9 n (tA9 A) (qE9 A n) (A n) m c) n = qD9 n x (qN9 n (tA9 A) (qE9 A n) (A n) m) := rfl
  rw [e1, qS_neg, e2, qN_adj qE_0, qD_cm]
theorem trE_r0 {n : Nat} (x : Nat → Rat) : qS9 (fun c => qN9 (n + 1) A (qE9 A (n + 1)) (dl9 c) 0 n * x c) n = 0 := by
  rw [qS_cg (g := fun _ => 0) (fun c hc => by rw [qN_row hc, if_pos rfl]; exact Rat.zero_mul _), qS_0]
/-- the trace of the block -/
theorem trE_b {n : Nat} (j : Nat) : qS9 (fun c => qN9 (n + 1) A (qE9 A (n + 1)) (dl9 c) j c) n = qS9 (fun l => sn9 l * qE9 A (n + 1) (j - l) * qT9 n A l) (j + 1) - qS9 (fun l => sn9 l * qS9 (fun c => qN9 (n + 1) A (qE9 A (n + 1)) (dl9 c) (j - 1 - l) n * qA9 n A (fun i => A i n) l c) n) j := by
  have e1 : qS9 (fun c => qN9 (n + 1) A (qE9 A (n + 1)) (dl9 c) j c) n = qS9 (fun c => qS9 (fun l => sn9 l * qE9 A (n + 1) (j - l) * qA9 n A (dl9 c) l c) (j + 1) + -qS9 (fun l => sn9 l * (qN9 (n + 1) A (qE9 A (n + 1)) (dl9 c) (j - 1 - l) n * qA9 n A (fun i => A i n) l c)) j) n := qS_cg (fun c hc => by
    rw [qN_blk hc (qE9 A (n + 1)) qE_0 j c hc]
    have e2 : qS9 (fun l => sn9 l * qN9 (n + 1) A (qE9 A (n + 1)) (dl9 c) (j - 1 - l) n * qA9 n A (fun i => A i n) l c) j = qS9 (fun l => sn9 l * (qN9 (n + 1) A (qE9 A (n + 1)) (dl9 c) (j - 1 - l) n * qA9 n A (fun i => A i n) l c)) j := qS_cg (fun l _ => Rat.mul_assoc _ _ _)
    rw [e2]
    grind)
  rw [e1, qS_add, qS_neg, qS_sw (m := j + 1) (k := n), qS_sw (m := j) (k := n)]
  have e3 : qS9 (fun l => qS9 (fun c => sn9 l * qE9 A (n + 1) (j - l) * qA9 n A (dl9 c) l c) n) (j + 1) = qS9 (fun l => sn9 l * qE9 A (n + 1) (j - l) * qT9 n A l) (j + 1) := qS_cg (fun l _ => qS_mul)
  have e4 : qS9 (fun l => qS9 (fun c => sn9 l * (qN9 (n + 1) A (qE9 A (n + 1)) (dl9 c) (j - 1 - l) n * qA9 n A (fun i => A i n) l c)) n) j = qS9 (fun l => sn9 l * qS9 (fun c => qN9 (n + 1) A (qE9 A (n + 1)) (dl9 c) (j - 1 - l) n * qA9 n A (fun i => A i n) l c) n) j := qS_cg (fun l _ => qS_mul)
  rw [e3, e4]
  grind
/-- THE TRACE: tr N_j = (n - j) e_j -/
theorem tr_E : ∀ n j, qS9 (fun c => qN9 n A (qE9 A n) (dl9 c) j c) n = ((n : Rat) - (j : Rat)) * qE9 A n j := by
  intro n
  induction n with
  | zero =>
    intro j
    show (0 : Rat) = (((0 : Nat) : Rat) - (j : Rat)) * (if j = 0 then 1 else 0)
    by_cases h : j = 0
    · subst h
      simp
      grind
    · rw [if_neg h]
      exact (Rat.mul_zero _).symm
  | succ n ih =>
    intro j
    have ihT : ∀ j, qS9 (fun l => sn9 l * qE9 A n (j - l) * qT9 n A l) (j + 1) = ((n : Rat) - (j : Rat)) * qE9 A n j := fun j => by
      rw [← ih j, tr_N qE_0]
    cases j with
    | zero =>
      rw [trE_0, qE_0]
      simp
      grind
    | succ j =>
      show qS9 (fun c => qN9 (n + 1) A (qE9 A (n + 1)) (dl9 c) (j + 1) c) n + qN9 (n + 1) A (qE9 A (n + 1)) (dl9 n) (j + 1) n = _
      rw [(qN_col (j + 1)).1, trE_b]
      cases j with
      | zero =>
        have e1 : qS9 (fun l => sn9 l * qS9 (fun c => qN9 (n + 1) A (qE9 A (n + 1)) (dl9 c) (0 + 1 - 1 - l) n * qA9 n A (fun i => A i n) l c) n) (0 + 1) = 0 := by
          show (0 : Rat) + sn9 0 * qS9 (fun c => qN9 (n + 1) A (qE9 A (n + 1)) (dl9 c) 0 n * qA9 n A (fun i => A i n) 0 c) n = 0
          rw [trE_r0]
          grind
        have e2 := ihT 1
        have e3 : qS9 (fun l => sn9 l * qE9 A n (1 - l) * qT9 n A l) (1 + 1) = (0 + sn9 0 * qE9 A n 1 * qT9 n A 0) + sn9 1 * qE9 A n 0 * qT9 n A 1 := rfl
        have e4 : qS9 (fun l => sn9 l * qE9 A (n + 1) (0 + 1 - l) * qT9 n A l) (0 + 1 + 1) = (0 + sn9 0 * (qE9 A n 1 + A n n) * qT9 n A 0) + sn9 1 * 1 * qT9 n A 1 := rfl
        have e5 : qE9 A (n + 1) (0 + 1) = qE9 A n 1 + A n n := rfl
        rw [e3, qE_0, tr_0, show sn9 0 = 1 from rfl, show sn9 1 = -1 from rfl, show ((1 : Nat) : Rat) = 1 from rfl] at e2
        rw [e1, e4, tr_0, e5, show sn9 0 = 1 from rfl, show sn9 1 = -1 from rfl, cs_s, show ((0 + 1 : Nat) : Rat) = 1 from rfl]
        grind
      | succ m =>
        -- the second sum
        have s2 : qS9 (fun l => sn9 l * qS9 (fun c => qN9 (n + 1) A (qE9 A (n + 1)) (dl9 c) (m + 1 + 1 - 1 - l) n * qA9 n A (fun i => A i n) l c) n) (m + 1 + 1) = -qS9 (fun s => ((s : Rat) + 1) * (sn9 s * qE9 A n (m - s) * qD9 n (A n) (qA9 n A (fun i => A i n) s))) (m + 1) := by
          have e1 : qS9 (fun l => sn9 l * qS9 (fun c => qN9 (n + 1) A (qE9 A (n + 1)) (dl9 c) (m + 1 + 1 - 1 - l) n * qA9 n A (fun i => A i n) l c) n) (m + 1 + 1) = qS9 (fun l => sn9 l * qS9 (fun c => qN9 (n + 1) A (qE9 A (n + 1)) (dl9 c) (m + 1 + 1 - 1 - l) n * qA9 n A (fun i => A i n) l c) n) (m + 1) + sn9 (m + 1) * qS9 (fun c => qN9 (n + 1) A (qE9 A (n + 1)) (dl9 c) (m + 1 + 1 - 1 - (m + 1)) n * qA9 n A (fun i => A i n) (m + 1) c) n := rfl
          rw [e1, show m + 1 + 1 - 1 - (m + 1) = 0 by omega, trE_r0]
          have e2 : qS9 (fun l => sn9 l * qS9 (fun c => qN9 (n + 1) A (qE9 A (n + 1)) (dl9 c) (m + 1 + 1 - 1 - l) n * qA9 n A (fun i => A i n) l c) n) (m + 1) = qS9 (fun l => -(sn9 l * qD9 n (A n) (qN9 n A (qE9 A n) (qA9 n A (fun i => A i n) l) (m - l)))) (m + 1) := qS_cg (fun l hl => by
            rw [show m + 1 + 1 - 1 - l = (m - l) + 1 by omega, trE_r]
            grind)
          rw [e2, qS_neg]
          have e3 : qS9 (fun l => sn9 l * qD9 n (A n) (qN9 n A (qE9 A n) (qA9 n A (fun i => A i n) l) (m - l))) (m + 1) = qD9 n (A n) (fun x => qS9 (fun l => sn9 l * qN9 n A (qE9 A n) (qA9 n A (fun i => A i n) l) (m - l) x) (m + 1)) := qD_sum.symm
          have e4 : qD9 n (A n) (fun x => qS9 (fun l => sn9 l * qN9 n A (qE9 A n) (qA9 n A (fun i => A i n) l) (m - l) x) (m + 1)) = qD9 n (A n) (fun x => qS9 (fun s => ((s : Rat) + 1) * (sn9 s * qE9 A n (m - s)) * qA9 n A (fun i => A i n) s x) (m + 1)) := qD_cg (fun i _ => rfl) (fun x _ => by
            show qS9 (fun l => sn9 l * qN9 n A (qE9 A n) (qA9 n A (fun i => A i n) l) (m - l) x) (m + 1) = _
            rw [qN_A qE_0]
            exact qS_cg (fun s _ => by grind))
          have e5 : qD9 n (A n) (fun x => qS9 (fun s => ((s : Rat) + 1) * (sn9 s * qE9 A n (m - s)) * qA9 n A (fun i => A i n) s x) (m + 1)) = qS9 (fun s => ((s : Rat) + 1) * (sn9 s * qE9 A n (m - s)) * qD9 n (A n) (qA9 n A (fun i => A i n) s)) (m + 1) := qD_sum
          have e6 : qS9 (fun s => ((s : Rat) + 1) * (sn9 s * qE9 A n (m - s)) * qD9 n (A n) (qA9 n A (fun i => A i n) s)) (m + 1) = qS9 (fun s => ((s : Rat) + 1) * (sn9 s * qE9 A n (m - s) * qD9 n (A n) (qA9 n A (fun i => A i n) s))) (m + 1) := qS_cg (fun s _ => by grind)
          rw [e3, e4, e5, e6]
          grind
        -- v N_m w as a sum
        have nm : qD9 n (A n) (qN9 n A (qE9 A n) (fun i => A i n) m) = qS9 (fun s => sn9 s * qE9 A n (m - s) * qD9 n (A n) (qA9 n A (fun i => A i n) s)) (m + 1) := by
          rw [qN_poly qE_0]
          exact qD_sum
        -- the first sum
        have s1 : qS9 (fun l => sn9 l * qE9 A (n + 1) (m + 1 + 1 - l) * qT9 n A l) (m + 1 + 1 + 1) = ((n : Rat) - ((m + 1 + 1 : Nat) : Rat)) * qE9 A n (m + 1 + 1) + A n n * (((n : Rat) - ((m + 1 : Nat) : Rat)) * qE9 A n (m + 1)) - qS9 (fun s => ((n : Rat) - (m : Rat) + (s : Rat)) * (sn9 s * qE9 A n (m - s) * qD9 n (A n) (qA9 n A (fun i => A i n) s))) (m + 1) := by
          rw [← ihT (m + 1 + 1), ← ihT (m + 1)]
          have e1 : qS9 (fun l => sn9 l * qE9 A (n + 1) (m + 1 + 1 - l) * qT9 n A l) (m + 1) = qS9 (fun l => (sn9 l * qE9 A n (m + 1 + 1 - l) * qT9 n A l + A n n * (sn9 l * qE9 A n (m + 1 - l) * qT9 n A l)) + -(sn9 l * qT9 n A l * qD9 n (A n) (qN9 n A (qE9 A n) (fun i => A i n) (m - l)))) (m + 1) := qS_cg (fun l hl => by
            rw [show m + 1 + 1 - l = (m - l) + 2 by omega, show m + 1 - l = (m - l) + 1 by omega]
            show sn9 l * (qE9 A n ((m - l) + 2) + A n n * qE9 A n ((m - l) + 1) - qD9 n (A n) (qN9 n A (qE9 A n) (fun i => A i n) (m - l))) * qT9 n A l = _
            grind)
          have e2 : qS9 (fun l => sn9 l * qT9 n A l * qD9 n (A n) (qN9 n A (qE9 A n) (fun i => A i n) (m - l))) (m + 1) = qS9 (fun s => ((n : Rat) - (m : Rat) + (s : Rat)) * (sn9 s * qE9 A n (m - s) * qD9 n (A n) (qA9 n A (fun i => A i n) s))) (m + 1) := by
            have e3 : qS9 (fun l => sn9 l * qT9 n A l * qD9 n (A n) (qN9 n A (qE9 A n) (fun i => A i n) (m - l))) (m + 1) = qS9 (fun l => qS9 (fun s => sn9 l * qT9 n A l * (sn9 s * qE9 A n (m - l - s) * qD9 n (A n) (qA9 n A (fun i => A i n) s))) (m - l + 1)) (m + 1) := qS_cg (fun l _ => by
              rw [qN_poly qE_0, qD_sum, ← qS_mul])
            rw [e3, qS_tsw]
            refine qS_cg (fun s hs => ?_)
            have e4 : qS9 (fun l => sn9 l * qT9 n A l * (sn9 s * qE9 A n (m - l - s) * qD9 n (A n) (qA9 n A (fun i => A i n) s))) (m - s + 1) = qS9 (fun l => (sn9 s * qD9 n (A n) (qA9 n A (fun i => A i n) s)) * (sn9 l * qE9 A n (m - s - l) * qT9 n A l)) (m - s + 1) := qS_cg (fun l _ => by
              rw [show m - l - s = m - s - l by omega]
              grind)
            rw [e4, qS_mul, ihT]
            have e5 : ((m - s : Nat) : Rat) = (m : Rat) - (s : Rat) := by
              have e6 : ((m - s + s : Nat) : Rat) = (m : Rat) := by rw [show m - s + s = m by omega]
              have e7 : ((m - s + s : Nat) : Rat) = ((m - s : Nat) : Rat) + (s : Rat) := by simp
              grind
            rw [e5]
            grind
          have e8 : qS9 (fun l => sn9 l * qE9 A (n + 1) (m + 1 + 1 - l) * qT9 n A l) (m + 1 + 1 + 1) = qS9 (fun l => sn9 l * qE9 A (n + 1) (m + 1 + 1 - l) * qT9 n A l) (m + 1) + sn9 (m + 1) * qE9 A (n + 1) (m + 1 + 1 - (m + 1)) * qT9 n A (m + 1) + sn9 (m + 1 + 1) * qE9 A (n + 1) (m + 1 + 1 - (m + 1 + 1)) * qT9 n A (m + 1 + 1) := rfl
          have e9 : qS9 (fun l => sn9 l * qE9 A n (m + 1 + 1 - l) * qT9 n A l) (m + 1 + 1 + 1) = qS9 (fun l => sn9 l * qE9 A n (m + 1 + 1 - l) * qT9 n A l) (m + 1) + sn9 (m + 1) * qE9 A n (m + 1 + 1 - (m + 1)) * qT9 n A (m + 1) + sn9 (m + 1 + 1) * qE9 A n (m + 1 + 1 - (m + 1 + 1)) * qT9 n A (m + 1 + 1) := rfl
          have e10 : qS9 (fun l => sn9 l * qE9 A n (m + 1 - l) * qT9 n A l) (m + 1 + 1) = qS9 (fun l => sn9 l * qE9 A n (m + 1 - l) * qT9 n A l) (m + 1) + sn9 (m + 1) * qE9 A n (m + 1 - (m + 1)) * qT9 n A (m + 1) := rfl
          rw [e8, e9, e10, e1, qS_add, qS_add, qS_neg, e2, qS_mul, show m + 1 + 1 - (m + 1) = 1 by omega, show m + 1 + 1 - (m + 1 + 1) = 0 by omega, show m + 1 - (m + 1) = 0 by omega, qE_0, qE_0, show qE9 A (n + 1) 1 = qE9 A n 1 + A n n from rfl]
          grind
        have dif : qS9 (fun s => ((n : Rat) - (m : Rat) + (s : Rat)) * (sn9 s * qE9 A n (m - s) * qD9 n (A n) (qA9 n A (fun i => A i n) s))) (m + 1) = qS9 (fun s => ((s : Rat) + 1) * (sn9 s * qE9 A n (m - s) * qD9 n (A n) (qA9 n A (fun i => A i n) s))) (m + 1) + ((n : Rat) - (m : Rat) - 1) * qD9 n (A n) (qN9 n A (qE9 A n) (fun i => A i n) m) := by
          rw [nm, ← qS_mul, ← qS_add]
          exact qS_cg (fun s _ => by grind)
        have eh : qE9 A (n + 1) (m + 1 + 1) = qE9 A n (m + 2) + A n n * qE9 A n (m + 1) - qD9 n (A n) (qN9 n A (qE9 A n) (fun i => A i n) m) := rfl
        rw [s1, s2, dif, eh, cs_s, cs_s, cs_s]
        generalize qS9 (fun s => ((s : Rat) + 1) * (sn9 s * qE9 A n (m - s) * qD9 n (A n) (qA9 n A (fun i => A i n) s))) (m + 1) = S
        generalize qD9 n (A n) (qN9 n A (qE9 A n) (fun i => A i n) m) = D
        show ((n : Rat) - ((m : Rat) + 1 + 1)) * qE9 A n (m + 2) + A n n * (((n : Rat) - ((m : Rat) + 1)) * qE9 A n (m + 1)) - (S + ((n : Rat) - (m : Rat) - 1) * D) - -S + qE9 A n (m + 2) = ((n : Rat) + 1 - ((m : Rat) + 1 + 1)) * (qE9 A n (m + 2) + A n n * qE9 A n (m + 1) - D)
        grind
end XSGB
end
section
/-! 99zzzzzzzzzzzzzzzzyzzl.xsgc -/
/-! signature: more unknowns than equations; bases at right angles; the coefficients hang on the traces alone -/
/-- the product by weights g -/
def qG9 (n : Nat) (g x y : Nat → Rat) : Rat := qS9 (fun i => g i * x i * y i) n
section XSGC
variable {n : Nat}
theorem qD_l2 {v x y : Nat → Rat} {a b : Rat} : qD9 n v (fun i => a * x i + b * y i) = a * qD9 n v x + b * qD9 n v y := by
  unfold qD9
  rw [qS_cg (g := fun k => a * (v k * x k) + b * (v k * y k)) (fun k _ => by grind), qS_add, qS_mul, qS_mul]
theorem lin9 (a : Nat → Nat → Rat) : ∀ (m : Nat) (S : List Nat), S.Nodup → m < S.length → ∃ x : Nat → Rat, (∃ i, i ∈ S ∧ x i ≠ 0) ∧ (∀ i, i ∉ S → x i = 0) ∧ ∀ e, e < m → qD9 n (a e) x = 0 := by
  intro m
  induction m with
  | zero =>
    intro S hS hl
    cases S with
    | nil => exact absurd hl (Nat.lt_irrefl 0)
    | cons s S =>
      refine ⟨dl9 s, ⟨s, List.mem_cons_self, ?_⟩, fun i hi => if_neg (fun h => hi (by rw [h]; exact List.mem_cons_self)), fun e he => absurd he (by omega)⟩
      rw [show dl9 s s = 1 from if_pos rfl]
      exact fun h => absurd h (by decide)
  | succ m ih =>
    intro S hS hl
    obtain ⟨x, ⟨s, hs, hx⟩, x0, xe⟩ := ih S hS (by omega)
    have hl2 : (S.erase s).length = S.length - 1 := List.length_erase_of_mem hs
    obtain ⟨y, ⟨r, hr, hy⟩, y0, ye⟩ := ih (S.erase s) (hS.erase s) (by omega)
    have hm : ∀ i, i ∉ S → i ∉ S.erase s := fun i hi h => hi (List.mem_of_mem_erase h)
    have ys : y s = 0 := y0 s (fun h => (List.Nodup.not_mem_erase hS) h)
    by_cases hb : qD9 n (a m) y = 0
    · refine ⟨y, ⟨r, List.mem_of_mem_erase hr, hy⟩, fun i hi => y0 i (hm i hi), fun e he => ?_⟩
      by_cases h9 : e = m
      · rw [h9]
        exact hb
      · exact ye e (by omega)
    · refine ⟨fun i => qD9 n (a m) y * x i + -qD9 n (a m) x * y i, ⟨s, hs, ?_⟩, fun i hi => ?_, fun e he => ?_⟩
      · show qD9 n (a m) y * x s + -qD9 n (a m) x * y s ≠ 0
        rw [ys]
        intro h
        have h2 : qD9 n (a m) y * x s = 0 := by grind
        rcases Rat.mul_eq_zero.mp h2 with h3 | h3
        · exact hb h3
        · exact hx h3
      · show qD9 n (a m) y * x i + -qD9 n (a m) x * y i = 0
        rw [x0 i hi, y0 i (hm i hi)]
        grind
      · rw [qD_l2]
        by_cases h9 : e = m
        · rw [h9]
          grind
        · rw [xe e (by omega), ye e (by omega)]
          grind
theorem lin_n (a : Nat → Nat → Rat) {m : Nat} (h : m < n) : ∃ x : Nat → Rat, (∃ i, i < n ∧ x i ≠ 0) ∧ ∀ e, e < m → qD9 n (a e) x = 0 := by
  obtain ⟨x, ⟨i, hi, hx⟩, -, h2⟩ := lin9 (n := n) a m (List.range n) List.nodup_range (by rw [List.length_range]; exact h)
  exact ⟨x, ⟨i, List.mem_range.mp hi, hx⟩, h2⟩
/-- an inverse on one side is one on the other -/
theorem sqr9 {P Q : mQ99} (h : ∀ i, i < n → ∀ j, j < n → qS9 (fun k => Q i k * P k j) n = dl9 j i) (x : Nat → Rat) : ∀ i, i < n → qV9 n P (qV9 n Q x) i = x i := by
  obtain ⟨c, ⟨s, hs, hc⟩, h2⟩ := lin_n (n := n + 1) (fun e k => if k = n then x e else P e k) (m := n) (by omega)
  have h3 : ∀ e, e < n → qV9 n P c e + x e * c n = 0 := fun e he => by
    have := h2 e he
    have e1 : qD9 (n + 1) (fun k => if k = n then x e else P e k) c = qS9 (fun k => (if k = n then x e else P e k) * c k) n + (if n = n then x e else P e n) * c n := rfl
    rw [e1, if_pos rfl] at this
    have e2 : qS9 (fun k => (if k = n then x e else P e k) * c k) n = qV9 n P c e := qS_cg (fun k hk => by rw [if_neg (by omega)])
    rw [e2] at this
    exact this
  have qp : ∀ (z : Nat → Rat) (i : Nat), i < n → qV9 n Q (qV9 n P z) i = z i := fun z i hi => by
    unfold qV9
    have e1 : qS9 (fun k => Q i k * qS9 (fun l => P k l * z l) n) n = qS9 (fun k => qS9 (fun l => z l * (Q i k * P k l)) n) n := qS_cg (fun k _ => by
      rw [← qS_mul]
      exact qS_cg (fun l _ => by grind))
    rw [e1, qS_sw]
    have e2 : qS9 (fun l => qS9 (fun k => z l * (Q i k * P k l)) n) n = qD9 n (dl9 i) z := qS_cg (fun l hl => by
      rw [qS_mul, h i hi l hl]
      show z l * (if i = l then 1 else 0) = (if l = i then 1 else 0) * z l
      by_cases h9 : i = l
      · rw [if_pos h9, if_pos h9.symm]
        exact Rat.mul_comm _ _
      · rw [if_neg h9, if_neg (fun h => h9 h.symm)]
        exact Rat.mul_comm _ _)
    rw [e2, qD_dl hi]
  have h4 : c n ≠ 0 := by
    intro h0
    have h5 : ∀ i, i < n → c i = 0 := fun i hi => by
      rw [← qp c i hi]
      have : ∀ k, k < n → qV9 n P c k = 0 := fun k hk => by
        have := h3 k hk
        rw [h0] at this
        grind
      unfold qV9
      rw [qS_cg (g := fun _ => 0) (fun k hk => by
        have := this k hk
        unfold qV9 at this
        rw [this]
        exact Rat.mul_zero _), qS_0]
    by_cases h9 : s = n
    · exact hc (by rw [h9]; exact h0)
    · exact hc (h5 s (by omega))
  have h6 : ∀ e, e < n → x e = qV9 n P (fun k => -(c k * (c n)⁻¹)) e := fun e he => by
    have e1 : qV9 n P (fun k => -(c k * (c n)⁻¹)) e = -(c n)⁻¹ * qV9 n P c e := by
      unfold qV9
      rw [← qS_mul]
      exact qS_cg (fun k _ => by grind)
    have e2 := h3 e he
    have e3 := Rat.mul_inv_cancel (c n) h4
    rw [e1]
    grind
  intro i hi
  have e4 : ∀ k, k < n → qV9 n Q x k = -(c k * (c n)⁻¹) := fun k hk => by
    rw [qV_cg h6 k]
    exact qp _ k hk
  rw [qV_cg e4 i]
  exact (h6 i hi).symm
/-- the traces tell the coefficients -/
theorem qE_T {A B : mQ99} (h : ∀ l, qT9 n A l = qT9 n B l) : ∀ k, qE9 A n k = qE9 B n k := by
  intro k
  induction k using Nat.strongRecOn with
  | _ k ih =>
    cases k with
    | zero => rw [qE_0, qE_0]
    | succ k =>
      have e1 : ∀ C : mQ99, qS9 (fun l => sn9 (l + 1) * qE9 C n (k - l) * qT9 n C (l + 1)) (k + 1) = -((k : Rat) + 1) * qE9 C n (k + 1) := fun C => by
        have a := tr_E (A := C) n (k + 1)
        rw [tr_N qE_0, qS_hd, show sn9 0 = 1 from rfl, tr_0, cs_s] at a
        have b : qS9 (fun l => sn9 (l + 1) * qE9 C n (k + 1 - (l + 1)) * qT9 n C (l + 1)) (k + 1) = qS9 (fun l => sn9 (l + 1) * qE9 C n (k - l) * qT9 n C (l + 1)) (k + 1) := qS_cg (fun l _ => by rw [show k + 1 - (l + 1) = k - l by omega])
        rw [b, show k + 1 - 0 = k + 1 by omega] at a
        grind
      have e2 : qS9 (fun l => sn9 (l + 1) * qE9 A n (k - l) * qT9 n A (l + 1)) (k + 1) = qS9 (fun l => sn9 (l + 1) * qE9 B n (k - l) * qT9 n B (l + 1)) (k + 1) := qS_cg (fun l hl => by rw [ih (k - l) (by omega), h])
      rw [e1, e1] at e2
      have hk : (0 : Rat) < (k : Rat) + 1 := by
        rw [← cs_s]
        exact Rat.natCast_pos.mpr (by omega)
      have e3 : ((k : Rat) + 1) * (qE9 A n (k + 1) - qE9 B n (k + 1)) = 0 := by grind
      rcases Rat.mul_eq_zero.mp e3 with h9 | h9
      · rw [h9] at hk
        exact absurd hk (by decide)
      · grind
end XSGC
/-- A over another basis P (inverse Q) is B -/
def cj9 (n : Nat) (A B P Q : mQ99) : Prop := (∀ i, i < n → ∀ j, j < n → qS9 (fun k => Q i k * P k j) n = dl9 j i) ∧ ∀ (x : Nat → Rat) i, i < n → qV9 n A (qV9 n P x) i = qV9 n P (qV9 n B x) i
section XSGC2
variable {n : Nat} {A B P Q : mQ99}
theorem qA_cg {x y : Nat → Rat} (h : ∀ i, i < n → x i = y i) : ∀ l i, i < n → qA9 n A x l i = qA9 n A y l i := by
  intro l
  induction l with
  | zero => exact h
  | succ l ih => exact fun i _ => qV_cg ih i
theorem cj_A (h : cj9 n A B P Q) (x : Nat → Rat) : ∀ l i, i < n → qA9 n A (qV9 n P x) l i = qV9 n P (qA9 n B x l) i := by
  intro l
  induction l with
  | zero => exact fun i _ => rfl
  | succ l ih =>
    intro i hi
    show qV9 n A (qA9 n A (qV9 n P x) l) i = qV9 n P (qV9 n B (qA9 n B x l)) i
    rw [qV_cg ih i, h.2 _ i hi]
theorem qA_lin {c : Nat → Rat} {x : Nat → Nat → Rat} {m : Nat} : ∀ l i, i < n → qA9 n A (fun k => qS9 (fun d => c d * x d k) m) l i = qS9 (fun d => c d * qA9 n A (x d) l i) m := by
  intro l
  induction l with
  | zero => exact fun i _ => rfl
  | succ l ih =>
    intro i hi
    show qV9 n A (qA9 n A (fun k => qS9 (fun d => c d * x d k) m) l) i = qS9 (fun d => c d * qV9 n A (qA9 n A (x d) l) i) m
    rw [qV_cg ih i, qV_sum]
theorem qV_dl {x : Nat → Rat} : ∀ i, i < n → qS9 (fun d => x d * dl9 d i) n = x i := fun i hi => by
  have : qS9 (fun d => x d * dl9 d i) n = qD9 n (dl9 i) x := qS_cg (fun d _ => by
    show x d * (if i = d then 1 else 0) = (if d = i then 1 else 0) * x d
    by_cases h9 : i = d
    · rw [if_pos h9, if_pos h9.symm]
      exact Rat.mul_comm _ _
    · rw [if_neg h9, if_neg (fun h => h9 h.symm)]
      exact Rat.mul_comm _ _)
  rw [this, qD_dl hi]
theorem cj_T (h : cj9 n A B P Q) (l : Nat) : qT9 n A l = qT9 n B l := by
  unfold qT9
  have e1 : ∀ c, c < n → qA9 n A (dl9 c) l c = qS9 (fun k => qS9 (fun d => qA9 n B (dl9 d) l k * (Q d c * P c k)) n) n := fun c hc => by
    have a1 : ∀ i, i < n → dl9 c i = qV9 n P (qV9 n Q (dl9 c)) i := fun i hi => (sqr9 h.1 (dl9 c) i hi).symm
    rw [qA_cg a1 l c hc, cj_A h _ l c hc]
    have a2 : ∀ i, i < n → qV9 n Q (dl9 c) i = qS9 (fun d => Q d c * dl9 d i) n := fun i hi => by
      rw [qV_dl (x := fun d => Q d c) i hi]
      have : qV9 n Q (dl9 c) i = qD9 n (dl9 c) (Q i) := qS_cg (fun k _ => Rat.mul_comm _ _)
      rw [this, qD_dl hc]
    unfold qV9
    refine qS_cg (fun k hk => ?_)
    have a3 := qA_cg (A := B) a2 l k hk
    have a4 := qA_lin (n := n) (A := B) (c := fun d => Q d c) (x := dl9) (m := n) l k hk
    have a5 : qA9 n B (fun i => qS9 (fun k => Q i k * dl9 c k) n) l k = qS9 (fun d => Q d c * qA9 n B (dl9 d) l k) n := a3.trans a4
    rw [a5, ← qS_mul]
    exact qS_cg (fun d _ => by grind)
  rw [qS_cg e1, qS_sw]
  have e2 : ∀ k, k < n → qS9 (fun c => qS9 (fun d => qA9 n B (dl9 d) l k * (Q d c * P c k)) n) n = qA9 n B (dl9 k) l k := fun k hk => by
    rw [qS_sw]
    have a1 : ∀ d, d < n → qS9 (fun c => qA9 n B (dl9 d) l k * (Q d c * P c k)) n = dl9 k d * qA9 n B (dl9 d) l k := fun d hd => by
      rw [qS_mul, h.1 d hd k hk]
      exact Rat.mul_comm _ _
    rw [qS_cg a1]
    exact qD_dl (x := fun d => qA9 n B (dl9 d) l k) hk
  exact qS_cg e2
theorem cj_E (h : cj9 n A B P Q) (k : Nat) : qE9 A n k = qE9 B n k := qE_T (cj_T h) k
theorem qN_cg {E x y : Nat → Rat} (h : ∀ i, i < n → x i = y i) : ∀ j i, i < n → qN9 n A E x j i = qN9 n A E y j i := by
  intro j
  induction j with
  | zero => exact h
  | succ j ih =>
    intro i hi
    show E (j + 1) * x i - qV9 n A (qN9 n A E x j) i = E (j + 1) * y i - qV9 n A (qN9 n A E y j) i
    rw [h i hi, qV_cg ih i]
theorem cj_N (h : cj9 n A B P Q) {E : Nat → Rat} (x : Nat → Rat) : ∀ j i, i < n → qN9 n A E (qV9 n P x) j i = qV9 n P (qN9 n B E x j) i := by
  intro j
  induction j with
  | zero => exact fun i _ => rfl
  | succ j ih =>
    intro i hi
    show E (j + 1) * qV9 n P x i - qV9 n A (qN9 n A E (qV9 n P x) j) i = qV9 n P (fun i => E (j + 1) * x i - qV9 n B (qN9 n B E x j) i) i
    rw [qV_cg ih i, h.2 _ i hi]
    have e2 : qD9 n (P i) (fun k => E (j + 1) * x k - 1 * qV9 n B (qN9 n B E x j) k) = E (j + 1) * qV9 n P x i - 1 * qV9 n P (qV9 n B (qN9 n B E x j)) i := qD_lin
    have e3 : qD9 n (P i) (fun k => E (j + 1) * x k - 1 * qV9 n B (qN9 n B E x j) k) = qV9 n P (fun i => E (j + 1) * x i - qV9 n B (qN9 n B E x j) i) i := qS_cg (fun k _ => by grind)
    rw [← e3, e2]
    grind
end XSGC2
end
section
/-! 99zzzzzzzzzzzzzzzzyzzm.xsgd -/
/-! signature: frames at right angles; Cayley and Hamilton -/
/-- k vectors at right angles, none of them 0 -/
def ob9 (n : Nat) (g : Nat → Rat) (F : Nat → Nat → Rat) (k : Nat) : Prop := (∀ c, c < k → ∃ i, i < n ∧ F c i ≠ 0) ∧ ∀ c d, c < k → d < k → c ≠ d → qG9 n g (F c) (F d) = 0
section XSGD
variable {n : Nat} {g : Nat → Rat}
theorem qG_cm {x y : Nat → Rat} : qG9 n g x y = qG9 n g y x := qS_cg (fun i _ => by grind)
theorem qG_cg {x y x2 y2 : Nat → Rat} (h1 : ∀ i, i < n → x i = x2 i) (h2 : ∀ i, i < n → y i = y2 i) : qG9 n g x y = qG9 n g x2 y2 := qS_cg (fun i hi => by rw [h1 i hi, h2 i hi])
theorem sq_nn9 (d : Rat) : 0 ≤ d * d := by
  rcases Rat.le_total (a := 0) (b := d) with h | h
  · exact Rat.mul_nonneg h h
  · have h9 : 0 ≤ -d := by grind
    have := Rat.mul_nonneg h9 h9
    grind
theorem sq_ps9 {d : Rat} (h : d ≠ 0) : 0 < d * d := by
  refine Rat.lt_of_le_of_ne (sq_nn9 d) (fun h9 => ?_)
  rcases Rat.mul_eq_zero.mp h9.symm with h2 | h2
  · exact h h2
  · exact h h2
theorem qG_nn {x : Nat → Rat} : ∀ {n : Nat}, (∀ i, i < n → 0 < g i) → 0 ≤ qG9 n g x x := by
  intro n
  induction n with
  | zero => exact fun _ => Rat.le_refl
  | succ n ih =>
    intro hg
    show 0 ≤ qG9 n g x x + g n * x n * x n
    have a := ih (fun i hi => hg i (by omega))
    have b := Rat.mul_nonneg (Rat.le_of_lt (hg n (by omega))) (sq_nn9 (x n))
    grind
theorem qG_ps {x : Nat → Rat} : ∀ {n : Nat}, (∀ i, i < n → 0 < g i) → (∃ i, i < n ∧ x i ≠ 0) → 0 < qG9 n g x x := by
  intro n
  induction n with
  | zero =>
    intro _ h
    obtain ⟨i, hi, -⟩ := h
    omega
  | succ n ih =>
    intro hg h
    show 0 < qG9 n g x x + g n * x n * x n
    obtain ⟨i, hi, hx⟩ := h
    by_cases h9 : i = n
    · have a := qG_nn (x := x) (n := n) (fun i hi => hg i (by omega))
      have b := Rat.mul_pos (hg n (by omega)) (sq_ps9 (d := x n) (by rw [← h9]; exact hx))
      grind
    · have a := ih (fun i hi => hg i (by omega)) ⟨i, by omega, hx⟩
      have b := Rat.mul_nonneg (Rat.le_of_lt (hg n (by omega))) (sq_nn9 (x n))
      grind
theorem ob_go (ℓ : Nat → Nat → Rat) (b : Nat) : ∀ (r k : Nat) (F : Nat → Nat → Rat), ob9 n g F k → k + r + b ≤ n → ∃ F2 : Nat → Nat → Rat, (∀ c, c < k → F2 c = F c) ∧ ob9 n g F2 (k + r) ∧ ∀ c, k ≤ c → c < k + r → ∀ e, e < b → qD9 n (ℓ e) (F2 c) = 0 := by
  intro r
  induction r with
  | zero => exact fun k F h _ => ⟨F, fun c _ => rfl, h, fun c h1 h2 => absurd h1 (by omega)⟩
  | succ r ih =>
    intro k F h hn
    obtain ⟨F1, h1, h2, h3⟩ := ih k F h (by omega)
    obtain ⟨x, hx, h4⟩ := lin_n (n := n) (fun e i => if e < b then ℓ e i else g i * F1 (e - b) i) (m := b + (k + r)) (by omega)
    have x1 : ∀ e, e < b → qD9 n (ℓ e) x = 0 := fun e he => by
      have := h4 e (by omega)
      rw [← this]
      exact qD_cg (fun i _ => (if_pos he).symm) (fun i _ => rfl)
    have x2 : ∀ c, c < k + r → qG9 n g (F1 c) x = 0 := fun c hc => by
      have := h4 (b + c) (by omega)
      rw [← this]
      refine qD_cg (v := fun i => g i * F1 c i) (fun i _ => ?_) (fun i _ => rfl)
      rw [if_neg (by omega), show b + c - b = c by omega]
    have f1 : ∀ c, c < k + r → (fun c => if c = k + r then x else F1 c) c = F1 c := fun c hc => if_neg (by omega)
    have f2 : (fun c => if c = k + r then x else F1 c) (k + r) = x := if_pos rfl
    refine ⟨fun c => if c = k + r then x else F1 c, fun c hc => (f1 c (by omega)).trans (h1 c hc), ⟨fun c hc => ?_, fun c d hc hd hcd => ?_⟩, fun c hc1 hc2 e he => ?_⟩
    · by_cases h9 : c = k + r
      · rw [h9, f2]
        exact hx
      · rw [f1 c (by omega)]
        exact h2.1 c (by omega)
    · by_cases h9 : c = k + r
      · rw [h9, f2, f1 d (by omega), qG_cm]
        exact x2 d (by omega)
      · by_cases h8 : d = k + r
        · rw [h8, f2, f1 c (by omega)]
          exact x2 c (by omega)
        · rw [f1 c (by omega), f1 d (by omega)]
          exact h2.2 c d (by omega) (by omega) hcd
    · by_cases h9 : c = k + r
      · rw [h9, f2]
        exact x1 e he
      · rw [f1 c (by omega)]
        exact h3 c hc1 (by omega) e he
theorem ob_full {F : Nat → Nat → Rat} {k : Nat} (h : ob9 n g F k) (hk : k ≤ n) : ∃ F2 : Nat → Nat → Rat, (∀ c, c < k → F2 c = F c) ∧ ob9 n g F2 n := by
  obtain ⟨F2, a, b, -⟩ := ob_go (n := n) (g := g) (fun _ _ => 0) 0 (n - k) k F h (by omega)
  rw [show k + (n - k) = n by omega] at b
  exact ⟨F2, a, b⟩
theorem ob_rev {F : Nat → Nat → Rat} (h : ob9 n g F n) : ob9 n g (fun c => F (n - 1 - c)) n := ⟨fun c hc => h.1 (n - 1 - c) (by omega), fun c d hc hd hcd => h.2 _ _ (by omega) (by omega) (by omega)⟩
theorem qG_sum {x : Nat → Rat} {c : Nat → Rat} {X : Nat → Nat → Rat} {m : Nat} : qG9 n g x (fun i => qS9 (fun l => c l * X l i) m) = qS9 (fun l => c l * qG9 n g x (X l)) m := qD_sum
/-- a full frame is another basis -/
theorem ob_cj (hg : ∀ i, i < n → 0 < g i) {F : Nat → Nat → Rat} (ho : ob9 n g F n) (A : mQ99) : ∃ (B P Q : mQ99) (g2 : Nat → Rat), cj9 n A B P Q ∧ (∀ c, c < n → ∀ i, i < n → qV9 n P (dl9 c) i = F c i) ∧ (∀ c, c < n → 0 < g2 c) ∧ ∀ x z, qG9 n g (qV9 n P x) (qV9 n P z) = qG9 n g2 x z := by
  have gp : ∀ c, c < n → 0 < qG9 n g (F c) (F c) := fun c hc => qG_ps hg (ho.1 c hc)
  have gF : ∀ c d, c < n → d < n → qG9 n g (F c) (F d) = qG9 n g (F c) (F c) * dl9 d c := fun c d hc hd => by
    by_cases h9 : c = d
    · subst h9
      rw [show dl9 c c = 1 from if_pos rfl]
      exact (Rat.mul_one _).symm
    · rw [ho.2 c d hc hd h9, show dl9 d c = 0 from if_neg h9]
      exact (Rat.mul_zero _).symm
  have qp : ∀ i, i < n → ∀ j, j < n → qS9 (fun k => (qG9 n g (F i) (F i))⁻¹ * (g k * F i k) * F j k) n = dl9 j i := fun i hi j hj => by
    have e1 : qS9 (fun k => (qG9 n g (F i) (F i))⁻¹ * (g k * F i k) * F j k) n = (qG9 n g (F i) (F i))⁻¹ * qG9 n g (F i) (F j) := by
      unfold qG9
      rw [← qS_mul]
      exact qS_cg (fun k _ => by grind)
    have hne : qG9 n g (F i) (F i) ≠ 0 := fun h => by
      have := gp i hi
      rw [h] at this
      exact absurd this (by decide)
    have e2 := Rat.inv_mul_cancel _ hne
    rw [e1, gF i j hi hj, ← Rat.mul_assoc, e2, Rat.one_mul]
  have hP : ∀ x i, qV9 n (fun i c => F c i) x i = qS9 (fun c => x c * F c i) n := fun x i => qS_cg (fun c _ => Rat.mul_comm _ _)
  refine ⟨fun i j => qV9 n (fun c i => (qG9 n g (F c) (F c))⁻¹ * (g i * F c i)) (qV9 n A (F j)) i, fun i c => F c i, fun c i => (qG9 n g (F c) (F c))⁻¹ * (g i * F c i), fun c => qG9 n g (F c) (F c), ⟨qp, fun x i hi => ?_⟩, fun c hc i hi => ?_, gp, fun x z => ?_⟩
  · have e1 : ∀ k, k < n → qV9 n (fun i j => qV9 n (fun c i => (qG9 n g (F c) (F c))⁻¹ * (g i * F c i)) (qV9 n A (F j)) i) x k = qV9 n (fun c i => (qG9 n g (F c) (F c))⁻¹ * (g i * F c i)) (qV9 n A (qV9 n (fun i c => F c i) x)) k := fun k hk => by
      have a1 : ∀ i, i < n → qV9 n A (qV9 n (fun i c => F c i) x) i = qS9 (fun c => x c * qV9 n A (F c) i) n := fun i _ => by
        rw [qV_cg (fun l _ => hP x l) i, qV_sum]
      rw [qV_cg a1 k, qV_sum]
      exact qS_cg (fun c _ => Rat.mul_comm _ _)
    rw [qV_cg e1 i]
    exact (sqr9 (P := fun i c => F c i) qp _ i hi).symm
  · have : qV9 n (fun i c => F c i) (dl9 c) i = qD9 n (dl9 c) (fun c => F c i) := qS_cg (fun k _ => Rat.mul_comm _ _)
    rw [this, qD_dl hc]
  · have e1 : qG9 n g (qV9 n (fun i c => F c i) x) (qV9 n (fun i c => F c i) z) = qG9 n g (fun i => qS9 (fun c => x c * F c i) n) (fun i => qS9 (fun d => z d * F d i) n) := qG_cg (fun i _ => hP x i) (fun i _ => hP z i)
    rw [e1, qG_sum]
    have e2 : ∀ d, d < n → z d * qG9 n g (fun i => qS9 (fun c => x c * F c i) n) (F d) = qG9 n g (F d) (F d) * x d * z d := fun d hd => by
      rw [qG_cm, qG_sum]
      have e3 : ∀ c, c < n → x c * qG9 n g (F d) (F c) = dl9 d c * (qG9 n g (F d) (F d) * x c) := fun c hc => by
        rw [gF d c hd hc]
        show x c * (qG9 n g (F d) (F d) * (if d = c then 1 else 0)) = (if c = d then 1 else 0) * (qG9 n g (F d) (F d) * x c)
        by_cases h9 : d = c
        · rw [if_pos h9, if_pos h9.symm]
          grind
        · rw [if_neg h9, if_neg (fun h => h9 h.symm)]
          grind
      rw [qS_cg e3]
      have e4 := qD_dl (x := fun c => qG9 n g (F d) (F d) * x c) hd
      unfold qD9 at e4
      rw [e4]
      grind
    exact qS_cg e2
/-- a basis whose last vector is y -/
theorem ob_last {m : Nat} {g : Nat → Rat} (hg : ∀ i, i < m + 1 → 0 < g i) {y : Nat → Rat} (hy : ∃ i, i < m + 1 ∧ y i ≠ 0) (A : mQ99) : ∃ (B P Q : mQ99) (g2 : Nat → Rat), cj9 (m + 1) A B P Q ∧ (∀ i, i < m + 1 → qV9 (m + 1) P (dl9 m) i = y i) ∧ (∀ c, c < m + 1 → 0 < g2 c) ∧ ∀ x z, qG9 (m + 1) g (qV9 (m + 1) P x) (qV9 (m + 1) P z) = qG9 (m + 1) g2 x z := by
  obtain ⟨F, f1, f2⟩ := ob_full (n := m + 1) (g := g) (F := fun _ => y) (k := 1) ⟨fun c _ => hy, fun c d hc hd hcd => absurd hcd (by omega)⟩ (by omega)
  obtain ⟨B, P, Q, g2, b1, b2, b3, b4⟩ := ob_cj hg (ob_rev f2) A
  refine ⟨B, P, Q, g2, b1, fun i hi => ?_, b3, b4⟩
  rw [b2 m (by omega) i hi, show m + 1 - 1 - m = 0 by omega, f1 0 (by omega)]
/-- no coefficients behind n; N_n = 0 -/
theorem ch9 : ∀ (n : Nat) (A : mQ99), (∀ k, n < k → qE9 A n k = 0) ∧ ∀ (x : Nat → Rat) j, n ≤ j → ∀ i, i < n → qN9 n A (qE9 A n) x j i = 0 := by
  intro n
  induction n with
  | zero => exact fun A => ⟨fun k hk => if_neg (by omega), fun x j _ i hi => absurd hi (by omega)⟩
  | succ n ih =>
    intro A
    have p1 : ∀ (A : mQ99) k, n + 1 < k → qE9 A (n + 1) k = 0 := fun A k hk => by
      obtain ⟨m, hm⟩ : ∃ m, k = m + 2 := ⟨k - 2, by omega⟩
      subst hm
      show qE9 A n (m + 2) + A n n * qE9 A n (m + 1) - qD9 n (A n) (qN9 n A (qE9 A n) (fun i => A i n) m) = 0
      have e1 : qD9 n (A n) (qN9 n A (qE9 A n) (fun i => A i n) m) = 0 := by
        unfold qD9
        rw [qS_cg (g := fun _ => 0) (fun i hi => by rw [(ih A).2 _ m (by omega) i hi]; exact Rat.mul_zero _), qS_0]
      rw [(ih A).1 (m + 2) (by omega), (ih A).1 (m + 1) (by omega), e1]
      grind
    have p2 : ∀ (B : mQ99) i, i < n + 1 → qN9 (n + 1) B (qE9 B (n + 1)) (dl9 n) (n + 1) i = 0 := fun B i hi => by
      by_cases h9 : i = n
      · rw [h9, (qN_col (n + 1)).1]
        exact (ih B).1 (n + 1) (by omega)
      · rw [(qN_col (n + 1)).2 i (by omega), if_neg (by omega), show n + 1 - 1 = n by omega, (ih B).2 _ n (Nat.le_refl n) i (by omega)]
        grind
    have p3 : ∀ (x : Nat → Rat) i, i < n + 1 → qN9 (n + 1) A (qE9 A (n + 1)) x (n + 1) i = 0 := fun x i hi => by
      by_cases hx : ∃ i, i < n + 1 ∧ x i ≠ 0
      · obtain ⟨B, P, Q, g2, b1, b2, -, -⟩ := ob_last (g := fun _ => 1) (fun _ _ => by decide) hx A
        have e1 := qN_cg (A := A) (E := qE9 A (n + 1)) (fun i hi => (b2 i hi).symm) (n + 1) i hi
        rw [e1, cj_N b1 _ (n + 1) i hi, show qE9 A (n + 1) = qE9 B (n + 1) from funext (cj_E b1), qV_cg (y := fun _ => 0) (fun i hi => p2 B i hi) i]
        unfold qV9
        rw [qS_cg (g := fun _ => 0) (fun k _ => Rat.mul_zero _), qS_0]
      · have e0 : ∀ i, i < n + 1 → x i = 0 := fun i hi => by
          by_cases h9 : x i = 0
          · exact h9
          · exact absurd ⟨i, hi, h9⟩ hx
        have e1 : ∀ j i, i < n + 1 → qN9 (n + 1) A (qE9 A (n + 1)) x j i = 0 := by
          intro j
          induction j with
          | zero => exact e0
          | succ j ihj =>
            intro i hi
            show qE9 A (n + 1) (j + 1) * x i - qV9 (n + 1) A (qN9 (n + 1) A (qE9 A (n + 1)) x j) i = 0
            rw [e0 i hi, qV_cg (y := fun _ => 0) ihj i]
            unfold qV9
            rw [qS_cg (g := fun _ => 0) (fun k _ => Rat.mul_zero _), qS_0]
            grind
        exact e1 (n + 1) i hi
    refine ⟨p1 A, fun x j hj => ?_⟩
    obtain ⟨d, hd⟩ : ∃ d, j = n + 1 + d := ⟨j - (n + 1), by omega⟩
    subst hd
    clear hj
    induction d with
    | zero => exact p3 x
    | succ d ihd =>
      intro i hi
      show qE9 A (n + 1) (n + 1 + d + 1) * x i - qV9 (n + 1) A (qN9 (n + 1) A (qE9 A (n + 1)) x (n + 1 + d)) i = 0
      rw [p1 A _ (by omega), qV_cg (y := fun _ => 0) ihd i]
      unfold qV9
      rw [qS_cg (g := fun _ => 0) (fun k _ => Rat.mul_zero _), qS_0]
      grind
end XSGD
end
section
/-! 99zzzzzzzzzzzzzzzzyzzn.xsge -/
/-! signature: Newton's inequality for forms; what a border does to the changes of sign -/
/-- g A is symmetric -/
def syG9 (n : Nat) (g : Nat → Rat) (A : mQ99) : Prop := ∀ i j, i < n → j < n → g i * A i j = g j * A j i
section XSGE
variable {n : Nat} {g : Nat → Rat} {A : mQ99}
theorem sy_le {m : Nat} (h : syG9 n g A) (hm : m ≤ n) : syG9 m g A := fun i j hi hj => h i j (by omega) (by omega)
theorem sy_adj (h : syG9 n g A) (x y : Nat → Rat) : qG9 n g x (qV9 n A y) = qG9 n g (qV9 n A x) y := by
  unfold qG9 qV9
  have e1 : ∀ i, i < n → g i * x i * qS9 (fun k => A i k * y k) n = qS9 (fun k => x i * y k * (g k * A k i)) n := fun i hi => by
    rw [← qS_mul]
    refine qS_cg (fun k hk => ?_)
    have := h i k hi hk
    rw [← this]
    grind
  have e2 : ∀ k, k < n → g k * qS9 (fun i => A k i * x i) n * y k = qS9 (fun i => x i * y k * (g k * A k i)) n := fun k hk => by
    rw [show g k * qS9 (fun i => A k i * x i) n * y k = (g k * y k) * qS9 (fun i => A k i * x i) n by grind, ← qS_mul]
    exact qS_cg (fun i _ => by grind)
  rw [qS_cg e1, qS_cg e2, qS_sw]
theorem qG_dl {x : Nat → Rat} {c : Nat} (hc : c < n) : qG9 n g (dl9 c) x = g c * x c := by
  have : qG9 n g (dl9 c) x = qD9 n (dl9 c) (fun i => g i * x i) := qS_cg (fun i _ => by grind)
  rw [this, qD_dl hc]
theorem qV_col {j i : Nat} (hj : j < n) : qV9 n A (dl9 j) i = A i j := by
  have : qV9 n A (dl9 j) i = qD9 n (dl9 j) (A i) := qS_cg (fun k _ => Rat.mul_comm _ _)
  rw [this, qD_dl hj]
theorem sy_of (h : ∀ x y, qG9 n g x (qV9 n A y) = qG9 n g (qV9 n A x) y) : syG9 n g A := fun i j hi hj => by
  have := h (dl9 i) (dl9 j)
  rw [qG_dl hi, qG_cm, qG_dl hj, qV_col hj, qV_col hi] at this
  exact this
/-- another basis keeps the form symmetric -/
theorem sy_cj {B P Q : mQ99} {g2 : Nat → Rat} (h : cj9 n A B P Q) (hG : ∀ x z, qG9 n g (qV9 n P x) (qV9 n P z) = qG9 n g2 x z) (hs : syG9 n g A) : syG9 n g2 B := sy_of (fun x y => by
  rw [← hG, ← hG, ← qG_cg (x := qV9 n P x) (fun i _ => rfl) (h.2 y), sy_adj hs, qG_cg (h.2 x) (fun i _ => rfl)])
theorem qW_cg {E x y : Nat → Rat} (h : ∀ i, i < n → x i = y i) (j i : Nat) (hi : i < n) : qW9 n A E x j i = qW9 n A E y j i := by
  unfold qW9
  rw [qN_cg h j i hi, qN_cg h (j - 1) i hi]
theorem cj_W {B P Q : mQ99} (h : cj9 n A B P Q) {E : Nat → Rat} (x : Nat → Rat) (j i : Nat) (hi : i < n) : qW9 n A E (qV9 n P x) j i = qV9 n P (qW9 n B E x j) i := by
  unfold qW9
  by_cases h9 : j = 0
  · rw [if_pos h9, cj_N h x j i hi]
    have e3 : qV9 n P (fun i => E j * qN9 n B E x j i - E (j + 1) * (if j = 0 then 0 else qN9 n B E x (j - 1) i)) i = qD9 n (P i) (fun k => E j * qN9 n B E x j k - 0 * x k) := qS_cg (fun k _ => by dsimp only; rw [if_pos h9]; grind)
    rw [e3, qD_lin]
    show E j * qV9 n P (qN9 n B E x j) i - E (j + 1) * 0 = E j * qV9 n P (qN9 n B E x j) i - 0 * qD9 n (P i) x
    grind
  · rw [if_neg h9, cj_N h x j i hi, cj_N h x (j - 1) i hi]
    have e3 : qV9 n P (fun i => E j * qN9 n B E x j i - E (j + 1) * (if j = 0 then 0 else qN9 n B E x (j - 1) i)) i = qD9 n (P i) (fun k => E j * qN9 n B E x j k - E (j + 1) * qN9 n B E x (j - 1) k) := qS_cg (fun k _ => by dsimp only; rw [if_neg h9])
    rw [e3, qD_lin]
    rfl
/-- from W to U -/
theorem wn_U (hg : ∀ i, i < n → 0 < g i) (hW : ∀ y j, 0 ≤ qG9 n g y (qW9 n A (qE9 A n) y j)) (k : Nat) : 0 ≤ qE9 A n (k + 1) * qE9 A n (k + 1) - qE9 A n (k + 2) * qE9 A n k ∧ (qE9 A n (k + 1) ≠ 0 → 0 < qE9 A n (k + 1) * qE9 A n (k + 1) - qE9 A n (k + 2) * qE9 A n k) := by
  by_cases hk : k < n
  · have e1 : ∀ c, c < n → 0 ≤ qW9 n A (qE9 A n) (dl9 c) (k + 1) c := fun c hc => by
      have a := hW (dl9 c) (k + 1)
      rw [qG_dl hc] at a
      rcases Rat.le_total (a := 0) (b := qW9 n A (qE9 A n) (dl9 c) (k + 1) c) with h | h
      · exact h
      · by_cases h0 : qW9 n A (qE9 A n) (dl9 c) (k + 1) c = 0
        · rw [h0]
          exact Rat.le_refl
        · have b : 0 < -qW9 n A (qE9 A n) (dl9 c) (k + 1) c := Rat.lt_of_le_of_ne (by grind) (by grind)
          have d := Rat.mul_pos (hg c hc) b
          grind
    have e2 : ∀ m, m ≤ n → 0 ≤ qS9 (fun c => qW9 n A (qE9 A n) (dl9 c) (k + 1) c) m := by
      intro m
      induction m with
      | zero => exact fun _ => Rat.le_refl
      | succ m ih =>
        intro hm
        exact Rat.add_nonneg (ih (by omega)) (e1 m (by omega))
    have e3 : qS9 (fun c => qW9 n A (qE9 A n) (dl9 c) (k + 1) c) n = qE9 A n (k + 1) * (((n : Rat) - ((k + 1 : Nat) : Rat)) * qE9 A n (k + 1)) - qE9 A n (k + 2) * (((n : Rat) - (k : Rat)) * qE9 A n k) := by
      have a1 : qS9 (fun c => qW9 n A (qE9 A n) (dl9 c) (k + 1) c) n = qS9 (fun c => qE9 A n (k + 1) * qN9 n A (qE9 A n) (dl9 c) (k + 1) c + -qE9 A n (k + 2) * qN9 n A (qE9 A n) (dl9 c) k c) n := qS_cg (fun c _ => by
        unfold qW9
        rw [if_neg (by omega), show k + 1 - 1 = k by omega]
        grind)
      rw [a1, qS_add, qS_mul, qS_mul, tr_E, tr_E]
      grind
    have e4 := e2 n (Nat.le_refl n)
    rw [e3, cs_s] at e4
    have hnk : 0 < (n : Rat) - (k : Rat) := by
      have : ((k : Int) : Rat) < ((n : Int) : Rat) := Rat.intCast_lt_intCast.mpr (by omega)
      have h2 : (k : Rat) < (n : Rat) := this
      grind
    have e5 : qE9 A n (k + 1) * qE9 A n (k + 1) ≤ ((n : Rat) - (k : Rat)) * (qE9 A n (k + 1) * qE9 A n (k + 1) - qE9 A n (k + 2) * qE9 A n k) := by grind
    have e6 := sq_nn9 (qE9 A n (k + 1))
    generalize qE9 A n (k + 1) * qE9 A n (k + 1) - qE9 A n (k + 2) * qE9 A n k = U at e5 ⊢
    refine ⟨?_, fun hne => ?_⟩
    · rcases Rat.le_total (a := 0) (b := U) with h | h
      · exact h
      · by_cases h0 : U = 0
        · rw [h0]
          exact Rat.le_refl
        · have b : 0 < -U := Rat.lt_of_le_of_ne (by grind) (by grind)
          have d := Rat.mul_pos hnk b
          grind
    · have e7 := sq_ps9 hne
      have e8 : 0 < ((n : Rat) - (k : Rat)) * U := by grind
      exact (Rat.mul_pos_iff_of_pos_left hnk).mp e8
  · have e1 := (ch9 n A).1 (k + 1) (by omega)
    have e2 := (ch9 n A).1 (k + 2) (by omega)
    rw [e1, e2]
    refine ⟨by grind, fun h => absurd rfl h⟩
end XSGE
/-- W is never negative -/
theorem wn9 : ∀ (n : Nat) (A : mQ99) (g : Nat → Rat), (∀ i, i < n → 0 < g i) → syG9 n g A → ∀ y j, 0 ≤ qG9 n g y (qW9 n A (qE9 A n) y j) := by
  intro n
  induction n with
  | zero => exact fun A g _ _ y j => Rat.le_refl
  | succ n ih =>
    intro A g hg hs y j
    cases j with
    | zero =>
      have : qG9 (n + 1) g y (qW9 (n + 1) A (qE9 A (n + 1)) y 0) = qG9 (n + 1) g y y := qG_cg (fun i _ => rfl) (fun i _ => by
        show qE9 A (n + 1) 0 * y i - qE9 A (n + 1) 1 * 0 = y i
        rw [qE_0]
        grind)
      rw [this]
      exact qG_nn hg
    | succ k =>
      by_cases hy : ∃ i, i < n + 1 ∧ y i ≠ 0
      · obtain ⟨B, P, Q, g2, b1, b2, b3, b4⟩ := ob_last hg hy A
        have hB := sy_cj b1 b4 hs
        have e1 : qG9 (n + 1) g y (qW9 (n + 1) A (qE9 A (n + 1)) y (k + 1)) = qG9 (n + 1) g (qV9 (n + 1) P (dl9 n)) (qV9 (n + 1) P (qW9 (n + 1) B (qE9 B (n + 1)) (dl9 n) (k + 1))) := qG_cg (fun i hi => (b2 i hi).symm) (fun i hi => by
          rw [qW_cg (fun i hi => (b2 i hi).symm) (k + 1) i hi, cj_W b1 _ (k + 1) i hi, show qE9 A (n + 1) = qE9 B (n + 1) from funext (cj_E b1)])
        rw [e1, b4, qG_dl (by omega), qW_cor, qQ_s]
        have g9 := b3 n (by omega)
        have gn : ∀ i, i < n → 0 < g2 i := fun i hi => b3 i (by omega)
        have sn := sy_le hB (show n ≤ n + 1 by omega)
        have wB := ih B g2 gn sn
        have u1 := (wn_U gn wB k).1
        have u2 : g2 n * qD9 n (B n) (qW9 n B (qE9 B n) (fun i => B i n) k) = qG9 n g2 (fun i => B i n) (qW9 n B (qE9 B n) (fun i => B i n) k) := by
          unfold qD9 qG9
          rw [← qS_mul]
          refine qS_cg (fun i hi => ?_)
          have := hB n i (by omega) (by omega)
          rw [← Rat.mul_assoc, this]
        have u3 := wB (fun i => B i n) k
        have u4 := Rat.mul_nonneg (Rat.le_of_lt g9) u1
        rw [← u2] at u3
        grind
      · have e0 : ∀ i, i < n + 1 → y i = 0 := fun i hi => by
          by_cases h9 : y i = 0
          · exact h9
          · exact absurd ⟨i, hi, h9⟩ hy
        have : qG9 (n + 1) g y (qW9 (n + 1) A (qE9 A (n + 1)) y (k + 1)) = 0 := by
          unfold qG9
          rw [qS_cg (g := fun _ => 0) (fun i hi => by rw [e0 i hi]; grind), qS_0]
        rw [this]
        exact Rat.le_refl
/-- what lemma Z wants -/
theorem bqG9 {n : Nat} {A : mQ99} {g : Nat → Rat} (hg : ∀ i, i < n + 1 → 0 < g i) (hs : syG9 (n + 1) g A) (k : Nat) (hk : qE9 A n (k + 1) ≠ 0) : 0 < qE9 A (n + 1) (k + 1) * qE9 A n (k + 1) - qE9 A (n + 1) (k + 2) * qE9 A n k := by
  have gn : ∀ i, i < n → 0 < g i := fun i hi => hg i (by omega)
  have wB := wn9 n A g gn (sy_le hs (by omega))
  have u1 := (wn_U gn wB k).2 hk
  have u2 : g n * qD9 n (A n) (qW9 n A (qE9 A n) (fun i => A i n) k) = qG9 n g (fun i => A i n) (qW9 n A (qE9 A n) (fun i => A i n) k) := by
    unfold qD9 qG9
    rw [← qS_mul]
    refine qS_cg (fun i hi => ?_)
    have := hs n i (by omega) (by omega)
    rw [← Rat.mul_assoc, this]
  have u3 := wB (fun i => A i n) k
  rw [← u2] at u3
  have g9 := hg n (by omega)
  rw [qQ_s]
  have u5 := Rat.mul_pos g9 u1
  have u6 : 0 < g n * ((qE9 A n (k + 1) * qE9 A n (k + 1) - qE9 A n (k + 2) * qE9 A n k) + qD9 n (A n) (qW9 n A (qE9 A n) (fun i => A i n) k)) := by grind
  exact (Rat.mul_pos_iff_of_pos_left g9).mp u6
end
section
/-! 99zzzzzzzzzzzzzzzzyzzo.xsgf -/
/-! signature: the changes of sign of a form, and what subspaces say of them -/
def nuQ9 (e : Nat → Rat) (k : Nat) : Int := (e k).num
/-- changes of sign: of the coefficients, and with every second sign turned -/
def vM9 (A : mQ99) (n : Nat) : Nat := (wv9 (nuQ9 (qE9 A n)) n).1
def vP9 (A : mQ99) (n : Nat) : Nat := (wv9 (tw9 (nuQ9 (qE9 A n))) n).1
def sgQ9 (x y : Int) : Prop := (0 < x ↔ 0 < y) ∧ (x < 0 ↔ y < 0)
section XSGF
theorem nu_ps {q : Rat} : 0 < q.num ↔ 0 < q := by
  constructor
  · intro h
    refine Rat.lt_of_le_of_ne (Rat.num_nonneg.mp (by omega)) (fun h9 => ?_)
    rw [← h9] at h
    exact absurd h (by decide)
  · intro h
    have h1 : 0 ≤ q.num := Rat.num_nonneg.mpr (Rat.le_of_lt h)
    have h2 : q.num ≠ 0 := fun h9 => by
      rw [Rat.num_eq_zero.mp h9] at h
      exact absurd h (by decide)
    omega
theorem nu_ng {q : Rat} : q.num < 0 ↔ q < 0 := by
  have := nu_ps (q := -q)
  rw [Rat.neg_num] at this
  constructor
  · intro h
    have := this.mp (by omega)
    grind
  · intro h
    have := this.mpr (by grind)
    omega
theorem sg_op {a b c d : Int} (h1 : sgQ9 a b) (h2 : sgQ9 c d) : opp9 a c ↔ opp9 b d := by
  unfold opp9
  rw [h1.1, h1.2, h2.1, h2.2]
theorem sg_0 {a b : Int} (h : sgQ9 a b) : a = 0 ↔ b = 0 := by
  have := h.1
  have := h.2
  omega
theorem wv_sg {a b : Nat → Int} (h : ∀ k, sgQ9 (a k) (b k)) : ∀ n, (wv9 a n).1 = (wv9 b n).1 ∧ sgQ9 (wv9 a n).2 (wv9 b n).2 := by
  intro n
  induction n with
  | zero => exact ⟨rfl, h 0⟩
  | succ n ih =>
    by_cases h0 : a (n + 1) = 0
    · rw [wv_z h0, wv_z ((sg_0 (h (n + 1))).mp h0)]
      exact ih
    · rw [wv_s h0, wv_s (fun h9 => h0 ((sg_0 (h (n + 1))).mpr h9))]
      refine ⟨?_, h (n + 1)⟩
      show (wv9 a n).1 + (if opp9 (wv9 a n).2 (a (n + 1)) then 1 else 0) = (wv9 b n).1 + (if opp9 (wv9 b n).2 (b (n + 1)) then 1 else 0)
      have := sg_op ih.2 (h (n + 1))
      rw [ih.1]
      by_cases ho : opp9 (wv9 a n).2 (a (n + 1))
      · rw [if_pos ho, if_pos (this.mp ho)]
      · rw [if_neg ho, if_neg (fun h9 => ho (this.mpr h9))]
theorem sg_tw {a b : Nat → Int} (h : ∀ k, sgQ9 (a k) (b k)) (k : Nat) : sgQ9 (tw9 a k) (tw9 b k) := by
  have := h k
  unfold sgQ9 at *
  unfold tw9
  split <;> omega
theorem den_ex (e : Nat → Rat) : ∀ K, ∃ D : Nat, 0 < D ∧ ∀ k, k < K → ∃ z : Int, (z : Rat) = e k * (D : Rat) := by
  intro K
  induction K with
  | zero => exact ⟨1, by omega, fun k hk => absurd hk (by omega)⟩
  | succ K ih =>
    obtain ⟨D, h1, h2⟩ := ih
    have hd : (e K) * ((e K).den : Rat) = ((e K).num : Rat) := by
      have a1 : Rat.divInt (e K).num ((e K).den : Int) = e K := Rat.num_divInt_den (e K)
      rw [Rat.divInt_eq_div] at a1
      have hne : (((e K).den : Int) : Rat) ≠ 0 := fun h => by
        have := (Rat.natCast_eq_zero_iff (a := (e K).den)).mp h
        exact (e K).den_nz this
      have a2 := Rat.div_mul_cancel (a := (((e K).num : Int) : Rat)) hne
      rw [a1] at a2
      exact a2
    refine ⟨D * (e K).den, Nat.mul_pos h1 (e K).den_pos, fun k hk => ?_⟩
    by_cases h9 : k = K
    · subst h9
      refine ⟨(e k).num * (D : Int), ?_⟩
      rw [Rat.intCast_mul, ← hd, Rat.natCast_mul]
      show e k * ((e k).den : Rat) * (D : Rat) = _
      grind
    · obtain ⟨z, hz⟩ := h2 k (by omega)
      refine ⟨z * ((e K).den : Int), ?_⟩
      rw [Rat.intCast_mul, hz, Rat.natCast_mul]
      show e k * (D : Rat) * ((e K).den : Rat) = _
      grind
theorem int_ex {e : Nat → Rat} {K : Nat} (hK : ∀ k, K ≤ k → e k = 0) : ∃ (D : Rat) (z : Nat → Int), 0 < D ∧ (∀ k, ((z k : Int) : Rat) = e k * D) ∧ ∀ k, sgQ9 (z k) (nuQ9 e k) := by
  obtain ⟨D, h1, h2⟩ := den_ex e K
  have h3 : ∀ k, ∃ z : Int, (z : Rat) = e k * (D : Rat) := fun k => by
    by_cases h9 : k < K
    · exact h2 k h9
    · refine ⟨0, ?_⟩
      rw [hK k (by omega), Rat.zero_mul]
      rfl
  have hD : (0 : Rat) < (D : Rat) := Rat.natCast_pos.mpr h1
  refine ⟨(D : Rat), fun k => Classical.choose (h3 k), hD, fun k => Classical.choose_spec (h3 k), fun k => ?_⟩
  have h4 := Classical.choose_spec (h3 k)
  show sgQ9 (Classical.choose (h3 k)) (nuQ9 e k)
  generalize Classical.choose (h3 k) = z at h4
  have p1 : 0 < z ↔ 0 < e k := by
    rw [← Rat.intCast_pos, h4]
    exact Rat.mul_pos_iff_of_pos_right hD
  have p2 : z < 0 ↔ e k < 0 := by
    have : ((z : Int) : Rat) < ((0 : Int) : Rat) ↔ z < 0 := Rat.intCast_lt_intCast
    rw [← this, h4]
    exact Rat.mul_neg_iff_of_pos_right hD
  exact ⟨p1.trans nu_ps.symm, p2.trans nu_ng.symm⟩
theorem zetq {e f : Nat → Rat} {K : Nat} (he : ∀ k, K ≤ k → e k = 0) (hf : ∀ k, K ≤ k → f k = 0) (h0 : e 0 = 1) (g0 : f 0 = 1) (h : ∀ k, f (k + 1) ≠ 0 → 0 < e (k + 1) * f (k + 1) - e (k + 2) * f k) (n : Nat) : (wv9 (nuQ9 f) n).1 ≤ (wv9 (nuQ9 e) (n + 1)).1 ∧ (wv9 (tw9 (nuQ9 f)) n).1 ≤ (wv9 (tw9 (nuQ9 e)) (n + 1)).1 := by
  obtain ⟨D, z, d1, d2, d3⟩ := int_ex he
  obtain ⟨C, y, c1, c2, c3⟩ := int_ex hf
  have z0 : 0 < z 0 := by
    rw [(d3 0).1]
    show 0 < (e 0).num
    rw [h0]
    decide
  have y0 : 0 < y 0 := by
    rw [(c3 0).1]
    show 0 < (f 0).num
    rw [g0]
    decide
  have key := zet_tw (e := z) (f := y) z0 y0 (fun k hk => by
    have hk2 : f (k + 1) ≠ 0 := fun h9 => hk (by
      have := c2 (k + 1)
      rw [h9, Rat.zero_mul] at this
      have : ((y (k + 1) : Int) : Rat) = ((0 : Int) : Rat) := this
      exact Rat.intCast_inj.mp this)
    have a := h k hk2
    have b := Rat.mul_pos (Rat.mul_pos d1 c1) a
    rw [← Rat.intCast_pos, Rat.intCast_sub, Rat.intCast_mul, Rat.intCast_mul, d2, d2, c2, c2]
    grind) n
  rw [(wv_sg c3 n).1, (wv_sg d3 (n + 1)).1, (wv_sg (sg_tw c3) n).1, (wv_sg (sg_tw d3) (n + 1)).1] at key
  exact key
variable {n : Nat} {g : Nat → Rat} {A : mQ99}
theorem v_up (hg : ∀ i, i < n + 1 → 0 < g i) (hs : syG9 (n + 1) g A) : vM9 A n ≤ vM9 A (n + 1) ∧ vP9 A n ≤ vP9 A (n + 1) := zetq (K := n + 2) (fun k hk => (ch9 (n + 1) A).1 k (by omega)) (fun k hk => (ch9 n A).1 k (by omega)) qE_0 qE_0 (bqG9 hg hs) n
theorem v_mono {m : Nat} : ∀ {n : Nat}, m ≤ n → (∀ i, i < n → 0 < g i) → syG9 n g A → vM9 A m ≤ vM9 A n ∧ vP9 A m ≤ vP9 A n := by
  intro n
  induction n with
  | zero =>
    intro h _ _
    rw [show m = 0 by omega]
    exact ⟨Nat.le_refl _, Nat.le_refl _⟩
  | succ n ih =>
    intro h hg hs
    by_cases h9 : m = n + 1
    · rw [h9]
      exact ⟨Nat.le_refl _, Nat.le_refl _⟩
    · have a := ih (by omega) (fun i hi => hg i (by omega)) (sy_le hs (by omega))
      have b := v_up hg hs
      exact ⟨Nat.le_trans a.1 b.1, Nat.le_trans a.2 b.2⟩
theorem v_cj {B P Q : mQ99} (h : cj9 n A B P Q) : vM9 A n = vM9 B n ∧ vP9 A n = vP9 B n := by
  unfold vM9 vP9
  rw [show qE9 A n = qE9 B n from funext (cj_E h)]
  exact ⟨rfl, rfl⟩
theorem v_sum : vM9 A n + vP9 A n ≤ n := by
  obtain ⟨q, q1, -, -, -, -, q2⟩ := vv_le (e := nuQ9 (qE9 A n)) (by
    show (qE9 A n 0).num ≠ 0
    rw [qE_0]
    decide) n
  exact Nat.le_trans q2 q1
theorem v_rk {b : Nat} (hb : ∀ k, b < k → qE9 A n k = 0) : vM9 A n + vP9 A n ≤ b := by
  obtain ⟨q, q1, -, -, q3, -, q2⟩ := vv_le (e := nuQ9 (qE9 A n)) (by
    show (qE9 A n 0).num ≠ 0
    rw [qE_0]
    decide) n
  by_cases h9 : q ≤ b
  · exact Nat.le_trans q2 h9
  · refine absurd ?_ q3
    show (qE9 A n q).num = 0
    rw [hb q (by omega)]
    rfl
end XSGF
end
section
/-! 99zzzzzzzzzzzzzzzzyzzp.xsgg -/
/-! signature: positive on a subspace; a kernel -/
def pdQ9 (n : Nat) (g : Nat → Rat) (A : mQ99) : Prop := ∀ x : Nat → Rat, (∃ i, i < n ∧ x i ≠ 0) → 0 < qG9 n g x (qV9 n A x)
section XSGG
variable {n : Nat} {g : Nat → Rat} {A : mQ99}
theorem qS_cut {f : Nat → Rat} {m : Nat} : ∀ {n : Nat}, m ≤ n → (∀ i, m ≤ i → i < n → f i = 0) → qS9 f n = qS9 f m := by
  intro n
  induction n with
  | zero =>
    intro h _
    rw [show m = 0 by omega]
  | succ n ih =>
    intro h hz
    by_cases h9 : m = n + 1
    · rw [h9]
    · show qS9 f n + f n = qS9 f m
      rw [ih (by omega) (fun i h1 h2 => hz i h1 (by omega)), hz n (by omega) (by omega), Rat.add_zero]
theorem qV_cut {m : Nat} (h : m ≤ n) {x : Nat → Rat} (hx : ∀ i, m ≤ i → i < n → x i = 0) (i : Nat) : qV9 n A x i = qV9 m A x i := qS_cut h (fun k h1 h2 => by rw [hx k h1 h2, Rat.mul_zero])
theorem qG_cut {m : Nat} (h : m ≤ n) {x y : Nat → Rat} (hx : ∀ i, m ≤ i → i < n → x i = 0) : qG9 n g x y = qG9 m g x y := qS_cut h (fun k h1 h2 => by rw [hx k h1 h2]; grind)
theorem pd_le {m : Nat} (h : m ≤ n) (hp : pdQ9 n g A) : pdQ9 m g A := by
  intro x hx
  obtain ⟨i, hi, hne⟩ := hx
  have e : ∀ i, m ≤ i → i < n → (fun i => if i < m then x i else 0) i = 0 := fun i h1 _ => if_neg (by omega)
  have a := hp (fun i => if i < m then x i else 0) ⟨i, by omega, by
    show (if i < m then x i else 0) ≠ 0
    rw [if_pos hi]
    exact hne⟩
  rw [qG_cut h e, qG_cg (x2 := x) (y2 := qV9 m A x) (fun i hi => if_pos hi) (fun i hi => by
    rw [qV_cut h e]
    exact qV_cg (fun k hk => if_pos hk) i)] at a
  exact a
theorem pd_det : ∀ {n : Nat}, (∀ i, i < n → 0 < g i) → pdQ9 n g A → 0 < qE9 A n n := by
  intro n
  induction n with
  | zero =>
    intro _ _
    show (0 : Rat) < 1
    decide
  | succ n ih =>
    intro hg hp
    have D := ih (fun i hi => hg i (by omega)) (pd_le (by omega) hp)
    cases n with
    | zero =>
      have a := hp (dl9 0) ⟨0, by omega, by
        show (if 0 = 0 then (1 : Rat) else 0) ≠ 0
        rw [if_pos rfl]
        exact fun h => absurd h (by decide)⟩
      rw [qG_dl (by omega), qV_col (by omega)] at a
      have b := (Rat.mul_pos_iff_of_pos_left (hg 0 (by omega))).mp a
      show 0 < qE9 A 0 1 + A 0 0
      rw [show qE9 A 0 1 = 0 from rfl, Rat.zero_add]
      exact b
    | succ n =>
      have hD : qE9 A (n + 1) (n + 1) ≠ 0 := fun h => by
        rw [h] at D
        exact absurd D (by decide)
      -- A z = w, z = N_n w / D
      have hz : ∀ i, i < n + 1 → qV9 (n + 1) A (qN9 (n + 1) A (qE9 A (n + 1)) (fun i => A i (n + 1)) n) i = qE9 A (n + 1) (n + 1) * A i (n + 1) := fun i hi => by
        have a := (ch9 (n + 1) A).2 (fun i => A i (n + 1)) (n + 1) (Nat.le_refl _) i hi
        have b : qE9 A (n + 1) (n + 1) * A i (n + 1) - qV9 (n + 1) A (qN9 (n + 1) A (qE9 A (n + 1)) (fun i => A i (n + 1)) n) i = 0 := a
        grind
      have hE : qE9 A (n + 1 + 1) (n + 1 + 1) = A (n + 1) (n + 1) * qE9 A (n + 1) (n + 1) - qD9 (n + 1) (A (n + 1)) (qN9 (n + 1) A (qE9 A (n + 1)) (fun i => A i (n + 1)) n) := by
        show qE9 A (n + 1) (n + 2) + A (n + 1) (n + 1) * qE9 A (n + 1) (n + 1) - qD9 (n + 1) (A (n + 1)) (qN9 (n + 1) A (qE9 A (n + 1)) (fun i => A i (n + 1)) n) = _
        rw [(ch9 (n + 1) A).1 (n + 2) (by omega)]
        grind
      have x1 : ∀ i, i < n + 1 → (fun i => if i = n + 1 then qE9 A (n + 1) (n + 1) else -qN9 (n + 1) A (qE9 A (n + 1)) (fun i => A i (n + 1)) n i) i = -qN9 (n + 1) A (qE9 A (n + 1)) (fun i => A i (n + 1)) n i := fun i hi => if_neg (by omega)
      have x2 : (fun i => if i = n + 1 then qE9 A (n + 1) (n + 1) else -qN9 (n + 1) A (qE9 A (n + 1)) (fun i => A i (n + 1)) n i) (n + 1) = qE9 A (n + 1) (n + 1) := if_pos rfl
      have a := hp (fun i => if i = n + 1 then qE9 A (n + 1) (n + 1) else -qN9 (n + 1) A (qE9 A (n + 1)) (fun i => A i (n + 1)) n i) ⟨n + 1, by omega, by rw [if_pos rfl]; exact hD⟩
      generalize (fun i => if i = n + 1 then qE9 A (n + 1) (n + 1) else -qN9 (n + 1) A (qE9 A (n + 1)) (fun i => A i (n + 1)) n i) = x at a x1 x2
      have v1 : ∀ i, qV9 (n + 1 + 1) A x i = -qV9 (n + 1) A (qN9 (n + 1) A (qE9 A (n + 1)) (fun i => A i (n + 1)) n) i + A i (n + 1) * qE9 A (n + 1) (n + 1) := fun i => by
        show qS9 (fun k => A i k * x k) (n + 1) + A i (n + 1) * x (n + 1) = _
        rw [x2]
        unfold qV9
        rw [← qS_neg]
        refine congrArg (fun s => s + A i (n + 1) * qE9 A (n + 1) (n + 1)) (qS_cg (fun k hk => ?_))
        rw [x1 k hk]
        grind
      have g1 : qG9 (n + 1 + 1) g x (qV9 (n + 1 + 1) A x) = g (n + 1) * qE9 A (n + 1) (n + 1) * qE9 A (n + 1 + 1) (n + 1 + 1) := by
        show qG9 (n + 1) g x (qV9 (n + 1 + 1) A x) + g (n + 1) * x (n + 1) * qV9 (n + 1 + 1) A x (n + 1) = _
        have e0 : qG9 (n + 1) g x (qV9 (n + 1 + 1) A x) = 0 := by
          unfold qG9
          rw [qS_cg (g := fun _ => 0) (fun i hi => by
            rw [v1 i, hz i hi]
            grind), qS_0]
        rw [e0, x2, v1, hE]
        show _ + g (n + 1) * qE9 A (n + 1) (n + 1) * (-qD9 (n + 1) (A (n + 1)) (qN9 (n + 1) A (qE9 A (n + 1)) (fun i => A i (n + 1)) n) + A (n + 1) (n + 1) * qE9 A (n + 1) (n + 1)) = _
        grind
      rw [g1] at a
      exact (Rat.mul_pos_iff_of_pos_left (Rat.mul_pos (hg (n + 1) (by omega)) D)).mp a
theorem pd_V : ∀ {n : Nat}, (∀ i, i < n → 0 < g i) → syG9 n g A → pdQ9 n g A → vP9 A n = n := by
  intro n
  induction n with
  | zero => exact fun _ _ _ => rfl
  | succ n ih =>
    intro hg hs hp
    have a := ih (fun i hi => hg i (by omega)) (sy_le hs (by omega)) (pd_le (by omega) hp)
    have b := (v_up hg hs).2
    have c := v_sum (A := A) (n := n + 1)
    have d := pd_det hg hp
    have hne : nuQ9 (qE9 A (n + 1)) (n + 1) ≠ 0 := by
      have := nu_ps.mpr d
      show (qE9 A (n + 1) (n + 1)).num ≠ 0
      omega
    have t0 : 0 < tw9 (nuQ9 (qE9 A (n + 1))) 0 := by
      rw [tw_e rfl]
      show 0 < (qE9 A (n + 1) 0).num
      rw [qE_0]
      decide
    have p := (wv_par t0 (n + 1)).2
    have w2 : (wv9 (tw9 (nuQ9 (qE9 A (n + 1)))) (n + 1)).2 = tw9 (nuQ9 (qE9 A (n + 1))) (n + 1) := by
      rw [wv_s (fun h => hne (tw_z.mp h))]
    rw [w2] at p
    have ps : 0 < nuQ9 (qE9 A (n + 1)) (n + 1) := nu_ps.mpr d
    have pe : vP9 A (n + 1) % 2 = 1 ↔ tw9 (nuQ9 (qE9 A (n + 1))) (n + 1) < 0 := p
    rcases Nat.mod_two_eq_zero_or_one (n + 1) with h9 | h9
    · rw [tw_e h9] at pe
      omega
    · rw [tw_o h9] at pe
      omega
/-- positive where b numbers are 0: at least n - b -/
theorem vP_ge (hg : ∀ i, i < n → 0 < g i) (hs : syG9 n g A) {b : Nat} (ℓ : Nat → Nat → Rat) (hb : b ≤ n) (h : ∀ x : Nat → Rat, (∃ i, i < n ∧ x i ≠ 0) → (∀ e, e < b → qD9 n (ℓ e) x = 0) → 0 < qG9 n g x (qV9 n A x)) : n - b ≤ vP9 A n := by
  obtain ⟨F1, -, o1, l1⟩ := ob_go (n := n) (g := g) ℓ b (n - b) 0 (fun _ _ => 0) ⟨fun c hc => absurd hc (by omega), fun c d hc => absurd hc (by omega)⟩ (by omega)
  rw [Nat.zero_add] at o1 l1
  obtain ⟨F, f1, o2⟩ := ob_full o1 (by omega)
  obtain ⟨B, P, Q, g2, b1, b2, b3, b4⟩ := ob_cj hg o2 A
  have sB := sy_cj b1 b4 hs
  have hP : ∀ x i, i < n → qV9 n P x i = qS9 (fun c => x c * F c i) n := fun x i hi => qS_cg (fun c hc => by
    have := b2 c hc i hi
    rw [qV_col hc] at this
    rw [this]
    exact Rat.mul_comm _ _)
  have pB : pdQ9 (n - b) g2 B := by
    intro x hx
    obtain ⟨i, hi, hne⟩ := hx
    have e0 : ∀ i, n - b ≤ i → i < n → (fun i => if i < n - b then x i else 0) i = 0 := fun i h1 _ => if_neg (by omega)
    have e1 : ∀ i, i < n - b → (fun i => if i < n - b then x i else 0) i = x i := fun i hi => if_pos hi
    generalize (fun i => if i < n - b then x i else 0) = z at e0 e1
    have a1 : qG9 (n - b) g2 x (qV9 (n - b) B x) = qG9 n g2 z (qV9 n B z) := by
      rw [qG_cut (m := n - b) (by omega) e0]
      refine qG_cg (fun i hi => (e1 i hi).symm) (fun i hi => ?_)
      rw [qV_cut (m := n - b) (by omega) e0]
      exact qV_cg (fun k hk => (e1 k hk).symm) i
    have a2 : qG9 n g2 z (qV9 n B z) = qG9 n g (qV9 n P z) (qV9 n A (qV9 n P z)) := by
      rw [← b4]
      exact qG_cg (fun i _ => rfl) (fun i hi => (b1.2 z i hi).symm)
    rw [a1, a2]
    refine h _ ?_ (fun e he => ?_)
    · by_cases h9 : ∃ i, i < n ∧ qV9 n P z i ≠ 0
      · exact h9
      · have e3 : ∀ i, i < n → qV9 n P z i = 0 := fun i hi => by
          by_cases h8 : qV9 n P z i = 0
          · exact h8
          · exact absurd ⟨i, hi, h8⟩ h9
        have e4 := b4 z z
        have e5 : qG9 n g (qV9 n P z) (qV9 n P z) = 0 := by
          unfold qG9
          rw [qS_cg (g := fun _ => 0) (fun i hi => by rw [e3 i hi]; grind), qS_0]
        have e6 := qG_ps (x := z) b3 ⟨i, by omega, by rw [e1 i hi]; exact hne⟩
        rw [← e4, e5] at e6
        exact absurd e6 (by decide)
    · have e3 : qD9 n (ℓ e) (qV9 n P z) = qD9 n (ℓ e) (fun i => qS9 (fun c => z c * F c i) n) := qD_cg (fun i _ => rfl) (fun i hi => hP z i hi)
      rw [e3, qD_sum, qS_cg (g := fun _ => 0) (fun c hc => by
        by_cases h9 : c < n - b
        · rw [f1 c h9, l1 c (by omega) h9 e he]
          exact Rat.mul_zero _
        · rw [e0 c (by omega) hc]
          exact Rat.zero_mul _), qS_0]
  have c1 := pd_V (fun i hi => b3 i (by omega)) (sy_le sB (by omega)) pB
  have c2 := (v_mono (show n - b ≤ n by omega) b3 sB).2
  rw [(v_cj b1).2]
  omega
/-- 0 where b numbers are 0: no coefficients behind b -/
theorem rk_E (hg : ∀ i, i < n → 0 < g i) (hs : syG9 n g A) {b : Nat} (ℓ : Nat → Nat → Rat) (hb : b ≤ n) (h : ∀ x : Nat → Rat, (∀ e, e < b → qD9 n (ℓ e) x = 0) → ∀ i, i < n → qV9 n A x i = 0) : vM9 A n + vP9 A n ≤ b := by
  obtain ⟨F1, -, o1, l1⟩ := ob_go (n := n) (g := g) ℓ b (n - b) 0 (fun _ _ => 0) ⟨fun c hc => absurd hc (by omega), fun c d hc => absurd hc (by omega)⟩ (by omega)
  rw [Nat.zero_add] at o1 l1
  obtain ⟨F, f1, o2⟩ := ob_full o1 (by omega)
  obtain ⟨B, P, Q, g2, b1, b2, b3, b4⟩ := ob_cj hg (ob_rev o2) A
  have sB := sy_cj b1 b4 hs
  have col : ∀ c, b ≤ c → c < n → ∀ i, i < n → B i c = 0 := fun c hc1 hc2 i hi => by
    have a1 : ∀ i, i < n → qV9 n P (qV9 n B (dl9 c)) i = 0 := fun i hi => by
      rw [← b1.2 (dl9 c) i hi, qV_cg (b2 c hc2) i, f1 (n - 1 - c) (by omega)]
      exact h (F1 (n - 1 - c)) (fun e he => l1 (n - 1 - c) (by omega) (by omega) e he) i hi
    have a2 := b4 (qV9 n B (dl9 c)) (qV9 n B (dl9 c))
    have a3 : qG9 n g (qV9 n P (qV9 n B (dl9 c))) (qV9 n P (qV9 n B (dl9 c))) = 0 := by
      unfold qG9
      rw [qS_cg (g := fun _ => 0) (fun i hi => by rw [a1 i hi]; grind), qS_0]
    by_cases h9 : B i c = 0
    · exact h9
    · have a4 := qG_ps (x := qV9 n B (dl9 c)) b3 ⟨i, hi, by rw [qV_col hc2]; exact h9⟩
      rw [← a2, a3] at a4
      exact absurd a4 (by decide)
  have row : ∀ c, b ≤ c → c < n → ∀ i, i < n → B c i = 0 := fun c hc1 hc2 i hi => by
    have a1 := sB i c hi hc2
    rw [col c hc1 hc2 i hi, Rat.mul_zero] at a1
    rcases Rat.mul_eq_zero.mp a1.symm with h9 | h9
    · have := b3 c hc2
      rw [h9] at this
      exact absurd this (by decide)
    · exact h9
  have eE : ∀ m, b ≤ m → m ≤ n → ∀ k, qE9 B m k = qE9 B b k := by
    intro m
    induction m with
    | zero =>
      intro h1 _ k
      rw [show b = 0 by omega]
    | succ m ih =>
      intro h1 h2 k
      by_cases h9 : b = m + 1
      · rw [h9]
      · rw [← ih (by omega) (by omega) k]
        cases k with
        | zero => rw [qE_0, qE_0]
        | succ k =>
          cases k with
          | zero =>
            show qE9 B m 1 + B m m = qE9 B m 1
            rw [col m (by omega) (by omega) m (by omega)]
            exact Rat.add_zero _
          | succ k =>
            show qE9 B m (k + 2) + B m m * qE9 B m (k + 1) - qD9 m (B m) (qN9 m B (qE9 B m) (fun i => B i m) k) = qE9 B m (k + 2)
            have e1 : qD9 m (B m) (qN9 m B (qE9 B m) (fun i => B i m) k) = 0 := by
              unfold qD9
              rw [qS_cg (g := fun _ => 0) (fun i hi => by rw [row m (by omega) (by omega) i (by omega)]; exact Rat.zero_mul _), qS_0]
            rw [col m (by omega) (by omega) m (by omega), e1]
            grind
  have := v_rk (A := B) (n := n) (b := b) (fun k hk => by rw [eE n hb (Nat.le_refl n) k]; exact (ch9 b B).1 k hk)
  rw [(v_cj b1).1, (v_cj b1).2]
  exact this
theorem qN_neg {E : Nat → Rat} (w : Nat → Rat) : ∀ j i, qN9 n (fun i j => -A i j) (fun k => sn9 k * E k) w j i = sn9 j * qN9 n A E w j i := by
  intro j
  induction j with
  | zero =>
    intro i
    show w i = sn9 0 * w i
    rw [show sn9 0 = 1 from rfl, Rat.one_mul]
  | succ j ih =>
    intro i
    show sn9 (j + 1) * E (j + 1) * w i - qV9 n (fun i j => -A i j) (qN9 n (fun i j => -A i j) (fun k => sn9 k * E k) w j) i = sn9 (j + 1) * (E (j + 1) * w i - qV9 n A (qN9 n A E w j) i)
    have e1 : qV9 n (fun i j => -A i j) (qN9 n (fun i j => -A i j) (fun k => sn9 k * E k) w j) i = -sn9 j * qV9 n A (qN9 n A E w j) i := by
      unfold qV9
      rw [← qS_mul]
      exact qS_cg (fun k _ => by
        rw [ih k]
        grind)
    rw [e1, sn_s]
    grind
theorem qE_neg : ∀ n k, qE9 (fun i j => -A i j) n k = sn9 k * qE9 A n k := by
  intro n
  induction n with
  | zero =>
    intro k
    show (if k = 0 then (1 : Rat) else 0) = sn9 k * (if k = 0 then 1 else 0)
    by_cases h : k = 0
    · subst h
      rw [if_pos rfl, show sn9 0 = 1 from rfl, Rat.one_mul]
    · rw [if_neg h, Rat.mul_zero]
  | succ n ih =>
    intro k
    have ee : qE9 (fun i j => -A i j) n = fun k => sn9 k * qE9 A n k := funext ih
    cases k with
    | zero =>
      rw [qE_0, qE_0, show sn9 0 = 1 from rfl, Rat.one_mul]
    | succ k =>
      cases k with
      | zero =>
        show qE9 (fun i j => -A i j) n 1 + -A n n = sn9 1 * (qE9 A n 1 + A n n)
        rw [ih 1, show sn9 1 = -1 from rfl]
        grind
      | succ k =>
        show qE9 (fun i j => -A i j) n (k + 2) + -A n n * qE9 (fun i j => -A i j) n (k + 1) - qD9 n (fun j => -A n j) (qN9 n (fun i j => -A i j) (qE9 (fun i j => -A i j) n) (fun i => -A i n) k) = sn9 (k + 2) * (qE9 A n (k + 2) + A n n * qE9 A n (k + 1) - qD9 n (A n) (qN9 n A (qE9 A n) (fun i => A i n) k))
        have e1 : qD9 n (fun j => -A n j) (qN9 n (fun i j => -A i j) (qE9 (fun i j => -A i j) n) (fun i => -A i n) k) = sn9 k * qD9 n (A n) (qN9 n A (qE9 A n) (fun i => A i n) k) := by
          rw [ee]
          have e2 : ∀ i, i < n → qN9 n (fun i j => -A i j) (fun k => sn9 k * qE9 A n k) (fun i => -A i n) k i = -(sn9 k * qN9 n A (qE9 A n) (fun i => A i n) k i) := fun i hi => by
            rw [qN_neg]
            have e3 : qN9 n A (qE9 A n) (fun i => -A i n) k i = -qN9 n A (qE9 A n) (fun i => A i n) k i := by
              have key : ∀ j i, qN9 n A (qE9 A n) (fun i => -A i n) j i = -qN9 n A (qE9 A n) (fun i => A i n) j i := by
                intro j
                induction j with
                | zero => exact fun i => rfl
                | succ j ihj =>
                  intro i
                  show qE9 A n (j + 1) * -A i n - qV9 n A (qN9 n A (qE9 A n) (fun i => -A i n) j) i = -(qE9 A n (j + 1) * A i n - qV9 n A (qN9 n A (qE9 A n) (fun i => A i n) j) i)
                  have : qV9 n A (qN9 n A (qE9 A n) (fun i => -A i n) j) i = -qV9 n A (qN9 n A (qE9 A n) (fun i => A i n) j) i := by
                    unfold qV9
                    rw [← qS_neg]
                    exact qS_cg (fun k _ => by
                      rw [ihj k]
                      grind)
                  rw [this]
                  grind
              exact key k i
            rw [e3]
            grind
          unfold qD9
          rw [← qS_mul]
          exact qS_cg (fun i hi => by
            rw [e2 i hi]
            grind)
        have s2 : sn9 (k + 2) = sn9 k := by
          rw [show k + 2 = k + 1 + 1 from rfl, sn_s, sn_s]
          grind
        rw [e1, ih (k + 2), ih (k + 1), s2, sn_s]
        grind
theorem tw_neg : tw9 (nuQ9 (qE9 (fun i j => -A i j) n)) = nuQ9 (qE9 A n) := by
  funext k
  unfold tw9 nuQ9
  rw [qE_neg]
  unfold sn9
  by_cases h : k % 2 = 0
  · rw [if_pos h, if_pos h, Rat.one_mul]
  · rw [if_neg h, if_neg h, show (-1 : Rat) * qE9 A n k = -qE9 A n k by grind, Rat.neg_num]
    omega
end XSGG
end
