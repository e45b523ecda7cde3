/-! signature: the trace of N_j -/
def tA9 (A : mQ99) : mQ99 := fun i j => A j i
section XSGA
variable {n : Nat} {A : mQ99}
theorem qD_cm {v w : Nat → Rat} : qD9 n v w = qD9 n w v := qS_cg (fun k _ => Rat.mul_comm _ _)
theorem qD_cg {v w v2 w2 : Nat → Rat} (h1 : ∀ i, i < n → v i = v2 i) (h2 : ∀ i, i < n → w i = w2 i) : qD9 n v w = qD9 n v2 w2 := qS_cg (fun k hk => by rw [h1 k hk, h2 k hk])
theorem qV_adj {x y : Nat → Rat} : qD9 n x (qV9 n (tA9 A) y) = qD9 n (qV9 n A x) y := by
  unfold qD9 qV9
  have e1 : ∀ i, i < n → x i * qS9 (fun k => tA9 A i k * y k) n = qS9 (fun k => A k i * x i * y k) n := fun i _ => by
    rw [← qS_mul]
    refine qS_cg (fun k _ => ?_)
    show x i * (A k i * y k) = A k i * x i * y k
    grind
  have e2 : ∀ k, k < n → qS9 (fun i => A k i * x i) n * y k = qS9 (fun i => A k i * x i * y k) n := fun k _ => by
    rw [Rat.mul_comm, ← qS_mul]
    refine qS_cg (fun i _ => ?_)
    show y k * (A k i * x i) = A k i * x i * y k
    grind
  rw [qS_cg e1, qS_cg e2, qS_sw]
theorem qA_hd {x : Nat → Rat} (l : Nat) : qA9 n A (qV9 n A x) l = qA9 n A x (l + 1) := by
  have := qA_add (n := n) (A := A) (w := x) (i := 1) l
  rw [Nat.add_comm] at this
  exact this
theorem qA_adj {y : Nat → Rat} : ∀ (l : Nat) (x : Nat → Rat), qD9 n x (qA9 n (tA9 A) y l) = qD9 n (qA9 n A x l) y := by
  intro l
  induction l with
  | zero => exact fun x => rfl
  | succ l ih =>
    intro x
    show qD9 n x (qV9 n (tA9 A) (qA9 n (tA9 A) y l)) = _
    rw [qV_adj, ih, qA_hd]
theorem qD_sum {x : Nat → Rat} {c : Nat → Rat} {X : Nat → Nat → Rat} {m : Nat} : qD9 n x (fun i => qS9 (fun l => c l * X l i) m) = qS9 (fun l => c l * qD9 n x (X l)) m := by
  unfold qD9
  have e1 : ∀ k, k < n → x k * qS9 (fun l => c l * X l k) m = qS9 (fun l => c l * (x k * X l k)) m := fun k _ => by
    rw [← qS_mul]
    exact qS_cg (fun l _ => by grind)
  rw [qS_cg e1, qS_sw]
  exact qS_cg (fun l _ => qS_mul)
theorem qN_adj {E x y : Nat → Rat} (h0 : E 0 = 1) (j : Nat) : qD9 n x (qN9 n (tA9 A) E y j) = qD9 n (qN9 n A E x j) y := by
  rw [qN_poly h0, qD_sum, qD_cm (v := qN9 n A E x j), qN_poly h0, qD_sum]
  refine qS_cg (fun l _ => ?_)
  rw [qA_adj, qD_cm]
theorem qE_tr : ∀ (n k : Nat), qE9 (tA9 A) n k = qE9 A n k := by
  intro n
  induction n with
  | zero => exact fun k => rfl
  | succ n ih =>
    intro k
    have ee : qE9 (tA9 A) n = qE9 A n := funext ih
    cases k with
    | zero => rfl
    | succ k =>
      cases k with
      | zero =>
        show qE9 (tA9 A) n 1 + A n n = qE9 A n 1 + A n n
        rw [ee]
      | succ k =>
        show qE9 (tA9 A) n (k + 2) + A n n * qE9 (tA9 A) n (k + 1) - qD9 n (fun i => A i n) (qN9 n (tA9 A) (qE9 (tA9 A) n) (A n) k) = qE9 A n (k + 2) + A n n * qE9 A n (k + 1) - qD9 n (A n) (qN9 n A (qE9 A n) (fun i => A i n) k)
        rw [ee, qN_adj qE_0, qD_cm (v := A n)]
theorem qD_dl {x : Nat → Rat} {c : Nat} : ∀ {n : Nat}, c < n → qD9 n (dl9 c) x = x c := by
  intro n
  induction n with
  | zero => exact fun h => absurd h (by omega)
  | succ n ih =>
    intro h
    show qD9 n (dl9 c) x + dl9 c n * x n = x c
    by_cases h9 : c = n
    · subst h9
      have e : qD9 c (dl9 c) x = 0 := by
        unfold qD9
        rw [qS_cg (g := fun _ => 0) (fun k hk => by rw [show dl9 c k = 0 from if_neg (by omega)]; exact Rat.zero_mul _), qS_0]
      rw [e, show dl9 c c = 1 from if_pos rfl]
      grind
    · rw [ih (by omega), show dl9 c n = 0 from if_neg (by omega)]
      grind
/-- the row of N_j at the border -/
theorem qN_row {c : Nat} (hc : c < n) (j : Nat) : qN9 (n + 1) A (qE9 A (n + 1)) (dl9 c) j n = if j = 0 then 0 else -qN9 n (tA9 A) (qE9 A n) (A n) (j - 1) c := by
  have e1 := qD_dl (x := qN9 (n + 1) A (qE9 A (n + 1)) (dl9 c) j) (c := n) (n := n + 1) (by omega)
  have e2 := qN_adj (n := n + 1) (A := tA9 A) (E := qE9 A (n + 1)) (x := dl9 n) (y := dl9 c) qE_0 j
  have e3 : tA9 (tA9 A) = A := rfl
  rw [e3, e1, qD_cm, qD_dl (by omega)] at e2
  rw [e2]
  have e4 := (qN_col (n := n) (A := tA9 A) j).2 c hc
  rw [show qE9 (tA9 A) (n + 1) = qE9 A (n + 1) from funext (qE_tr _), show qE9 (tA9 A) n = qE9 A n from funext (qE_tr _)] at e4
  exact e4
theorem qS_tsw {f : Nat → Nat → Rat} : ∀ m, qS9 (fun l => qS9 (fun s => f l s) (m - l + 1)) (m + 1) = qS9 (fun s => qS9 (fun l => f l s) (m - s + 1)) (m + 1) := by
  intro m
  induction m with
  | zero =>
    show (0 : Rat) + (0 + f 0 0) = 0 + (0 + f 0 0)
    rfl
  | succ m ih =>
    have e1 : ∀ g : Nat → Nat → Rat, qS9 (fun l => qS9 (fun s => g l s) (m + 1 - l + 1)) (m + 1) = qS9 (fun l => qS9 (fun s => g l s) (m - l + 1)) (m + 1) + qS9 (fun l => g l (m + 1 - l)) (m + 1) := fun g => by
      rw [← qS_add]
      refine qS_cg (fun i hi => ?_)
      rw [show m + 1 - i + 1 = m - i + 1 + 1 by omega]
      show qS9 (fun s => g i s) (m - i + 1) + g i (m - i + 1) = _
      rw [show m - i + 1 = m + 1 - i by omega]
    have e2 : ∀ g : Nat → Nat → Rat, qS9 (fun s => g (m + 1) s) (m + 1 - (m + 1) + 1) = g (m + 1) 0 := fun g => by
      rw [show m + 1 - (m + 1) + 1 = 1 by omega]
      show (0 : Rat) + g (m + 1) 0 = _
      exact Rat.zero_add _
    have e3 : qS9 (fun l => f l (m + 1 - l)) (m + 1) + f (m + 1) 0 = qS9 (fun s => f (m + 1 - s) s) (m + 1) + f 0 (m + 1) := by
      have e4 : ∀ (k : Nat) (h : Nat → Rat), qS9 (fun i => h (k - i)) (k + 1) = qS9 h (k + 1) := by
        intro k
        induction k with
        | zero => exact fun h => rfl
        | succ k ih2 =>
          intro h
          rw [qS_hd]
          have e5 : qS9 (fun i => h (k + 1 - (i + 1))) (k + 1) = qS9 h (k + 1) := by
            rw [← ih2 h]
            exact qS_cg (fun i _ => by rw [show k + 1 - (i + 1) = k - i by omega])
          rw [e5]
          show h (k + 1) + qS9 h (k + 1) = qS9 h (k + 1) + h (k + 1)
          exact Rat.add_comm _ _
      have e6 := e4 (m + 1) (fun l => f l (m + 1 - l))
      have e7 : qS9 (fun i => (fun l => f l (m + 1 - l)) (m + 1 - i)) (m + 1 + 1) = qS9 (fun s => f (m + 1 - s) s) (m + 1 + 1) := by
        refine qS_cg (fun i hi => ?_)
        show f (m + 1 - i) (m + 1 - (m + 1 - i)) = _
        rw [show m + 1 - (m + 1 - i) = i by omega]
      rw [e7] at e6
      have e8 : qS9 (fun s => f (m + 1 - s) s) (m + 1) + f (m + 1 - (m + 1)) (m + 1) = qS9 (fun l => f l (m + 1 - l)) (m + 1) + f (m + 1) (m + 1 - (m + 1)) := e6
      rw [Nat.sub_self] at e8
      exact e8.symm
    show qS9 (fun l => qS9 (fun s => f l s) (m + 1 - l + 1)) (m + 1) + qS9 (fun s => f (m + 1) s) (m + 1 - (m + 1) + 1) = qS9 (fun s => qS9 (fun l => f l s) (m + 1 - s + 1)) (m + 1) + qS9 (fun l => f l (m + 1)) (m + 1 - (m + 1) + 1)
    rw [e1 f, e1 (fun s l => f l s), e2 f, e2 (fun s l => f l s), ih]
    grind
theorem qV_cg {x y : Nat → Rat} (h : ∀ i, i < n → x i = y i) (i : Nat) : qV9 n A x i = qV9 n A y i := qS_cg (fun k hk => by rw [h k hk])
/-- the block of N_j -/
theorem qN_blk {c : Nat} (hc : c < n) (E2 : Nat → Rat) (h0 : E2 0 = 1) : ∀ j i, i < n → qN9 (n + 1) A E2 (dl9 c) j i = qS9 (fun l => sn9 l * E2 (j - l) * qA9 n A (dl9 c) l i) (j + 1) - qS9 (fun l => sn9 l * qN9 (n + 1) A E2 (dl9 c) (j - 1 - l) n * qA9 n A (fun i => A i n) l i) j := by
  intro j
  induction j with
  | zero =>
    intro i hi
    show dl9 c i = (0 : Rat) + sn9 0 * E2 0 * dl9 c i - 0
    rw [h0, show sn9 0 = 1 from rfl]
    grind
  | succ j ih =>
    intro i hi
    show E2 (j + 1) * dl9 c i - (qS9 (fun k => A i k * qN9 (n + 1) A E2 (dl9 c) j k) n + A i n * qN9 (n + 1) A E2 (dl9 c) j n) = _
    have e1 : qS9 (fun k => A i k * qN9 (n + 1) A E2 (dl9 c) j k) n = qS9 (fun l => sn9 l * E2 (j - l) * qA9 n A (dl9 c) (l + 1) i) (j + 1) - qS9 (fun l => sn9 l * qN9 (n + 1) A E2 (dl9 c) (j - 1 - l) n * qA9 n A (fun i => A i n) (l + 1) i) j := by
      have e2 := qV_sum (n := n) (A := A) (c := fun l => sn9 l * E2 (j - l)) (x := qA9 n A (dl9 c)) (m := j + 1) (i := i)
      have e3 := qV_sum (n := n) (A := A) (c := fun l => sn9 l * qN9 (n + 1) A E2 (dl9 c) (j - 1 - l) n) (x := qA9 n A (fun i => A i n)) (m := j) (i := i)
      have e4 : qS9 (fun k => A i k * qN9 (n + 1) A E2 (dl9 c) j k) n = qS9 (fun k => A i k * qS9 (fun l => sn9 l * E2 (j - l) * qA9 n A (dl9 c) l k) (j + 1) + -(A i k * qS9 (fun l => sn9 l * qN9 (n + 1) A E2 (dl9 c) (j - 1 - l) n * qA9 n A (fun i => A i n) l k) j)) n := qS_cg (fun k hk => by
        rw [ih k hk]
        grind)
      rw [e4, qS_add, qS_neg]
      have e5 : qS9 (fun k => A i k * qS9 (fun l => sn9 l * E2 (j - l) * qA9 n A (dl9 c) l k) (j + 1)) n = qS9 (fun l => sn9 l * E2 (j - l) * qA9 n A (dl9 c) (l + 1) i) (j + 1) := e2
      have e6 : qS9 (fun k => A i k * qS9 (fun l => sn9 l * qN9 (n + 1) A E2 (dl9 c) (j - 1 - l) n * qA9 n A (fun i => A i n) l k) j) n = qS9 (fun l => sn9 l * qN9 (n + 1) A E2 (dl9 c) (j - 1 - l) n * qA9 n A (fun i => A i n) (l + 1) i) j := e3
      rw [e5, e6]
      grind
    have e7 : qS9 (fun l => sn9 l * E2 (j + 1 - l) * qA9 n A (dl9 c) l i) (j + 1 + 1) = E2 (j + 1) * dl9 c i - qS9 (fun l => sn9 l * E2 (j - l) * qA9 n A (dl9 c) (l + 1) i) (j + 1) := by
      rw [qS_hd]
      have e8 : qS9 (fun l => sn9 (l + 1) * E2 (j + 1 - (l + 1)) * qA9 n A (dl9 c) (l + 1) i) (j + 1) = -qS9 (fun l => sn9 l * E2 (j - l) * qA9 n A (dl9 c) (l + 1) i) (j + 1) := by
        rw [← qS_neg]
        refine qS_cg (fun l _ => ?_)
        rw [sn_s, show j + 1 - (l + 1) = j - l by omega]
        grind
      rw [e8]
      show sn9 0 * E2 (j + 1) * dl9 c i + _ = _
      rw [show sn9 0 = 1 from rfl]
      grind
    have e9 : qS9 (fun l => sn9 l * qN9 (n + 1) A E2 (dl9 c) (j + 1 - 1 - l) n * qA9 n A (fun i => A i n) l i) (j + 1) = qN9 (n + 1) A E2 (dl9 c) j n * A i n - qS9 (fun l => sn9 l * qN9 (n + 1) A E2 (dl9 c) (j - 1 - l) n * qA9 n A (fun i => A i n) (l + 1) i) j := by
      rw [qS_hd]
      have e8 : qS9 (fun l => sn9 (l + 1) * qN9 (n + 1) A E2 (dl9 c) (j + 1 - 1 - (l + 1)) n * qA9 n A (fun i => A i n) (l + 1) i) j = -qS9 (fun l => sn9 l * qN9 (n + 1) A E2 (dl9 c) (j - 1 - l) n * qA9 n A (fun i => A i n) (l + 1) i) j := by
        rw [← qS_neg]
        refine qS_cg (fun l _ => ?_)
        rw [sn_s, show j + 1 - 1 - (l + 1) = j - 1 - l by omega]
        grind
      rw [e8, show j + 1 - 1 - 0 = j by omega]
      show sn9 0 * _ * A i n + _ = _
      rw [show sn9 0 = 1 from rfl]
      grind
    rw [e1, e7, e9]
    grind
end XSGA
