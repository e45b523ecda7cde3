/-! signature: Newton's inequality for forms; what a border does to the changes of sign -/
/-- g A is symmetric -/
def syG9 (n : Nat) (g : Nat → Rat) (A : mQ99) : Prop := ∀ i j, i < n → j < n → g i * A i j = g j * A j i
section XSGE
variable {n : Nat} {g : Nat → Rat} {A : mQ99}
theorem sy_le {m : Nat} (h : syG9 n g A) (hm : m ≤ n) : syG9 m g A := fun i j hi hj => h i j (by omega) (by omega)
theorem sy_adj (h : syG9 n g A) (x y : Nat → Rat) : qG9 n g x (qV9 n A y) = qG9 n g (qV9 n A x) y := by
  unfold qG9 qV9
  have e1 : ∀ i, i < n → g i * x i * qS9 (fun k => A i k * y k) n = qS9 (fun k => x i * y k * (g k * A k i)) n := fun i hi => by
    rw [← qS_mul]
    refine qS_cg (fun k hk => ?_)
    have := h i k hi hk
    rw [← this]
    grind
  have e2 : ∀ k, k < n → g k * qS9 (fun i => A k i * x i) n * y k = qS9 (fun i => x i * y k * (g k * A k i)) n := fun k hk => by
    rw [show g k * qS9 (fun i => A k i * x i) n * y k = (g k * y k) * qS9 (fun i => A k i * x i) n by grind, ← qS_mul]
    exact qS_cg (fun i _ => by grind)
  rw [qS_cg e1, qS_cg e2, qS_sw]
theorem qG_dl {x : Nat → Rat} {c : Nat} (hc : c < n) : qG9 n g (dl9 c) x = g c * x c := by
  have : qG9 n g (dl9 c) x = qD9 n (dl9 c) (fun i => g i * x i) := qS_cg (fun i _ => by grind)
  rw [this, qD_dl hc]
theorem qV_col {j i : Nat} (hj : j < n) : qV9 n A (dl9 j) i = A i j := by
  have : qV9 n A (dl9 j) i = qD9 n (dl9 j) (A i) := qS_cg (fun k _ => Rat.mul_comm _ _)
  rw [this, qD_dl hj]
theorem sy_of (h : ∀ x y, qG9 n g x (qV9 n A y) = qG9 n g (qV9 n A x) y) : syG9 n g A := fun i j hi hj => by
  have := h (dl9 i) (dl9 j)
  rw [qG_dl hi, qG_cm, qG_dl hj, qV_col hj, qV_col hi] at this
  exact this
/-- another basis keeps the form symmetric -/
theorem sy_cj {B P Q : mQ99} {g2 : Nat → Rat} (h : cj9 n A B P Q) (hG : ∀ x z, qG9 n g (qV9 n P x) (qV9 n P z) = qG9 n g2 x z) (hs : syG9 n g A) : syG9 n g2 B := sy_of (fun x y => by
  rw [← hG, ← hG, ← qG_cg (x := qV9 n P x) (fun i _ => rfl) (h.2 y), sy_adj hs, qG_cg (h.2 x) (fun i _ => rfl)])
theorem qW_cg {E x y : Nat → Rat} (h : ∀ i, i < n → x i = y i) (j i : Nat) (hi : i < n) : qW9 n A E x j i = qW9 n A E y j i := by
  unfold qW9
  rw [qN_cg h j i hi, qN_cg h (j - 1) i hi]
theorem cj_W {B P Q : mQ99} (h : cj9 n A B P Q) {E : Nat → Rat} (x : Nat → Rat) (j i : Nat) (hi : i < n) : qW9 n A E (qV9 n P x) j i = qV9 n P (qW9 n B E x j) i := by
  unfold qW9
  by_cases h9 : j = 0
  · rw [if_pos h9, cj_N h x j i hi]
    have e3 : qV9 n P (fun i => E j * qN9 n B E x j i - E (j + 1) * (if j = 0 then 0 else qN9 n B E x (j - 1) i)) i = qD9 n (P i) (fun k => E j * qN9 n B E x j k - 0 * x k) := qS_cg (fun k _ => by dsimp only; rw [if_pos h9]; grind)
    rw [e3, qD_lin]
    show E j * qV9 n P (qN9 n B E x j) i - E (j + 1) * 0 = E j * qV9 n P (qN9 n B E x j) i - 0 * qD9 n (P i) x
    grind
  · rw [if_neg h9, cj_N h x j i hi, cj_N h x (j - 1) i hi]
    have e3 : qV9 n P (fun i => E j * qN9 n B E x j i - E (j + 1) * (if j = 0 then 0 else qN9 n B E x (j - 1) i)) i = qD9 n (P i) (fun k => E j * qN9 n B E x j k - E (j + 1) * qN9 n B E x (j - 1) k) := qS_cg (fun k _ => by dsimp only; rw [if_neg h9])
    rw [e3, qD_lin]
    rfl
/-- from W to U -/
theorem wn_U (hg : ∀ i, i < n → 0 < g i) (hW : ∀ y j, 0 ≤ qG9 n g y (qW9 n A (qE9 A n) y j)) (k : Nat) : 0 ≤ qE9 A n (k + 1) * qE9 A n (k + 1) - qE9 A n (k + 2) * qE9 A n k ∧ (qE9 A n (k + 1) ≠ 0 → 0 < qE9 A n (k + 1) * qE9 A n (k + 1) - qE9 A n (k + 2) * qE9 A n k) := by
  by_cases hk : k < n
  · have e1 : ∀ c, c < n → 0 ≤ qW9 n A (qE9 A n) (dl9 c) (k + 1) c := fun c hc => by
      have a := hW (dl9 c) (k + 1)
      rw [qG_dl hc] at a
      rcases Rat.le_total (a := 0) (b := qW9 n A (qE9 A n) (dl9 c) (k + 1) c) with h | h
      · exact h
      · by_cases h0 : qW9 n A (qE9 A n) (dl9 c) (k + 1) c = 0
        · rw [h0]
          exact Rat.le_refl
        · have b : 0 < -qW9 n A (qE9 A n) (dl9 c) (k + 1) c := Rat.lt_of_le_of_ne (by grind) (by grind)
          have d := Rat.mul_pos (hg c hc) b
          grind
    have e2 : ∀ m, m ≤ n → 0 ≤ qS9 (fun c => qW9 n A (qE9 A n) (dl9 c) (k + 1) c) m := by
      intro m
      induction m with
      | zero => exact fun _ => Rat.le_refl
      | succ m ih =>
        intro hm
        exact Rat.add_nonneg (ih (by omega)) (e1 m (by omega))
    have e3 : qS9 (fun c => qW9 n A (qE9 A n) (dl9 c) (k + 1) c) n = qE9 A n (k + 1) * (((n : Rat) - ((k + 1 : Nat) : Rat)) * qE9 A n (k + 1)) - qE9 A n (k + 2) * (((n : Rat) - (k : Rat)) * qE9 A n k) := by
      have a1 : qS9 (fun c => qW9 n A (qE9 A n) (dl9 c) (k + 1) c) n = qS9 (fun c => qE9 A n (k + 1) * qN9 n A (qE9 A n) (dl9 c) (k + 1) c + -qE9 A n (k + 2) * qN9 n A (qE9 A n) (dl9 c) k c) n := qS_cg (fun c _ => by
        unfold qW9
        rw [if_neg (by omega), show k + 1 - 1 = k by omega]
        grind)
      rw [a1, qS_add, qS_mul, qS_mul, tr_E, tr_E]
      grind
    have e4 := e2 n (Nat.le_refl n)
    rw [e3, cs_s] at e4
    have hnk : 0 < (n : Rat) - (k : Rat) := by
      have : ((k : Int) : Rat) < ((n : Int) : Rat) := Rat.intCast_lt_intCast.mpr (by omega)
      have h2 : (k : Rat) < (n : Rat) := this
      grind
    have e5 : qE9 A n (k + 1) * qE9 A n (k + 1) ≤ ((n : Rat) - (k : Rat)) * (qE9 A n (k + 1) * qE9 A n (k + 1) - qE9 A n (k + 2) * qE9 A n k) := by grind
    have e6 := sq_nn9 (qE9 A n (k + 1))
    generalize qE9 A n (k + 1) * qE9 A n (k + 1) - qE9 A n (k + 2) * qE9 A n k = U at e5 ⊢
    refine ⟨?_, fun hne => ?_⟩
    · rcases Rat.le_total (a := 0) (b := U) with h | h
      · exact h
      · by_cases h0 : U = 0
        · rw [h0]
          exact Rat.le_refl
        · have b : 0 < -U := Rat.lt_of_le_of_ne (by grind) (by grind)
          have d := Rat.mul_pos hnk b
          grind
    · have e7 := sq_ps9 hne
      have e8 : 0 < ((n : Rat) - (k : Rat)) * U := by grind
      exact (Rat.mul_pos_iff_of_pos_left hnk).mp e8
  · have e1 := (ch9 n A).1 (k + 1) (by omega)
    have e2 := (ch9 n A).1 (k + 2) (by omega)
    rw [e1, e2]
    refine ⟨by grind, fun h => absurd rfl h⟩
end XSGE
/-- W is never negative -/
theorem wn9 : ∀ (n : Nat) (A : mQ99) (g : Nat → Rat), (∀ i, i < n → 0 < g i) → syG9 n g A → ∀ y j, 0 ≤ qG9 n g y (qW9 n A (qE9 A n) y j) := by
  intro n
  induction n with
  | zero => exact fun A g _ _ y j => Rat.le_refl
  | succ n ih =>
    intro A g hg hs y j
    cases j with
    | zero =>
      have : qG9 (n + 1) g y (qW9 (n + 1) A (qE9 A (n + 1)) y 0) = qG9 (n + 1) g y y := qG_cg (fun i _ => rfl) (fun i _ => by
        show qE9 A (n + 1) 0 * y i - qE9 A (n + 1) 1 * 0 = y i
        rw [qE_0]
        grind)
      rw [this]
      exact qG_nn hg
    | succ k =>
      by_cases hy : ∃ i, i < n + 1 ∧ y i ≠ 0
      · obtain ⟨B, P, Q, g2, b1, b2, b3, b4⟩ := ob_last hg hy A
        have hB := sy_cj b1 b4 hs
        have e1 : qG9 (n + 1) g y (qW9 (n + 1) A (qE9 A (n + 1)) y (k + 1)) = qG9 (n + 1) g (qV9 (n + 1) P (dl9 n)) (qV9 (n + 1) P (qW9 (n + 1) B (qE9 B (n + 1)) (dl9 n) (k + 1))) := qG_cg (fun i hi => (b2 i hi).symm) (fun i hi => by
          rw [qW_cg (fun i hi => (b2 i hi).symm) (k + 1) i hi, cj_W b1 _ (k + 1) i hi, show qE9 A (n + 1) = qE9 B (n + 1) from funext (cj_E b1)])
        rw [e1, b4, qG_dl (by omega), qW_cor, qQ_s]
        have g9 := b3 n (by omega)
        have gn : ∀ i, i < n → 0 < g2 i := fun i hi => b3 i (by omega)
        have sn := sy_le hB (show n ≤ n + 1 by omega)
        have wB := ih B g2 gn sn
        have u1 := (wn_U gn wB k).1
        have u2 : g2 n * qD9 n (B n) (qW9 n B (qE9 B n) (fun i => B i n) k) = qG9 n g2 (fun i => B i n) (qW9 n B (qE9 B n) (fun i => B i n) k) := by
          unfold qD9 qG9
          rw [← qS_mul]
          refine qS_cg (fun i hi => ?_)
          have := hB n i (by omega) (by omega)
          rw [← Rat.mul_assoc, this]
        have u3 := wB (fun i => B i n) k
        have u4 := Rat.mul_nonneg (Rat.le_of_lt g9) u1
        rw [← u2] at u3
        grind
      · have e0 : ∀ i, i < n + 1 → y i = 0 := fun i hi => by
          by_cases h9 : y i = 0
          · exact h9
          · exact absurd ⟨i, hi, h9⟩ hy
        have : qG9 (n + 1) g y (qW9 (n + 1) A (qE9 A (n + 1)) y (k + 1)) = 0 := by
          unfold qG9
          rw [qS_cg (g := fun _ => 0) (fun i hi => by rw [e0 i hi]; grind), qS_0]
        rw [this]
        exact Rat.le_refl
/-- what lemma Z wants -/
theorem bqG9 {n : Nat} {A : mQ99} {g : Nat → Rat} (hg : ∀ i, i < n + 1 → 0 < g i) (hs : syG9 (n + 1) g A) (k : Nat) (hk : qE9 A n (k + 1) ≠ 0) : 0 < qE9 A (n + 1) (k + 1) * qE9 A n (k + 1) - qE9 A (n + 1) (k + 2) * qE9 A n k := by
  have gn : ∀ i, i < n → 0 < g i := fun i hi => hg i (by omega)
  have wB := wn9 n A g gn (sy_le hs (by omega))
  have u1 := (wn_U gn wB k).2 hk
  have u2 : g n * qD9 n (A n) (qW9 n A (qE9 A n) (fun i => A i n) k) = qG9 n g (fun i => A i n) (qW9 n A (qE9 A n) (fun i => A i n) k) := by
    unfold qD9 qG9
    rw [← qS_mul]
    refine qS_cg (fun i hi => ?_)
    have := hs n i (by omega) (by omega)
    rw [← Rat.mul_assoc, this]
  have u3 := wB (fun i => A i n) k
  rw [← u2] at u3
  have g9 := hg n (by omega)
  rw [qQ_s]
  have u5 := Rat.mul_pos g9 u1
  have u6 : 0 < g n * ((qE9 A n (k + 1) * qE9 A n (k + 1) - qE9 A n (k + 2) * qE9 A n k) + qD9 n (A n) (qW9 n A (qE9 A n) (fun i => A i n) k)) := by grind
  exact (Rat.mul_pos_iff_of_pos_left g9).mp u6
