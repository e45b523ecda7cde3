/-! signature: frames at right angles; Cayley and Hamilton -/
/-- k vectors at right angles, none of them 0 -/
def ob9 (n : Nat) (g : Nat → Rat) (F : Nat → Nat → Rat) (k : Nat) : Prop := (∀ c, c < k → ∃ i, i < n ∧ F c i ≠ 0) ∧ ∀ c d, c < k → d < k → c ≠ d → qG9 n g (F c) (F d) = 0
section XSGD
variable {n : Nat} {g : Nat → Rat}
theorem qG_cm {x y : Nat → Rat} : qG9 n g x y = qG9 n g y x := qS_cg (fun i _ => by grind)
theorem qG_cg {x y x2 y2 : Nat → Rat} (h1 : ∀ i, i < n → x i = x2 i) (h2 : ∀ i, i < n → y i = y2 i) : qG9 n g x y = qG9 n g x2 y2 := qS_cg (fun i hi => by rw [h1 i hi, h2 i hi])
theorem qG_D {x y : Nat → Rat} : qG9 n g x y = qD9 n (fun i => g i * x i) y := rfl
theorem sq_nn9 (d : Rat) : 0 ≤ d * d := by
  rcases Rat.le_total (a := 0) (b := d) with h | h
  · exact Rat.mul_nonneg h h
  · have h9 : 0 ≤ -d := by grind
    have := Rat.mul_nonneg h9 h9
    grind
theorem sq_ps9 {d : Rat} (h : d ≠ 0) : 0 < d * d := by
  refine Rat.lt_of_le_of_ne (sq_nn9 d) (fun h9 => ?_)
  rcases Rat.mul_eq_zero.mp h9.symm with h2 | h2
  · exact h h2
  · exact h h2
theorem qG_nn {x : Nat → Rat} : ∀ {n : Nat}, (∀ i, i < n → 0 < g i) → 0 ≤ qG9 n g x x := by
  intro n
  induction n with
  | zero => exact fun _ => Rat.le_refl
  | succ n ih =>
    intro hg
    show 0 ≤ qG9 n g x x + g n * x n * x n
    have a := ih (fun i hi => hg i (by omega))
    have b := Rat.mul_nonneg (Rat.le_of_lt (hg n (by omega))) (sq_nn9 (x n))
    grind
theorem qG_ps {x : Nat → Rat} : ∀ {n : Nat}, (∀ i, i < n → 0 < g i) → (∃ i, i < n ∧ x i ≠ 0) → 0 < qG9 n g x x := by
  intro n
  induction n with
  | zero =>
    intro _ h
    obtain ⟨i, hi, -⟩ := h
    omega
  | succ n ih =>
    intro hg h
    show 0 < qG9 n g x x + g n * x n * x n
    obtain ⟨i, hi, hx⟩ := h
    by_cases h9 : i = n
    · have a := qG_nn (x := x) (n := n) (fun i hi => hg i (by omega))
      have b := Rat.mul_pos (hg n (by omega)) (sq_ps9 (d := x n) (by rw [← h9]; exact hx))
      grind
    · have a := ih (fun i hi => hg i (by omega)) ⟨i, by omega, hx⟩
      have b := Rat.mul_nonneg (Rat.le_of_lt (hg n (by omega))) (sq_nn9 (x n))
      grind
theorem ob_go (ℓ : Nat → Nat → Rat) (b : Nat) : ∀ (r k : Nat) (F : Nat → Nat → Rat), ob9 n g F k → k + r + b ≤ n → ∃ F2 : Nat → Nat → Rat, (∀ c, c < k → F2 c = F c) ∧ ob9 n g F2 (k + r) ∧ ∀ c, k ≤ c → c < k + r → ∀ e, e < b → qD9 n (ℓ e) (F2 c) = 0 := by
  intro r
  induction r with
  | zero => exact fun k F h _ => ⟨F, fun c _ => rfl, h, fun c h1 h2 => absurd h1 (by omega)⟩
  | succ r ih =>
    intro k F h hn
    obtain ⟨F1, h1, h2, h3⟩ := ih k F h (by omega)
    obtain ⟨x, hx, h4⟩ := lin_n (n := n) (fun e i => if e < b then ℓ e i else g i * F1 (e - b) i) (m := b + (k + r)) (by omega)
    have x1 : ∀ e, e < b → qD9 n (ℓ e) x = 0 := fun e he => by
      have := h4 e (by omega)
      rw [← this]
      exact qD_cg (fun i _ => (if_pos he).symm) (fun i _ => rfl)
    have x2 : ∀ c, c < k + r → qG9 n g (F1 c) x = 0 := fun c hc => by
      have := h4 (b + c) (by omega)
      rw [← this]
      refine qD_cg (v := fun i => g i * F1 c i) (fun i _ => ?_) (fun i _ => rfl)
      rw [if_neg (by omega), show b + c - b = c by omega]
    have f1 : ∀ c, c < k + r → (fun c => if c = k + r then x else F1 c) c = F1 c := fun c hc => if_neg (by omega)
    have f2 : (fun c => if c = k + r then x else F1 c) (k + r) = x := if_pos rfl
    refine ⟨fun c => if c = k + r then x else F1 c, fun c hc => (f1 c (by omega)).trans (h1 c hc), ⟨fun c hc => ?_, fun c d hc hd hcd => ?_⟩, fun c hc1 hc2 e he => ?_⟩
    · by_cases h9 : c = k + r
      · rw [h9, f2]
        exact hx
      · rw [f1 c (by omega)]
        exact h2.1 c (by omega)
    · by_cases h9 : c = k + r
      · rw [h9, f2, f1 d (by omega), qG_cm]
        exact x2 d (by omega)
      · by_cases h8 : d = k + r
        · rw [h8, f2, f1 c (by omega)]
          exact x2 c (by omega)
        · rw [f1 c (by omega), f1 d (by omega)]
          exact h2.2 c d (by omega) (by omega) hcd
    · by_cases h9 : c = k + r
      · rw [h9, f2]
        exact x1 e he
      · rw [f1 c (by omega)]
        exact h3 c hc1 (by omega) e he
theorem ob_full {F : Nat → Nat → Rat} {k : Nat} (h : ob9 n g F k) (hk : k ≤ n) : ∃ F2 : Nat → Nat → Rat, (∀ c, c < k → F2 c = F c) ∧ ob9 n g F2 n := by
  obtain ⟨F2, a, b, -⟩ := ob_go (n := n) (g := g) (fun _ _ => 0) 0 (n - k) k F h (by omega)
  rw [show k + (n - k) = n by omega] at b
  exact ⟨F2, a, b⟩
theorem ob_rev {F : Nat → Nat → Rat} (h : ob9 n g F n) : ob9 n g (fun c => F (n - 1 - c)) n := ⟨fun c hc => h.1 (n - 1 - c) (by omega), fun c d hc hd hcd => h.2 _ _ (by omega) (by omega) (by omega)⟩
theorem qG_sum {x : Nat → Rat} {c : Nat → Rat} {X : Nat → Nat → Rat} {m : Nat} : qG9 n g x (fun i => qS9 (fun l => c l * X l i) m) = qS9 (fun l => c l * qG9 n g x (X l)) m := qD_sum
/-- a full frame is another basis -/
theorem ob_cj (hg : ∀ i, i < n → 0 < g i) {F : Nat → Nat → Rat} (ho : ob9 n g F n) (A : mQ99) : ∃ (B P Q : mQ99) (g2 : Nat → Rat), cj9 n A B P Q ∧ (∀ c, c < n → ∀ i, i < n → qV9 n P (dl9 c) i = F c i) ∧ (∀ c, c < n → 0 < g2 c) ∧ ∀ x z, qG9 n g (qV9 n P x) (qV9 n P z) = qG9 n g2 x z := by
  have gp : ∀ c, c < n → 0 < qG9 n g (F c) (F c) := fun c hc => qG_ps hg (ho.1 c hc)
  have gF : ∀ c d, c < n → d < n → qG9 n g (F c) (F d) = qG9 n g (F c) (F c) * dl9 d c := fun c d hc hd => by
    by_cases h9 : c = d
    · subst h9
      rw [show dl9 c c = 1 from if_pos rfl]
      exact (Rat.mul_one _).symm
    · rw [ho.2 c d hc hd h9, show dl9 d c = 0 from if_neg h9]
      exact (Rat.mul_zero _).symm
  have qp : ∀ i, i < n → ∀ j, j < n → qS9 (fun k => (qG9 n g (F i) (F i))⁻¹ * (g k * F i k) * F j k) n = dl9 j i := fun i hi j hj => by
    have e1 : qS9 (fun k => (qG9 n g (F i) (F i))⁻¹ * (g k * F i k) * F j k) n = (qG9 n g (F i) (F i))⁻¹ * qG9 n g (F i) (F j) := by
      unfold qG9
      rw [← qS_mul]
      exact qS_cg (fun k _ => by grind)
    have hne : qG9 n g (F i) (F i) ≠ 0 := fun h => by
      have := gp i hi
      rw [h] at this
      exact absurd this (by decide)
    have e2 := Rat.inv_mul_cancel _ hne
    rw [e1, gF i j hi hj, ← Rat.mul_assoc, e2, Rat.one_mul]
  have hP : ∀ x i, qV9 n (fun i c => F c i) x i = qS9 (fun c => x c * F c i) n := fun x i => qS_cg (fun c _ => Rat.mul_comm _ _)
  refine ⟨fun i j => qV9 n (fun c i => (qG9 n g (F c) (F c))⁻¹ * (g i * F c i)) (qV9 n A (F j)) i, fun i c => F c i, fun c i => (qG9 n g (F c) (F c))⁻¹ * (g i * F c i), fun c => qG9 n g (F c) (F c), ⟨qp, fun x i hi => ?_⟩, fun c hc i hi => ?_, gp, fun x z => ?_⟩
  · have e1 : ∀ k, k < n → qV9 n (fun i j => qV9 n (fun c i => (qG9 n g (F c) (F c))⁻¹ * (g i * F c i)) (qV9 n A (F j)) i) x k = qV9 n (fun c i => (qG9 n g (F c) (F c))⁻¹ * (g i * F c i)) (qV9 n A (qV9 n (fun i c => F c i) x)) k := fun k hk => by
      have a1 : ∀ i, i < n → qV9 n A (qV9 n (fun i c => F c i) x) i = qS9 (fun c => x c * qV9 n A (F c) i) n := fun i _ => by
        rw [qV_cg (fun l _ => hP x l) i, qV_sum]
      rw [qV_cg a1 k, qV_sum]
      exact qS_cg (fun c _ => Rat.mul_comm _ _)
    rw [qV_cg e1 i]
    exact (sqr9 (P := fun i c => F c i) qp _ i hi).symm
  · have : qV9 n (fun i c => F c i) (dl9 c) i = qD9 n (dl9 c) (fun c => F c i) := qS_cg (fun k _ => Rat.mul_comm _ _)
    rw [this, qD_dl hc]
  · have e1 : qG9 n g (qV9 n (fun i c => F c i) x) (qV9 n (fun i c => F c i) z) = qG9 n g (fun i => qS9 (fun c => x c * F c i) n) (fun i => qS9 (fun d => z d * F d i) n) := qG_cg (fun i _ => hP x i) (fun i _ => hP z i)
    rw [e1, qG_sum]
    have e2 : ∀ d, d < n → z d * qG9 n g (fun i => qS9 (fun c => x c * F c i) n) (F d) = qG9 n g (F d) (F d) * x d * z d := fun d hd => by
      rw [qG_cm, qG_sum]
      have e3 : ∀ c, c < n → x c * qG9 n g (F d) (F c) = dl9 d c * (qG9 n g (F d) (F d) * x c) := fun c hc => by
        rw [gF d c hd hc]
        show x c * (qG9 n g (F d) (F d) * (if d = c then 1 else 0)) = (if c = d then 1 else 0) * (qG9 n g (F d) (F d) * x c)
        by_cases h9 : d = c
        · rw [if_pos h9, if_pos h9.symm]
          grind
        · rw [if_neg h9, if_neg (fun h => h9 h.symm)]
          grind
      rw [qS_cg e3]
      have e4 := qD_dl (x := fun c => qG9 n g (F d) (F d) * x c) hd
      unfold qD9 at e4
      rw [e4]
      grind
    exact qS_cg e2
/-- a basis whose last vector is y -/
theorem ob_last {m : Nat} {g : Nat → Rat} (hg : ∀ i, i < m + 1 → 0 < g i) {y : Nat → Rat} (hy : ∃ i, i < m + 1 ∧ y i ≠ 0) (A : mQ99) : ∃ (B P Q : mQ99) (g2 : Nat → Rat), cj9 (m + 1) A B P Q ∧ (∀ i, i < m + 1 → qV9 (m + 1) P (dl9 m) i = y i) ∧ (∀ c, c < m + 1 → 0 < g2 c) ∧ ∀ x z, qG9 (m + 1) g (qV9 (m + 1) P x) (qV9 (m + 1) P z) = qG9 (m + 1) g2 x z := by
  obtain ⟨F, f1, f2⟩ := ob_full (n := m + 1) (g := g) (F := fun _ => y) (k := 1) ⟨fun c _ => hy, fun c d hc hd hcd => absurd hcd (by omega)⟩ (by omega)
  obtain ⟨B, P, Q, g2, b1, b2, b3, b4⟩ := ob_cj hg (ob_rev f2) A
  refine ⟨B, P, Q, g2, b1, fun i hi => ?_, b3, b4⟩
  rw [b2 m (by omega) i hi, show m + 1 - 1 - m = 0 by omega, f1 0 (by omega)]
/-- no coefficients behind n; N_n = 0 -/
theorem ch9 : ∀ (n : Nat) (A : mQ99), (∀ k, n < k → qE9 A n k = 0) ∧ ∀ (x : Nat → Rat) j, n ≤ j → ∀ i, i < n → qN9 n A (qE9 A n) x j i = 0 := by
  intro n
  induction n with
  | zero => exact fun A => ⟨fun k hk => if_neg (by omega), fun x j _ i hi => absurd hi (by omega)⟩
  | succ n ih =>
    intro A
    have p1 : ∀ (A : mQ99) k, n + 1 < k → qE9 A (n + 1) k = 0 := fun A k hk => by
      obtain ⟨m, hm⟩ : ∃ m, k = m + 2 := ⟨k - 2, by omega⟩
      subst hm
      show qE9 A n (m + 2) + A n n * qE9 A n (m + 1) - qD9 n (A n) (qN9 n A (qE9 A n) (fun i => A i n) m) = 0
      have e1 : qD9 n (A n) (qN9 n A (qE9 A n) (fun i => A i n) m) = 0 := by
        unfold qD9
        rw [qS_cg (g := fun _ => 0) (fun i hi => by rw [(ih A).2 _ m (by omega) i hi]; exact Rat.mul_zero _), qS_0]
      rw [(ih A).1 (m + 2) (by omega), (ih A).1 (m + 1) (by omega), e1]
      grind
    have p2 : ∀ (B : mQ99) i, i < n + 1 → qN9 (n + 1) B (qE9 B (n + 1)) (dl9 n) (n + 1) i = 0 := fun B i hi => by
      by_cases h9 : i = n
      · rw [h9, (qN_col (n + 1)).1]
        exact (ih B).1 (n + 1) (by omega)
      · rw [(qN_col (n + 1)).2 i (by omega), if_neg (by omega), show n + 1 - 1 = n by omega, (ih B).2 _ n (Nat.le_refl n) i (by omega)]
        grind
    have p3 : ∀ (x : Nat → Rat) i, i < n + 1 → qN9 (n + 1) A (qE9 A (n + 1)) x (n + 1) i = 0 := fun x i hi => by
      by_cases hx : ∃ i, i < n + 1 ∧ x i ≠ 0
      · obtain ⟨B, P, Q, g2, b1, b2, -, -⟩ := ob_last (g := fun _ => 1) (fun _ _ => by decide) hx A
        have e1 := qN_cg (A := A) (E := qE9 A (n + 1)) (fun i hi => (b2 i hi).symm) (n + 1) i hi
        rw [e1, cj_N b1 _ (n + 1) i hi, show qE9 A (n + 1) = qE9 B (n + 1) from funext (cj_E b1), qV_cg (y := fun _ => 0) (fun i hi => p2 B i hi) i]
        unfold qV9
        rw [qS_cg (g := fun _ => 0) (fun k _ => Rat.mul_zero _), qS_0]
      · have e0 : ∀ i, i < n + 1 → x i = 0 := fun i hi => by
          by_cases h9 : x i = 0
          · exact h9
          · exact absurd ⟨i, hi, h9⟩ hx
        have e1 : ∀ j i, i < n + 1 → qN9 (n + 1) A (qE9 A (n + 1)) x j i = 0 := by
          intro j
          induction j with
          | zero => exact e0
          | succ j ihj =>
            intro i hi
            show qE9 A (n + 1) (j + 1) * x i - qV9 (n + 1) A (qN9 (n + 1) A (qE9 A (n + 1)) x j) i = 0
            rw [e0 i hi, qV_cg (y := fun _ => 0) ihj i]
            unfold qV9
            rw [qS_cg (g := fun _ => 0) (fun k _ => Rat.mul_zero _), qS_0]
            grind
        exact e1 (n + 1) i hi
    refine ⟨p1 A, fun x j hj => ?_⟩
    obtain ⟨d, hd⟩ : ∃ d, j = n + 1 + d := ⟨j - (n + 1), by omega⟩
    subst hd
    clear hj
    induction d with
    | zero => exact p3 x
    | succ d ihd =>
      intro i hi
      show qE9 A (n + 1) (n + 1 + d + 1) * x i - qV9 (n + 1) A (qN9 (n + 1) A (qE9 A (n + 1)) x (n + 1 + d)) i = 0
      rw [p1 A _ (by omega), qV_cg (y := fun _ => 0) ihd i]
      unfold qV9
      rw [qS_cg (g := fun _ => 0) (fun k _ => Rat.mul_zero _), qS_0]
      grind
end XSGD
