/-! signature: changes of sign -/
abbrev opp9 (a b : Int) : Prop := (0 < a ∧ b < 0) ∨ (a < 0 ∧ 0 < b)
/-- how often the sign changes up to n, and the last number that is not 0 -/
def wv9 (e : Nat → Int) : Nat → Nat × Int
  | 0 => (0, e 0)
  | n + 1 => if e (n + 1) = 0 then wv9 e n else ((wv9 e n).1 + (if opp9 (wv9 e n).2 (e (n + 1)) then 1 else 0), e (n + 1))
/-- a chain of numbers of other sign each, from place 0 to j -/
def ac9 (e : Nat → Int) : Nat → Nat → Prop
  | 0, j => j = 0 ∧ e 0 ≠ 0
  | v + 1, j => ∃ i, i < j ∧ ac9 e v i ∧ opp9 (e i) (e j)
section XSG2
variable {e f : Nat → Int}
theorem wv_z {n : Nat} (h : e (n + 1) = 0) : wv9 e (n + 1) = wv9 e n := if_pos h
theorem wv_s {n : Nat} (h : e (n + 1) ≠ 0) : wv9 e (n + 1) = ((wv9 e n).1 + (if opp9 (wv9 e n).2 (e (n + 1)) then 1 else 0), e (n + 1)) := if_neg h
theorem wv_last (h0 : e 0 ≠ 0) : ∀ n, ∃ q, q ≤ n ∧ (wv9 e n).2 = e q ∧ e q ≠ 0 ∧ ∀ i, q < i → i ≤ n → e i = 0 := by
  intro n
  induction n with
  | zero => exact ⟨0, Nat.le_refl 0, rfl, h0, fun i h1 h2 => absurd h1 (by omega)⟩
  | succ n ih =>
    obtain ⟨q, q1, q2, q3, q4⟩ := ih
    by_cases h : e (n + 1) = 0
    · rw [wv_z h]
      refine ⟨q, by omega, q2, q3, fun i h1 h2 => ?_⟩
      by_cases hi : i = n + 1
      · rw [hi]
        exact h
      · exact q4 i h1 (by omega)
    · rw [wv_s h]
      exact ⟨n + 1, Nat.le_refl _, rfl, h, fun i h1 h2 => absurd h1 (by omega)⟩
theorem wv_up {i : Nat} (h0 : (wv9 e i).2 ≠ 0) : ∀ m, i ≤ m → (wv9 e m).2 ≠ 0 ∧ (wv9 e i).1 ≤ (wv9 e m).1 ∧ (opp9 (wv9 e i).2 (wv9 e m).2 → (wv9 e i).1 + 1 ≤ (wv9 e m).1) := by
  intro m
  induction m with
  | zero =>
    intro h
    have h : i = 0 := by omega
    subst h
    exact ⟨h0, Nat.le_refl _, fun h9 => by unfold opp9 at h9; omega⟩
  | succ m ih =>
    intro h
    by_cases hi : i = m + 1
    · subst hi
      exact ⟨h0, Nat.le_refl _, fun h9 => by unfold opp9 at h9; omega⟩
    · obtain ⟨a, b, c⟩ := ih (by omega)
      by_cases hz : e (m + 1) = 0
      · rw [wv_z hz]
        exact ⟨a, b, c⟩
      · rw [wv_s hz]
        refine ⟨hz, ?_, fun h9 => ?_⟩
        · show _ ≤ (wv9 e m).1 + _
          omega
        · show _ ≤ (wv9 e m).1 + _
          have h9 : opp9 (wv9 e i).2 (e (m + 1)) := h9
          by_cases ho : opp9 (wv9 e m).2 (e (m + 1))
          · rw [if_pos ho]
            omega
          · have := c (by unfold opp9 at *; omega)
            omega
theorem ac_wv : ∀ {v j : Nat}, ac9 e v j → v ≤ (wv9 e j).1 ∧ (wv9 e j).2 = e j ∧ e j ≠ 0 := by
  intro v
  induction v with
  | zero =>
    rintro j ⟨rfl, h⟩
    exact ⟨Nat.zero_le _, rfl, h⟩
  | succ v ih =>
    rintro j ⟨i, hi, ha, ho⟩
    obtain ⟨a, b, c⟩ := ih ha
    have hj : e j ≠ 0 := fun h9 => by unfold opp9 at ho; omega
    have hl : (wv9 e j).2 = e j := by
      cases j with
      | zero => rfl
      | succ j => rw [wv_s hj]
    obtain ⟨-, -, u⟩ := wv_up (i := i) (by rw [b]; exact c) j (by omega)
    have := u (by rw [b, hl]; exact ho)
    exact ⟨by omega, hl, hj⟩
theorem ac_le {v j n : Nat} (h : ac9 e v j) (hj : j ≤ n) : v ≤ (wv9 e n).1 := by
  obtain ⟨a, b, c⟩ := ac_wv h
  have := (wv_up (i := j) (by rw [b]; exact c) n hj).2.1
  omega
theorem mul_pp {a b : Int} (h : 0 < a * b) : (0 < a ∧ 0 < b) ∨ (a < 0 ∧ b < 0) := by
  rcases Int.lt_trichotomy a 0 with ha | ha | ha
  · rcases Int.lt_trichotomy b 0 with hb | hb | hb
    · exact Or.inr ⟨ha, hb⟩
    · rw [hb, Int.mul_zero] at h
      omega
    · have := Int.mul_neg_of_neg_of_pos ha hb
      omega
  · rw [ha, Int.zero_mul] at h
    omega
  · rcases Int.lt_trichotomy b 0 with hb | hb | hb
    · have := Int.mul_neg_of_pos_of_neg ha hb
      omega
    · rw [hb, Int.mul_zero] at h
      omega
    · exact Or.inl ⟨ha, hb⟩
/-- LEMMA Z -/
theorem zet9 (h0 : 0 < e 0) (g0 : 0 < f 0) (h : ∀ k, f (k + 1) ≠ 0 → 0 < e (k + 1) * f (k + 1) - e (k + 2) * f k) : ∀ n, (wv9 f n).1 ≤ (wv9 e (n + 1)).1 := by
  have key : ∀ n, ∃ q j, q ≤ n ∧ (wv9 f n).2 = f q ∧ f q ≠ 0 ∧ (∀ i, q < i → i ≤ n → f i = 0) ∧ j ≤ q + 1 ∧ ac9 e (wv9 f n).1 j ∧ ((0 < e j ∧ 0 < f q) ∨ (e j < 0 ∧ f q < 0)) := by
    intro n
    induction n with
    | zero => exact ⟨0, 0, Nat.le_refl _, rfl, by omega, fun i h1 h2 => absurd h1 (by omega), by omega, ⟨rfl, by omega⟩, Or.inl ⟨h0, g0⟩⟩
    | succ n ih =>
      obtain ⟨q, j, q1, q2, q3, q4, j1, j2, j3⟩ := ih
      by_cases hz : f (n + 1) = 0
      · rw [wv_z hz]
        refine ⟨q, j, by omega, q2, q3, fun i h1 h2 => ?_, j1, j2, j3⟩
        by_cases hi : i = n + 1
        · rw [hi]
          exact hz
        · exact q4 i h1 (by omega)
      · rw [wv_s hz]
        by_cases ho : opp9 (wv9 f n).2 (f (n + 1))
        · rw [q2] at ho
          have hp := h n hz
          have hj : ∃ j', n + 1 ≤ j' ∧ j' ≤ n + 2 ∧ ((0 < e j' ∧ 0 < f (n + 1)) ∨ (e j' < 0 ∧ f (n + 1) < 0)) := by
            by_cases hn : f n = 0
            · rw [hn, Int.mul_zero, Int.sub_zero] at hp
              exact ⟨n + 1, by omega, by omega, mul_pp hp⟩
            · have hq : q = n := by
                rcases Nat.lt_or_ge q n with h9 | h9
                · exact absurd (q4 n h9 (Nat.le_refl _)) hn
                · omega
              subst hq
              by_cases hs : 0 < e (q + 1) * f (q + 1)
              · exact ⟨q + 1, by omega, by omega, mul_pp hs⟩
              · have hm : 0 < e (q + 2) * -f q := by
                  rw [Int.mul_neg]
                  omega
                have := mul_pp hm
                exact ⟨q + 2, by omega, by omega, by unfold opp9 at ho; omega⟩
          obtain ⟨j', a1, a2, a3⟩ := hj
          have hne : j ≠ j' := fun h9 => by
            subst h9
            unfold opp9 at ho
            omega
          refine ⟨n + 1, j', Nat.le_refl _, rfl, hz, fun i h1 h2 => absurd h1 (by omega), by omega, ?_, a3⟩
          show ac9 e ((wv9 f n).1 + (if opp9 (wv9 f n).2 (f (n + 1)) then 1 else 0)) j'
          rw [if_pos (by rw [q2]; exact ho)]
          exact ⟨j, by omega, j2, by unfold opp9 at *; omega⟩
        · refine ⟨n + 1, j, Nat.le_refl _, rfl, hz, fun i h1 h2 => absurd h1 (by omega), by omega, ?_, ?_⟩
          · show ac9 e ((wv9 f n).1 + (if opp9 (wv9 f n).2 (f (n + 1)) then 1 else 0)) j
            rw [if_neg ho]
            exact j2
          · rw [q2] at ho
            unfold opp9 at ho
            omega
  intro n
  obtain ⟨q, j, q1, q2, q3, q4, j1, j2, j3⟩ := key n
  exact ac_le j2 (by omega)
end XSG2
