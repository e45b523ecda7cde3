/-! signature: both counts of changes together; parity -/
def tw9 (e : Nat → Int) (k : Nat) : Int := if k % 2 = 0 then e k else -e k
section XSG3
variable {e f : Nat → Int}
theorem tw_z {k : Nat} : tw9 e k = 0 ↔ e k = 0 := by
  unfold tw9
  split <;> omega
theorem tw_e {k : Nat} (h : k % 2 = 0) : tw9 e k = e k := if_pos h
theorem tw_o {k : Nat} (h : k % 2 = 1) : tw9 e k = -e k := if_neg (by omega)
/-- both counts: at most the last place that is not 0 -/
theorem vv_le (h0 : e 0 ≠ 0) : ∀ n, ∃ q, q ≤ n ∧ (wv9 e n).2 = e q ∧ (wv9 (tw9 e) n).2 = tw9 e q ∧ e q ≠ 0 ∧ (∀ i, q < i → i ≤ n → e i = 0) ∧ (wv9 e n).1 + (wv9 (tw9 e) n).1 ≤ q := by
  intro n
  induction n with
  | zero => exact ⟨0, Nat.le_refl _, rfl, rfl, h0, fun i h1 h2 => absurd h1 (by omega), Nat.le_refl 0⟩
  | succ n ih =>
    obtain ⟨q, q1, q2, q3, q4, q5, q6⟩ := ih
    by_cases hz : e (n + 1) = 0
    · rw [wv_z hz, wv_z (tw_z.mpr hz)]
      refine ⟨q, by omega, q2, q3, q4, fun i h1 h2 => ?_, q6⟩
      by_cases hi : i = n + 1
      · rw [hi]
        exact hz
      · exact q5 i h1 (by omega)
    · rw [wv_s hz, wv_s (fun h9 => hz (tw_z.mp h9))]
      refine ⟨n + 1, Nat.le_refl _, rfl, rfl, hz, fun i h1 h2 => absurd h1 (by omega), ?_⟩
      show (wv9 e n).1 + (if opp9 (wv9 e n).2 (e (n + 1)) then 1 else 0) + ((wv9 (tw9 e) n).1 + (if opp9 (wv9 (tw9 e) n).2 (tw9 e (n + 1)) then 1 else 0)) ≤ n + 1
      rw [q2, q3]
      by_cases hd : q + 1 = n + 1
      · have hx : ¬ (opp9 (e q) (e (n + 1)) ∧ opp9 (tw9 e q) (tw9 e (n + 1))) := by
          rintro ⟨a, b⟩
          rcases Nat.mod_two_eq_zero_or_one q with h9 | h9
          · rw [tw_e h9, tw_o (show (n + 1) % 2 = 1 by omega)] at b
            unfold opp9 at a b
            omega
          · rw [tw_o h9, tw_e (show (n + 1) % 2 = 0 by omega)] at b
            unfold opp9 at a b
            omega
        by_cases ha : opp9 (e q) (e (n + 1))
        · rw [if_pos ha, if_neg (fun hb => hx ⟨ha, hb⟩)]
          omega
        · rw [if_neg ha]
          split <;> omega
      · split <;> split <;> omega
theorem wv_par (h0 : 0 < e 0) : ∀ n, (wv9 e n).2 ≠ 0 ∧ ((wv9 e n).1 % 2 = 1 ↔ (wv9 e n).2 < 0) := by
  intro n
  induction n with
  | zero =>
    show e 0 ≠ 0 ∧ (0 % 2 = 1 ↔ e 0 < 0)
    omega
  | succ n ih =>
    by_cases hz : e (n + 1) = 0
    · rw [wv_z hz]
      exact ih
    · rw [wv_s hz]
      refine ⟨hz, ?_⟩
      show ((wv9 e n).1 + (if opp9 (wv9 e n).2 (e (n + 1)) then 1 else 0)) % 2 = 1 ↔ e (n + 1) < 0
      by_cases ho : opp9 (wv9 e n).2 (e (n + 1))
      · rw [if_pos ho]
        unfold opp9 at ho
        omega
      · rw [if_neg ho]
        unfold opp9 at ho
        omega
/-- the step of the induction, in numbers: f has the counts a, b with a + b = its last place; e goes one further -/
theorem zet_tw (h0 : 0 < e 0) (g0 : 0 < f 0) (h : ∀ k, f (k + 1) ≠ 0 → 0 < e (k + 1) * f (k + 1) - e (k + 2) * f k) (n : Nat) : (wv9 f n).1 ≤ (wv9 e (n + 1)).1 ∧ (wv9 (tw9 f) n).1 ≤ (wv9 (tw9 e) (n + 1)).1 := by
  refine ⟨zet9 h0 g0 h n, zet9 (e := tw9 e) (f := tw9 f) (by rw [tw_e rfl]; exact h0) (by rw [tw_e rfl]; exact g0) (fun k hk => ?_) n⟩
  have := h k (fun h9 => hk (tw_z.mpr h9))
  rcases Nat.mod_two_eq_zero_or_one k with h9 | h9
  · rw [tw_o (show (k + 1) % 2 = 1 by omega), tw_o (show (k + 1) % 2 = 1 by omega), tw_e (show (k + 2) % 2 = 0 by omega), tw_e h9, Int.neg_mul_neg]
    exact this
  · rw [tw_e (show (k + 1) % 2 = 0 by omega), tw_e (show (k + 1) % 2 = 0 by omega), tw_o (show (k + 2) % 2 = 1 by omega), tw_o h9, Int.neg_mul_neg]
    exact this
end XSG3
