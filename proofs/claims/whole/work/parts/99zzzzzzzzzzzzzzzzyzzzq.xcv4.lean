/-! cover: rows with one 1 and one -1: determinants are 0, 1 or -1; sums of two such rows: at most 2^k -/
/-- each row has at most one 1 and at most one -1 -/
def tuD9 (k : Nat) (m : Nat → Nat → Int) : Prop := ∀ a, a < k → ∃ s t : Nat, ∀ b, b < k → m a b = zd9 s b - zd9 t b
section XCV4
/-- two rows exchanged -/
theorem dt_sw2 {k r t : Nat} (m : Nat → Nat → Int) (hr : r < k) (ht : t < k) (hne : r ≠ t) : dtD9 k (rwD9 (rwD9 m r (m t)) t (m r)) = -dtD9 k m := by
  have z : ∀ u : Nat → Int, dtD9 k (rwD9 (rwD9 m r u) t u) = 0 := fun u => dt_eq2 hr ht hne (fun b _ => by
    unfold rwD9
    rw [if_neg hne, if_pos rfl, if_pos rfl])
  have s := z (fun b => m r b + m t b)
  rw [dt_add k t _ _ _ ht, rw_cm m (r := r) (t := t) hne _ (m r), rw_cm m (r := r) (t := t) hne _ (m t), dt_add k r _ _ _ hr, dt_add k r _ _ _ hr] at s
  have a1 := z (m r)
  have a2 := z (m t)
  rw [rw_cm m hne] at a1 a2
  have e1 : rwD9 (rwD9 m t (m t)) r (m r) = m := by rw [rw_self, rw_self]
  rw [rw_cm m hne]
  rw [e1, a1, a2] at s
  omega
theorem dt_z0 {k r : Nat} {m : Nat → Nat → Int} (hr : r < k) (h : ∀ b, b < k → m r b = 0) : dtD9 k m = 0 := by
  have a := dt_lin k r m (fun _ => 0) (fun _ => 0) 0 0 hr
  rw [Int.zero_mul, Int.zero_mul, Int.add_zero] at a
  rw [← a]
  refine dt_cg k (fun x b _ hb => ?_)
  unfold rwD9
  by_cases h9 : x = r
  · rw [if_pos h9, h9, h b hb]
  · rw [if_neg h9]
/-- rows that add up to 0 -/
theorem dt_sum0 {k : Nat} {m : Nat → Nat → Int} (h : ∀ b, b < k + 1 → zS9 (fun a => m a b) (k + 1) = 0) : dtD9 (k + 1) m = 0 := by
  have key : ∀ j, j < k + 1 → dtD9 (k + 1) (rwD9 m 0 (fun b => zS9 (fun a => m a b) (j + 1))) = dtD9 (k + 1) m := by
    intro j
    induction j with
    | zero =>
      intro _
      refine dt_cg _ (fun a b _ _ => ?_)
      unfold rwD9
      by_cases h9 : a = 0
      · rw [if_pos h9, h9]
        show (0 : Int) + m 0 b = m 0 b
        omega
      · rw [if_neg h9]
    | succ j ih =>
      intro hj
      have a := dt_row (k := k + 1) (r := 0) (t := j + 1) (m := rwD9 m 0 (fun b => zS9 (fun a => m a b) (j + 1))) (by omega) hj (by omega) 1
      rw [rw_rw, ih (by omega)] at a
      rw [← a]
      refine dt_cg _ (fun x b _ _ => ?_)
      unfold rwD9
      by_cases h9 : x = 0
      · rw [if_pos h9, if_pos h9]
        dsimp only
        rw [if_pos rfl, if_neg (by omega), Int.one_mul]
        rfl
      · rw [if_neg h9, if_neg h9]
  rw [← key k (by omega)]
  refine dt_z0 (r := 0) (by omega) (fun b hb => ?_)
  unfold rwD9
  rw [if_pos rfl]
  exact h b hb
theorem zS_d {s : Nat} : ∀ n, zS9 (fun b => zd9 s b) n = if s < n then 1 else 0 := by
  intro n
  induction n with
  | zero => rfl
  | succ n ih =>
    show zS9 (fun b => zd9 s b) n + zd9 s n = _
    rw [ih]
    unfold zd9
    by_cases h1 : n = s
    · rw [if_pos h1, if_neg (by omega), if_pos (by omega)]
      rfl
    · rw [if_neg h1]
      by_cases h2 : s < n
      · rw [if_pos h2, if_pos (by omega)]
        rfl
      · rw [if_neg h2, if_neg (by omega)]
        rfl
theorem zS_neg {f : Nat → Int} : ∀ {n : Nat}, zS9 (fun i => -f i) n = -zS9 f n := by
  intro n
  induction n with
  | zero => rfl
  | succ n ih =>
    show zS9 (fun i => -f i) n + -f n = -(zS9 f n + f n)
    rw [ih]
    omega
/-- a place without place j, in the minor -/
theorem zd_sk {s j b k : Nat} (hb : b < k) : zd9 s (skD9 j b) = zd9 (if s = j then k else if s < j then s else s - 1) b := by
  unfold zd9 skD9
  by_cases h1 : s = j
  · rw [if_pos h1]
    by_cases h2 : b < j
    · rw [if_pos h2, if_neg (by omega), if_neg (by omega)]
    · rw [if_neg h2, if_neg (by omega), if_neg (by omega)]
  · rw [if_neg h1]
    by_cases h3 : s < j
    · rw [if_pos h3]
      by_cases h2 : b < j
      · rw [if_pos h2]
      · rw [if_neg h2, if_neg (by omega), if_neg (by omega)]
    · rw [if_neg h3]
      by_cases h2 : b < j
      · rw [if_pos h2, if_neg (by omega), if_neg (by omega)]
      · rw [if_neg h2]
        by_cases h4 : b + 1 = s
        · rw [if_pos h4, if_pos (by omega)]
        · rw [if_neg h4, if_neg (by omega)]
theorem tu_min {k j : Nat} {m : Nat → Nat → Int} (h : tuD9 (k + 1) m) (hj : j < k + 1) : tuD9 k (fun a b => m (a + 1) (skD9 j b)) := fun a ha => by
  obtain ⟨s, t, e⟩ := h (a + 1) (by omega)
  refine ⟨if s = j then k else if s < j then s else s - 1, if t = j then k else if t < j then t else t - 1, fun b hb => ?_⟩
  show m (a + 1) (skD9 j b) = _
  rw [e _ (by unfold skD9; split <;> omega), zd_sk hb, zd_sk hb]
theorem tu_1 : ∀ (k : Nat) (m : Nat → Nat → Int), tuD9 k m → dtD9 k m = 0 ∨ dtD9 k m = 1 ∨ dtD9 k m = -1 := by
  intro k
  induction k with
  | zero => exact fun m _ => Or.inr (Or.inl rfl)
  | succ k ih =>
    -- the first row has at most one number
    have first : ∀ m : Nat → Nat → Int, tuD9 (k + 1) m → (∃ s : Nat, ∃ c : Int, (c = 1 ∨ c = -1) ∧ ∀ b, b < k + 1 → m 0 b = c * zd9 s b) → dtD9 (k + 1) m = 0 ∨ dtD9 (k + 1) m = 1 ∨ dtD9 (k + 1) m = -1 := by
      intro m hm ⟨s, c, hc, hs⟩
      by_cases hsk : s < k + 1
      · rw [dt_R]
        have e : zS9 (fun j => zn9 j * m 0 j * dtD9 k (fun a b => m (a + 1) (skD9 j b))) (k + 1) = zS9 (fun j => if decide (j = s) = true then c * zn9 j * dtD9 k (fun a b => m (a + 1) (skD9 j b)) else 0) (k + 1) := zS_cg (fun j hj => by
          rw [hs j hj]
          unfold zd9
          by_cases h9 : j = s
          · rw [if_pos h9, if_pos (decide_eq_true h9), Int.mul_one, Int.mul_comm (zn9 j)]
          · rw [if_neg h9, if_neg (by rw [decide_eq_false h9]; decide), Int.mul_zero, Int.mul_zero, Int.zero_mul])
        rw [e, zS_one (P := fun j => decide (j = s)) (g := fun j => c * zn9 j * dtD9 k (fun a b => m (a + 1) (skD9 j b))) hsk (decide_eq_true rfl) (fun b _ hb => of_decide_eq_true hb)]
        have d := ih _ (tu_min hm hsk)
        generalize dtD9 k (fun a b => m (a + 1) (skD9 s b)) = D at d
        rcases hc with h1 | h1 <;> rcases zn_pm s with h2 | h2 <;> rw [h1, h2] <;> omega
      · exact Or.inl (dt_z0 (r := 0) (by omega) (fun b hb => by
          rw [hs b hb, show zd9 s b = 0 from if_neg (by omega), Int.mul_zero]))
    intro m hm
    by_cases hA : ∃ a, a < k + 1 ∧ ∃ s : Nat, ∃ c : Int, (c = 1 ∨ c = -1) ∧ ∀ b, b < k + 1 → m a b = c * zd9 s b
    · obtain ⟨a, ha, hrow⟩ := hA
      by_cases h0 : a = 0
      · rw [h0] at hrow
        exact first m hm hrow
      · have sw := dt_sw2 m (r := 0) (t := a) (by omega) ha (fun h => h0 h.symm)
        have f := first (rwD9 (rwD9 m 0 (m a)) a (m 0)) (fun x hx => by
          by_cases h1 : x = a
          · obtain ⟨s, t, e⟩ := hm 0 (by omega)
            exact ⟨s, t, fun b hb => by unfold rwD9; rw [if_pos h1]; exact e b hb⟩
          · by_cases h2 : x = 0
            · obtain ⟨s, t, e⟩ := hm a ha
              exact ⟨s, t, fun b hb => by unfold rwD9; rw [if_neg h1, if_pos h2]; exact e b hb⟩
            · obtain ⟨s, t, e⟩ := hm x hx
              exact ⟨s, t, fun b hb => by unfold rwD9; rw [if_neg h1, if_neg h2]; exact e b hb⟩) (by
          obtain ⟨s, c, hc, e⟩ := hrow
          exact ⟨s, c, hc, fun b hb => by unfold rwD9; rw [if_neg (fun h => h0 h.symm), if_pos rfl]; exact e b hb⟩)
        rw [sw] at f
        omega
    · -- all rows add up to 0
      refine Or.inl ?_
      rw [← dt_tr]
      refine dt_sum0 (fun a ha => ?_)
      show zS9 (fun b => m a b) (k + 1) = 0
      obtain ⟨s, t, e⟩ := hm a ha
      rw [zS_cg (g := fun b => zd9 s b + -zd9 t b) (fun b hb => by rw [e b hb]; omega), zS_add, zS_neg, zS_d, zS_d]
      by_cases h1 : s < k + 1
      · by_cases h2 : t < k + 1
        · rw [if_pos h1, if_pos h2]
          rfl
        · exact absurd ⟨a, ha, s, 1, Or.inl rfl, fun b hb => by
            rw [e b hb, show zd9 t b = 0 from if_neg (by omega), Int.one_mul, Int.sub_zero]⟩ hA
      · exact absurd ⟨a, ha, t, -1, Or.inr rfl, fun b hb => by
          rw [e b hb, show zd9 s b = 0 from if_neg (by omega)]
          omega⟩ hA
/-- sums of two such rows -/
theorem tu_2 : ∀ (j k : Nat) (m u v : Nat → Nat → Int), j ≤ k → tuD9 k u → tuD9 k v → (∀ a b, a < k → b < k → m a b = if a < j then u a b + v a b else u a b) → -(2 ^ j : Int) ≤ dtD9 k m ∧ dtD9 k m ≤ 2 ^ j := by
  intro j
  induction j with
  | zero =>
    intro k m u v _ hu _ h
    have e : dtD9 k m = dtD9 k u := dt_cg k (fun a b ha hb => by rw [h a b ha hb, if_neg (Nat.not_lt_zero _)])
    have := tu_1 k u hu
    rw [e, Int.pow_zero]
    omega
  | succ j ih =>
    intro k m u v hj hu hv h
    have e : dtD9 k m = dtD9 k (rwD9 m j (fun b => u j b + v j b)) := dt_cg k (fun a b ha hb => by
      unfold rwD9
      by_cases h9 : a = j
      · rw [if_pos h9, h a b ha hb, if_pos (by omega), h9]
      · rw [if_neg h9])
    rw [e, dt_add k j _ _ _ (by omega)]
    have k1 := ih k (rwD9 m j (u j)) u v (by omega) hu hv (fun a b ha hb => by
      unfold rwD9
      by_cases h9 : a = j
      · rw [if_pos h9, if_neg (by omega), h9]
      · rw [if_neg h9, h a b ha hb]
        by_cases h8 : a < j
        · rw [if_pos (by omega), if_pos h8]
        · rw [if_neg (by omega), if_neg h8])
    have hu2 : tuD9 k (rwD9 u j (v j)) := fun x hx => by
      by_cases h1 : x = j
      · obtain ⟨s, t, e⟩ := hv j (by omega)
        exact ⟨s, t, fun b hb => by unfold rwD9; rw [if_pos h1]; exact e b hb⟩
      · obtain ⟨s, t, e⟩ := hu x hx
        exact ⟨s, t, fun b hb => by unfold rwD9; rw [if_neg h1]; exact e b hb⟩
    have k2 := ih k (rwD9 m j (v j)) (rwD9 u j (v j)) v (by omega) hu2 hv (fun a b ha hb => by
      unfold rwD9
      by_cases h9 : a = j
      · rw [if_pos h9, if_neg (by omega), if_pos h9]
      · rw [if_neg h9, if_neg h9, h a b ha hb]
        by_cases h8 : a < j
        · rw [if_pos (by omega), if_pos h8]
        · rw [if_neg (by omega), if_neg h8])
    rw [Int.pow_succ]
    omega
end XCV4
