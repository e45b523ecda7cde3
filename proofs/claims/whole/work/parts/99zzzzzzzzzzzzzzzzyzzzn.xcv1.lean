/-! cover: determinants of whole numbers -/
/-- the places without place i -/
def skD9 (i a : Nat) : Nat := if a < i then a else a + 1
/-- along the first column -/
def dtD9 : Nat → (Nat → Nat → Int) → Int
  | 0, _ => 1
  | k + 1, m => zS9 (fun i => zn9 i * m i 0 * dtD9 k (fun a b => m (skD9 i a) (b + 1))) (k + 1)
/-- row r is u -/
def rwD9 (m : Nat → Nat → Int) (r : Nat) (u : Nat → Int) : Nat → Nat → Int := fun a b => if a = r then u b else m a b
section XCV1
theorem dt_cg : ∀ (k : Nat) {m m2 : Nat → Nat → Int}, (∀ a b, a < k → b < k → m a b = m2 a b) → dtD9 k m = dtD9 k m2 := by
  intro k
  induction k with
  | zero => exact fun _ => rfl
  | succ k ih =>
    intro m m2 h
    refine zS_cg (fun i hi => ?_)
    rw [h i 0 hi (by omega), ih (m := fun a b => m (skD9 i a) (b + 1)) (m2 := fun a b => m2 (skD9 i a) (b + 1)) (fun a b ha hb => h _ _ (by unfold skD9; split <;> omega) (by omega))]
theorem sk_ne (i a : Nat) : skD9 i a ≠ i := by
  unfold skD9
  split <;> omega
theorem sk_eq {i r a : Nat} (h : i ≠ r) : skD9 i a = r ↔ a = (if r < i then r else r - 1) := by
  unfold skD9
  split <;> split <;> omega
/-- linear in every row -/
theorem dt_lin : ∀ (k r : Nat) (m : Nat → Nat → Int) (u v : Nat → Int) (α β : Int), r < k → dtD9 k (rwD9 m r (fun b => α * u b + β * v b)) = α * dtD9 k (rwD9 m r u) + β * dtD9 k (rwD9 m r v) := by
  intro k
  induction k with
  | zero => exact fun r _ _ _ _ _ h => absurd h (Nat.not_lt_zero _)
  | succ k ih =>
    intro r m u v α β hr
    show zS9 _ (k + 1) = α * zS9 _ (k + 1) + β * zS9 _ (k + 1)
    rw [← zS_mul, ← zS_mul, ← zS_add]
    refine zS_cg (fun i hi => ?_)
    by_cases h9 : i = r
    · subst h9
      have e : ∀ u : Nat → Int, (fun a b => rwD9 m i u (skD9 i a) (b + 1)) = fun a b => m (skD9 i a) (b + 1) := fun u => by
        funext a b
        exact if_neg (sk_ne i a)
      rw [e, e, e]
      have f : ∀ u : Nat → Int, rwD9 m i u i 0 = u 0 := fun u => if_pos rfl
      rw [f, f, f]
      generalize dtD9 k (fun a b => m (skD9 i a) (b + 1)) = D
      generalize zn9 i = s
      grind
    · have e : ∀ u : Nat → Int, (fun a b => rwD9 m r u (skD9 i a) (b + 1)) = rwD9 (fun a b => m (skD9 i a) (b + 1)) (if r < i then r else r - 1) (fun b => u (b + 1)) := fun u => by
        funext a b
        unfold rwD9
        by_cases h8 : skD9 i a = r
        · rw [if_pos h8, if_pos ((sk_eq h9).mp h8)]
        · rw [if_neg h8, if_neg (fun h7 => h8 ((sk_eq h9).mpr h7))]
      have f : ∀ u : Nat → Int, rwD9 m r u i 0 = m i 0 := fun u => if_neg h9
      have key := ih (if r < i then r else r - 1) (fun a b => m (skD9 i a) (b + 1)) (fun b => u (b + 1)) (fun b => v (b + 1)) α β (by split <;> omega)
      rw [e, e, e, f, f, f, key]
      generalize dtD9 k (rwD9 (fun a b => m (skD9 i a) (b + 1)) (if r < i then r else r - 1) (fun b => u (b + 1))) = D
      generalize dtD9 k (rwD9 (fun a b => m (skD9 i a) (b + 1)) (if r < i then r else r - 1) (fun b => v (b + 1))) = D2
      generalize zn9 i = s
      grind
theorem zS_two {f : Nat → Int} {a : Nat} : ∀ {n : Nat}, a + 1 < n → (∀ i, i < n → i ≠ a → i ≠ a + 1 → f i = 0) → zS9 f n = f a + f (a + 1) := by
  intro n
  induction n with
  | zero => exact fun h => absurd h (Nat.not_lt_zero _)
  | succ n ih =>
    intro ha hz
    show zS9 f n + f n = _
    by_cases h9 : n = a + 1
    · subst h9
      have z : zS9 f a = 0 := by
        rw [zS_cg (g := fun _ => 0) (fun i hi => hz i (by omega) (by omega) (by omega)), zS_0]
      show zS9 f a + f a + f (a + 1) = _
      rw [z]
      omega
    · rw [ih (by omega) (fun i hi => hz i (by omega)), hz n (by omega) (by omega) (by omega)]
      omega
/-- two neighbours alike: 0 -/
theorem dt_adj : ∀ (k r : Nat) (m : Nat → Nat → Int), r + 1 < k → (∀ b, b < k → m r b = m (r + 1) b) → dtD9 k m = 0 := by
  intro k
  induction k with
  | zero => exact fun r _ h => absurd h (Nat.not_lt_zero _)
  | succ k ih =>
    intro r m hr he
    show zS9 (fun i => zn9 i * m i 0 * dtD9 k (fun a b => m (skD9 i a) (b + 1))) (k + 1) = 0
    rw [zS_two (a := r) hr (fun i hi h1 h2 => ?_)]
    · have e : dtD9 k (fun a b => m (skD9 r a) (b + 1)) = dtD9 k (fun a b => m (skD9 (r + 1) a) (b + 1)) := dt_cg k (fun a b ha hb => by
        unfold skD9
        by_cases h9 : a = r
        · rw [if_neg (by omega), if_pos (by omega), h9, he (b + 1) (by omega)]
        · by_cases h8 : a < r
          · rw [if_pos h8, if_pos (by omega)]
          · rw [if_neg h8, if_neg (by omega)])
      rw [e, he 0 (by omega), zn_s]
      generalize dtD9 k (fun a b => m (skD9 (r + 1) a) (b + 1)) = D
      generalize zn9 r = s
      grind
    · by_cases h9 : i < r
      · rw [ih (r - 1) (fun a b => m (skD9 i a) (b + 1)) (by omega) (fun b hb => ?_), Int.mul_zero]
        show m (skD9 i (r - 1)) (b + 1) = m (skD9 i (r - 1 + 1)) (b + 1)
        unfold skD9
        rw [if_neg (by omega), if_neg (by omega), show r - 1 + 1 = r by omega]
        exact he (b + 1) (by omega)
      · rw [ih r (fun a b => m (skD9 i a) (b + 1)) (by omega) (fun b hb => ?_), Int.mul_zero]
        show m (skD9 i r) (b + 1) = m (skD9 i (r + 1)) (b + 1)
        unfold skD9
        rw [if_pos (by omega), if_pos (by omega)]
        exact he (b + 1) (by omega)
theorem rw_rw (m : Nat → Nat → Int) {r : Nat} (u v : Nat → Int) : rwD9 (rwD9 m r u) r v = rwD9 m r v := by
  funext a b
  unfold rwD9
  split <;> rfl
theorem rw_cm (m : Nat → Nat → Int) {r t : Nat} (h : r ≠ t) (u v : Nat → Int) : rwD9 (rwD9 m r u) t v = rwD9 (rwD9 m t v) r u := by
  funext a b
  unfold rwD9
  by_cases h1 : a = t
  · rw [if_pos h1, if_neg (by omega), if_pos h1]
  · rw [if_neg h1]
    split
    · rfl
    · rfl
theorem rw_self (m : Nat → Nat → Int) (r : Nat) : rwD9 m r (m r) = m := by
  funext a b
  unfold rwD9
  by_cases h : a = r
  · rw [if_pos h, h]
  · rw [if_neg h]
theorem dt_add (k r : Nat) (m : Nat → Nat → Int) (u v : Nat → Int) (hr : r < k) : dtD9 k (rwD9 m r (fun b => u b + v b)) = dtD9 k (rwD9 m r u) + dtD9 k (rwD9 m r v) := by
  have := dt_lin k r m u v 1 1 hr
  rw [Int.one_mul, Int.one_mul] at this
  rw [← this]
  refine congrArg (fun w => dtD9 k (rwD9 m r w)) ?_
  funext b
  omega
/-- neighbours exchanged: the sign turns -/
theorem dt_swp (k r : Nat) (m : Nat → Nat → Int) (hr : r + 1 < k) : dtD9 k (rwD9 (rwD9 m r (m (r + 1))) (r + 1) (m r)) = -dtD9 k m := by
  have z : ∀ u : Nat → Int, dtD9 k (rwD9 (rwD9 m r u) (r + 1) u) = 0 := fun u => dt_adj k r _ hr (fun b _ => by
    unfold rwD9
    rw [if_neg (by omega), if_pos rfl, if_pos rfl])
  have s := z (fun b => m r b + m (r + 1) b)
  rw [dt_add k (r + 1) _ _ _ hr, rw_cm m (r := r) (t := r + 1) (by omega) _ (m r), rw_cm m (r := r) (t := r + 1) (by omega) _ (m (r + 1)), dt_add k r _ _ _ (by omega), dt_add k r _ _ _ (by omega)] at s
  have a1 := z (m r)
  have a2 := z (m (r + 1))
  rw [rw_cm m (by omega)] at a1 a2
  have e1 : rwD9 (rwD9 m (r + 1) (m (r + 1))) r (m r) = m := by rw [rw_self, rw_self]
  rw [rw_cm m (by omega)]
  rw [e1, a1, a2] at s
  omega
/-- two rows alike: 0 -/
theorem dt_two (k : Nat) : ∀ (d r : Nat) (m : Nat → Nat → Int), r + 1 + d < k → (∀ b, b < k → m r b = m (r + 1 + d) b) → dtD9 k m = 0 := by
  intro d
  induction d with
  | zero => exact fun r m h he => dt_adj k r m h he
  | succ d ih =>
    intro r m h he
    have s := dt_swp k (r + 1 + d) m (by omega)
    have z := ih r (rwD9 (rwD9 m (r + 1 + d) (m (r + 1 + d + 1))) (r + 1 + d + 1) (m (r + 1 + d))) (by omega) (fun b hb => by
      unfold rwD9
      rw [if_neg (by omega), if_neg (by omega), if_neg (by omega), if_pos rfl]
      exact he b hb)
    rw [z] at s
    omega
theorem dt_eq2 {k r t : Nat} {m : Nat → Nat → Int} (hr : r < k) (ht : t < k) (hne : r ≠ t) (he : ∀ b, b < k → m r b = m t b) : dtD9 k m = 0 := by
  rcases Nat.lt_or_ge r t with h | h
  · refine dt_two k (t - r - 1) r m (by omega) (fun b hb => ?_)
    rw [show r + 1 + (t - r - 1) = t by omega]
    exact he b hb
  · refine dt_two k (r - t - 1) t m (by omega) (fun b hb => ?_)
    rw [show t + 1 + (r - t - 1) = r by omega]
    exact (he b hb).symm
/-- a multiple of another row may be added -/
theorem dt_row {k r t : Nat} {m : Nat → Nat → Int} (hr : r < k) (ht : t < k) (hne : r ≠ t) (q : Int) : dtD9 k (rwD9 m r (fun b => m r b + q * m t b)) = dtD9 k m := by
  have a := dt_lin k r m (m r) (m t) 1 q hr
  have z : dtD9 k (rwD9 m r (m t)) = 0 := dt_eq2 hr ht hne (fun b _ => by
    unfold rwD9
    rw [if_pos rfl, if_neg (fun h => hne h.symm)])
  rw [z, rw_self, Int.mul_zero, Int.add_zero, Int.one_mul] at a
  rw [← a]
  refine congrArg (fun w => dtD9 k (rwD9 m r w)) ?_
  funext b
  rw [Int.one_mul]
end XCV1
