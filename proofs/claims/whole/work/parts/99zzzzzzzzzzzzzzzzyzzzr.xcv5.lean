/-! cover: diagonal matrices -/
/-- the product of the first k -/
def pdD9 (d : Nat → Int) : Nat → Int
  | 0 => 1
  | k + 1 => pdD9 d k * d k
/-- d along the diagonal -/
def dgD9 (d : Nat → Int) : Nat → Nat → Int := fun a b => if a = b then d a else 0
section XCV5
theorem dv_le {d : Nat → Int} (hd : ∀ a, d a ∣ d (a + 1)) {a : Nat} : ∀ {c : Nat}, a ≤ c → d a ∣ d c := by
  intro c
  induction c with
  | zero =>
    intro h
    rw [show a = 0 from by omega]
    exact Int.dvd_refl _
  | succ c ih =>
    intro h
    by_cases h9 : a = c + 1
    · rw [h9]
      exact Int.dvd_refl _
    · exact Int.dvd_trans (ih (by omega)) (hd c)
theorem ph_D : ∀ (k : Nat) (f : Nat → Nat), (∀ a, a < k + 1 → f a < k) → ∃ a c, a < k + 1 ∧ c < k + 1 ∧ a ≠ c ∧ f a = f c := by
  intro k
  induction k with
  | zero =>
    intro f h
    exact absurd (h 0 (by omega)) (Nat.not_lt_zero _)
  | succ k ih =>
    intro f h
    by_cases h9 : ∃ a, a < k + 1 ∧ f a = f (k + 1)
    · obtain ⟨a, ha, e⟩ := h9
      exact ⟨a, k + 1, by omega, by omega, by omega, e⟩
    · have hl := h (k + 1) (by omega)
      obtain ⟨a, c, ha, hc, hne, e⟩ := ih (fun a => if f a = k then f (k + 1) else f a) (fun a ha => by
        have h1 := h a (by omega)
        by_cases h2 : f a = k
        · rw [if_pos h2]
          have h3 : f a ≠ f (k + 1) := fun h3 => h9 ⟨a, ha, h3⟩
          omega
        · rw [if_neg h2]
          omega)
      have ka : f a ≠ f (k + 1) := fun h3 => h9 ⟨a, ha, h3⟩
      have kc : f c ≠ f (k + 1) := fun h3 => h9 ⟨c, hc, h3⟩
      refine ⟨a, c, by omega, by omega, hne, ?_⟩
      by_cases h2 : f a = k
      · rw [if_pos h2] at e
        by_cases h3 : f c = k
        · omega
        · rw [if_neg h3] at e
          exact absurd e.symm kc
      · rw [if_neg h2] at e
        by_cases h3 : f c = k
        · rw [if_pos h3] at e
          exact absurd e ka
        · rw [if_neg h3] at e
          exact e
theorem zS_dvd {f : Nat → Int} {x : Int} : ∀ {n : Nat}, (∀ i, i < n → x ∣ f i) → x ∣ zS9 f n := by
  intro n
  induction n with
  | zero =>
    intro _
    exact Int.dvd_zero x
  | succ n ih =>
    intro h
    exact Int.dvd_add (ih (fun i hi => h i (by omega))) (h n (by omega))
/-- more rows than there are: 0 -/
theorem mn_big {B : Nat → Nat → Int} {R k : Nat} {f g : Nat → Nat} (hk : R < k) (hf : ∀ a, a < k → f a < R) : mnD9 B k f g = 0 := by
  obtain ⟨a, c, ha, hc, hne, e⟩ := ph_D R f (fun a ha => hf a (by omega))
  exact mn_rep (by omega) (by omega) hne e
/-- the first k divide every minor of size k -/
theorem dg_dv {d : Nat → Int} (hd : ∀ a, d a ∣ d (a + 1)) : ∀ (k : Nat) (f g : Nat → Nat), pdD9 d k ∣ mnD9 (dgD9 d) k f g := by
  intro k
  induction k with
  | zero =>
    intro f g
    exact Int.dvd_refl 1
  | succ k ih =>
    have key : ∀ f g : Nat → Nat, k ≤ f 0 → pdD9 d (k + 1) ∣ mnD9 (dgD9 d) (k + 1) f g := by
      intro f g h0
      unfold mnD9
      rw [dt_R]
      refine zS_dvd (fun j _ => ?_)
      have := ih (fun a => f (a + 1)) (fun b => g (skD9 j b))
      have e1 : d k ∣ zn9 j * dgD9 d (f 0) (g j) := by
        refine Int.dvd_trans ?_ (Int.dvd_mul_left _ _)
        unfold dgD9
        split
        · exact dv_le hd h0
        · exact Int.dvd_zero _
      show pdD9 d k * d k ∣ _
      rw [Int.mul_comm (pdD9 d k)]
      exact Int.mul_dvd_mul e1 this
    intro f g
    by_cases hx : ∃ a, a < k + 1 ∧ k ≤ f a
    · obtain ⟨a, ha, e⟩ := hx
      by_cases h0 : a = 0
      · rw [h0] at e
        exact key f g e
      · have s := dt_sw2 (k := k + 1) (r := 0) (t := a) (fun x b => dgD9 d (f x) (g b)) (by omega) ha (by omega)
        have q := key (fun x => if x = a then f 0 else if x = 0 then f a else f x) g (by
          rw [if_neg (by omega), if_pos rfl]
          exact e)
        have e2 : rwD9 (rwD9 (fun x b => dgD9 d (f x) (g b)) 0 ((fun x b => dgD9 d (f x) (g b)) a)) a ((fun x b => dgD9 d (f x) (g b)) 0) = fun x b => dgD9 d ((fun x => if x = a then f 0 else if x = 0 then f a else f x) x) (g b) := by
          funext x b
          unfold rwD9
          dsimp only
          by_cases h1 : x = a
          · rw [if_pos h1, if_pos h1]
          · rw [if_neg h1, if_neg h1]
            by_cases h2 : x = 0
            · rw [if_pos h2, if_pos h2]
            · rw [if_neg h2, if_neg h2]
        rw [e2] at s
        unfold mnD9 at q ⊢
        rw [s] at q
        exact Int.dvd_neg.mp q
    · rw [mn_big (R := k) (by omega) (fun a ha => by
        have : ¬ k ≤ f a := fun h9 => hx ⟨a, ha, h9⟩
        omega)]
      exact Int.dvd_zero _
theorem pd_hd (d : Nat → Int) : ∀ k, pdD9 d (k + 1) = d 0 * pdD9 (fun i => d (i + 1)) k := by
  intro k
  induction k with
  | zero =>
    show (1 : Int) * d 0 = d 0 * 1
    rw [Int.one_mul, Int.mul_one]
  | succ k ih =>
    show pdD9 d (k + 1) * d (k + 1) = d 0 * (pdD9 (fun i => d (i + 1)) k * d (k + 1))
    rw [ih, Int.mul_assoc]
theorem zS_nul {f : Nat → Int} : ∀ {n : Nat}, (∀ i, i < n → f i = 0) → zS9 f n = 0 := by
  intro n
  induction n with
  | zero =>
    intro _
    rfl
  | succ n ih =>
    intro h
    show zS9 f n + f n = 0
    rw [ih (fun i hi => h i (by omega)), h n (by omega)]
    rfl
theorem dg_id : ∀ (k : Nat) (d : Nat → Int), dtD9 k (dgD9 d) = pdD9 d k := by
  intro k
  induction k with
  | zero =>
    intro d
    rfl
  | succ k ih =>
    intro d
    rw [pd_hd]
    show zS9 (fun i => zn9 i * dgD9 d i 0 * dtD9 k (fun a b => dgD9 d (skD9 i a) (b + 1))) (k + 1) = _
    rw [zS_hd, zS_nul (fun i _ => by
      rw [show dgD9 d (i + 1) 0 = 0 from if_neg (by omega), Int.mul_zero, Int.zero_mul]), Int.add_zero]
    have e : dtD9 k (fun a b => dgD9 d (skD9 0 a) (b + 1)) = dtD9 k (dgD9 (fun i => d (i + 1))) := dt_cg k (fun a b _ _ => by
      rw [sk_0]
      unfold dgD9
      dsimp only
      by_cases h9 : a = b
      · rw [if_pos h9, if_pos (by omega)]
      · rw [if_neg h9, if_neg (by omega)])
    rw [e, ih, show dgD9 d 0 0 = d 0 from if_pos rfl, show zn9 0 = 1 from rfl, Int.one_mul]
/-- what divides every minor of size k of a diagonal -/
theorem dg_iff {R n k : Nat} {d : Nat → Int} (hd : ∀ a, d a ∣ d (a + 1)) (hR : k ≤ R) (hn : k ≤ n) (x : Int) : dvD9 R n (dgD9 d) k x ↔ x ∣ pdD9 d k := by
  refine ⟨fun h => ?_, fun h f g _ _ => Int.dvd_trans h (dg_dv hd k f g)⟩
  have := h (fun a => a) (fun a => a) (fun a ha => by omega) (fun a ha => by omega)
  rw [← dg_id k d]
  exact this
end XCV5
