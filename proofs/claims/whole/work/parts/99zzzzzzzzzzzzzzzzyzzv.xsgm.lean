/-! signature: the coefficients are whole numbers, and not too large -/
def zS9 (f : Nat → Int) : Nat → Int
  | 0 => 0
  | n + 1 => zS9 f n + f n
def zd9 (n i : Nat) : Int := if i = n then 1 else 0
def zn9 (k : Nat) : Int := if k % 2 = 0 then 1 else -1
/-- column j of N_k, in whole numbers -/
def zN9 (n : Nat) (M : Nat → Nat → Int) (E : Nat → Int) (j : Nat) : Nat → Nat → Int
  | 0 => zd9 j
  | k + 1 => fun i => E (k + 1) * zd9 j i - zS9 (fun m => M i m * zN9 n M E j k m) n
def cM9 (M : Nat → Nat → Int) : mQ99 := fun i j => ((M i j : Int) : Rat)
def ab9 (x : Rat) : Rat := if 0 ≤ x then x else -x
section XSGM
variable {n : Nat} {M : Nat → Nat → Int} {E : Nat → Int}
theorem zS_cs {f : Nat → Int} : ∀ n, ((zS9 f n : Int) : Rat) = qS9 (fun i => ((f i : Int) : Rat)) n := by
  intro n
  induction n with
  | zero => rfl
  | succ n ih =>
    show ((zS9 f n + f n : Int) : Rat) = qS9 (fun i => ((f i : Int) : Rat)) n + ((f n : Int) : Rat)
    rw [Rat.intCast_add, ih]
theorem zS_cg {f g : Nat → Int} : ∀ {n : Nat}, (∀ i, i < n → f i = g i) → zS9 f n = zS9 g n := by
  intro n
  induction n with
  | zero => exact fun _ => rfl
  | succ n ih =>
    intro h
    show zS9 f n + f n = zS9 g n + g n
    rw [ih (fun i hi => h i (by omega)), h n (by omega)]
theorem zd_cs {j i : Nat} : ((zd9 j i : Int) : Rat) = dl9 j i := by
  unfold zd9 dl9
  split <;> rfl
theorem zN_cs (j : Nat) : ∀ k i, ((zN9 n M E j k i : Int) : Rat) = qN9 n (cM9 M) (fun k => ((E k : Int) : Rat)) (dl9 j) k i := by
  intro k
  induction k with
  | zero => exact fun i => zd_cs
  | succ k ih =>
    intro i
    show ((E (k + 1) * zd9 j i - zS9 (fun m => M i m * zN9 n M E j k m) n : Int) : Rat) = ((E (k + 1) : Int) : Rat) * dl9 j i - qV9 n (cM9 M) (qN9 n (cM9 M) (fun k => ((E k : Int) : Rat)) (dl9 j) k) i
    rw [Rat.intCast_sub, Rat.intCast_mul, zd_cs, zS_cs]
    refine congrArg (fun s => ((E (k + 1) : Int) : Rat) * dl9 j i - s) (qS_cg (fun m _ => ?_))
    rw [Rat.intCast_mul, ih m]
    rfl
/-- whole numbers -/
theorem isZ_E : ∀ n, ∃ E : Nat → Int, ∀ k, ((E k : Int) : Rat) = qE9 (cM9 M) n k := by
  intro n
  induction n with
  | zero =>
    refine ⟨fun k => if k = 0 then 1 else 0, fun k => ?_⟩
    show (((if k = 0 then 1 else 0 : Int) : Int) : Rat) = if k = 0 then 1 else 0
    split <;> rfl
  | succ n ih =>
    obtain ⟨E, hE⟩ := ih
    have ee : qE9 (cM9 M) n = fun k => ((E k : Int) : Rat) := (funext hE).symm
    have nz : ∀ k i, ∃ z : Int, ((z : Int) : Rat) = qN9 n (cM9 M) (fun k => ((E k : Int) : Rat)) (fun i => cM9 M i n) k i := by
      intro k
      induction k with
      | zero => exact fun i => ⟨M i n, rfl⟩
      | succ k ihk =>
        intro i
        refine ⟨E (k + 1) * M i n - zS9 (fun m => M i m * Classical.choose (ihk m)) n, ?_⟩
        show _ = ((E (k + 1) : Int) : Rat) * cM9 M i n - qV9 n (cM9 M) (qN9 n (cM9 M) (fun k => ((E k : Int) : Rat)) (fun i => cM9 M i n) k) i
        rw [Rat.intCast_sub, Rat.intCast_mul, zS_cs]
        refine congrArg (fun s => ((E (k + 1) : Int) : Rat) * cM9 M i n - s) (qS_cg (fun m _ => ?_))
        rw [Rat.intCast_mul, Classical.choose_spec (ihk m)]
        rfl
    refine ⟨fun k => match k with
      | 0 => 1
      | 1 => E 1 + M n n
      | k + 2 => E (k + 2) + M n n * E (k + 1) - zS9 (fun i => M n i * Classical.choose (nz k i)) n, fun k => ?_⟩
    cases k with
    | zero => rfl
    | succ k =>
      cases k with
      | zero =>
        show ((E 1 + M n n : Int) : Rat) = qE9 (cM9 M) n 1 + cM9 M n n
        rw [Rat.intCast_add, hE]
        rfl
      | succ k =>
        show ((E (k + 2) + M n n * E (k + 1) - zS9 (fun i => M n i * Classical.choose (nz k i)) n : Int) : Rat) = qE9 (cM9 M) n (k + 2) + cM9 M n n * qE9 (cM9 M) n (k + 1) - qD9 n (cM9 M n) (qN9 n (cM9 M) (qE9 (cM9 M) n) (fun i => cM9 M i n) k)
        rw [Rat.intCast_sub, Rat.intCast_add, Rat.intCast_mul, hE, hE, zS_cs, ee]
        refine congrArg (fun s => ((E (k + 2) : Int) : Rat) + cM9 M n n * ((E (k + 1) : Int) : Rat) - s) (qS_cg (fun i _ => ?_))
        rw [Rat.intCast_mul, Classical.choose_spec (nz k i)]
        rfl
/-- the trace, in whole numbers -/
theorem zN_tr (hE : ∀ k, ((E k : Int) : Rat) = qE9 (cM9 M) n k) (k : Nat) : zS9 (fun i => E k - zN9 n M E i k i) n = (k : Int) * E k := by
  refine Rat.intCast_inj.mp ?_
  have ee : (fun k => ((E k : Int) : Rat)) = qE9 (cM9 M) n := funext hE
  rw [zS_cs]
  have e1 : qS9 (fun i => ((E k - zN9 n M E i k i : Int) : Rat)) n = qS9 (fun i => (fun _ => qE9 (cM9 M) n k) i + -qN9 n (cM9 M) (qE9 (cM9 M) n) (dl9 i) k i) n := qS_cg (fun i _ => by
    rw [Rat.intCast_sub, zN_cs, hE, ee]
    exact Rat.sub_eq_add_neg _ _)
  rw [e1, qS_add, qS_neg, tr_E, qS_c, Rat.intCast_mul, hE]
  show (n : Rat) * qE9 (cM9 M) n k + -(((n : Rat) - (k : Rat)) * qE9 (cM9 M) n k) = (k : Rat) * qE9 (cM9 M) n k
  grind
theorem ab_nn (x : Rat) : 0 ≤ ab9 x := by
  unfold ab9
  split
  · assumption
  · grind
theorem ab_le {x b : Rat} (h1 : x ≤ b) (h2 : -x ≤ b) : ab9 x ≤ b := by
  unfold ab9
  split
  · exact h1
  · exact h2
theorem ab_ge (x : Rat) : x ≤ ab9 x ∧ -x ≤ ab9 x := by
  unfold ab9
  split <;> grind
theorem abQ_add (x y : Rat) : ab9 (x + y) ≤ ab9 x + ab9 y := by
  have a := ab_ge x
  have b := ab_ge y
  exact ab_le (by grind) (by grind)
theorem ab_mul (x y : Rat) : ab9 (x * y) = ab9 x * ab9 y := by
  have key : ∀ x y : Rat, 0 ≤ x → 0 ≤ y → ab9 (x * y) = x * y := fun x y h1 h2 => if_pos (Rat.mul_nonneg h1 h2)
  have ng : ∀ x : Rat, ab9 (-x) = ab9 x := fun x => by
    unfold ab9
    by_cases h : 0 ≤ x
    · by_cases h2 : 0 ≤ -x
      · rw [if_pos h, if_pos h2]
        grind
      · rw [if_pos h, if_neg h2]
        grind
    · rw [if_neg h, if_pos (by grind)]
  rcases Rat.le_total (a := 0) (b := x) with h1 | h1 <;> rcases Rat.le_total (a := 0) (b := y) with h2 | h2
  · rw [key x y h1 h2, show ab9 x = x from if_pos h1, show ab9 y = y from if_pos h2]
  · have h3 : 0 ≤ -y := by grind
    rw [← ng y, ← ng (x * y), show -(x * y) = x * -y by grind, key x (-y) h1 h3, show ab9 x = x from if_pos h1, show ab9 (-y) = -y from if_pos h3]
  · have h3 : 0 ≤ -x := by grind
    rw [← ng x, ← ng (x * y), show -(x * y) = -x * y by grind, key (-x) y h3 h2, show ab9 (-x) = -x from if_pos h3, show ab9 y = y from if_pos h2]
  · have h3 : 0 ≤ -x := by grind
    have h4 : 0 ≤ -y := by grind
    rw [← ng x, ← ng y, show x * y = -x * -y by grind, key (-x) (-y) h3 h4, show ab9 (-x) = -x from if_pos h3, show ab9 (-y) = -y from if_pos h4]
theorem qS_le {f g : Nat → Rat} : ∀ {n : Nat}, (∀ i, i < n → f i ≤ g i) → qS9 f n ≤ qS9 g n := by
  intro n
  induction n with
  | zero => exact fun _ => Rat.le_refl
  | succ n ih =>
    intro h
    have a := ih (fun i hi => h i (by omega))
    have b := h n (by omega)
    show qS9 f n + f n ≤ qS9 g n + g n
    grind
theorem ab_sum {f : Nat → Rat} : ∀ n, ab9 (qS9 f n) ≤ qS9 (fun i => ab9 (f i)) n := by
  intro n
  induction n with
  | zero =>
    show ab9 0 ≤ 0
    exact ab_le Rat.le_refl (by grind)
  | succ n ih =>
    have a := abQ_add (qS9 f n) (f n)
    show ab9 (qS9 f n + f n) ≤ qS9 (fun i => ab9 (f i)) n + ab9 (f n)
    grind
theorem mul_le9 {a b c d : Rat} (h1 : a ≤ b) (h2 : c ≤ d) (h3 : 0 ≤ c) (h4 : 0 ≤ b) : a * c ≤ b * d := by
  have x := Rat.mul_le_mul_of_nonneg_right h1 h3
  have y := Rat.mul_le_mul_of_nonneg_left h2 h4
  grind
theorem pw_add9 (s : Rat) (a : Nat) : ∀ b, s ^ (a + b) = s ^ a * s ^ b := by
  intro b
  induction b with
  | zero => rw [Nat.add_zero, Rat.pow_zero, Rat.mul_one]
  | succ b ih => rw [show a + (b + 1) = a + b + 1 from rfl, Rat.pow_succ, ih, Rat.pow_succ, Rat.mul_assoc]
/-- powers of a matrix whose rows are small -/
theorem qA_bd {A : mQ99} {s : Rat} (hs : 0 ≤ s) (h : ∀ i, i < n → qS9 (fun j => ab9 (A i j)) n ≤ s) {w : Nat → Rat} (hw : ∀ i, i < n → ab9 (w i) ≤ 1) : ∀ l i, i < n → ab9 (qA9 n A w l i) ≤ s ^ l := by
  intro l
  induction l with
  | zero =>
    intro i hi
    rw [Rat.pow_zero]
    exact hw i hi
  | succ l ih =>
    intro i hi
    show ab9 (qS9 (fun k => A i k * qA9 n A w l k) n) ≤ s ^ (l + 1)
    have a1 := ab_sum (f := fun k => A i k * qA9 n A w l k) n
    have a2 : qS9 (fun k => ab9 (A i k * qA9 n A w l k)) n ≤ qS9 (fun k => s ^ l * ab9 (A i k)) n := qS_le (fun k hk => by
      rw [ab_mul]
      have := Rat.mul_le_mul_of_nonneg_left (ih k hk) (ab_nn (A i k))
      grind)
    rw [qS_mul] at a2
    have a3 := Rat.mul_le_mul_of_nonneg_left (h i hi) (show 0 ≤ s ^ l from Rat.pow_nonneg hs)
    rw [Rat.pow_succ]
    grind
theorem ab_1 (x : Rat) (h : x = 1 ∨ x = -1 ∨ x = 0) : ab9 x ≤ 1 := by
  rcases h with h | h | h <;> rw [h] <;> exact ab_le (by decide) (by decide)
theorem qT_bd {A : mQ99} {s t : Rat} (hs : 0 ≤ s) (h : ∀ i, i < n → qS9 (fun j => ab9 (A i j)) n ≤ s) (ht : qS9 (fun i => qS9 (fun j => ab9 (A i j)) n) n ≤ t) (l : Nat) : ab9 (qT9 n A (l + 1)) ≤ t * s ^ l := by
  unfold qT9
  have a1 := ab_sum (f := fun c => qA9 n A (dl9 c) (l + 1) c) n
  have a2 : qS9 (fun c => ab9 (qA9 n A (dl9 c) (l + 1) c)) n ≤ qS9 (fun c => s ^ l * qS9 (fun j => ab9 (A c j)) n) n := qS_le (fun c hc => by
    show ab9 (qS9 (fun k => A c k * qA9 n A (dl9 c) l k) n) ≤ _
    have b1 := ab_sum (f := fun k => A c k * qA9 n A (dl9 c) l k) n
    have b2 : qS9 (fun k => ab9 (A c k * qA9 n A (dl9 c) l k)) n ≤ qS9 (fun k => s ^ l * ab9 (A c k)) n := qS_le (fun k hk => by
      rw [ab_mul]
      have := Rat.mul_le_mul_of_nonneg_left (qA_bd hs h (w := dl9 c) (fun i _ => ab_1 _ (by unfold dl9; split <;> simp)) l k hk) (ab_nn (A c k))
      grind)
    rw [qS_mul] at b2
    grind)
  rw [qS_mul] at a2
  have a3 := Rat.mul_le_mul_of_nonneg_left ht (show 0 ≤ s ^ l from Rat.pow_nonneg hs)
  grind
/-- the coefficients -/
theorem qE_bd {A : mQ99} {s : Rat} (hs : 0 ≤ s) (h : ∀ i, i < n → qS9 (fun j => ab9 (A i j)) n ≤ s) (ht : qS9 (fun i => qS9 (fun j => ab9 (A i j)) n) n ≤ 2 * s) : ∀ k, ab9 (qE9 A n k) ≤ ((k : Rat) + 1) * s ^ k := by
  intro k
  induction k using Nat.strongRecOn with
  | _ k ih =>
    cases k with
    | zero =>
      rw [qE_0, Rat.pow_zero]
      refine ab_le ?_ ?_
      · show (1 : Rat) ≤ (((0 : Nat) : Rat) + 1) * 1
        rw [show ((0 : Nat) : Rat) = 0 from rfl]
        grind
      · show -(1 : Rat) ≤ (((0 : Nat) : Rat) + 1) * 1
        rw [show ((0 : Nat) : Rat) = 0 from rfl]
        grind
    | succ k =>
      have a := tr_E (A := A) n (k + 1)
      rw [tr_N qE_0, qS_hd, show sn9 0 = 1 from rfl, tr_0, cs_s] at a
      have b : qS9 (fun l => sn9 (l + 1) * qE9 A n (k + 1 - (l + 1)) * qT9 n A (l + 1)) (k + 1) = qS9 (fun l => sn9 (l + 1) * qE9 A n (k - l) * qT9 n A (l + 1)) (k + 1) := qS_cg (fun l _ => by rw [show k + 1 - (l + 1) = k - l by omega])
      rw [b, show k + 1 - 0 = k + 1 by omega] at a
      have e : ((k : Rat) + 1) * qE9 A n (k + 1) = -qS9 (fun l => sn9 (l + 1) * qE9 A n (k - l) * qT9 n A (l + 1)) (k + 1) := by grind
      have hk : (0 : Rat) < (k : Rat) + 1 := by
        rw [← cs_s]
        exact Rat.natCast_pos.mpr (by omega)
      have c1 : ab9 (qS9 (fun l => sn9 (l + 1) * qE9 A n (k - l) * qT9 n A (l + 1)) (k + 1)) ≤ qS9 (fun l => (2 * s ^ (k + 1)) * (((k - l : Nat) : Rat) + 1)) (k + 1) := by
        refine Rat.le_trans (ab_sum _) (qS_le (fun l hl => ?_))
        rw [ab_mul, ab_mul]
        have d1 := ih (k - l) (by omega)
        have d2 := qT_bd hs h ht l
        have d3 : ab9 (sn9 (l + 1)) ≤ 1 := ab_1 _ (by unfold sn9; split <;> simp)
        have d4 := mul_le9 d3 d1 (ab_nn _) (by decide)
        have d5 := mul_le9 d4 d2 (ab_nn _) (by
          have z1 : 0 ≤ s ^ (k - l) := Rat.pow_nonneg hs
          have z2 : (0 : Rat) ≤ ((k - l : Nat) : Rat) := Rat.natCast_nonneg
          have z3 := Rat.mul_nonneg (show (0 : Rat) ≤ ((k - l : Nat) : Rat) + 1 by grind) z1
          grind)
        have d6 : s ^ (k + 1) = s ^ (k - l) * (s * s ^ l) := by
          rw [show k + 1 = (k - l) + (l + 1) by omega, pw_add9, Rat.pow_succ]
          grind
        rw [d6]
        grind
      have c2 : ∀ m : Nat, m ≤ k → qS9 (fun l => ((k - l : Nat) : Rat) + 1) (m + 1) * 2 = ((m : Rat) + 1) * (2 * (k : Rat) + 2 - (m : Rat)) := by
        intro m
        induction m with
        | zero =>
          intro _
          show ((0 : Rat) + (((k - 0 : Nat) : Rat) + 1)) * 2 = (((0 : Nat) : Rat) + 1) * (2 * (k : Rat) + 2 - ((0 : Nat) : Rat))
          rw [show k - 0 = k by omega, show ((0 : Nat) : Rat) = 0 from rfl]
          grind
        | succ m ihm =>
          intro hm
          have f := ihm (by omega)
          show (qS9 (fun l => ((k - l : Nat) : Rat) + 1) (m + 1) + (((k - (m + 1) : Nat) : Rat) + 1)) * 2 = _
          have e5 : ((k - (m + 1) : Nat) : Rat) = (k : Rat) - ((m : Rat) + 1) := by
            have e6 : ((k - (m + 1) + (m + 1) : Nat) : Rat) = (k : Rat) := by rw [show k - (m + 1) + (m + 1) = k by omega]
            rw [← cs_s]
            have e7 : ((k - (m + 1) + (m + 1) : Nat) : Rat) = ((k - (m + 1) : Nat) : Rat) + ((m + 1 : Nat) : Rat) := Rat.natCast_add _ _
            grind
          rw [e5, cs_s]
          grind
      have c3 := c2 k (Nat.le_refl k)
      rw [qS_mul] at c1
      have c4 : ((k : Rat) + 1) * ab9 (qE9 A n (k + 1)) = ab9 (qS9 (fun l => sn9 (l + 1) * qE9 A n (k - l) * qT9 n A (l + 1)) (k + 1)) := by
        have f1 : ab9 (((k : Rat) + 1) * qE9 A n (k + 1)) = ab9 (qS9 (fun l => sn9 (l + 1) * qE9 A n (k - l) * qT9 n A (l + 1)) (k + 1)) := by
          rw [e, show -qS9 (fun l => sn9 (l + 1) * qE9 A n (k - l) * qT9 n A (l + 1)) (k + 1) = -1 * qS9 (fun l => sn9 (l + 1) * qE9 A n (k - l) * qT9 n A (l + 1)) (k + 1) by grind, ab_mul, show ab9 (-1) = 1 by unfold ab9; rw [if_neg (by decide)]; grind, Rat.one_mul]
        rw [ab_mul, show ab9 ((k : Rat) + 1) = (k : Rat) + 1 from if_pos (Rat.le_of_lt hk)] at f1
        exact f1
      rw [cs_s]
      refine Rat.le_of_mul_le_mul_left (c := (k : Rat) + 1) ?_ hk
      rw [c4]
      refine Rat.le_trans c1 ?_
      have c5 : ∀ p Q κ : Rat, Q * 2 = (κ + 1) * (2 * κ + 2 - κ) → 2 * p * Q = (κ + 1) * ((κ + 1 + 1) * p) := fun p Q κ h => by grind
      rw [c5 _ _ _ c3]
      exact Rat.le_refl
end XSGM
