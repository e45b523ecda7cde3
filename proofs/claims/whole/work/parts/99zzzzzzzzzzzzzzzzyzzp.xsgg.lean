/-! signature: positive on a subspace; a kernel -/
def pdQ9 (n : Nat) (g : Nat → Rat) (A : mQ99) : Prop := ∀ x : Nat → Rat, (∃ i, i < n ∧ x i ≠ 0) → 0 < qG9 n g x (qV9 n A x)
section XSGG
variable {n : Nat} {g : Nat → Rat} {A : mQ99}
theorem qS_cut {f : Nat → Rat} {m : Nat} : ∀ {n : Nat}, m ≤ n → (∀ i, m ≤ i → i < n → f i = 0) → qS9 f n = qS9 f m := by
  intro n
  induction n with
  | zero =>
    intro h _
    rw [show m = 0 by omega]
  | succ n ih =>
    intro h hz
    by_cases h9 : m = n + 1
    · rw [h9]
    · show qS9 f n + f n = qS9 f m
      rw [ih (by omega) (fun i h1 h2 => hz i h1 (by omega)), hz n (by omega) (by omega), Rat.add_zero]
theorem qV_cut {m : Nat} (h : m ≤ n) {x : Nat → Rat} (hx : ∀ i, m ≤ i → i < n → x i = 0) (i : Nat) : qV9 n A x i = qV9 m A x i := qS_cut h (fun k h1 h2 => by rw [hx k h1 h2, Rat.mul_zero])
theorem qG_cut {m : Nat} (h : m ≤ n) {x y : Nat → Rat} (hx : ∀ i, m ≤ i → i < n → x i = 0) : qG9 n g x y = qG9 m g x y := qS_cut h (fun k h1 h2 => by rw [hx k h1 h2]; grind)
theorem pd_le {m : Nat} (h : m ≤ n) (hp : pdQ9 n g A) : pdQ9 m g A := by
  intro x hx
  obtain ⟨i, hi, hne⟩ := hx
  have e : ∀ i, m ≤ i → i < n → (fun i => if i < m then x i else 0) i = 0 := fun i h1 _ => if_neg (by omega)
  have a := hp (fun i => if i < m then x i else 0) ⟨i, by omega, by
    show (if i < m then x i else 0) ≠ 0
    rw [if_pos hi]
    exact hne⟩
  rw [qG_cut h e, qG_cg (x2 := x) (y2 := qV9 m A x) (fun i hi => if_pos hi) (fun i hi => by
    rw [qV_cut h e]
    exact qV_cg (fun k hk => if_pos hk) i)] at a
  exact a
theorem pd_det : ∀ {n : Nat}, (∀ i, i < n → 0 < g i) → pdQ9 n g A → 0 < qE9 A n n := by
  intro n
  induction n with
  | zero =>
    intro _ _
    show (0 : Rat) < 1
    decide
  | succ n ih =>
    intro hg hp
    have D := ih (fun i hi => hg i (by omega)) (pd_le (by omega) hp)
    cases n with
    | zero =>
      have a := hp (dl9 0) ⟨0, by omega, by
        show (if 0 = 0 then (1 : Rat) else 0) ≠ 0
        rw [if_pos rfl]
        exact fun h => absurd h (by decide)⟩
      rw [qG_dl (by omega), qV_col (by omega)] at a
      have b := (Rat.mul_pos_iff_of_pos_left (hg 0 (by omega))).mp a
      show 0 < qE9 A 0 1 + A 0 0
      rw [show qE9 A 0 1 = 0 from rfl, Rat.zero_add]
      exact b
    | succ n =>
      have hD : qE9 A (n + 1) (n + 1) ≠ 0 := fun h => by
        rw [h] at D
        exact absurd D (by decide)
      -- A z = w, z = N_n w / D
      have hz : ∀ i, i < n + 1 → qV9 (n + 1) A (qN9 (n + 1) A (qE9 A (n + 1)) (fun i => A i (n + 1)) n) i = qE9 A (n + 1) (n + 1) * A i (n + 1) := fun i hi => by
        have a := (ch9 (n + 1) A).2 (fun i => A i (n + 1)) (n + 1) (Nat.le_refl _) i hi
        have b : qE9 A (n + 1) (n + 1) * A i (n + 1) - qV9 (n + 1) A (qN9 (n + 1) A (qE9 A (n + 1)) (fun i => A i (n + 1)) n) i = 0 := a
        grind
      have hE : qE9 A (n + 1 + 1) (n + 1 + 1) = A (n + 1) (n + 1) * qE9 A (n + 1) (n + 1) - qD9 (n + 1) (A (n + 1)) (qN9 (n + 1) A (qE9 A (n + 1)) (fun i => A i (n + 1)) n) := by
        show qE9 A (n + 1) (n + 2) + A (n + 1) (n + 1) * qE9 A (n + 1) (n + 1) - qD9 (n + 1) (A (n + 1)) (qN9 (n + 1) A (qE9 A (n + 1)) (fun i => A i (n + 1)) n) = _
        rw [(ch9 (n + 1) A).1 (n + 2) (by omega)]
        grind
      have x1 : ∀ i, i < n + 1 → (fun i => if i = n + 1 then qE9 A (n + 1) (n + 1) else -qN9 (n + 1) A (qE9 A (n + 1)) (fun i => A i (n + 1)) n i) i = -qN9 (n + 1) A (qE9 A (n + 1)) (fun i => A i (n + 1)) n i := fun i hi => if_neg (by omega)
      have x2 : (fun i => if i = n + 1 then qE9 A (n + 1) (n + 1) else -qN9 (n + 1) A (qE9 A (n + 1)) (fun i => A i (n + 1)) n i) (n + 1) = qE9 A (n + 1) (n + 1) := if_pos rfl
      have a := hp (fun i => if i = n + 1 then qE9 A (n + 1) (n + 1) else -qN9 (n + 1) A (qE9 A (n + 1)) (fun i => A i (n + 1)) n i) ⟨n + 1, by omega, by rw [if_pos rfl]; exact hD⟩
      generalize (fun i => if i = n + 1 then qE9 A (n + 1) (n + 1) else -qN9 (n + 1) A (qE9 A (n + 1)) (fun i => A i (n + 1)) n i) = x at a x1 x2
      have v1 : ∀ i, qV9 (n + 1 + 1) A x i = -qV9 (n + 1) A (qN9 (n + 1) A (qE9 A (n + 1)) (fun i => A i (n + 1)) n) i + A i (n + 1) * qE9 A (n + 1) (n + 1) := fun i => by
        show qS9 (fun k => A i k * x k) (n + 1) + A i (n + 1) * x (n + 1) = _
        rw [x2]
        unfold qV9
        rw [← qS_neg]
        refine congrArg (fun s => s + A i (n + 1) * qE9 A (n + 1) (n + 1)) (qS_cg (fun k hk => ?_))
        rw [x1 k hk]
        grind
      have g1 : qG9 (n + 1 + 1) g x (qV9 (n + 1 + 1) A x) = g (n + 1) * qE9 A (n + 1) (n + 1) * qE9 A (n + 1 + 1) (n + 1 + 1) := by
        show qG9 (n + 1) g x (qV9 (n + 1 + 1) A x) + g (n + 1) * x (n + 1) * qV9 (n + 1 + 1) A x (n + 1) = _
        have e0 : qG9 (n + 1) g x (qV9 (n + 1 + 1) A x) = 0 := by
          unfold qG9
          rw [qS_cg (g := fun _ => 0) (fun i hi => by
            rw [v1 i, hz i hi]
            grind), qS_0]
        rw [e0, x2, v1, hE]
        show _ + g (n + 1) * qE9 A (n + 1) (n + 1) * (-qD9 (n + 1) (A (n + 1)) (qN9 (n + 1) A (qE9 A (n + 1)) (fun i => A i (n + 1)) n) + A (n + 1) (n + 1) * qE9 A (n + 1) (n + 1)) = _
        grind
      rw [g1] at a
      exact (Rat.mul_pos_iff_of_pos_left (Rat.mul_pos (hg (n + 1) (by omega)) D)).mp a
theorem pd_V : ∀ {n : Nat}, (∀ i, i < n → 0 < g i) → syG9 n g A → pdQ9 n g A → vP9 A n = n := by
  intro n
  induction n with
  | zero => exact fun _ _ _ => rfl
  | succ n ih =>
    intro hg hs hp
    have a := ih (fun i hi => hg i (by omega)) (sy_le hs (by omega)) (pd_le (by omega) hp)
    have b := (v_up hg hs).2
    have c := v_sum (A := A) (n := n + 1)
    have d := pd_det hg hp
    have hne : nuQ9 (qE9 A (n + 1)) (n + 1) ≠ 0 := by
      have := nu_ps.mpr d
      show (qE9 A (n + 1) (n + 1)).num ≠ 0
      omega
    have t0 : 0 < tw9 (nuQ9 (qE9 A (n + 1))) 0 := by
      rw [tw_e rfl]
      show 0 < (qE9 A (n + 1) 0).num
      rw [qE_0]
      decide
    have p := (wv_par t0 (n + 1)).2
    have w2 : (wv9 (tw9 (nuQ9 (qE9 A (n + 1)))) (n + 1)).2 = tw9 (nuQ9 (qE9 A (n + 1))) (n + 1) := by
      rw [wv_s (fun h => hne (tw_z.mp h))]
    rw [w2] at p
    have ps : 0 < nuQ9 (qE9 A (n + 1)) (n + 1) := nu_ps.mpr d
    have pe : vP9 A (n + 1) % 2 = 1 ↔ tw9 (nuQ9 (qE9 A (n + 1))) (n + 1) < 0 := p
    rcases Nat.mod_two_eq_zero_or_one (n + 1) with h9 | h9
    · rw [tw_e h9] at pe
      omega
    · rw [tw_o h9] at pe
      omega
/-- positive where b numbers are 0: at least n - b -/
theorem vP_ge (hg : ∀ i, i < n → 0 < g i) (hs : syG9 n g A) {b : Nat} (ℓ : Nat → Nat → Rat) (hb : b ≤ n) (h : ∀ x : Nat → Rat, (∃ i, i < n ∧ x i ≠ 0) → (∀ e, e < b → qD9 n (ℓ e) x = 0) → 0 < qG9 n g x (qV9 n A x)) : n - b ≤ vP9 A n := by
  obtain ⟨F1, -, o1, l1⟩ := ob_go (n := n) (g := g) ℓ b (n - b) 0 (fun _ _ => 0) ⟨fun c hc => absurd hc (by omega), fun c d hc => absurd hc (by omega)⟩ (by omega)
  rw [Nat.zero_add] at o1 l1
  obtain ⟨F, f1, o2⟩ := ob_full o1 (by omega)
  obtain ⟨B, P, Q, g2, b1, b2, b3, b4⟩ := ob_cj hg o2 A
  have sB := sy_cj b1 b4 hs
  have hP : ∀ x i, i < n → qV9 n P x i = qS9 (fun c => x c * F c i) n := fun x i hi => qS_cg (fun c hc => by
    have := b2 c hc i hi
    rw [qV_col hc] at this
    rw [this]
    exact Rat.mul_comm _ _)
  have pB : pdQ9 (n - b) g2 B := by
    intro x hx
    obtain ⟨i, hi, hne⟩ := hx
    have e0 : ∀ i, n - b ≤ i → i < n → (fun i => if i < n - b then x i else 0) i = 0 := fun i h1 _ => if_neg (by omega)
    have e1 : ∀ i, i < n - b → (fun i => if i < n - b then x i else 0) i = x i := fun i hi => if_pos hi
    generalize (fun i => if i < n - b then x i else 0) = z at e0 e1
    have a1 : qG9 (n - b) g2 x (qV9 (n - b) B x) = qG9 n g2 z (qV9 n B z) := by
      rw [qG_cut (m := n - b) (by omega) e0]
      refine qG_cg (fun i hi => (e1 i hi).symm) (fun i hi => ?_)
      rw [qV_cut (m := n - b) (by omega) e0]
      exact qV_cg (fun k hk => (e1 k hk).symm) i
    have a2 : qG9 n g2 z (qV9 n B z) = qG9 n g (qV9 n P z) (qV9 n A (qV9 n P z)) := by
      rw [← b4]
      exact qG_cg (fun i _ => rfl) (fun i hi => (b1.2 z i hi).symm)
    rw [a1, a2]
    refine h _ ?_ (fun e he => ?_)
    · by_cases h9 : ∃ i, i < n ∧ qV9 n P z i ≠ 0
      · exact h9
      · have e3 : ∀ i, i < n → qV9 n P z i = 0 := fun i hi => by
          by_cases h8 : qV9 n P z i = 0
          · exact h8
          · exact absurd ⟨i, hi, h8⟩ h9
        have e4 := b4 z z
        have e5 : qG9 n g (qV9 n P z) (qV9 n P z) = 0 := by
          unfold qG9
          rw [qS_cg (g := fun _ => 0) (fun i hi => by rw [e3 i hi]; grind), qS_0]
        have e6 := qG_ps (x := z) b3 ⟨i, by omega, by rw [e1 i hi]; exact hne⟩
        rw [← e4, e5] at e6
        exact absurd e6 (by decide)
    · have e3 : qD9 n (ℓ e) (qV9 n P z) = qD9 n (ℓ e) (fun i => qS9 (fun c => z c * F c i) n) := qD_cg (fun i _ => rfl) (fun i hi => hP z i hi)
      rw [e3, qD_sum, qS_cg (g := fun _ => 0) (fun c hc => by
        by_cases h9 : c < n - b
        · rw [f1 c h9, l1 c (by omega) h9 e he]
          exact Rat.mul_zero _
        · rw [e0 c (by omega) hc]
          exact Rat.zero_mul _), qS_0]
  have c1 := pd_V (fun i hi => b3 i (by omega)) (sy_le sB (by omega)) pB
  have c2 := (v_mono (show n - b ≤ n by omega) b3 sB).2
  rw [(v_cj b1).2]
  omega
/-- 0 where b numbers are 0: no coefficients behind b -/
theorem rk_E (hg : ∀ i, i < n → 0 < g i) (hs : syG9 n g A) {b : Nat} (ℓ : Nat → Nat → Rat) (hb : b ≤ n) (h : ∀ x : Nat → Rat, (∀ e, e < b → qD9 n (ℓ e) x = 0) → ∀ i, i < n → qV9 n A x i = 0) : vM9 A n + vP9 A n ≤ b := by
  obtain ⟨F1, -, o1, l1⟩ := ob_go (n := n) (g := g) ℓ b (n - b) 0 (fun _ _ => 0) ⟨fun c hc => absurd hc (by omega), fun c d hc => absurd hc (by omega)⟩ (by omega)
  rw [Nat.zero_add] at o1 l1
  obtain ⟨F, f1, o2⟩ := ob_full o1 (by omega)
  obtain ⟨B, P, Q, g2, b1, b2, b3, b4⟩ := ob_cj hg (ob_rev o2) A
  have sB := sy_cj b1 b4 hs
  have col : ∀ c, b ≤ c → c < n → ∀ i, i < n → B i c = 0 := fun c hc1 hc2 i hi => by
    have a1 : ∀ i, i < n → qV9 n P (qV9 n B (dl9 c)) i = 0 := fun i hi => by
      rw [← b1.2 (dl9 c) i hi, qV_cg (b2 c hc2) i, f1 (n - 1 - c) (by omega)]
      exact h (F1 (n - 1 - c)) (fun e he => l1 (n - 1 - c) (by omega) (by omega) e he) i hi
    have a2 := b4 (qV9 n B (dl9 c)) (qV9 n B (dl9 c))
    have a3 : qG9 n g (qV9 n P (qV9 n B (dl9 c))) (qV9 n P (qV9 n B (dl9 c))) = 0 := by
      unfold qG9
      rw [qS_cg (g := fun _ => 0) (fun i hi => by rw [a1 i hi]; grind), qS_0]
    by_cases h9 : B i c = 0
    · exact h9
    · have a4 := qG_ps (x := qV9 n B (dl9 c)) b3 ⟨i, hi, by rw [qV_col hc2]; exact h9⟩
      rw [← a2, a3] at a4
      exact absurd a4 (by decide)
  have row : ∀ c, b ≤ c → c < n → ∀ i, i < n → B c i = 0 := fun c hc1 hc2 i hi => by
    have a1 := sB i c hi hc2
    rw [col c hc1 hc2 i hi, Rat.mul_zero] at a1
    rcases Rat.mul_eq_zero.mp a1.symm with h9 | h9
    · have := b3 c hc2
      rw [h9] at this
      exact absurd this (by decide)
    · exact h9
  have eE : ∀ m, b ≤ m → m ≤ n → ∀ k, qE9 B m k = qE9 B b k := by
    intro m
    induction m with
    | zero =>
      intro h1 _ k
      rw [show b = 0 by omega]
    | succ m ih =>
      intro h1 h2 k
      by_cases h9 : b = m + 1
      · rw [h9]
      · rw [← ih (by omega) (by omega) k]
        cases k with
        | zero => rw [qE_0, qE_0]
        | succ k =>
          cases k with
          | zero =>
            show qE9 B m 1 + B m m = qE9 B m 1
            rw [col m (by omega) (by omega) m (by omega)]
            exact Rat.add_zero _
          | succ k =>
            show qE9 B m (k + 2) + B m m * qE9 B m (k + 1) - qD9 m (B m) (qN9 m B (qE9 B m) (fun i => B i m) k) = qE9 B m (k + 2)
            have e1 : qD9 m (B m) (qN9 m B (qE9 B m) (fun i => B i m) k) = 0 := by
              unfold qD9
              rw [qS_cg (g := fun _ => 0) (fun i hi => by rw [row m (by omega) (by omega) i (by omega)]; exact Rat.zero_mul _), qS_0]
            rw [col m (by omega) (by omega) m (by omega), e1]
            grind
  have := v_rk (A := B) (n := n) (b := b) (fun k hk => by rw [eE n hb (Nat.le_refl n) k]; exact (ch9 b B).1 k hk)
  rw [(v_cj b1).1, (v_cj b1).2]
  exact this
theorem qN_neg {E : Nat → Rat} (w : Nat → Rat) : ∀ j i, qN9 n (fun i j => -A i j) (fun k => sn9 k * E k) w j i = sn9 j * qN9 n A E w j i := by
  intro j
  induction j with
  | zero =>
    intro i
    show w i = sn9 0 * w i
    rw [show sn9 0 = 1 from rfl, Rat.one_mul]
  | succ j ih =>
    intro i
    show sn9 (j + 1) * E (j + 1) * w i - qV9 n (fun i j => -A i j) (qN9 n (fun i j => -A i j) (fun k => sn9 k * E k) w j) i = sn9 (j + 1) * (E (j + 1) * w i - qV9 n A (qN9 n A E w j) i)
    have e1 : qV9 n (fun i j => -A i j) (qN9 n (fun i j => -A i j) (fun k => sn9 k * E k) w j) i = -sn9 j * qV9 n A (qN9 n A E w j) i := by
      unfold qV9
      rw [← qS_mul]
      exact qS_cg (fun k _ => by
        rw [ih k]
        grind)
    rw [e1, sn_s]
    grind
theorem qE_neg : ∀ n k, qE9 (fun i j => -A i j) n k = sn9 k * qE9 A n k := by
  intro n
  induction n with
  | zero =>
    intro k
    show (if k = 0 then (1 : Rat) else 0) = sn9 k * (if k = 0 then 1 else 0)
    by_cases h : k = 0
    · subst h
      rw [if_pos rfl, show sn9 0 = 1 from rfl, Rat.one_mul]
    · rw [if_neg h, Rat.mul_zero]
  | succ n ih =>
    intro k
    have ee : qE9 (fun i j => -A i j) n = fun k => sn9 k * qE9 A n k := funext ih
    cases k with
    | zero =>
      rw [qE_0, qE_0, show sn9 0 = 1 from rfl, Rat.one_mul]
    | succ k =>
      cases k with
      | zero =>
        show qE9 (fun i j => -A i j) n 1 + -A n n = sn9 1 * (qE9 A n 1 + A n n)
        rw [ih 1, show sn9 1 = -1 from rfl]
        grind
      | succ k =>
        show qE9 (fun i j => -A i j) n (k + 2) + -A n n * qE9 (fun i j => -A i j) n (k + 1) - qD9 n (fun j => -A n j) (qN9 n (fun i j => -A i j) (qE9 (fun i j => -A i j) n) (fun i => -A i n) k) = sn9 (k + 2) * (qE9 A n (k + 2) + A n n * qE9 A n (k + 1) - qD9 n (A n) (qN9 n A (qE9 A n) (fun i => A i n) k))
        have e1 : qD9 n (fun j => -A n j) (qN9 n (fun i j => -A i j) (qE9 (fun i j => -A i j) n) (fun i => -A i n) k) = sn9 k * qD9 n (A n) (qN9 n A (qE9 A n) (fun i => A i n) k) := by
          rw [ee]
          have e2 : ∀ i, i < n → qN9 n (fun i j => -A i j) (fun k => sn9 k * qE9 A n k) (fun i => -A i n) k i = -(sn9 k * qN9 n A (qE9 A n) (fun i => A i n) k i) := fun i hi => by
            rw [qN_neg]
            have e3 : qN9 n A (qE9 A n) (fun i => -A i n) k i = -qN9 n A (qE9 A n) (fun i => A i n) k i := by
              have key : ∀ j i, qN9 n A (qE9 A n) (fun i => -A i n) j i = -qN9 n A (qE9 A n) (fun i => A i n) j i := by
                intro j
                induction j with
                | zero => exact fun i => rfl
                | succ j ihj =>
                  intro i
                  show qE9 A n (j + 1) * -A i n - qV9 n A (qN9 n A (qE9 A n) (fun i => -A i n) j) i = -(qE9 A n (j + 1) * A i n - qV9 n A (qN9 n A (qE9 A n) (fun i => A i n) j) i)
                  have : qV9 n A (qN9 n A (qE9 A n) (fun i => -A i n) j) i = -qV9 n A (qN9 n A (qE9 A n) (fun i => A i n) j) i := by
                    unfold qV9
                    rw [← qS_neg]
                    exact qS_cg (fun k _ => by
                      rw [ihj k]
                      grind)
                  rw [this]
                  grind
              exact key k i
            rw [e3]
            grind
          unfold qD9
          rw [← qS_mul]
          exact qS_cg (fun i hi => by
            rw [e2 i hi]
            grind)
        have s2 : sn9 (k + 2) = sn9 k := by
          rw [show k + 2 = k + 1 + 1 from rfl, sn_s, sn_s]
          grind
        rw [e1, ih (k + 2), ih (k + 1), s2, sn_s]
        grind
theorem tw_neg : tw9 (nuQ9 (qE9 (fun i j => -A i j) n)) = nuQ9 (qE9 A n) := by
  funext k
  unfold tw9 nuQ9
  rw [qE_neg]
  unfold sn9
  by_cases h : k % 2 = 0
  · rw [if_pos h, if_pos h, Rat.one_mul]
  · rw [if_neg h, if_neg h, show (-1 : Rat) * qE9 A n k = -qE9 A n k by grind, Rat.neg_num]
    omega
theorem vM_ge (hg : ∀ i, i < n → 0 < g i) (hs : syG9 n g A) {b : Nat} (ℓ : Nat → Nat → Rat) (hb : b ≤ n) (h : ∀ x : Nat → Rat, (∃ i, i < n ∧ x i ≠ 0) → (∀ e, e < b → qD9 n (ℓ e) x = 0) → qG9 n g x (qV9 n A x) < 0) : n - b ≤ vM9 A n := by
  have a := vP_ge (A := fun i j => -A i j) hg (fun i j hi hj => by
    have := hs i j hi hj
    show g i * -A i j = g j * -A j i
    grind) ℓ hb (fun x hx he => by
    have a1 := h x hx he
    have a2 : qG9 n g x (qV9 n (fun i j => -A i j) x) = -qG9 n g x (qV9 n A x) := by
      unfold qG9
      rw [← qS_neg]
      refine qS_cg (fun i _ => ?_)
      have : qV9 n (fun i j => -A i j) x i = -qV9 n A x i := by
        unfold qV9
        rw [← qS_neg]
        exact qS_cg (fun k _ => by grind)
      rw [this]
      grind
    rw [a2]
    grind)
  unfold vP9 at a
  rw [tw_neg] at a
  exact a
end XSGG
