/-! chain: rows modulo a prime -/
def prT (p : Nat) : Prop := 2 ≤ p ∧ ∀ k, 2 ≤ k → k * k ≤ p → p % k ≠ 0
theorem pr_cop {p a : Nat} (hp : prT p) (h1 : 1 ≤ a) (h2 : a < p) : Nat.gcd p a = 1 := by
  have hg1 : 0 < Nat.gcd p a := Nat.gcd_pos_of_pos_right _ h1
  have hgp := Nat.gcd_dvd_left p a
  have hga := Nat.le_of_dvd h1 (Nat.gcd_dvd_right p a)
  generalize Nat.gcd p a = g at *
  refine Classical.byContradiction (fun hne => ?_)
  obtain ⟨q, hq⟩ := hgp
  have hg2 : 2 ≤ g := by omega
  have hq2 : 2 ≤ q := by
    rcases Nat.lt_or_ge q 2 with h9 | h9
    · have : q = 0 ∨ q = 1 := by omega
      rcases this with rfl | rfl
      · rw [Nat.mul_zero] at hq; omega
      · rw [Nat.mul_one] at hq; omega
    · exact h9
  rcases Nat.lt_or_ge p (g * g) with h9 | h9
  · have hqg : q < g := by
      rw [hq] at h9
      exact Nat.lt_of_mul_lt_mul_left h9
    have h8 : q * q ≤ p := by
      rw [hq]
      exact Nat.mul_le_mul_right q (Nat.le_of_lt hqg)
    exact hp.2 q hq2 h8 (by rw [hq]; exact Nat.mul_mod_left g q)
  · exact hp.2 g hg2 h9 (by rw [hq]; exact Nat.mul_mod_right g q)
theorem pr_inv {p a : Nat} (hp : prT p) (h1 : 1 ≤ a) (h2 : a < p) : ∃ k, 1 ≤ k ∧ k < p ∧ k * a % p = 1 := by
  have hp2 := hp.1
  have hc := pr_cop hp h1 h2
  have hinj : ∀ i j, i < p → j < p → i * a % p = j * a % p → i = j := by
    have key : ∀ i j, i ≤ j → j < p → i * a % p = j * a % p → i = j := by
      intro i j hij hj e
      have hd : p ∣ (j - i) * a := by
        rw [Nat.sub_mul]
        exact Nat.dvd_of_mod_eq_zero (Nat.sub_mod_eq_zero_of_mod_eq e.symm)
      have hd2 := Nat.Coprime.dvd_of_dvd_mul_right hc hd
      rcases Nat.eq_zero_or_pos (j - i) with h9 | h9
      · omega
      · have := Nat.le_of_dvd h9 hd2
        omega
    intro i j hi hj e
    rcases Nat.le_total i j with h9 | h9
    · exact key i j h9 hj e
    · exact (key j i h9 hi e.symm).symm
  have hn : ((List.range p).map (fun i => i * a % p)).Nodup := nodup_map List.nodup_range (fun i j hi hj e => hinj i j (List.mem_range.mp hi) (List.mem_range.mp hj) e)
  have h1m : 1 ∈ (List.range p).map (fun i => i * a % p) := by
    refine Classical.byContradiction (fun hno => ?_)
    have := nodup_le (1 :: (List.range p).map (fun i => i * a % p)) (List.range p) (List.nodup_cons.mpr ⟨hno, hn⟩) (fun x hx => by
      rcases List.mem_cons.mp hx with h9 | h9
      · rw [h9]; exact List.mem_range.mpr (by omega)
      · obtain ⟨i, -, e⟩ := List.mem_map.mp h9
        rw [← e]
        exact List.mem_range.mpr (Nat.mod_lt _ (by omega)))
    rw [List.length_cons, List.length_map, List.length_range] at this
    omega
  obtain ⟨k, hk, e⟩ := List.mem_map.mp h1m
  have hkl := List.mem_range.mp hk
  refine ⟨k, ?_, hkl, e⟩
  rcases Nat.eq_zero_or_pos k with h9 | h9
  · rw [h9, Nat.zero_mul, Nat.zero_mod] at e
    omega
  · exact h9
section CHC
variable {z : ow_MS}
theorem u_X13_inverseOf_1 {x0 : Int32} {x1 : Int32} {x2 : Int32} {z : ow_MS} {Q : (Int32 × ow_MS) → Prop} (H : Tt (fun K k => qm_X13_inverseOf_1 K (q_X13_inverseOf K k) x0 x1 x2 z) Q) : Tt (fun K k => q_X13_inverseOf K k 1 x0 x1 x2 z) Q := w_un (fun _ _ => rfl) H
theorem e_X13_inverseOf {x0 : Int32} {x1 : Int32} {z : ow_MS} {Q : (Int32 × ow_MS) → Prop} (H : Tt (fun K k => q_X13_inverseOf K k 0 x0 x1 0 z) Q) : Te (fun K => qe_X13_inverseOf K x0 x1 z) Q := w_te H
theorem u_X13_inverseOf_0 {x0 : Int32} {x1 : Int32} {x2 : Int32} {z : ow_MS} {Q : (Int32 × ow_MS) → Prop} (H : Tt (fun K k => qm_X13_inverseOf_0 K (q_X13_inverseOf K k) x0 x1 x2 z) Q) : Tt (fun K k => q_X13_inverseOf K k 0 x0 x1 x2 z) Q := w_un (fun _ _ => rfl) H
theorem tp_inv {a p : Nat} (hp : prT p) (hp9 : p ≤ 997) (h1 : 1 ≤ a) (h2 : a < p) : Te (fun K => qe_X13_inverseOf K (nI a) (nI p) z) (fun r => r.2 = z ∧ ∃ k, k < p ∧ r.1 = nI k) := by
  have hp2 := hp.1
  obtain ⟨k0, hk1, hk2, hk3⟩ := pr_inv hp h1 h2
  have key : ∀ (d k : Nat), k + d = k0 → Tt (fun K i => q_X13_inverseOf K i 1 (nI a) (nI p) (nI k) z) (fun r => r.2 = z ∧ ∃ k, k < p ∧ r.1 = nI k) := by
    intro d
    induction d with
    | zero =>
      intro k hk
      have hk : k = k0 := by omega
      subst hk
      have hb : k * a < 2 ^ 31 := by
        have := Nat.mul_le_mul (show k ≤ 997 by omega) (show a ≤ 997 by omega)
        omega
      refine u_X13_inverseOf_1 ?_; unfold qm_X13_inverseOf_1
      rw [pk_mul, pk_rem hb (by omega) (by omega), hk3]
      exact w_nzI (fun e => by have := (nI_eq (a := p) (b := 0) (by omega) (by omega)).mp e; omega) (w_ifT rfl (w_some ⟨rfl, k, hk2, rfl⟩))
    | succ d ih =>
      intro k hk
      have hb : k * a < 2 ^ 31 := by
        have := Nat.mul_le_mul (show k ≤ 997 by omega) (show a ≤ 997 by omega)
        omega
      refine u_X13_inverseOf_1 ?_; unfold qm_X13_inverseOf_1
      rw [pk_mul, pk_rem hb (by omega) (by omega), nI_1]
      exact w_nzI (fun e => by have := (nI_eq (a := p) (b := 0) (by omega) (by omega)).mp e; omega) (w_if (fun _ => w_some ⟨rfl, k, by omega, rfl⟩) (fun _ => ih (k + 1) (by omega)))
  refine e_X13_inverseOf ?_
  refine u_X13_inverseOf_0 ?_; unfold qm_X13_inverseOf_0
  exact key (k0 - 1) 1 (by omega)
theorem u_X13_isPrime_3 {x0 : Int32} {x1 : Int32} {x2 : Int32} {t0 : Int32} {z : ow_MS} {Q : (Int32 × ow_MS) → Prop} (H : Tt (fun K k => qm_X13_isPrime_3 K (q_X13_isPrime K k) x0 x1 x2 t0 z) Q) : Tt (fun K k => q_X13_isPrime K k 3 x0 x1 x2 t0 z) Q := w_un (fun _ _ => rfl) H
theorem u_X13_isPrime_1 {x0 : Int32} {x1 : Int32} {x2 : Int32} {t0 : Int32} {z : ow_MS} {Q : (Int32 × ow_MS) → Prop} (H : Tt (fun K k => qm_X13_isPrime_1 K (q_X13_isPrime K k) x0 x1 x2 t0 z) Q) : Tt (fun K k => q_X13_isPrime K k 1 x0 x1 x2 t0 z) Q := w_un (fun _ _ => rfl) H
theorem u_X13_isPrime_2 {x0 : Int32} {x1 : Int32} {x2 : Int32} {t0 : Int32} {z : ow_MS} {Q : (Int32 × ow_MS) → Prop} (H : Tt (fun K k => qm_X13_isPrime_2 K (q_X13_isPrime K k) x0 x1 x2 t0 z) Q) : Tt (fun K k => q_X13_isPrime K k 2 x0 x1 x2 t0 z) Q := w_un (fun _ _ => rfl) H
theorem e_X13_isPrime {x0 : Int32} {z : ow_MS} {Q : (Int32 × ow_MS) → Prop} (H : Tt (fun K k => q_X13_isPrime K k 0 x0 0 0 0 z) Q) : Te (fun K => qe_X13_isPrime K x0 z) Q := w_te H
theorem u_X13_isPrime_0 {x0 : Int32} {x1 : Int32} {x2 : Int32} {t0 : Int32} {z : ow_MS} {Q : (Int32 × ow_MS) → Prop} (H : Tt (fun K k => qm_X13_isPrime_0 K (q_X13_isPrime K k) x0 x1 x2 t0 z) Q) : Tt (fun K k => q_X13_isPrime K k 0 x0 x1 x2 t0 z) Q := w_un (fun _ _ => rfl) H
theorem u_X13_isPrime_4 {x0 : Int32} {x1 : Int32} {x2 : Int32} {t0 : Int32} {z : ow_MS} {Q : (Int32 × ow_MS) → Prop} (H : Tt (fun K k => qm_X13_isPrime_4 K (q_X13_isPrime K k) x0 x1 x2 t0 z) Q) : Tt (fun K k => q_X13_isPrime K k 4 x0 x1 x2 t0 z) Q := w_un (fun _ _ => rfl) H
theorem tp_isPrime {x : Int32} : Te (fun K => qe_X13_isPrime K x z) (fun r => r.2 = z ∧ (r.1 = 0 ∨ ∃ p, x = nI p ∧ prT p ∧ p ≤ 997)) := by
  let Q : Int32 × ow_MS → Prop := fun r => r.2 = z ∧ (r.1 = 0 ∨ ∃ p, x = nI p ∧ prT p ∧ p ≤ 997)
  have c30 : ∀ (x2 : Int32), Tt (fun K i => q_X13_isPrime K i 3 x 0 x2 0 z) Q := by
    intro x2
    refine u_X13_isPrime_3 ?_; unfold qm_X13_isPrime_3
    exact w_ifT rfl (w_okZ (Or.inl rfl) (w_some ⟨rfl, Or.inl rfl⟩))
  have c1 : Tt (fun K i => q_X13_isPrime K i 1 x 0 0 0 z) Q := by
    refine u_X13_isPrime_1 ?_; unfold qm_X13_isPrime_1
    refine u_X13_isPrime_2 ?_; unfold qm_X13_isPrime_2
    exact c30 _
  refine e_X13_isPrime ?_
  refine u_X13_isPrime_0 ?_; unfold qm_X13_isPrime_0
  refine w_if (fun _ => c1) (fun h2 => w_if (fun _ => c1) (fun h9 => ?_))
  obtain ⟨p, hp31, rfl⟩ := nI_of (x := x) (fun h8 => h2 (by
    rw [Int32.lt_iff_toInt_lt] at h8 ⊢
    exact Int.lt_trans h8 (by decide)))
  have hp2 : 2 ≤ p := by
    rcases Nat.lt_or_ge p 2 with h8 | h8
    · exact absurd (nI_lt (b := 2) h8 (by omega)) h2
    · exact h8
  have hp9 : p ≤ 997 := by
    rcases Nat.lt_or_ge 997 p with h8 | h8
    · exact absurd (nI_lt (a := 997) h8 hp31) h9
    · exact h8
  have key : ∀ (d k : Nat), k + d = 32 → 2 ≤ k → (∀ j, 2 ≤ j → j < k → p % j ≠ 0) → Tt (fun K i => q_X13_isPrime K i 3 (nI p) 1 (nI k) 0 z) Q := by
    intro d
    induction d with
    | zero =>
      intro k hk hk2 hall
      have hk : k = 32 := by omega
      subst hk
      refine u_X13_isPrime_3 ?_; unfold qm_X13_isPrime_3
      rw [pk_mul]
      refine w_ifF (by decide) (w_ltT (by omega) (by omega) (w_okZ (Or.inr rfl) (w_some ⟨rfl, Or.inr ⟨p, rfl, ⟨hp2, fun j hj hjj => hall j hj ?_⟩, hp9⟩⟩)))
      rcases Nat.lt_or_ge j 32 with h8 | h8
      · exact h8
      · have := Nat.mul_le_mul h8 h8
        omega
    | succ d ih =>
      intro k hk hk2 hall
      have hkk : k * k ≤ 1024 := Nat.mul_le_mul (show k ≤ 32 by omega) (show k ≤ 32 by omega)
      refine u_X13_isPrime_3 ?_; unfold qm_X13_isPrime_3
      rw [pk_mul, pk_rem hp31 (by omega) (by omega)]
      refine w_ifF (by decide) (w_lt (by omega) (by omega) (fun hlt => w_okZ (Or.inr rfl) (w_some ⟨rfl, Or.inr ⟨p, rfl, ⟨hp2, fun j hj hjj => hall j hj ?_⟩, hp9⟩⟩)) (fun hge => w_nzI (fun e => by have := (nI_eq (a := k) (b := 0) (by omega) (by omega)).mp e; omega) (w_if (fun h0 => ?_) (fun h0 => ?_))))
      · rcases Nat.lt_or_ge j k with h8 | h8
        · exact h8
        · have := Nat.mul_le_mul h8 h8
          omega
      · refine u_X13_isPrime_4 ?_; unfold qm_X13_isPrime_4
        exact c30 _
      · refine u_X13_isPrime_4 ?_; unfold qm_X13_isPrime_4
        rw [nI_1]
        refine ih (k + 1) (by omega) (by omega) (fun j hj hjk => ?_)
        by_cases hjk2 : j = k
        · rw [hjk2]
          exact fun e => h0 (by rw [e]; rfl)
        · exact hall j hj (by omega)
  refine u_X13_isPrime_2 ?_; unfold qm_X13_isPrime_2
  exact key 30 2 (by omega) (by omega) (fun j h1 h2 => absurd h1 (by omega))
/-! the pool -/
def triF (size : Nat) : Nat → Nat
  | 0 => 0
  | k + 1 => triF size k + (size - k)
def unkF (y : ow_MS) (size : Nat) : Nat → Nat
  | 0 => 0
  | k + 1 => unkF y size k + if y.2.1 90 k = -1 then size - k else 0
theorem triF_c {size : Nat} : ∀ k, k ≤ size → 2 * triF size k + k * k = 2 * (size * k) + k
  | 0, _ => rfl
  | k + 1, h => by
    have ih := triF_c (size := size) k (by omega)
    show 2 * (triF size k + (size - k)) + (k + 1) * (k + 1) = 2 * (size * (k + 1)) + (k + 1)
    rw [Nat.mul_add size k 1, Nat.mul_one, Nat.add_mul, Nat.mul_add k k 1, Nat.mul_one, Nat.one_mul]
    omega
theorem tri_le {size : Nat} (h : size ≤ 1140) : triF size size ≤ 650370 := by
  have h1 := triF_c (size := size) size (Nat.le_refl _)
  have h2 := Nat.mul_le_mul h h
  omega
theorem unk_eq {y y1 : ow_MS} {size : Nat} : ∀ k, (∀ i, i < k → y1.2.1 90 i = y.2.1 90 i) → unkF y1 size k = unkF y size k
  | 0, _ => rfl
  | k + 1, h => by
    show unkF y1 size k + _ = unkF y size k + _
    rw [unk_eq k (fun i hi => h i (by omega)), h k (by omega)]
theorem unk_all {y : ow_MS} {size : Nat} : ∀ k, (∀ i, i < k → y.2.1 90 i = -1) → unkF y size k = triF size k
  | 0, _ => rfl
  | k + 1, h => by
    show unkF y size k + _ = triF size k + _
    rw [unk_all k (fun i hi => h i (by omega)), if_pos (h k (by omega))]
theorem unk_set {y : ow_MS} {size j v : Nat} (hv : v < 2 ^ 31) (hj : y.2.1 90 j = -1) : ∀ k, j < k → unkF (usI y 90 j (nI v)) size k + (size - j) = unkF y size k
  | 0, h => by omega
  | k + 1, h => by
    show unkF (usI y 90 j (nI v)) size k + (if (usI y 90 j (nI v)).2.1 90 k = -1 then size - k else 0) + (size - j) = unkF y size k + if y.2.1 90 k = -1 then size - k else 0
    by_cases hjk : j = k
    · subst hjk
      rw [po_usI_at, if_neg (rn_neg1 hv), if_pos hj, unk_eq j (fun i hi => po_usI_ne (by omega))]
      omega
    · have := unk_set (size := size) hv hj k (by omega)
      rw [po_usI_ne (fun e => hjk e.symm)]
      omega
def rwP (y : ow_MS) (size N : Nat) : Prop := (∀ k, k < size → y.2.1 90 k = -1 ∨ ∃ b e, y.2.1 90 k = nI b ∧ y.2.1 91 k = nI e ∧ b ≤ e ∧ e ≤ N) ∧ ∀ i, i < N → ∃ col o, col < size ∧ o < 1024 ∧ y.2.1 92 i = nI (1024 * col + o)
def plI (y : ow_MS) (size : Nat) : Prop := ∃ N, y.1 93 = nI N ∧ N + unkF y size size ≤ triF size size ∧ rwP y size N
abbrev rdH (g : Nat) : Prop := 89 ≤ g ∧ g ≤ 93
theorem plI_89 {y y1 : ow_MS} {size : Nat} (hf : fr (fun g => g = 89) y y1) (h : plI y size) : plI y1 size := by
  obtain ⟨N, h1, h2, h3, h4⟩ := h
  refine ⟨N, by rw [(hf 93 (by omega)).1]; exact h1, ?_, fun k hk => ?_, fun i hi => ?_⟩
  · rw [unk_eq (y := y) (y1 := y1) size (fun i _ => by rw [(hf 90 (by omega)).2.1])]
    exact h2
  · rw [(hf 90 (by omega)).2.1, (hf 91 (by omega)).2.1]
    exact h3 k hk
  · rw [(hf 92 (by omega)).2.1]
    exact h4 i hi
theorem shr10 {a : Nat} (ha : a < 2 ^ 31) : nI a >>> ((10 : Int32) &&& 31) = nI (a / 1024) := pk_shrN (n := a) ha ((10 : Int32) &&& 31) 10 (by decide)
theorem and1023 {a : Nat} (ha : a < 2 ^ 31) : nI a &&& 1023 = nI (a % 1024) := pk_andN (n := a) (by omega) (m := 1023) 10 (by decide)
theorem u_X13_reduced_1 {x1 : Int32} {x2 : Int32} {x3 : Int32} {x4 : Int32} {x5 : Int32} {x6 : Int32} {x7 : Int32} {z : ow_MS} {Q : (Int32 × ow_MS) → Prop} (H : Tt (fun K k => qm_X13_reduced_1 K (q_X13_reduced K k) x1 x2 x3 x4 x5 x6 x7 z) Q) : Tt (fun K k => q_X13_reduced K k 1 x1 x2 x3 x4 x5 x6 x7 z) Q := w_un (fun _ _ => rfl) H
theorem u_X13_reduced_5 {x1 : Int32} {x2 : Int32} {x3 : Int32} {x4 : Int32} {x5 : Int32} {x6 : Int32} {x7 : Int32} {z : ow_MS} {Q : (Int32 × ow_MS) → Prop} (H : Tt (fun K k => qm_X13_reduced_5 K (q_X13_reduced K k) x1 x2 x3 x4 x5 x6 x7 z) Q) : Tt (fun K k => q_X13_reduced K k 5 x1 x2 x3 x4 x5 x6 x7 z) Q := w_un (fun _ _ => rfl) H
theorem u_X13_reduced_2 {x1 : Int32} {x2 : Int32} {x3 : Int32} {x4 : Int32} {x5 : Int32} {x6 : Int32} {x7 : Int32} {z : ow_MS} {Q : (Int32 × ow_MS) → Prop} (H : Tt (fun K k => qm_X13_reduced_2 K (q_X13_reduced K k) x1 x2 x3 x4 x5 x6 x7 z) Q) : Tt (fun K k => q_X13_reduced K k 2 x1 x2 x3 x4 x5 x6 x7 z) Q := w_un (fun _ _ => rfl) H
theorem u_X13_reduced_3 {x1 : Int32} {x2 : Int32} {x3 : Int32} {x4 : Int32} {x5 : Int32} {x6 : Int32} {x7 : Int32} {z : ow_MS} {Q : (Int32 × ow_MS) → Prop} (H : Tt (fun K k => qm_X13_reduced_3 K (q_X13_reduced K k) x1 x2 x3 x4 x5 x6 x7 z) Q) : Tt (fun K k => q_X13_reduced K k 3 x1 x2 x3 x4 x5 x6 x7 z) Q := w_un (fun _ _ => rfl) H
theorem u_X13_reduced_4 {x1 : Int32} {x2 : Int32} {x3 : Int32} {x4 : Int32} {x5 : Int32} {x6 : Int32} {x7 : Int32} {z : ow_MS} {Q : (Int32 × ow_MS) → Prop} (H : Tt (fun K k => qm_X13_reduced_4 K (q_X13_reduced K k) x1 x2 x3 x4 x5 x6 x7 z) Q) : Tt (fun K k => q_X13_reduced K k 4 x1 x2 x3 x4 x5 x6 x7 z) Q := w_un (fun _ _ => rfl) H
theorem e_X13_reduced {x1 : Int32} {x2 : Int32} {z : ow_MS} {Q : (Int32 × ow_MS) → Prop} (H : Tt (fun K k => q_X13_reduced K k 0 x1 x2 0 0 0 0 0 z) Q) : Te (fun K => qe_X13_reduced K x1 x2 z) Q := w_te H
theorem u_X13_reduced_0 {x1 : Int32} {x2 : Int32} {x3 : Int32} {x4 : Int32} {x5 : Int32} {x6 : Int32} {x7 : Int32} {z : ow_MS} {Q : (Int32 × ow_MS) → Prop} (H : Tt (fun K k => qm_X13_reduced_0 K (q_X13_reduced K k) x1 x2 x3 x4 x5 x6 x7 z) Q) : Tt (fun K k => q_X13_reduced K k 0 x1 x2 x3 x4 x5 x6 x7 z) Q := w_un (fun _ _ => rfl) H
theorem tp_reduced {size p b : Nat} (hp : prT p) (hp9 : p ≤ 997) (hs : size ≤ 1140) (hb : b ≤ 20000) (hpb : p ≤ b) (hI : plI z size) (hw : wkB z size b) : Te (fun K => qe_X13_reduced K (nI size) (nI p) z) (fun r => plI r.2 size ∧ fr rdH z r.2) := by
  have hp2 := hp.1
  have htri := tri_le hs
  have hpz : nI p ≠ 0 := fun e => by have := (nI_eq (a := p) (b := 0) (by omega) (by omega)).mp e; omega
  let Q : Int32 × ow_MS → Prop := fun r => plI r.2 size ∧ fr rdH z r.2
  have c1 : ∀ (d k : Nat) (y : ow_MS), k + d = size → plI y size → wkB y size b → fr rdH z y → Tt (fun K i => q_X13_reduced K i 1 (nI size) (nI p) (nI k) 0 0 0 0 y) Q := by
    intro d
    induction d with
    | zero =>
      intro k y hk hI hw hf
      refine u_X13_reduced_1 ?_; unfold qm_X13_reduced_1
      exact w_leT (by omega) (by omega) (w_okZ (Or.inl rfl) (w_some ⟨hI, hf⟩))
    | succ d ih =>
      intro k y hk hI hw hf
      obtain ⟨w, hwb, ew⟩ := hw k (by omega)
      have hrm : w % p < p := Nat.mod_lt _ (by omega)
      have hf2 : fr rdH z (usI y 89 k (nI (w % p))) := fr_I2 hf (by unfold rdH; omega)
      have hI2 : plI (usI y 89 k (nI (w % p))) size := plI_89 (fr_I rfl) hI
      have hw2 : wkB (usI y 89 k (nI (w % p))) size b := fun i hi => by
        by_cases hik : i = k
        · exact ⟨w % p, by omega, by rw [hik, po_usI_at]⟩
        · obtain ⟨w3, h3, e3⟩ := hw i hi
          exact ⟨w3, h3, rd_ne hik e3⟩
      have c5 : ∀ (x4 : Int32) (y : ow_MS), plI y size → wkB y size b → fr rdH z y → Tt (fun K i => q_X13_reduced K i 5 (nI size) (nI p) (nI k) x4 0 0 0 y) Q := by
        intro x4 y hI hw hf
        refine u_X13_reduced_5 ?_; unfold qm_X13_reduced_5
        rw [nI_1]
        exact ih (k + 1) y (by omega) hI hw hf
      obtain ⟨N, n1, n2, n3, n4⟩ := hI2
      have hN : N ≤ 650370 := by omega
      refine u_X13_reduced_1 ?_; unfold qm_X13_reduced_1
      refine w_leF (by omega) (by omega) (w_rdI ml89 rfl (by omega) ew (w_nzI hpz ?_))
      rw [pk_rem (by omega) (by omega) (by omega)]
      refine w_wrI ml89 rfl (by omega) (w_eqN (b := 0) (by omega) (by omega) (fun h0 => c5 _ _ ⟨N, n1, n2, n3, n4⟩ hw2 hf2) (fun h0 => w_rdI ml90 rfl (by omega) rfl (w_if (fun hm1 => ?_) (fun hne => ?_))))
      · -- a new row
        refine w_cs1 (tp_inv hp hp9 (a := w % p) (by omega) hrm) (fun a y9 ⟨e9, iv, hiv, eiv⟩ => ?_)
        have e9 : y9 = usI y 89 k (nI (w % p)) := e9
        have eiv2 : a = nI iv := eiv
        subst e9
        rw [eiv2]
        have hu := unk_set (size := size) (v := N) (by omega) hm1 size (by omega)
        refine w_rdF n1 (w_wrI ml90 rfl (by omega) ?_)
        have c2 : ∀ (d2 i M : Nat) (y : ow_MS), i + d2 = size → k ≤ i → N ≤ M → M + k ≤ N + i → fr rdH z y → y.1 93 = nI M → wkB y size b → (∀ j, j < size → j ≠ k → y.2.1 90 j = -1 ∨ ∃ b e, y.2.1 90 j = nI b ∧ y.2.1 91 j = nI e ∧ b ≤ e ∧ e ≤ N) → y.2.1 90 k = nI N → (∀ i, i < M → ∃ col o, col < size ∧ o < 1024 ∧ y.2.1 92 i = nI (1024 * col + o)) → M + unkF y size size + (size - k) ≤ triF size size + (M - N) → Tt (fun K t => q_X13_reduced K t 2 (nI size) (nI p) (nI k) (nI (w % p)) (nI iv) (nI i) 0 y) Q := by
          intro d2
          induction d2 with
          | zero =>
            intro i M y hi hki hNM hM hf h93 hw hrow hk9 hpool hun
            refine u_X13_reduced_2 ?_; unfold qm_X13_reduced_2
            refine w_leT (by omega) (by omega) (w_rdF h93 (w_wrI ml91 rfl (by omega) (w_okZ (Or.inr rfl) (w_some ⟨⟨M, h93, ?_, fun j hj => ?_, fun i hi => ?_⟩, fr_I2 hf (by unfold rdH; omega)⟩))))
            · rw [unk_eq (y := y) size (fun i _ => by rw [po_usI_ot (by omega)])]
              omega
            · by_cases hjk : j = k
              · rw [hjk]
                exact Or.inr ⟨N, M, by rw [po_usI_ot (by omega)]; exact hk9, po_usI_at, hNM, Nat.le_refl _⟩
              · rcases hrow j hj hjk with h9 | ⟨b1, e1, g1, g2, g3, g4⟩
                · exact Or.inl (rd_ot (by omega) h9)
                · exact Or.inr ⟨b1, e1, rd_ot (by omega) g1, rd_ne hjk g2, g3, by omega⟩
            · obtain ⟨col, o, g1, g2, g3⟩ := hpool i hi
              exact ⟨col, o, g1, g2, rd_ot (by omega) g3⟩
          | succ d2 ih2 =>
            intro i M y hi hki hNM hM hf h93 hw hrow hk9 hpool hun
            obtain ⟨w4, hw4, ew4⟩ := hw i (by omega)
            have hr4 : w4 % p < p := Nat.mod_lt _ (by omega)
            have hmul : w4 % p * iv < 2 ^ 31 := by
              have := Nat.mul_le_mul (show w4 % p ≤ 997 by omega) (show iv ≤ 997 by omega)
              omega
            have hro : w4 % p * iv % p < p := Nat.mod_lt _ (by omega)
            have c3 : ∀ (x7 : Int32) (M : Nat) (y : ow_MS), N ≤ M → M + k ≤ N + (i + 1) → fr rdH z y → y.1 93 = nI M → wkB y size b → (∀ j, j < size → j ≠ k → y.2.1 90 j = -1 ∨ ∃ b e, y.2.1 90 j = nI b ∧ y.2.1 91 j = nI e ∧ b ≤ e ∧ e ≤ N) → y.2.1 90 k = nI N → (∀ i, i < M → ∃ col o, col < size ∧ o < 1024 ∧ y.2.1 92 i = nI (1024 * col + o)) → M + unkF y size size + (size - k) ≤ triF size size + (M - N) → Tt (fun K t => q_X13_reduced K t 3 (nI size) (nI p) (nI k) (nI (w % p)) (nI iv) (nI i) x7 y) Q := by
              intro x7 M y a1 a2 a3 a4 a5 a6 a7 a8 a9
              refine u_X13_reduced_3 ?_; unfold qm_X13_reduced_3
              rw [nI_1]
              exact ih2 (i + 1) M y (by omega) (by omega) a1 (by omega) a3 a4 a5 a6 a7 a8 a9
            refine u_X13_reduced_2 ?_; unfold qm_X13_reduced_2
            refine w_leF (by omega) (by omega) (w_rdI ml89 rfl (by omega) ew4 (w_nzI hpz (w_nzI hpz ?_)))
            rw [pk_rem (by omega) (by omega) (by omega), pk_mul, pk_rem hmul (by omega) (by omega)]
            refine w_if (fun _ => c3 _ M y hNM (by omega) hf h93 hw hrow hk9 hpool hun) (fun _ => w_rdF h93 ?_)
            rw [show (1024 : Int32) * nI i = nI (1024 * i) from pk_mul 1024 i, nI_add]
            refine w_wrI ml92 rfl (by omega) (w_rdF (x := nI M) h93 (w_wrF (c3 _ (M + 1) _ (by omega) (by omega) (fr_F2 (fr_I2 hf (by unfold rdH; omega)) (by unfold rdH; omega)) (po_usF_at.trans (nI_1 M)) (fun i hi => ?_) (fun j hj hjk => ?_) ?_ (fun t ht => ?_) ?_)))
            · obtain ⟨w5, h5, e5⟩ := hw i hi
              exact ⟨w5, h5, rd_ot (by omega) e5⟩
            · show (usI y 92 M _).2.1 90 j = -1 ∨ ∃ b e, (usI y 92 M _).2.1 90 j = nI b ∧ (usI y 92 M _).2.1 91 j = nI e ∧ b ≤ e ∧ e ≤ N
              rw [po_usI_ot (by omega), po_usI_ot (by omega)]
              exact hrow j hj hjk
            · show (usI y 92 M _).2.1 90 k = nI N
              rw [po_usI_ot (by omega)]
              exact hk9
            · show ∃ col o, col < size ∧ o < 1024 ∧ (usI y 92 M _).2.1 92 t = nI (1024 * col + o)
              by_cases htM : t = M
              · rw [htM]
                exact ⟨i, _, by omega, by omega, po_usI_at⟩
              · obtain ⟨col, o, g1, g2, g3⟩ := hpool t (by omega)
                exact ⟨col, o, g1, g2, rd_ne htM g3⟩
            · rw [unk_eq (y := y) size (fun i _ => by show (usI y 92 M _).2.1 90 i = _; rw [po_usI_ot (by omega)])]
              omega
        have hrowN : ∀ j, j < size → j ≠ k → (usI (usI y 89 k (nI (w % p))) 90 k (nI N)).2.1 90 j = -1 ∨ ∃ b e, (usI (usI y 89 k (nI (w % p))) 90 k (nI N)).2.1 90 j = nI b ∧ (usI (usI y 89 k (nI (w % p))) 90 k (nI N)).2.1 91 j = nI e ∧ b ≤ e ∧ e ≤ N := by
          intro j hj hjk
          rw [po_usI_ne hjk, po_usI_ot (g := 91) (h := 90) (by omega)]
          exact n3 j hj
        refine c2 (size - k) k N _ (by omega) (Nat.le_refl _) (Nat.le_refl _) (by omega) (fr_I2 hf2 (by unfold rdH; omega)) n1 (fun i hi => ?_) hrowN po_usI_at (fun t ht => ?_) (by omega)
        · obtain ⟨w5, h5, e5⟩ := hw2 i hi
          exact ⟨w5, h5, rd_ot (by omega) e5⟩
        · rw [po_usI_ot (g := 92) (h := 90) (by omega)]
          exact n4 t ht
      · -- a kept row is taken off
        rcases n3 k (by omega) with h9 | ⟨b1, e1, g1, g2, g3, g4⟩
        · exact absurd h9 hne
        refine w_rdI ml90 rfl (by omega) g1 ?_
        have c4 : ∀ (d2 i : Nat) (y : ow_MS), i + d2 = e1 → plI y size → y.2.1 91 k = nI e1 → (∀ i, i < e1 → ∃ col o, col < size ∧ o < 1024 ∧ y.2.1 92 i = nI (1024 * col + o)) → wkB y size b → fr rdH z y → Tt (fun K t => q_X13_reduced K t 4 (nI size) (nI p) (nI k) (nI (w % p)) (nI i) 0 0 y) Q := by
          intro d2
          induction d2 with
          | zero =>
            intro i y hi hI h91 hpool hw hf
            refine u_X13_reduced_4 ?_; unfold qm_X13_reduced_4
            exact w_rdI ml91 rfl (by omega) h91 (w_leT (by omega) (by omega) (c5 _ y hI hw hf))
          | succ d2 ih4 =>
            intro i y hi hI h91 hpool hw hf
            obtain ⟨col, o, o1, o2, o3⟩ := hpool i (by omega)
            obtain ⟨w5, h5, e5⟩ := hw col o1
            have hmul : w5 + (p - w % p) * o < 2 ^ 31 := by
              have := Nat.mul_le_mul (show p - w % p ≤ 997 by omega) (show o ≤ 1023 by omega)
              omega
            have hro : (w5 + (p - w % p) * o) % p < p := Nat.mod_lt _ (by omega)
            refine u_X13_reduced_4 ?_; unfold qm_X13_reduced_4
            refine w_rdI ml91 rfl (by omega) h91 (w_leF (by omega) (by omega) (w_rdI ml92 rfl (by omega) o3 ?_))
            rw [shr10 (by omega), show (1024 * col + o) / 1024 = col by omega]
            refine w_rdI ml89 rfl (by omega) e5 (w_rdI ml92 rfl (by omega) o3 (w_nzI hpz ?_))
            rw [and1023 (by omega), show (1024 * col + o) % 1024 = o by omega, show nI p - nI (w % p) = nI (p - w % p) from pk_sub (by omega), pk_mul, nI_add, pk_rem hmul (by omega) (by omega), nI_1]
            refine w_wrI ml89 rfl (by omega) (ih4 (i + 1) _ (by omega) (plI_89 (fr_I rfl) hI) (rd_ot (by omega) h91) (fun t ht => ?_) (fun t ht => ?_) (fr_I2 hf (by unfold rdH; omega)))
            · obtain ⟨c9, o9, k1, k2, k3⟩ := hpool t ht
              exact ⟨c9, o9, k1, k2, rd_ot (by omega) k3⟩
            · by_cases htc : t = col
              · exact ⟨(w5 + (p - w % p) * o) % p, by omega, by rw [htc, po_usI_at]⟩
              · obtain ⟨w6, h6, e6⟩ := hw t ht
                exact ⟨w6, h6, rd_ne htc e6⟩
        exact c4 (e1 - b1) b1 _ (by omega) ⟨N, n1, n2, n3, n4⟩ g2 (fun i hi => n4 i (by omega)) hw2 hf2
  refine e_X13_reduced ?_
  refine u_X13_reduced_0 ?_; unfold qm_X13_reduced_0
  exact c1 size 0 z (by omega) hI hw fr_rf
/-- what stays while ranks are found -/
def rkC (y : ow_MS) (n : Nat) (A : rn_L) (sg : Nat → Bool) (c mi : Nat) : Prop := oNet y n A sg ∧ stI y A sg c ∧ plA y A sg c ∧ y.1 88 = nI mi
theorem rkC_fr {n : Nat} {y y1 : ow_MS} {A : rn_L} {sg : Nat → Bool} {c mi : Nat} {P : Nat → Prop} (hn : mw_net n) (hf : fr P y y1) (hP : ∀ g, P g → g = 86 ∨ g = 87 ∨ 89 ≤ g ∧ g ≤ 93) (h : rkC y n A sg c mi) : rkC y1 n A sg c mi := by
  have hmn := net_mod hn
  have no : ∀ g, ¬ (g = 86 ∨ g = 87 ∨ 89 ≤ g ∧ g ≤ 93) → ¬ P g := fun g hg h9 => hg (hP g h9)
  exact ⟨oNet_fr hf (fun g hg => by have := hP g hg; omega) h.1, stI_fr hf (no 81 (by omega)) (no 82 (by omega)) (no 83 (by omega)) h.2.1, ⟨fun i hi => inR_fr hf (no 85 (by omega)) (h.2.2.1.1 i hi), fun i hi => inR_fr hf (no 84 (by omega)) (h.2.2.1.2 i hi)⟩, by rw [(hf 88 (no 88 (by omega))).1]; exact h.2.2.2⟩
theorem e_X13_rankOf {r1 : Nat} {x2 : Int32} {x3 : Int32} {x4 : Int32} {z : ow_MS} {Q : (Int32 × ow_MS) → Prop} (H : Tt (fun K k => q_X13_rankOf K k 0 x2 x3 x4 0 0 0 0 0 0 r1 0 0 z) Q) : Te (fun K => qe_X13_rankOf K r1 x2 x3 x4 z) Q := w_te H
theorem u_X13_rankOf_0 {x2 : Int32} {x3 : Int32} {x4 : Int32} {x5 : Int32} {x6 : Int32} {x7 : Int32} {x8 : Int32} {x9 : Int32} {x10 : Int32} {r1 : Nat} {t0 : Int32} {t1 : Int32} {z : ow_MS} {Q : (Int32 × ow_MS) → Prop} (H : Tt (fun K k => qm_X13_rankOf_0 K (q_X13_rankOf K k) x2 x3 x4 x5 x6 x7 x8 x9 x10 r1 t0 t1 z) Q) : Tt (fun K k => q_X13_rankOf K k 0 x2 x3 x4 x5 x6 x7 x8 x9 x10 r1 t0 t1 z) Q := w_un (fun _ _ => rfl) H
theorem u_X13_rankOf_2 {x2 : Int32} {x3 : Int32} {x4 : Int32} {x5 : Int32} {x6 : Int32} {x7 : Int32} {x8 : Int32} {x9 : Int32} {x10 : Int32} {r1 : Nat} {t0 : Int32} {t1 : Int32} {z : ow_MS} {Q : (Int32 × ow_MS) → Prop} (H : Tt (fun K k => qm_X13_rankOf_2 K (q_X13_rankOf K k) x2 x3 x4 x5 x6 x7 x8 x9 x10 r1 t0 t1 z) Q) : Tt (fun K k => q_X13_rankOf K k 2 x2 x3 x4 x5 x6 x7 x8 x9 x10 r1 t0 t1 z) Q := w_un (fun _ _ => rfl) H
theorem u_X13_rankOf_9 {x2 : Int32} {x3 : Int32} {x4 : Int32} {x5 : Int32} {x6 : Int32} {x7 : Int32} {x8 : Int32} {x9 : Int32} {x10 : Int32} {r1 : Nat} {t0 : Int32} {t1 : Int32} {z : ow_MS} {Q : (Int32 × ow_MS) → Prop} (H : Tt (fun K k => qm_X13_rankOf_9 K (q_X13_rankOf K k) x2 x3 x4 x5 x6 x7 x8 x9 x10 r1 t0 t1 z) Q) : Tt (fun K k => q_X13_rankOf K k 9 x2 x3 x4 x5 x6 x7 x8 x9 x10 r1 t0 t1 z) Q := w_un (fun _ _ => rfl) H
theorem u_X13_rankOf_3 {x2 : Int32} {x3 : Int32} {x4 : Int32} {x5 : Int32} {x6 : Int32} {x7 : Int32} {x8 : Int32} {x9 : Int32} {x10 : Int32} {r1 : Nat} {t0 : Int32} {t1 : Int32} {z : ow_MS} {Q : (Int32 × ow_MS) → Prop} (H : Tt (fun K k => qm_X13_rankOf_3 K (q_X13_rankOf K k) x2 x3 x4 x5 x6 x7 x8 x9 x10 r1 t0 t1 z) Q) : Tt (fun K k => q_X13_rankOf K k 3 x2 x3 x4 x5 x6 x7 x8 x9 x10 r1 t0 t1 z) Q := w_un (fun _ _ => rfl) H
theorem u_X13_rankOf_8 {x2 : Int32} {x3 : Int32} {x4 : Int32} {x5 : Int32} {x6 : Int32} {x7 : Int32} {x8 : Int32} {x9 : Int32} {x10 : Int32} {r1 : Nat} {t0 : Int32} {t1 : Int32} {z : ow_MS} {Q : (Int32 × ow_MS) → Prop} (H : Tt (fun K k => qm_X13_rankOf_8 K (q_X13_rankOf K k) x2 x3 x4 x5 x6 x7 x8 x9 x10 r1 t0 t1 z) Q) : Tt (fun K k => q_X13_rankOf K k 8 x2 x3 x4 x5 x6 x7 x8 x9 x10 r1 t0 t1 z) Q := w_un (fun _ _ => rfl) H
theorem u_X13_rankOf_7 {x2 : Int32} {x3 : Int32} {x4 : Int32} {x5 : Int32} {x6 : Int32} {x7 : Int32} {x8 : Int32} {x9 : Int32} {x10 : Int32} {r1 : Nat} {t0 : Int32} {t1 : Int32} {z : ow_MS} {Q : (Int32 × ow_MS) → Prop} (H : Tt (fun K k => qm_X13_rankOf_7 K (q_X13_rankOf K k) x2 x3 x4 x5 x6 x7 x8 x9 x10 r1 t0 t1 z) Q) : Tt (fun K k => q_X13_rankOf K k 7 x2 x3 x4 x5 x6 x7 x8 x9 x10 r1 t0 t1 z) Q := w_un (fun _ _ => rfl) H
theorem u_X13_rankOf_5 {x2 : Int32} {x3 : Int32} {x4 : Int32} {x5 : Int32} {x6 : Int32} {x7 : Int32} {x8 : Int32} {x9 : Int32} {x10 : Int32} {r1 : Nat} {t0 : Int32} {t1 : Int32} {z : ow_MS} {Q : (Int32 × ow_MS) → Prop} (H : Tt (fun K k => qm_X13_rankOf_5 K (q_X13_rankOf K k) x2 x3 x4 x5 x6 x7 x8 x9 x10 r1 t0 t1 z) Q) : Tt (fun K k => q_X13_rankOf K k 5 x2 x3 x4 x5 x6 x7 x8 x9 x10 r1 t0 t1 z) Q := w_un (fun _ _ => rfl) H
theorem u_X13_rankOf_6 {x2 : Int32} {x3 : Int32} {x4 : Int32} {x5 : Int32} {x6 : Int32} {x7 : Int32} {x8 : Int32} {x9 : Int32} {x10 : Int32} {r1 : Nat} {t0 : Int32} {t1 : Int32} {z : ow_MS} {Q : (Int32 × ow_MS) → Prop} (H : Tt (fun K k => qm_X13_rankOf_6 K (q_X13_rankOf K k) x2 x3 x4 x5 x6 x7 x8 x9 x10 r1 t0 t1 z) Q) : Tt (fun K k => q_X13_rankOf K k 6 x2 x3 x4 x5 x6 x7 x8 x9 x10 r1 t0 t1 z) Q := w_un (fun _ _ => rfl) H
theorem u_X13_rankOf_4 {x2 : Int32} {x3 : Int32} {x4 : Int32} {x5 : Int32} {x6 : Int32} {x7 : Int32} {x8 : Int32} {x9 : Int32} {x10 : Int32} {r1 : Nat} {t0 : Int32} {t1 : Int32} {z : ow_MS} {Q : (Int32 × ow_MS) → Prop} (H : Tt (fun K k => qm_X13_rankOf_4 K (q_X13_rankOf K k) x2 x3 x4 x5 x6 x7 x8 x9 x10 r1 t0 t1 z) Q) : Tt (fun K k => q_X13_rankOf K k 4 x2 x3 x4 x5 x6 x7 x8 x9 x10 r1 t0 t1 z) Q := w_un (fun _ _ => rfl) H
theorem u_X13_rankOf_1 {x2 : Int32} {x3 : Int32} {x4 : Int32} {x5 : Int32} {x6 : Int32} {x7 : Int32} {x8 : Int32} {x9 : Int32} {x10 : Int32} {r1 : Nat} {t0 : Int32} {t1 : Int32} {z : ow_MS} {Q : (Int32 × ow_MS) → Prop} (H : Tt (fun K k => qm_X13_rankOf_1 K (q_X13_rankOf K k) x2 x3 x4 x5 x6 x7 x8 x9 x10 r1 t0 t1 z) Q) : Tt (fun K k => q_X13_rankOf K k 1 x2 x3 x4 x5 x6 x7 x8 x9 x10 r1 t0 t1 z) Q := w_un (fun _ _ => rfl) H
theorem tp_rankOf {n c P r q p mi : Nat} {A : rn_L} {sg : Nat → Bool} (hn : mw_net n) (hK : chOK A sg c P) (hC0 : rkC z n A sg c mi) (hmi : mi ≤ c) (hr : r < c) (hq : q < 80) (hp : prT p) (hp9 : p ≤ 997) : Te (fun K => qe_X13_rankOf K n (nI r) (nI q) (nI p) z) (fun o => fr rdH z o.2) := by
  have hK' := hK
  obtain ⟨hok, hc, hCl, hL9, hbs, -⟩ := hK
  have hV := okF_len hok
  have hp2 := hp.1
  have h2c : 2 ^ c ≤ 256 := two_mono (b := 8) hc
  let Q : Int32 × ow_MS → Prop := fun o => fr rdH z o.2
  have iF : ∀ {y : ow_MS}, fr rdH z y → rkC y n A sg c mi := fun hf => rkC_fr hn hf (fun g hg => by unfold rdH at hg; omega) hC0
  obtain ⟨size, hsz, esz⟩ := hC0.2.2.1.1 (80 * (r + 1) + q) (by omega)
  refine e_X13_rankOf ?_
  refine u_X13_rankOf_0 ?_; unfold qm_X13_rankOf_0
  rw [show nI r + 1 = nI (r + 1) from nI_1 _, show (80 : Int32) * nI (r + 1) = nI (80 * (r + 1)) from pk_mul 80 _, nI_add, show (80 : Int32) * nI r = nI (80 * r) from pk_mul 80 _, nI_add]
  refine w_rdI ml85 rfl (by omega) esz (w_if (fun _ => w_some fr_rf) (fun _ => w_rdI ml85 rfl (by omega) rfl (w_if (fun _ => w_some fr_rf) (fun _ => w_rdF hC0.1.1.V (w_nzI (by decide) ?_)))))
  rw [hV, half_V (by omega)]
  have c2 : ∀ (d s : Nat) (x7 : Int32) (y : ow_MS), s + d = 2 ^ c → fr rdH z y → plI y size → Tt (fun K i => q_X13_rankOf K i 2 (nI r) (nI q) (nI p) (nI size) (nI c) x7 (nI s) 0 0 n 0 0 y) Q := by
    intro d
    induction d with
    | zero =>
      intro s x7 y hs hf hI
      refine u_X13_rankOf_2 ?_; unfold qm_X13_rankOf_2
      rw [shl1 (by omega)]
      exact w_leT (by omega) (by omega) (w_some hf)
    | succ d ih =>
      intro s x7 y hs hf hI
      have hsl : s < 2 ^ c := by omega
      have hL := hL9 s hsl
      have h2L : 2 ^ LcN A sg s ≤ 512 := two_mono (b := 9) hL
      have c9 : ∀ (x7 x9 : Int32) (y : ow_MS), fr rdH z y → plI y size → Tt (fun K i => q_X13_rankOf K i 9 (nI r) (nI q) (nI p) (nI size) (nI c) x7 (nI s) x9 0 n 0 0 y) Q := by
        intro x7 x9 y hf hI
        refine u_X13_rankOf_9 ?_; unfold qm_X13_rankOf_9
        rw [nI_1]
        exact ih (s + 1) x7 y (by omega) hf hI
      have c3 : ∀ (d2 m : Nat) (x7 : Int32) (y : ow_MS), m + d2 = 2 ^ LcN A sg s → fr rdH z y → plI y size → Tt (fun K i => q_X13_rankOf K i 3 (nI r) (nI q) (nI p) (nI size) (nI c) x7 (nI s) (nI m) 0 n 0 0 y) Q := by
        intro d2
        induction d2 with
        | zero =>
          intro m x7 y hm hf hI
          refine u_X13_rankOf_3 ?_; unfold qm_X13_rankOf_3
          refine w_if (fun _ => w_rdI ml82 rfl (by omega) ((iF hf).2.1.1 s hsl) ?_) (fun _ => c9 _ _ y hf hI)
          rw [shl1 (by omega)]
          exact w_leT (by omega) (by omega) (c9 _ _ y hf hI)
        | succ d2 ih3 =>
          intro m x7 y hm hf hI
          have hml : m < 2 ^ LcN A sg s := by omega
          have hCy := iF hf
          obtain ⟨tq, hq80⟩ := tp_qOf hK' hCy.2.1 hCy.2.2.2 hmi hsl hml
          have c8 : ∀ (x7 : Int32) (y : ow_MS), fr rdH z y → plI y size → Tt (fun K i => q_X13_rankOf K i 8 (nI r) (nI q) (nI p) (nI size) (nI c) x7 (nI s) (nI m) 0 n 0 0 y) Q := by
            intro x7 y hf hI
            refine u_X13_rankOf_8 ?_; unfold qm_X13_rankOf_8
            rw [show nI m + 1 = nI (m + 1) from nI_1 _]
            exact ih3 (m + 1) x7 y (by omega) hf hI
          have c7 : ∀ (x10 t0 t1 : Int32) (x7 : Int32) (y : ow_MS), fr rdH z y → plI y size → Tt (fun K i => q_X13_rankOf K i 7 (nI r) (nI q) (nI p) (nI size) (nI c) x7 (nI s) (nI m) x10 n t0 t1 y) Q := by
            intro x10 t0 t1 x7 y hf hI
            refine u_X13_rankOf_7 ?_; unfold qm_X13_rankOf_7
            exact c8 _ y hf hI
          have c5 : ∀ (d3 x : Nat) (y : ow_MS), x + d3 = c → fr rdH z y → plI y size → wkB y size (p + x * (2 * p)) → Tt (fun K i => q_X13_rankOf K i 5 (nI r) (nI q) (nI p) (nI size) (nI c) x7 (nI s) (nI m) (nI x) n 0 0 y) Q := by
            intro d3
            induction d3 with
            | zero =>
              intro x y hx hf hI hw
              have hb : p + x * (2 * p) ≤ 20000 := by
                have := Nat.mul_le_mul (show x ≤ 8 by omega) (show 2 * p ≤ 1994 by omega)
                omega
              refine u_X13_rankOf_5 ?_; unfold qm_X13_rankOf_5
              refine w_leT (by omega) (by omega) (w_cs1 (tp_reduced hp hp9 (by omega) hb (by omega) hI hw) (fun a y1 ⟨I1, f1⟩ => w_if (fun _ => c7 _ _ _ _ y1 (fr_tr hf f1) I1) (fun _ => c7 _ _ _ _ y1 (fr_tr hf f1) I1)))
            | succ d3 ih5 =>
              intro x y hx hf hI hw
              have hCy := iF hf
              have hw1 : p + x * (2 * p) ≤ p + (x + 1) * (2 * p) := by rw [Nat.add_mul]; omega
              have c6 : ∀ (y : ow_MS), fr rdH z y → plI y size → wkB y size (p + (x + 1) * (2 * p)) → Tt (fun K i => q_X13_rankOf K i 6 (nI r) (nI q) (nI p) (nI size) (nI c) x7 (nI s) (nI m) (nI x) n 0 0 y) Q := by
                intro y hf hI hw
                refine u_X13_rankOf_6 ?_; unfold qm_X13_rankOf_6
                rw [show nI x + 1 = nI (x + 1) from nI_1 _]
                exact ih5 (x + 1) y (by omega) hf hI hw
              refine u_X13_rankOf_5 ?_; unfold qm_X13_rankOf_5
              rw [bit_nI (by omega) (by omega)]
              refine w_leF (by omega) (by omega) (w_eqN (b := 0) (by unfold btN; omega) (by omega) (fun h0 => w_cs0 (tp_step (m := m) hn hK' hCy.1 hCy.2.1 hCy.2.2.1 hsl (by omega) h0 hp2 hp9 hw) (fun y1 ⟨w1, f1⟩ => c6 y1 (fr_tr hf (fr_mono (fun g hg => by unfold rdH; omega) f1)) (plI_89 f1 hI) (wkB_mono (by rw [Nat.add_mul]; omega) w1))) (fun _ => c6 y hf hI (wkB_mono hw1 hw)))
          have c4 : ∀ (d3 k : Nat) (y : ow_MS), k + d3 = size → fr rdH z y → plI y size → (∀ i, i < k → y.2.1 89 i = 0) → Tt (fun K i => q_X13_rankOf K i 4 (nI r) (nI q) (nI p) (nI size) (nI c) x7 (nI s) (nI m) (nI k) n 0 0 y) Q := by
            intro d3
            induction d3 with
            | zero =>
              intro k y hk hf hI h0
              refine u_X13_rankOf_4 ?_; unfold qm_X13_rankOf_4
              exact w_leT (by omega) (by omega) (c5 c 0 y (by omega) hf hI (fun i hi => ⟨0, Nat.zero_le _, h0 i (by omega)⟩))
            | succ d3 ih4 =>
              intro k y hk hf hI h0
              refine u_X13_rankOf_4 ?_; unfold qm_X13_rankOf_4
              rw [show nI k + 1 = nI (k + 1) from nI_1 _]
              refine w_leF (by omega) (by omega) (w_wrI ml89 rfl (by omega) (ih4 (k + 1) _ (by omega) (fr_I2 hf (by unfold rdH; omega)) (plI_89 (fr_I rfl) hI) (fun i hi => ?_)))
              by_cases hik : i = k
              · rw [hik, po_usI_at]
              · exact rd_ne hik (h0 i (by omega))
          refine u_X13_rankOf_3 ?_; unfold qm_X13_rankOf_3
          refine w_if (fun _ => w_rdI ml82 rfl (by omega) (hCy.2.1.1 s hsl) ?_) (fun _ => c9 _ _ y hf hI)
          rw [shl1 (by omega)]
          refine w_leF (by omega) (by omega) (w_rdF hCy.2.2.2 (w_cs1 tq (fun a y1 e1 => ?_)))
          cases e1
          exact w_if (fun _ => c4 size 0 y (by omega) hf hI (fun i hi => absurd hi (by omega))) (fun _ => c8 _ y hf hI)
      refine u_X13_rankOf_2 ?_; unfold qm_X13_rankOf_2
      rw [shl1 (by omega)]
      exact w_leF (by omega) (by omega) (c3 (2 ^ LcN A sg s) 0 x7 y (by omega) hf hI)
  have c1 : ∀ (d k : Nat) (y : ow_MS), k + d = size → fr rdH z y → (∀ i, i < k → y.2.1 90 i = -1) → Tt (fun K i => q_X13_rankOf K i 1 (nI r) (nI q) (nI p) (nI size) (nI c) (nI k) 0 0 0 n 0 0 y) Q := by
    intro d
    induction d with
    | zero =>
      intro k y hk hf h9
      have hk : k = size := by omega
      subst hk
      refine u_X13_rankOf_1 ?_; unfold qm_X13_rankOf_1
      refine w_leT (by omega) (by omega) (w_wrF (c2 (2 ^ c) 0 0 _ (by omega) (fr_F2 hf (by unfold rdH; omega)) ⟨0, po_usF_at, ?_, fun i hi => Or.inl (h9 i hi), fun i hi => absurd hi (by omega)⟩))
      rw [unk_all (y := usF y 93 0) k h9]
      omega
    | succ d ih =>
      intro k y hk hf h9
      refine u_X13_rankOf_1 ?_; unfold qm_X13_rankOf_1
      rw [nI_1]
      refine w_leF (by omega) (by omega) (w_wrI ml90 rfl (by omega) (ih (k + 1) _ (by omega) (fr_I2 hf (by unfold rdH; omega)) (fun i hi => ?_)))
      by_cases hik : i = k
      · rw [hik, po_usI_at]
      · exact rd_ne hik (h9 i (by omega))
  exact c1 size 0 z (by omega) fr_rf (fun i hi => absurd hi (by omega))
end CHC
