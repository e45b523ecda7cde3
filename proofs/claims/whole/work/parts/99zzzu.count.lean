/-! how many generators there are -/
theorem pcF_hi : ∀ (n j i : Nat), j < n → i < 2 ^ j → pcF n (2 ^ j + i) = pcF n i + 1
  | 0, j, i, h, _ => by omega
  | n + 1, 0, i, _, hi => by
    have hi : i = 0 := by simpa using hi
    subst hi
    show (2 ^ 0 + 0) % 2 + pcF n ((2 ^ 0 + 0) / 2) = 0 % 2 + pcF n (0 / 2) + 1
    rw [show (2 ^ 0 + 0) / 2 = 0 / 2 from rfl, show (2 ^ 0 + 0) % 2 = 1 from rfl]
    omega
  | n + 1, j + 1, i, h, hi => by
    have e : 2 ^ (j + 1) = 2 * 2 ^ j := by rw [Nat.pow_succ]; omega
    have := pcF_hi n j (i / 2) (by omega) (by omega)
    show (2 ^ (j + 1) + i) % 2 + pcF n ((2 ^ (j + 1) + i) / 2) = i % 2 + pcF n (i / 2) + 1
    rw [show (2 ^ (j + 1) + i) % 2 = i % 2 by omega, show (2 ^ (j + 1) + i) / 2 = 2 ^ j + i / 2 by omega, this]
    omega
theorem pc_hi {j i : Nat} (hj : j < 32) (hi : i < 2 ^ j) : pc (2 ^ j + i) = pc i + 1 := pcF_hi 32 j i hj hi
/-- sums over the states below n with h ones -/
def smH (w : Nat → Nat) (h t : Nat) : Nat → Nat
  | 0 => 0
  | n + 1 => smH w h t n + if pc n = h then w (t + n) else 0
def lm0 (w : Nat → Nat) : Nat → Nat → Nat → Nat
  | 0, t, h => if h = 0 then w t else 0
  | j + 1, t, h => lm0 w j t h + if h = 0 then 0 else lm0 w j (t + 2 ^ j) (h - 1)
theorem smH_hi {w : Nat → Nat} {h t j : Nat} (hj : j < 32) : ∀ i, i ≤ 2 ^ j → smH w h t (2 ^ j + i) = smH w h t (2 ^ j) + if h = 0 then 0 else smH w (h - 1) (t + 2 ^ j) i
  | 0, _ => by
    show _ = _ + if h = 0 then 0 else 0
    split <;> rfl
  | i + 1, hi => by
    have ih := smH_hi (w := w) (h := h) (t := t) hj i (by omega)
    show smH w h t (2 ^ j + i) + (if pc (2 ^ j + i) = h then w (t + (2 ^ j + i)) else 0) = _
    rw [ih, pc_hi hj (by omega)]
    by_cases h0 : h = 0
    · rw [if_pos h0, if_pos h0, if_neg (by omega)]
    · rw [if_neg h0, if_neg h0]
      show _ = _ + (smH w (h - 1) (t + 2 ^ j) i + if pc i = h - 1 then w (t + 2 ^ j + i) else 0)
      rw [show t + (2 ^ j + i) = t + 2 ^ j + i by omega]
      by_cases h1 : pc i + 1 = h
      · rw [if_pos h1, if_pos (by omega)]; omega
      · rw [if_neg h1, if_neg (by omega)]; omega
theorem smH_lm {w : Nat → Nat} : ∀ (j t h : Nat), j < 32 → smH w h t (2 ^ j) = lm0 w j t h
  | 0, t, h, _ => by
    show 0 + (if pc 0 = h then w (t + 0) else 0) = if h = 0 then w t else 0
    rw [show pc 0 = 0 from by decide]
    by_cases h0 : h = 0
    · rw [if_pos h0, if_pos h0.symm, Nat.add_zero, Nat.zero_add]
    · rw [if_neg h0, if_neg (fun e => h0 e.symm)]
  | j + 1, t, h, hj => by
    have e : 2 ^ (j + 1) = 2 ^ j + 2 ^ j := by rw [Nat.pow_succ]; omega
    rw [e, smH_hi (by omega) _ (Nat.le_refl _), smH_lm j t h (by omega)]
    show _ = lm0 w j t h + if h = 0 then 0 else lm0 w j (t + 2 ^ j) (h - 1)
    by_cases h0 : h = 0
    · rw [if_pos h0, if_pos h0]
    · rw [if_neg h0, if_neg h0, smH_lm j _ _ (by omega)]
/-- sums over all states below n -/
def smA (w : Nat → Nat) (t : Nat) : Nat → Nat
  | 0 => 0
  | n + 1 => smA w t n + w (t + n)
theorem smA_add {w : Nat → Nat} {t n : Nat} : ∀ i, smA w t (n + i) = smA w t n + smA w (t + n) i
  | 0 => rfl
  | i + 1 => by
    have ih := smA_add (w := w) (t := t) (n := n) i
    show smA w t (n + i) + w (t + (n + i)) = smA w t n + (smA w (t + n) i + w (t + n + i))
    rw [ih, show t + (n + i) = t + n + i by omega]
    omega
theorem smA_eq {w u : Nat → Nat} {t s : Nat} : ∀ n, (∀ i, i < n → w (t + i) = u (s + i)) → smA w t n = smA u s n
  | 0, _ => rfl
  | n + 1, h => by
    show smA w t n + w (t + n) = smA u s n + u (s + n)
    rw [smA_eq n (fun i hi => h i (by omega)), h n (by omega)]
theorem smA_mul {w : Nat → Nat} {t k : Nat} : ∀ n, smA (fun s => k * w s) t n = k * smA w t n
  | 0 => rfl
  | n + 1 => by
    show smA (fun s => k * w s) t n + k * w (t + n) = k * (smA w t n + w (t + n))
    rw [smA_mul n, Nat.mul_add]
theorem smA_mono {w : Nat → Nat} {t a : Nat} : ∀ b, a ≤ b → smA w t a ≤ smA w t b
  | 0, h => by rw [show a = 0 by omega]; exact Nat.le_refl _
  | b + 1, h => by
    by_cases e : a = b + 1
    · rw [e]; exact Nat.le_refl _
    · have := smA_mono (w := w) (t := t) (a := a) b (by omega)
      show smA w t a ≤ smA w t b + _
      omega
/-! states and modes -/
def btN (s x : Nat) : Nat := s / 2 ^ x % 2
def mB (w : Bool) (b : Nat) : Nat := if decide (b = 1) = w then 1 else 2
theorem mB_1 {w : Bool} {b : Nat} : mB w b = 1 ∨ mB w b = 2 := by
  unfold mB
  split
  · exact Or.inl rfl
  · exact Or.inr rfl
def mdS (ab : Nat → Bool) (j t x : Nat) : Nat := if x < j then 3 else mB (ab x) (btN t x)
theorem bt_hi {j t r x : Nat} (ht : t % 2 ^ j = 0) (hr : r < 2 ^ j) (hx : j ≤ x) : btN (t + r) x = btN t x := by
  unfold btN
  obtain ⟨u, hu⟩ : ∃ u, t = 2 ^ j * u := ⟨t / 2 ^ j, by have := Nat.div_add_mod t (2 ^ j); omega⟩
  obtain ⟨y, rfl⟩ : ∃ y, x = j + y := ⟨x - j, by omega⟩
  have h1 : (t + r) / 2 ^ (j + y) = t / 2 ^ (j + y) := by
    rw [Nat.pow_add, ← Nat.div_div_eq_div_mul, ← Nat.div_div_eq_div_mul, hu, Nat.mul_add_div (Nat.two_pow_pos j), Nat.div_eq_of_lt hr, Nat.mul_div_cancel_left u (Nat.two_pow_pos j), Nat.add_zero]
  rw [h1]
theorem bt_j {j t r : Nat} (ht : t % 2 ^ (j + 1) = 0) (hr : r < 2 ^ j) : btN (t + r) j = 0 ∧ btN (t + 2 ^ j + r) j = 1 := by
  have e : 2 ^ (j + 1) = 2 * 2 ^ j := by rw [Nat.pow_succ]; omega
  rw [e] at ht
  have hp := Nat.two_pow_pos j
  obtain ⟨u, hu⟩ : ∃ u, t = 2 ^ j * (2 * u) := ⟨t / (2 * 2 ^ j), by
    have := Nat.div_add_mod t (2 * 2 ^ j)
    rw [ht] at this
    rw [← Nat.mul_assoc, Nat.mul_comm (2 ^ j) 2]
    omega⟩
  unfold btN
  constructor
  · rw [hu, Nat.mul_add_div hp, Nat.div_eq_of_lt hr]
    omega
  · rw [hu, show 2 ^ j * (2 * u) + 2 ^ j + r = 2 ^ j * (2 * u + 1) + r by rw [Nat.mul_add]; omega, Nat.mul_add_div hp, Nat.div_eq_of_lt hr]
    omega
section CNT
variable {q : En4} {c V e : Nat} {ab : Nat → Bool}
theorem mdS_full {j t : Nat} : full c (mdS ab j t) := by
  intro x _
  unfold mdS
  split
  · exact Or.inr (Or.inr rfl)
  · rcases mB_1 (w := ab x) (b := btN t x) with h | h
    · exact Or.inl h
    · exact Or.inr (Or.inl h)
/-- the loops of a state -/
def ell (q : En4) (c V : Nat) (ab : Nat → Bool) (t : Nat) : Nat := cN V (lab q c (mdS ab 0 t))
def ell2 (q : En4) (c V : Nat) (ab : Nat → Bool) (j t : Nat) : Nat := cN V (lab q c (mdS ab j t))
/-- at each crossing one of three things is so -/
theorem kinds2 {j t : Nat} (hj : j < c) (hE : ends q c V) (hev : evn q c) (ht : t % 2 ^ (j + 1) = 0) : (ell2 q c V ab j t = ell2 q c V ab (j + 1) t ∧ ell2 q c V ab j (t + 2 ^ j) = ell2 q c V ab (j + 1) t) ∨ (ell2 q c V ab j t = ell2 q c V ab (j + 1) t ∧ ∀ r, r < 2 ^ j → ell q c V ab (t + 2 ^ j + r) = ell q c V ab (t + r) + 1) ∨ (ell2 q c V ab j (t + 2 ^ j) = ell2 q c V ab (j + 1) t ∧ ∀ r, r < 2 ^ j → ell q c V ab (t + r) = ell q c V ab (t + 2 ^ j + r) + 1) := by
  have ht2 : t % 2 ^ j = 0 := by
    rw [Nat.pow_succ] at ht
    have h1 : t % (2 ^ j * 2) % 2 ^ j = t % 2 ^ j := Nat.mod_mul_right_mod t (2 ^ j) 2
    rw [ht, Nat.zero_mod] at h1
    exact h1.symm
  have hpj := Nat.two_pow_pos j
  have e2j : 2 ^ (j + 1) = 2 ^ j + 2 ^ j := by rw [Nat.pow_succ]; omega
  -- the modes in terms of one crossing
  have m3 : upm (mdS ab (j + 1) t) j 3 = mdS ab (j + 1) t := by
    funext x
    unfold upm mdS
    by_cases hx : x = j
    · rw [if_pos hx, if_pos (by omega)]
    · rw [if_neg hx]
  have m0 : mdS ab j t = upm (mdS ab (j + 1) t) j (mB (ab j) 0) := by
    funext x
    unfold upm mdS
    by_cases hx : x = j
    · rw [if_pos hx, hx, if_neg (by omega), show btN t j = 0 from (bt_j (r := 0) ht hpj).1]
    · rw [if_neg hx]
      by_cases hlt : x < j
      · rw [if_pos hlt, if_pos (by omega)]
      · rw [if_neg hlt, if_neg (by omega)]
  have m1 : mdS ab j (t + 2 ^ j) = upm (mdS ab (j + 1) t) j (mB (ab j) 1) := by
    funext x
    unfold upm mdS
    by_cases hx : x = j
    · rw [if_pos hx, hx, if_neg (by omega), show btN (t + 2 ^ j) j = 1 from (bt_j (r := 0) ht hpj).2]
    · rw [if_neg hx]
      by_cases hlt : x < j
      · rw [if_pos hlt, if_pos (by omega)]
      · rw [if_neg hlt, if_neg (by omega), bt_hi ht (by omega) (by omega)]
  have n0 : ∀ r, r < 2 ^ j → mdS ab 0 (t + r) = upm (mdS ab 0 (t + r)) j (mB (ab j) 0) := by
    intro r hr
    funext x
    unfold upm
    by_cases hx : x = j
    · rw [if_pos hx]
      unfold mdS
      rw [hx, if_neg (by omega), (bt_j ht hr).1]
    · rw [if_neg hx]
  have n1 : ∀ r, r < 2 ^ j → mdS ab 0 (t + 2 ^ j + r) = upm (mdS ab 0 (t + r)) j (mB (ab j) 1) := by
    intro r hr
    funext x
    unfold upm
    by_cases hx : x = j
    · rw [if_pos hx]
      unfold mdS
      rw [hx, if_neg (by omega), (bt_j ht hr).2]
    · rw [if_neg hx]
      unfold mdS
      rw [if_neg (by omega), if_neg (by omega)]
      congr 1
      by_cases hlt : x < j
      · -- a lower bit: 2 ^ j does not reach it
        have h1 : btN (t + 2 ^ j + r) x = btN r x := by
          unfold btN
          obtain ⟨y, rfl⟩ : ∃ y, j = x + 1 + y := ⟨j - x - 1, by omega⟩
          obtain ⟨u, hu⟩ : ∃ u, t = 2 ^ (x + 1 + y) * u := ⟨t / 2 ^ (x + 1 + y), by have := Nat.div_add_mod t (2 ^ (x + 1 + y)); omega⟩
          have e1 : 2 ^ (x + 1 + y) = 2 ^ x * (2 * 2 ^ y) := by rw [Nat.pow_add, Nat.pow_succ, Nat.mul_assoc]
          rw [hu, e1, show 2 ^ x * (2 * 2 ^ y) * u + 2 ^ x * (2 * 2 ^ y) + r = 2 ^ x * (2 * (2 ^ y * u + 2 ^ y)) + r by rw [Nat.mul_add 2, Nat.mul_add (2 ^ x), Nat.mul_assoc, Nat.mul_assoc], Nat.mul_add_div (Nat.two_pow_pos x)]
          omega
        have h2 : btN (t + r) x = btN r x := by
          unfold btN
          obtain ⟨y, rfl⟩ : ∃ y, j = x + 1 + y := ⟨j - x - 1, by omega⟩
          obtain ⟨u, hu⟩ : ∃ u, t = 2 ^ (x + 1 + y) * u := ⟨t / 2 ^ (x + 1 + y), by have := Nat.div_add_mod t (2 ^ (x + 1 + y)); omega⟩
          have e1 : 2 ^ (x + 1 + y) = 2 ^ x * (2 * 2 ^ y) := by rw [Nat.pow_add, Nat.pow_succ, Nat.mul_assoc]
          rw [hu, e1, show 2 ^ x * (2 * 2 ^ y) * u + r = 2 ^ x * (2 * (2 ^ y * u)) + r by rw [Nat.mul_assoc, Nat.mul_assoc], Nat.mul_add_div (Nat.two_pow_pos x)]
          omega
        rw [h1, h2]
      · rw [Nat.add_assoc, bt_hi ht (show 2 ^ j + r < 2 ^ (j + 1) by omega) (by omega), bt_hi ht (show r < 2 ^ (j + 1) by omega) (by omega)]
  have fin : ∀ r, r < 2 ^ j → ∀ K, sat q c (upm (mdS ab (j + 1) t) j 0) K → sat q c (upm (mdS ab 0 (t + r)) j 0) K := by
    intro r hr K hK x hx
    have h1 := hK x hx
    unfold upm at h1 ⊢
    by_cases hxj : x = j
    · rw [if_pos hxj] at h1 ⊢
      exact h1
    · rw [if_neg hxj] at h1 ⊢
      unfold mdS at h1 ⊢
      rw [if_neg (show ¬ x < 0 by omega)]
      by_cases hlt : x < j
      · rw [if_pos (by omega)] at h1
        exact ⟨fun _ => h1.1 (Or.inr rfl), fun _ => h1.2 (Or.inr rfl)⟩
      · rw [if_neg (by omega)] at h1
        rw [bt_hi ht (show r < 2 ^ (j + 1) by omega) (by omega)]
        exact h1
  unfold ell2 ell
  rw [m0, m1]
  have hk := kinds (V := V) hj hE hev (mdS_full (ab := ab) (j := j + 1) (t := t))
  rw [m3] at hk
  have two : (mB (ab j) 0 = 1 ∧ mB (ab j) 1 = 2) ∨ (mB (ab j) 0 = 2 ∧ mB (ab j) 1 = 1) := by
    cases ab j
    · exact Or.inl ⟨rfl, rfl⟩
    · exact Or.inr ⟨rfl, rfl⟩
  rcases two with ⟨t0, t1⟩ | ⟨t0, t1⟩
  · rw [t0, t1]
    rw [t0] at n0
    rw [t1] at n1
    rcases hk with ⟨h1, h2⟩ | ⟨h1, h2⟩ | ⟨h1, h2⟩
    · exact Or.inl ⟨h1, h2⟩
    · refine Or.inr (Or.inl ⟨h1, fun r hr => ?_⟩)
      rw [n1 r hr, n0 r hr]
      have := h2 _ mdS_full (fin r hr)
      rw [← n0 r hr] at this ⊢
      exact this
    · refine Or.inr (Or.inr ⟨h1, fun r hr => ?_⟩)
      rw [n1 r hr, n0 r hr]
      have := h2 _ mdS_full (fin r hr)
      rw [← n0 r hr] at this ⊢
      exact this
  · rw [t0, t1]
    rw [t0] at n0
    rw [t1] at n1
    rcases hk with ⟨h1, h2⟩ | ⟨h1, h2⟩ | ⟨h1, h2⟩
    · exact Or.inl ⟨h2, h1⟩
    · refine Or.inr (Or.inr ⟨h1, fun r hr => ?_⟩)
      rw [n1 r hr, n0 r hr]
      have := h2 _ mdS_full (fin r hr)
      rw [← n0 r hr] at this ⊢
      exact this
    · refine Or.inr (Or.inl ⟨h1, fun r hr => ?_⟩)
      rw [n1 r hr, n0 r hr]
      have := h2 _ mdS_full (fin r hr)
      rw [← n0 r hr] at this ⊢
      exact this
theorem md_pow {j t : Nat} (ht : t % 2 ^ (j + 1) = 0) : t % 2 ^ j = 0 ∧ (t + 2 ^ j) % 2 ^ j = 0 := by
  have ht2 : t % 2 ^ j = 0 := by
    rw [Nat.pow_succ] at ht
    have h1 : t % (2 ^ j * 2) % 2 ^ j = t % 2 ^ j := Nat.mod_mul_right_mod t (2 ^ j) 2
    rw [ht, Nat.zero_mod] at h1
    exact h1.symm
  exact ⟨ht2, by rw [Nat.add_mod_right]; exact ht2⟩
/-- all generators -/
theorem gen_all (hE : ends q c V) (hev : evn q c) : ∀ (j t : Nat), j ≤ c → t % 2 ^ j = 0 → smA (fun s => 2 ^ (ell q c V ab s + e)) t (2 ^ j) ≤ 3 ^ j * 2 ^ (ell2 q c V ab j t + e)
  | 0, t, _, _ => by
    show 0 + 2 ^ (ell q c V ab (t + 0) + e) ≤ 1 * 2 ^ (ell2 q c V ab 0 t + e)
    rw [Nat.add_zero, Nat.zero_add, Nat.one_mul]
    exact Nat.le_refl _
  | j + 1, t, hj, ht => by
    obtain ⟨p1, p2⟩ := md_pow ht
    have i1 := gen_all hE hev j t (by omega) p1
    have i2 := gen_all hE hev j (t + 2 ^ j) (by omega) p2
    have e2 : 2 ^ (j + 1) = 2 ^ j + 2 ^ j := by rw [Nat.pow_succ]; omega
    rw [e2, smA_add, Nat.pow_succ]
    generalize hG : 3 ^ j * 2 ^ (ell2 q c V ab (j + 1) t + e) = G
    rw [show 3 ^ j * 3 * 2 ^ (ell2 q c V ab (j + 1) t + e) = 3 * G by rw [← hG, Nat.mul_comm (3 ^ j) 3, Nat.mul_assoc]]
    rcases kinds2 (ab := ab) (by omega) hE hev ht with ⟨h1, h2⟩ | ⟨h1, h2⟩ | ⟨h1, h2⟩
    · rw [h1, hG] at i1
      rw [h2, hG] at i2
      omega
    · rw [h1, hG] at i1
      have : smA (fun s => 2 ^ (ell q c V ab s + e)) (t + 2 ^ j) (2 ^ j) = smA (fun s => 2 * 2 ^ (ell q c V ab s + e)) t (2 ^ j) := smA_eq _ (fun r hr => by
        show 2 ^ (ell q c V ab (t + 2 ^ j + r) + e) = 2 * 2 ^ (ell q c V ab (t + r) + e)
        rw [h2 r hr, show ell q c V ab (t + r) + 1 + e = ell q c V ab (t + r) + e + 1 by omega, Nat.pow_succ]
        omega)
      rw [this, smA_mul]
      omega
    · rw [h1, hG] at i2
      have : smA (fun s => 2 ^ (ell q c V ab s + e)) t (2 ^ j) = smA (fun s => 2 * 2 ^ (ell q c V ab s + e)) (t + 2 ^ j) (2 ^ j) := smA_eq _ (fun r hr => by
        show 2 ^ (ell q c V ab (t + r) + e) = 2 * 2 ^ (ell q c V ab (t + 2 ^ j + r) + e)
        rw [h2 r hr, show ell q c V ab (t + 2 ^ j + r) + 1 + e = ell q c V ab (t + 2 ^ j + r) + e + 1 by omega, Nat.pow_succ]
        omega)
      rw [this, smA_mul]
      omega
end CNT
/-! the greatest block -/
def mbt (n : Nat) : Nat := [1, 1, 2, 3, 6, 10, 20, 35, 70, 126].getD n 5000000
theorem mbt_mono {a b : Nat} (h : a ≤ b) : mbt a ≤ mbt b := by
  have key : ∀ b : Fin 11, ∀ a : Fin 11, a.val ≤ b.val → mbt a.val ≤ mbt b.val := by decide
  have big : ∀ n, 10 ≤ n → mbt n = 5000000 := by
    intro n hn
    unfold mbt
    rw [List.getD_eq_getElem?_getD, List.getElem?_eq_none (by simpa using hn)]
    rfl
  rcases Nat.lt_or_ge b 10 with hb | hb
  · exact key ⟨b, by omega⟩ ⟨a, by omega⟩ h
  · rw [big b hb]
    rcases Nat.lt_or_ge a 10 with ha | ha
    · have := key ⟨10, by omega⟩ ⟨a, by omega⟩ (show a ≤ 10 by omega)
      rw [big 10 (by omega)] at this
      exact this
    · rw [big a ha]
      exact Nat.le_refl _
/-- weights by ones and loops -/
abbrev WF := Nat → Nat → Nat
def dcW (W : WF) : WF := fun h d => if h = 0 then 0 else W (h - 1) d
def up1 (W : WF) : WF := fun h d => W h d + dcW W h (d + 1)
def up0 (W : WF) : WF := fun h d => W h (d + 1) + dcW W h d
def u0n (W : WF) : Nat → WF
  | 0 => W
  | a + 1 => up0 (u0n W a)
def u1n (W : WF) : Nat → WF
  | 0 => W
  | b + 1 => up1 (u1n W b)
def abW (W : WF) (a b : Nat) : WF := u1n (u0n W a) b
theorem dc_up1 {W : WF} : dcW (up1 W) = up1 (dcW W) := by
  funext h d
  unfold up1 dcW
  by_cases h0 : h = 0
  · rw [if_pos h0, if_pos h0, if_pos h0]
  · rw [if_neg h0, if_neg h0, if_neg h0]
theorem dc_up0 {W : WF} : dcW (up0 W) = up0 (dcW W) := by
  funext h d
  unfold up0 dcW
  by_cases h0 : h = 0
  · rw [if_pos h0, if_pos h0, if_pos h0]
  · rw [if_neg h0, if_neg h0, if_neg h0]
theorem up_comm {W : WF} : up0 (up1 W) = up1 (up0 W) := by
  funext h d
  have e1 : dcW (up1 W) h d = dcW W h d + dcW (dcW W) h (d + 1) := by rw [dc_up1]; rfl
  have e2 : dcW (up0 W) h (d + 1) = dcW W h (d + 1 + 1) + dcW (dcW W) h (d + 1) := by rw [dc_up0]; rfl
  show up1 W h (d + 1) + dcW (up1 W) h d = up0 W h d + dcW (up0 W) h (d + 1)
  rw [e1, e2]
  show W h (d + 1) + dcW W h (d + 1 + 1) + _ = W h (d + 1) + dcW W h d + _
  omega
theorem ab_up1 {W : WF} : ∀ a b, abW (up1 W) a b = up1 (abW W a b)
  | 0, 0 => rfl
  | a + 1, 0 => by
    show up0 (abW (up1 W) a 0) = up1 (up0 (abW W a 0))
    rw [ab_up1 a 0, up_comm]
  | a, b + 1 => by
    show up1 (abW (up1 W) a b) = up1 (up1 (abW W a b))
    rw [ab_up1 a b]
theorem ab_up0 {W : WF} : ∀ a b, abW (up0 W) a b = up0 (abW W a b)
  | 0, 0 => rfl
  | a + 1, 0 => by
    show up0 (abW (up0 W) a 0) = up0 (up0 (abW W a 0))
    rw [ab_up0 a 0]
  | a, b + 1 => by
    show up1 (abW (up0 W) a b) = up0 (up1 (abW W a b))
    rw [ab_up0 a b, up_comm]
theorem ab_up0' {W : WF} : ∀ a b, up0 (abW W a b) = abW W (a + 1) b
  | a, 0 => by cases a <;> rfl
  | a, b + 1 => by
    show up0 (up1 (abW W a b)) = up1 (abW W (a + 1) b)
    rw [up_comm, ab_up0' a b]
theorem ab_add {W U : WF} : ∀ a b, abW (fun h d => W h d + dcW U h d) a b = fun h d => abW W a b h d + dcW (abW U a b) h d
  | 0, 0 => rfl
  | a + 1, 0 => by
    show up0 (abW (fun h d => W h d + dcW U h d) a 0) = _
    rw [ab_add a 0]
    funext h d
    have e2 : dcW (abW U (a + 1) 0) h d = dcW (abW U a 0) h (d + 1) + dcW (dcW (abW U a 0)) h d := by
      show dcW (up0 (abW U a 0)) h d = _
      rw [dc_up0]; rfl
    rw [e2]
    show abW W a 0 h (d + 1) + dcW (abW U a 0) h (d + 1) + dcW (fun h d => abW W a 0 h d + dcW (abW U a 0) h d) h d = abW W a 0 h (d + 1) + dcW (abW W a 0) h d + _
    have e3 : dcW (fun h d => abW W a 0 h d + dcW (abW U a 0) h d) h d = dcW (abW W a 0) h d + dcW (dcW (abW U a 0)) h d := by
      unfold dcW
      by_cases h0 : h = 0
      · rw [if_pos h0, if_pos h0, if_pos h0]
      · rw [if_neg h0, if_neg h0, if_neg h0]
    rw [e3]
    omega
  | a, b + 1 => by
    show up1 (abW (fun h d => W h d + dcW U h d) a b) = _
    rw [ab_add a b]
    funext h d
    have e2 : dcW (abW U a (b + 1)) h d = dcW (abW U a b) h d + dcW (dcW (abW U a b)) h (d + 1) := by
      have : abW U a (b + 1) = up1 (abW U a b) := by cases a <;> rfl
      rw [this, dc_up1]; rfl
    have e4 : abW W a (b + 1) = up1 (abW W a b) := by cases a <;> rfl
    rw [e2, e4]
    show abW W a b h d + dcW (abW U a b) h d + dcW (fun h d => abW W a b h d + dcW (abW U a b) h d) h (d + 1) = abW W a b h d + dcW (abW W a b) h (d + 1) + _
    have e3 : dcW (fun h d => abW W a b h d + dcW (abW U a b) h d) h (d + 1) = dcW (abW W a b) h (d + 1) + dcW (dcW (abW U a b)) h (d + 1) := by
      unfold dcW
      by_cases h0 : h = 0
      · rw [if_pos h0, if_pos h0, if_pos h0]
      · rw [if_neg h0, if_neg h0, if_neg h0]
    rw [e3]
    omega
theorem dc_mono {W U : WF} (h : ∀ h d, W h d ≤ U h d) : ∀ h d, dcW W h d ≤ dcW U h d := by
  intro g d
  unfold dcW
  by_cases h0 : g = 0
  · rw [if_pos h0, if_pos h0]; exact Nat.le_refl _
  · rw [if_neg h0, if_neg h0]; exact h _ _
theorem ab_mono {W U : WF} (h : ∀ h d, W h d ≤ U h d) : ∀ a b h d, abW W a b h d ≤ abW U a b h d
  | 0, 0, g, d => h g d
  | a + 1, 0, g, d => Nat.add_le_add (ab_mono h a 0 g (d + 1)) (dc_mono (ab_mono h a 0) g d)
  | 0, b + 1, g, d => Nat.add_le_add (ab_mono h 0 b g d) (dc_mono (ab_mono h 0 b) g (d + 1))
  | a + 1, b + 1, g, d => Nat.add_le_add (ab_mono h (a + 1) b g d) (dc_mono (ab_mono h (a + 1) b) g (d + 1))
/-- one state with k loops -/
def W1 (k : Nat) : WF := fun h d => if h = 0 then mbt (k + d) else 0
def tbK : Nat → List (List (List (List Nat)))
  | 1 => [[[[1,0,0,0,0,0,0,0,0],[2,2,0,0,0,0,0,0,0],[3,4,3,0,0,0,0,0,0],[6,10,10,6,0,0,0,0,0],[10,24,24,24,10,0,0,0,0],[20,50,62,62,50,20,0,0,0],[35,120,160,160,160,120,35,0,0],[70,245,420,426,426,420,245,70,0],[126,560,980,1140,1140,1140,980,560,126]],[[1,2,0,0,0,0,0,0,0],[2,4,3,0,0,0,0,0,0],[3,10,10,6,0,0,0,0,0],[6,19,24,24,10,0,0,0,0],[10,44,62,62,50,20,0,0,0],[20,85,160,160,160,120,35,0,0],[35,190,360,426,426,420,245,70,0],[70,371,910,1140,1140,1140,980,560,126]],[[1,4,3,0,0,0,0,0,0],[2,7,10,6,0,0,0,0,0],[3,16,24,24,10,0,0,0,0],[6,29,62,62,50,20,0,0,0],[10,64,133,160,160,120,35,0,0],[20,120,330,426,426,420,245,70,0],[35,260,696,1140,1140,1140,980,560,126]],[[1,6,9,6,0,0,0,0,0],[2,10,24,24,10,0,0,0,0],[3,22,49,62,50,20,0,0,0],[6,39,120,160,160,120,35,0,0],[10,84,243,426,426,420,245,70,0],[20,155,570,981,1140,1140,980,560,126]],[[1,8,18,24,10,0,0,0,0],[2,13,44,60,50,20,0,0,0],[3,28,85,160,160,120,35,0,0],[6,49,198,357,426,420,245,70,0],[10,104,388,912,1140,1140,980,560,126]],[[1,10,30,60,50,20,0,0,0],[2,16,70,130,160,120,35,0,0],[3,34,131,330,420,420,245,70,0],[6,59,296,696,1140,1140,980,560,126]],[[1,12,45,120,150,120,35,0,0],[2,19,102,245,420,420,245,70,0],[3,40,187,592,970,1140,980,560,126]],[[1,14,63,210,350,420,245,70,0],[2,22,140,413,910,1120,980,560,126]],[[1,16,84,336,700,1120,980,560,126]]],[[[2,1,0,0,0,0,0,0,0],[3,4,2,0,0,0,0,0,0],[6,10,10,3,0,0,0,0,0],[10,24,24,19,6,0,0,0,0],[20,50,62,62,44,10,0,0,0],[35,120,160,160,160,85,20,0,0],[70,245,420,426,426,360,190,35,0],[126,560,980,1140,1140,1140,910,371,70]],[[2,4,2,0,0,0,0,0,0],[3,10,10,3,0,0,0,0,0],[6,19,24,19,6,0,0,0,0],[10,44,62,62,44,10,0,0,0],[20,85,160,160,160,85,20,0,0],[35,190,360,426,426,360,190,35,0],[70,371,910,1140,1140,1140,910,371,70]],[[2,7,10,3,0,0,0,0,0],[3,16,24,19,6,0,0,0,0],[6,29,62,62,44,10,0,0,0],[10,64,133,160,160,85,20,0,0],[20,120,330,426,426,360,190,35,0],[35,260,696,1140,1140,1140,910,371,70]],[[2,10,24,19,6,0,0,0,0],[3,22,49,62,44,10,0,0,0],[6,39,120,160,160,85,20,0,0],[10,84,243,426,426,360,190,35,0],[20,155,570,981,1140,1140,910,371,70]],[[2,13,44,58,44,10,0,0,0],[3,28,85,160,160,85,20,0,0],[6,49,198,357,426,360,190,35,0],[10,104,388,912,1140,1140,910,371,70]],[[2,16,70,130,160,85,20,0,0],[3,34,131,330,420,360,190,35,0],[6,59,296,696,1140,1140,910,371,70]],[[2,19,102,245,420,360,190,35,0],[3,40,187,592,970,1140,910,371,70]],[[2,22,140,413,910,1085,910,371,70]]],[[[3,4,1,0,0,0,0,0,0],[6,10,7,2,0,0,0,0,0],[10,24,24,16,3,0,0,0,0],[20,50,62,62,29,6,0,0,0],[35,120,160,160,133,64,10,0,0],[70,245,420,426,426,330,120,20,0],[126,560,980,1140,1140,1140,696,260,35]],[[3,10,7,2,0,0,0,0,0],[6,19,24,16,3,0,0,0,0],[10,44,62,62,29,6,0,0,0],[20,85,160,160,133,64,10,0,0],[35,190,360,426,426,330,120,20,0],[70,371,910,1140,1140,1140,696,260,35]],[[3,16,23,16,3,0,0,0,0],[6,29,62,62,29,6,0,0,0],[10,64,133,160,133,64,10,0,0],[20,120,330,426,426,330,120,20,0],[35,260,696,1140,1140,1140,696,260,35]],[[3,22,49,62,29,6,0,0,0],[6,39,120,160,133,64,10,0,0],[10,84,243,426,426,330,120,20,0],[20,155,570,981,1140,1140,696,260,35]],[[3,28,85,160,133,64,10,0,0],[6,49,198,357,426,330,120,20,0],[10,104,388,912,1140,1140,696,260,35]],[[3,34,131,330,405,330,120,20,0],[6,59,296,696,1140,1140,696,260,35]],[[3,40,187,592,970,1140,696,260,35]]],[[[6,9,6,1,0,0,0,0,0],[10,24,24,10,2,0,0,0,0],[20,50,62,49,22,3,0,0,0],[35,120,160,160,120,39,6,0,0],[70,245,420,426,426,243,84,10,0],[126,560,980,1140,1140,981,570,155,20]],[[6,19,24,10,2,0,0,0,0],[10,44,62,49,22,3,0,0,0],[20,85,160,160,120,39,6,0,0],[35,190,360,426,426,243,84,10,0],[70,371,910,1140,1140,981,570,155,20]],[[6,29,62,49,22,3,0,0,0],[10,64,133,160,120,39,6,0,0],[20,120,330,426,426,243,84,10,0],[35,260,696,1140,1140,981,570,155,20]],[[6,39,120,153,120,39,6,0,0],[10,84,243,426,426,243,84,10,0],[20,155,570,981,1140,981,570,155,20]],[[6,49,198,357,426,243,84,10,0],[10,104,388,912,1140,981,570,155,20]],[[6,59,296,696,1140,981,570,155,20]]],[[[10,24,18,8,1,0,0,0,0],[20,50,60,44,13,2,0,0,0],[35,120,160,160,85,28,3,0,0],[70,245,420,426,357,198,49,6,0],[126,560,980,1140,1140,912,388,104,10]],[[10,44,58,44,13,2,0,0,0],[20,85,160,160,85,28,3,0,0],[35,190,360,426,357,198,49,6,0],[70,371,910,1140,1140,912,388,104,10]],[[10,64,133,160,85,28,3,0,0],[20,120,330,426,357,198,49,6,0],[35,260,696,1140,1140,912,388,104,10]],[[10,84,243,426,357,198,49,6,0],[20,155,570,981,1140,912,388,104,10]],[[10,104,388,912,1095,912,388,104,10]]],[[[20,50,60,30,10,1,0,0,0],[35,120,160,130,70,16,2,0,0],[70,245,420,420,330,131,34,3,0],[126,560,980,1140,1140,696,296,59,6]],[[20,85,160,130,70,16,2,0,0],[35,190,360,420,330,131,34,3,0],[70,371,910,1140,1140,696,296,59,6]],[[20,120,330,405,330,131,34,3,0],[35,260,696,1140,1140,696,296,59,6]],[[20,155,570,981,1140,696,296,59,6]]],[[[35,120,150,120,45,12,1,0,0],[70,245,420,420,245,102,19,2,0],[126,560,980,1140,970,592,187,40,3]],[[35,190,360,420,245,102,19,2,0],[70,371,910,1140,970,592,187,40,3]],[[35,260,696,1140,970,592,187,40,3]]],[[[70,245,420,350,210,63,14,1,0],[126,560,980,1120,910,413,140,22,2]],[[70,371,910,1085,910,413,140,22,2]]],[[[126,560,980,1120,700,336,84,16,1]]]]
  | 2 => [[[[2,0,0,0,0,0,0,0,0],[3,3,0,0,0,0,0,0,0],[6,8,6,0,0,0,0,0,0],[10,18,18,10,0,0,0,0,0],[20,40,46,40,20,0,0,0,0],[35,100,116,116,100,35,0,0,0],[70,210,300,306,300,210,70,0,0],[126,490,735,810,810,735,490,126,0]],[[2,3,0,0,0,0,0,0,0],[3,8,6,0,0,0,0,0,0],[6,16,18,10,0,0,0,0,0],[10,38,46,40,20,0,0,0,0],[20,75,116,116,100,35,0,0,0],[35,170,275,306,300,210,70,0,0],[70,336,720,810,810,735,490,126,0]],[[2,6,6,0,0,0,0,0,0],[3,14,18,10,0,0,0,0,0],[6,26,46,40,20,0,0,0,0],[10,58,104,116,100,35,0,0,0],[20,110,266,306,300,210,70,0,0],[35,240,576,810,810,735,490,126,0]],[[2,9,18,10,0,0,0,0,0],[3,20,39,40,20,0,0,0,0],[6,36,98,116,100,35,0,0,0],[10,78,204,306,300,210,70,0,0],[20,145,486,738,810,735,490,126,0]],[[2,12,36,40,20,0,0,0,0],[3,26,72,116,100,35,0,0,0],[6,46,170,272,300,210,70,0,0],[10,98,339,714,810,735,490,126,0]],[[2,15,60,100,100,35,0,0,0],[3,32,115,260,300,210,70,0,0],[6,56,262,565,810,735,490,126,0]],[[2,18,90,200,300,210,70,0,0],[3,38,168,490,725,735,490,126,0]],[[2,21,126,350,700,735,490,126,0]]],[[[3,2,0,0,0,0,0,0,0],[6,8,3,0,0,0,0,0,0],[10,18,16,6,0,0,0,0,0],[20,40,46,38,10,0,0,0,0],[35,100,116,116,75,20,0,0,0],[70,210,300,306,275,170,35,0,0],[126,490,735,810,810,720,336,70,0]],[[3,8,3,0,0,0,0,0,0],[6,16,16,6,0,0,0,0,0],[10,38,46,38,10,0,0,0,0],[20,75,116,116,75,20,0,0,0],[35,170,275,306,275,170,35,0,0],[70,336,720,810,810,720,336,70,0]],[[3,14,16,6,0,0,0,0,0],[6,26,46,38,10,0,0,0,0],[10,58,104,116,75,20,0,0,0],[20,110,266,306,275,170,35,0,0],[35,240,576,810,810,720,336,70,0]],[[3,20,39,38,10,0,0,0,0],[6,36,98,116,75,20,0,0,0],[10,78,204,306,275,170,35,0,0],[20,145,486,738,810,720,336,70,0]],[[3,26,72,116,75,20,0,0,0],[6,46,170,272,275,170,35,0,0],[10,98,339,714,810,720,336,70,0]],[[3,32,115,260,275,170,35,0,0],[6,56,262,565,810,720,336,70,0]],[[3,38,168,490,725,720,336,70,0]]],[[[6,6,2,0,0,0,0,0,0],[10,18,14,3,0,0,0,0,0],[20,40,46,26,6,0,0,0,0],[35,100,116,104,58,10,0,0,0],[70,210,300,306,266,110,20,0,0],[126,490,735,810,810,576,240,35,0]],[[6,16,14,3,0,0,0,0,0],[10,38,46,26,6,0,0,0,0],[20,75,116,104,58,10,0,0,0],[35,170,275,306,266,110,20,0,0],[70,336,720,810,810,576,240,35,0]],[[6,26,46,26,6,0,0,0,0],[10,58,104,104,58,10,0,0,0],[20,110,266,306,266,110,20,0,0],[35,240,576,810,810,576,240,35,0]],[[6,36,98,104,58,10,0,0,0],[10,78,204,306,266,110,20,0,0],[20,145,486,738,810,576,240,35,0]],[[6,46,170,272,266,110,20,0,0],[10,98,339,714,810,576,240,35,0]],[[6,56,262,565,810,576,240,35,0]]],[[[10,18,9,2,0,0,0,0,0],[20,40,39,20,3,0,0,0,0],[35,100,116,98,36,6,0,0,0],[70,210,300,306,204,78,10,0,0],[126,490,735,810,738,486,145,20,0]],[[10,38,39,20,3,0,0,0,0],[20,75,116,98,36,6,0,0,0],[35,170,275,306,204,78,10,0,0],[70,336,720,810,738,486,145,20,0]],[[10,58,104,98,36,6,0,0,0],[20,110,266,306,204,78,10,0,0],[35,240,576,810,738,486,145,20,0]],[[10,78,204,306,204,78,10,0,0],[20,145,486,738,738,486,145,20,0]],[[10,98,339,714,738,486,145,20,0]]],[[[20,40,36,12,2,0,0,0,0],[35,100,116,72,26,3,0,0,0],[70,210,300,272,170,46,6,0,0],[126,490,735,810,714,339,98,10,0]],[[20,75,116,72,26,3,0,0,0],[35,170,275,272,170,46,6,0,0],[70,336,720,810,714,339,98,10,0]],[[20,110,266,272,170,46,6,0,0],[35,240,576,810,714,339,98,10,0]],[[20,145,486,738,714,339,98,10,0]]],[[[35,100,100,60,15,2,0,0,0],[70,210,300,260,115,32,3,0,0],[126,490,735,810,565,262,56,6,0]],[[35,170,275,260,115,32,3,0,0],[70,336,720,810,565,262,56,6,0]],[[35,240,576,810,565,262,56,6,0]]],[[[70,210,300,200,90,18,2,0,0],[126,490,735,725,490,168,38,3,0]],[[70,336,720,725,490,168,38,3,0]]],[[[126,490,735,700,350,126,21,2,0]]]]
  | 3 => [[[[3,0,0,0,0,0,0,0,0],[6,6,0,0,0,0,0,0,0],[10,13,10,0,0,0,0,0,0],[20,32,32,20,0,0,0,0,0],[35,80,78,80,35,0,0,0,0],[70,175,208,208,175,70,0,0,0],[126,420,550,544,550,420,126,0,0]],[[3,6,0,0,0,0,0,0,0],[6,13,10,0,0,0,0,0,0],[10,32,32,20,0,0,0,0,0],[20,65,78,80,35,0,0,0,0],[35,150,208,208,175,70,0,0,0],[70,301,550,544,550,420,126,0,0]],[[3,12,10,0,0,0,0,0,0],[6,23,32,20,0,0,0,0,0],[10,52,78,80,35,0,0,0,0],[20,100,208,208,175,70,0,0,0],[35,220,466,544,550,420,126,0,0]],[[3,18,30,20,0,0,0,0,0],[6,33,78,80,35,0,0,0,0],[10,72,168,208,175,70,0,0,0],[20,135,408,544,550,420,126,0,0]],[[3,24,60,80,35,0,0,0,0],[6,43,144,200,175,70,0,0,0],[10,92,293,544,550,420,126,0,0]],[[3,30,100,200,175,70,0,0,0],[6,53,230,450,550,420,126,0,0]],[[3,36,150,400,525,420,126,0,0]]],[[[6,3,0,0,0,0,0,0,0],[10,13,6,0,0,0,0,0,0],[20,32,32,10,0,0,0,0,0],[35,80,78,65,20,0,0,0,0],[70,175,208,208,150,35,0,0,0],[126,420,550,544,550,301,70,0,0]],[[6,13,6,0,0,0,0,0,0],[10,32,32,10,0,0,0,0,0],[20,65,78,65,20,0,0,0,0],[35,150,208,208,150,35,0,0,0],[70,301,550,544,550,301,70,0,0]],[[6,23,32,10,0,0,0,0,0],[10,52,78,65,20,0,0,0,0],[20,100,208,208,150,35,0,0,0],[35,220,466,544,550,301,70,0,0]],[[6,33,78,65,20,0,0,0,0],[10,72,168,208,150,35,0,0,0],[20,135,408,544,550,301,70,0,0]],[[6,43,144,200,150,35,0,0,0],[10,92,293,544,550,301,70,0,0]],[[6,53,230,450,550,301,70,0,0]]],[[[10,12,3,0,0,0,0,0,0],[20,32,23,6,0,0,0,0,0],[35,80,78,52,10,0,0,0,0],[70,175,208,208,100,20,0,0,0],[126,420,550,544,466,220,35,0,0]],[[10,32,23,6,0,0,0,0,0],[20,65,78,52,10,0,0,0,0],[35,150,208,208,100,20,0,0,0],[70,301,550,544,466,220,35,0,0]],[[10,52,78,52,10,0,0,0,0],[20,100,208,208,100,20,0,0,0],[35,220,466,544,466,220,35,0,0]],[[10,72,168,208,100,20,0,0,0],[20,135,408,544,466,220,35,0,0]],[[10,92,293,544,466,220,35,0,0]]],[[[20,30,18,3,0,0,0,0,0],[35,80,78,33,6,0,0,0,0],[70,175,208,168,72,10,0,0,0],[126,420,550,544,408,135,20,0,0]],[[20,65,78,33,6,0,0,0,0],[35,150,208,168,72,10,0,0,0],[70,301,550,544,408,135,20,0,0]],[[20,100,208,168,72,10,0,0,0],[35,220,466,544,408,135,20,0,0]],[[20,135,408,534,408,135,20,0,0]]],[[[35,80,60,24,3,0,0,0,0],[70,175,200,144,43,6,0,0,0],[126,420,550,544,293,92,10,0,0]],[[35,150,200,144,43,6,0,0,0],[70,301,550,544,293,92,10,0,0]],[[35,220,466,544,293,92,10,0,0]]],[[[70,175,200,100,30,3,0,0,0],[126,420,550,450,230,53,6,0,0]],[[70,301,550,450,230,53,6,0,0]]],[[[126,420,525,400,150,36,3,0,0]]]]
  | 4 => [[[[6,0,0,0,0,0,0,0,0],[10,10,0,0,0,0,0,0,0],[20,26,20,0,0,0,0,0,0],[35,60,60,35,0,0,0,0,0],[70,140,156,140,70,0,0,0,0],[126,350,400,400,350,126,0,0,0]],[[6,10,0,0,0,0,0,0,0],[10,26,20,0,0,0,0,0,0],[20,55,60,35,0,0,0,0,0],[35,130,156,140,70,0,0,0,0],[70,266,400,400,350,126,0,0,0]],[[6,20,20,0,0,0,0,0,0],[10,46,60,35,0,0,0,0,0],[20,90,156,140,70,0,0,0,0],[35,200,366,400,350,126,0,0,0]],[[6,30,60,35,0,0,0,0,0],[10,66,135,140,70,0,0,0,0],[20,125,336,400,350,126,0,0,0]],[[6,40,120,140,70,0,0,0,0],[10,86,250,400,350,126,0,0,0]],[[6,50,200,350,350,126,0,0,0]]],[[[10,6,0,0,0,0,0,0,0],[20,26,10,0,0,0,0,0,0],[35,60,55,20,0,0,0,0,0],[70,140,156,130,35,0,0,0,0],[126,350,400,400,266,70,0,0,0]],[[10,26,10,0,0,0,0,0,0],[20,55,55,20,0,0,0,0,0],[35,130,156,130,35,0,0,0,0],[70,266,400,400,266,70,0,0,0]],[[10,46,55,20,0,0,0,0,0],[20,90,156,130,35,0,0,0,0],[35,200,366,400,266,70,0,0,0]],[[10,66,135,130,35,0,0,0,0],[20,125,336,400,266,70,0,0,0]],[[10,86,250,400,266,70,0,0,0]]],[[[20,20,6,0,0,0,0,0,0],[35,60,46,10,0,0,0,0,0],[70,140,156,90,20,0,0,0,0],[126,350,400,366,200,35,0,0,0]],[[20,55,46,10,0,0,0,0,0],[35,130,156,90,20,0,0,0,0],[70,266,400,366,200,35,0,0,0]],[[20,90,156,90,20,0,0,0,0],[35,200,366,366,200,35,0,0,0]],[[20,125,336,366,200,35,0,0,0]]],[[[35,60,30,6,0,0,0,0,0],[70,140,135,66,10,0,0,0,0],[126,350,400,336,125,20,0,0,0]],[[35,130,135,66,10,0,0,0,0],[70,266,400,336,125,20,0,0,0]],[[35,200,366,336,125,20,0,0,0]]],[[[70,140,120,40,6,0,0,0,0],[126,350,400,250,86,10,0,0,0]],[[70,266,400,250,86,10,0,0,0]]],[[[126,350,350,200,50,6,0,0,0]]]]
  | 5 => [[[[10,0,0,0,0,0,0,0,0],[20,20,0,0,0,0,0,0,0],[35,45,35,0,0,0,0,0,0],[70,110,110,70,0,0,0,0,0],[126,280,276,280,126,0,0,0,0]],[[10,20,0,0,0,0,0,0,0],[20,45,35,0,0,0,0,0,0],[35,110,110,70,0,0,0,0,0],[70,231,276,280,126,0,0,0,0]],[[10,40,35,0,0,0,0,0,0],[20,80,110,70,0,0,0,0,0],[35,180,276,280,126,0,0,0,0]],[[10,60,105,70,0,0,0,0,0],[20,115,270,280,126,0,0,0,0]],[[10,80,210,280,126,0,0,0,0]]],[[[20,10,0,0,0,0,0,0,0],[35,45,20,0,0,0,0,0,0],[70,110,110,35,0,0,0,0,0],[126,280,276,231,70,0,0,0,0]],[[20,45,20,0,0,0,0,0,0],[35,110,110,35,0,0,0,0,0],[70,231,276,231,70,0,0,0,0]],[[20,80,110,35,0,0,0,0,0],[35,180,276,231,70,0,0,0,0]],[[20,115,270,231,70,0,0,0,0]]],[[[35,40,10,0,0,0,0,0,0],[70,110,80,20,0,0,0,0,0],[126,280,276,180,35,0,0,0,0]],[[35,110,80,20,0,0,0,0,0],[70,231,276,180,35,0,0,0,0]],[[35,180,276,180,35,0,0,0,0]]],[[[70,105,60,10,0,0,0,0,0],[126,280,270,115,20,0,0,0,0]],[[70,231,270,115,20,0,0,0,0]]],[[[126,280,210,80,10,0,0,0,0]]]]
  | 6 => [[[[20,0,0,0,0,0,0,0,0],[35,35,0,0,0,0,0,0,0],[70,90,70,0,0,0,0,0,0],[126,210,210,126,0,0,0,0,0]],[[20,35,0,0,0,0,0,0,0],[35,90,70,0,0,0,0,0,0],[70,196,210,126,0,0,0,0,0]],[[20,70,70,0,0,0,0,0,0],[35,160,210,126,0,0,0,0,0]],[[20,105,210,126,0,0,0,0,0]]],[[[35,20,0,0,0,0,0,0,0],[70,90,35,0,0,0,0,0,0],[126,210,196,70,0,0,0,0,0]],[[35,90,35,0,0,0,0,0,0],[70,196,196,70,0,0,0,0,0]],[[35,160,196,70,0,0,0,0,0]]],[[[70,70,20,0,0,0,0,0,0],[126,210,160,35,0,0,0,0,0]],[[70,196,160,35,0,0,0,0,0]]],[[[126,210,105,20,0,0,0,0,0]]]]
  | 7 => [[[[35,0,0,0,0,0,0,0,0],[70,70,0,0,0,0,0,0,0],[126,161,126,0,0,0,0,0,0]],[[35,70,0,0,0,0,0,0,0],[70,161,126,0,0,0,0,0,0]],[[35,140,126,0,0,0,0,0,0]]],[[[70,35,0,0,0,0,0,0,0],[126,161,70,0,0,0,0,0,0]],[[70,161,70,0,0,0,0,0,0]]],[[[126,140,35,0,0,0,0,0,0]]]]
  | 8 => [[[[70,0,0,0,0,0,0,0,0],[126,126,0,0,0,0,0,0,0]],[[70,126,0,0,0,0,0,0,0]]],[[[126,70,0,0,0,0,0,0,0]]]]
  | 9 => [[[[126,0,0,0,0,0,0,0,0]]]]
  | _ => []
def tbR (k a b j : Nat) : List Nat := ((((tbK k).getD a []).getD b []).getD j [])
def tbV (k a b j h : Nat) : Nat := (tbR k a b j).getD h 0
def tbD (k a b j h : Nat) : Nat := if h = 0 then 0 else tbV k a b j (h - 1)
set_option maxRecDepth 20000 in
theorem tb_0 : ∀ k : Fin 9, ∀ a : Fin 9, ∀ b : Fin 9, k.val + a.val + b.val ≤ 8 → ∀ h : Fin 9, abW (W1 (k.val + 1)) a.val b.val h.val 0 ≤ tbV (k.val + 1) a.val b.val 0 h.val := by decide +kernel
set_option maxRecDepth 20000 in
theorem tb_s : ∀ k : Fin 9, ∀ a : Fin 9, ∀ b : Fin 9, ∀ j : Fin 8, k.val + a.val + b.val + j.val + 1 ≤ 8 → ∀ h : Fin 9, tbV (k.val + 1) a.val (b.val + 1) j.val h.val ≤ tbV (k.val + 1) a.val b.val (j.val + 1) h.val ∧ tbV (k.val + 1) (a.val + 1) b.val j.val h.val ≤ tbV (k.val + 1) a.val b.val (j.val + 1) h.val ∧ tbV (k.val + 1) a.val b.val j.val h.val + tbD (k.val + 1) a.val b.val j.val h.val ≤ tbV (k.val + 1) a.val b.val (j.val + 1) h.val := by decide +kernel
theorem tb_m : ∀ k : Fin 9, ∀ j : Fin 9, k.val + j.val ≤ 8 → ∀ h : Fin 9, tbV (k.val + 1) 0 0 j.val h.val ≤ 1140 := by decide +kernel
section CNT2
variable {q : En4} {c V e : Nat} {ab : Nat → Bool}
def Wjt (q : En4) (c V e : Nat) (ab : Nat → Bool) (j t : Nat) : WF := fun h d => lm0 (fun s => mbt (ell q c V ab s + e + d)) j t h
theorem lm0_eq {w u : Nat → Nat} : ∀ (j t s h : Nat), (∀ r, r < 2 ^ j → w (t + r) = u (s + r)) → lm0 w j t h = lm0 u j s h
  | 0, t, s, h, hw => by
    have := hw 0 (by decide)
    show (if h = 0 then w t else 0) = if h = 0 then u s else 0
    rw [show w t = u s from this]
  | j + 1, t, s, h, hw => by
    have e2 : 2 ^ (j + 1) = 2 ^ j + 2 ^ j := by rw [Nat.pow_succ]; omega
    show lm0 w j t h + (if h = 0 then 0 else lm0 w j (t + 2 ^ j) (h - 1)) = lm0 u j s h + if h = 0 then 0 else lm0 u j (s + 2 ^ j) (h - 1)
    rw [lm0_eq j t s h (fun r hr => hw r (by omega)), lm0_eq j (t + 2 ^ j) (s + 2 ^ j) (h - 1) (fun r hr => by
      have := hw (2 ^ j + r) (by omega)
      rw [Nat.add_assoc, Nat.add_assoc]
      exact this)]
theorem blk_le (hE : ends q c V) (hev : evn q c) {k : Nat} (hk1 : 1 ≤ k) : ∀ (j t a b : Nat), j ≤ c → t % 2 ^ j = 0 → ell2 q c V ab j t + e ≤ k → k + a + b + j ≤ 9 → ∀ h, h < 9 → abW (Wjt q c V e ab j t) a b h 0 ≤ tbV k a b j h
  | 0, t, a, b, _, _, hn, hs, h, hh => by
    have h1 : ∀ h d, Wjt q c V e ab 0 t h d ≤ W1 k h d := by
      intro h d
      show (if h = 0 then mbt (ell q c V ab t + e + d) else 0) ≤ if h = 0 then mbt (k + d) else 0
      by_cases h0 : h = 0
      · rw [if_pos h0, if_pos h0]
        have hn : ell q c V ab t + e ≤ k := hn
        exact mbt_mono (by omega)
      · rw [if_neg h0, if_neg h0]
        exact Nat.le_refl _
    have h2 := ab_mono h1 a b h 0
    have h3 := tb_0 ⟨k - 1, by omega⟩ ⟨a, by omega⟩ ⟨b, by omega⟩ (by show k - 1 + a + b ≤ 8; omega) ⟨h, hh⟩
    rw [show k - 1 + 1 = k by omega] at h3
    exact Nat.le_trans h2 h3
  | j + 1, t, a, b, hj, ht, hn, hs, h, hh => by
    obtain ⟨p1, p2⟩ := md_pow ht
    have h3 := tb_s ⟨k - 1, by omega⟩ ⟨a, by omega⟩ ⟨b, by omega⟩ ⟨j, by omega⟩ (by show k - 1 + a + b + j + 1 ≤ 8; omega) ⟨h, hh⟩
    rw [show k - 1 + 1 = k by omega] at h3
    have e2 : 2 ^ (j + 1) = 2 ^ j + 2 ^ j := by rw [Nat.pow_succ]; omega
    have eW : Wjt q c V e ab (j + 1) t = fun h d => Wjt q c V e ab j t h d + dcW (Wjt q c V e ab j (t + 2 ^ j)) h d := by
      funext h d
      rfl
    rcases kinds2 (ab := ab) (by omega) hE hev ht with ⟨g1, g2⟩ | ⟨g1, g2⟩ | ⟨g1, g2⟩
    · rw [eW, ab_add]
      have i1 := blk_le hE hev hk1 j t a b (by omega) p1 (by rw [g1]; exact hn) (by omega) h hh
      have i2 : dcW (abW (Wjt q c V e ab j (t + 2 ^ j)) a b) h 0 ≤ tbD k a b j h := by
        unfold dcW tbD
        by_cases h0 : h = 0
        · rw [if_pos h0, if_pos h0]; exact Nat.le_refl _
        · rw [if_neg h0, if_neg h0]
          exact blk_le hE hev hk1 j (t + 2 ^ j) a b (by omega) p2 (by rw [g2]; exact hn) (by omega) (h - 1) (by omega)
      show abW (Wjt q c V e ab j t) a b h 0 + dcW (abW (Wjt q c V e ab j (t + 2 ^ j)) a b) h 0 ≤ _
      exact Nat.le_trans (Nat.add_le_add i1 i2) h3.2.2
    · have eU : Wjt q c V e ab (j + 1) t = up1 (Wjt q c V e ab j t) := by
        rw [eW]
        funext h d
        show _ + dcW (Wjt q c V e ab j (t + 2 ^ j)) h d = _ + dcW (Wjt q c V e ab j t) h (d + 1)
        congr 1
        unfold dcW
        by_cases h0 : h = 0
        · rw [if_pos h0, if_pos h0]
        · rw [if_neg h0, if_neg h0]
          exact lm0_eq j (t + 2 ^ j) t (h - 1) (fun r hr => by
            show mbt (ell q c V ab (t + 2 ^ j + r) + e + d) = mbt (ell q c V ab (t + r) + e + (d + 1))
            rw [g2 r hr]
            congr 1
            omega)
      rw [eU, ab_up1]
      have e4 : up1 (abW (Wjt q c V e ab j t) a b) = abW (Wjt q c V e ab j t) a (b + 1) := by cases a <;> rfl
      rw [e4]
      exact Nat.le_trans (blk_le hE hev hk1 j t a (b + 1) (by omega) p1 (by rw [g1]; exact hn) (by omega) h hh) h3.1
    · have eU : Wjt q c V e ab (j + 1) t = up0 (Wjt q c V e ab j (t + 2 ^ j)) := by
        rw [eW]
        funext h d
        show Wjt q c V e ab j t h d + _ = Wjt q c V e ab j (t + 2 ^ j) h (d + 1) + _
        congr 1
        exact lm0_eq j t (t + 2 ^ j) h (fun r hr => by
          show mbt (ell q c V ab (t + r) + e + d) = mbt (ell q c V ab (t + 2 ^ j + r) + e + (d + 1))
          rw [g2 r hr]
          congr 1
          omega)
      rw [eU, ab_up0, ab_up0']
      exact Nat.le_trans (blk_le hE hev hk1 j (t + 2 ^ j) (a + 1) b (by omega) p2 (by rw [g1]; exact hn) (by omega) h hh) h3.2.1
/-- no block has more than 1140 -/
theorem blk_1140 (hE : ends q c V) (hev : evn q c) {k : Nat} (hk1 : 1 ≤ k) (hn : ell2 q c V ab c 0 + e ≤ k) (hs : k + c ≤ 9) {h : Nat} (hh : h < 9) : smH (fun s => mbt (ell q c V ab s + e)) h 0 (2 ^ c) ≤ 1140 := by
  rw [smH_lm c 0 h (by omega)]
  have h1 := blk_le hE hev hk1 c 0 0 0 (Nat.le_refl _) (Nat.zero_mod _) hn (by omega) h hh
  have h2 := tb_m ⟨k - 1, by omega⟩ ⟨c, by omega⟩ (by show k - 1 + c ≤ 8; omega) ⟨h, hh⟩
  rw [show k - 1 + 1 = k by omega] at h2
  exact Nat.le_trans h1 h2
end CNT2
