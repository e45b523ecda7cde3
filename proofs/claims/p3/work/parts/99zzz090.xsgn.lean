section
/-! 99zzzzzzzzzzzzzzzzyzzw.xsgn -/
/-! signature, the class: the coefficients and their changes of sign, exactly -/
theorem usJ_o9 {z : ow_MS} {h g i : Nat} {x : Int64} (hg : g ≠ h) : (usJ z h i x).2.2 g = z.2.2 g := if_neg hg
/-- a long holds the number -/
def rI9 (a : Int) : Prop := -9223372036854775808 < a ∧ a < 9223372036854775808
/-- changes of sign read from place r - 1 down, the last one being l -/
def gC9 (d : Nat → Int) : Nat → Int → Nat
  | 0, _ => 0
  | r + 1, l => if d r = 0 then gC9 d r l else (if opp9 l (d r) then 1 else 0) + gC9 d r (d r)
section XSGN
theorem rI_t {a : Int} (h : rI9 a) : (Int64.ofInt a).toInt = a := Int64.toInt_ofInt_of_le (by have := h.1; omega) (by have := h.2; omega)
theorem lg_0 {a : Int} (h : rI9 a) : lg_cmp (Int64.ofInt a) 0 = 0 ↔ a = 0 := by
  rw [lg_cmp_eq, ← Int64.toInt_inj, rI_t h]
  rfl
theorem lg_g {a : Int} (h : rI9 a) : 0 < lg_cmp (Int64.ofInt a) 0 ↔ 0 < a := by
  rw [lg_cmp_gt, Int64.lt_iff_toInt_lt, rI_t h]
  rfl
theorem lg_ge {a : Int} (h : rI9 a) : 0 ≤ lg_cmp (Int64.ofInt a) 0 ↔ 0 ≤ a := by
  rw [lg_cmp_ge, Int64.le_iff_toInt_le, rI_t h]
  rfl
theorem lg_le {a : Int} (h : rI9 a) : lg_cmp (Int64.ofInt a) 0 ≤ 0 ↔ a ≤ 0 := by
  rw [lg_cmp_le, Int64.le_iff_toInt_le, rI_t h]
  rfl
theorem gC_wv (d : Nat → Int) : ∀ n l, gC9 d (n + 1) l = (wv9 d n).1 + (if opp9 l (wv9 d n).2 then 1 else 0) := by
  intro n
  induction n with
  | zero =>
    intro l
    show (if d 0 = 0 then 0 else (if opp9 l (d 0) then 1 else 0) + 0) = 0 + (if opp9 l (d 0) then 1 else 0)
    by_cases h : d 0 = 0
    · rw [if_pos h, if_neg (by rw [h]; unfold opp9; omega)]
    · rw [if_neg h]
      omega
  | succ n ih =>
    intro l
    show (if d (n + 1) = 0 then gC9 d (n + 1) l else (if opp9 l (d (n + 1)) then 1 else 0) + gC9 d (n + 1) (d (n + 1))) = _
    by_cases h : d (n + 1) = 0
    · rw [if_pos h, wv_z h, ih]
    · rw [if_neg h, wv_s h, ih]
      show _ = (wv9 d n).1 + (if opp9 (wv9 d n).2 (d (n + 1)) then 1 else 0) + (if opp9 l (d (n + 1)) then 1 else 0)
      have e : opp9 (d (n + 1)) (wv9 d n).2 ↔ opp9 (wv9 d n).2 (d (n + 1)) := by
        unfold opp9
        omega
      by_cases h9 : opp9 (wv9 d n).2 (d (n + 1))
      · rw [if_pos h9, if_pos (e.mpr h9)]
        omega
      · rw [if_neg h9, if_neg (fun h8 => h9 (e.mp h8))]
        omega
theorem gC_0 (d : Nat → Int) (n : Nat) : gC9 d (n + 1) 0 = (wv9 d n).1 := by
  rw [gC_wv, if_neg (by unfold opp9; omega)]
  rfl
theorem zn_s {k : Nat} : zn9 (k + 1) = -zn9 k := by
  unfold zn9
  rcases Nat.mod_two_eq_zero_or_one k with h | h
  · rw [if_pos h, if_neg (by omega)]
  · rw [if_pos (show (k + 1) % 2 = 0 by omega), if_neg (show ¬ k % 2 = 0 by omega)]
    rfl
theorem zn_pm (k : Nat) : zn9 k = 1 ∨ zn9 k = -1 := by
  unfold zn9
  split
  · exact Or.inl rfl
  · exact Or.inr rfl
theorem zn_a {k : Nat} : ∀ j, zn9 k * zn9 j = zn9 (k + j) := by
  intro j
  induction j with
  | zero => exact Int.mul_one _
  | succ j ih =>
    rw [zn_s, show k + (j + 1) = k + j + 1 from rfl, zn_s, ← ih, Int.mul_neg]
theorem rI_zn {a : Int} (k : Nat) (h : rI9 a) : rI9 (zn9 k * a) := by
  unfold rI9 at *
  rcases zn_pm k with h9 | h9 <;> rw [h9] <;> omega
theorem rI_of {a : Int} {k : Nat} (hk : 1 ≤ k) (h : rI9 ((k : Int) * a)) : rI9 a := by
  unfold rI9 at *
  have h1 : (1 : Int) ≤ (k : Int) := by omega
  rcases Int.le_total 0 a with h2 | h2
  · have := Int.mul_le_mul_of_nonneg_right h1 h2
    omega
  · have := Int.mul_le_mul_of_nonpos_right h1 h2
    omega
variable {vl : Nat → Nat} {y : ow_MS}
theorem te_signChanges {n : Nat} {x2 : Int32} {d : Nat → Int} (hn : n ≤ 8) (hx : x2 = 1 ∨ x2 = -1) (hd : ∀ i, i ≤ n → y.2.2 6008 i * (if x2 = -1 ∧ i % 2 = 1 then (-1 : Int32).toInt64 else (1 : Int32).toInt64) = Int64.ofInt (d (n - i)) ∧ rI9 (d (n - i))) : Te (fun K => ce_X4_signChanges vl K 6000 (nI n) x2 y) (fun r => r.1 = nI (wv9 d n).1 ∧ r.2 = y) := by
  have c1 : ∀ (r i cnt : Nat) (l : Int), i + r = n + 1 → rI9 l → Tt (fun K k => c_X4_signChanges vl K k 1 (nI n) x2 (nI cnt) (nI i) (Int64.ofInt l) 0 6000 0 0 0 y) (fun o => o.1 = nI (cnt + gC9 d r l) ∧ o.2 = y) := by
    intro r
    induction r with
    | zero =>
      intro i cnt l hi hl
      refine u_X4_signChanges_1 ?_; unfold cm_X4_signChanges_1
      exact w_ltT (by omega) (by omega) (w_some ⟨rfl, rfl⟩)
    | succ r ih =>
      intro i cnt l hi hl
      obtain ⟨hd1, hd2⟩ := hd i (by omega)
      rw [show n - i = r by omega] at hd1 hd2
      have c7 : ∀ (cnt2 : Nat) (l2 : Int) (w7 : Int64), rI9 l2 → cnt2 + gC9 d r l2 = cnt + gC9 d (r + 1) l → Tt (fun K k => c_X4_signChanges vl K k 7 (nI n) x2 (nI cnt2) (nI i) (Int64.ofInt l2) w7 6000 0 0 0 y) (fun o => o.1 = nI (cnt + gC9 d (r + 1) l) ∧ o.2 = y) := by
        intro cnt2 l2 w7 h1 h2
        refine u_X4_signChanges_7 ?_; unfold cm_X4_signChanges_7
        rw [nI_1, ← h2]
        exact ih (i + 1) cnt2 l2 (by omega) h1
      have c6 : ∀ (cnt2 : Nat), cnt2 + gC9 d r (d r) = cnt + gC9 d (r + 1) l → Tt (fun K k => c_X4_signChanges vl K k 6 (nI n) x2 (nI cnt2) (nI i) (Int64.ofInt l) (Int64.ofInt (d r)) 6000 0 0 0 y) (fun o => o.1 = nI (cnt + gC9 d (r + 1) l) ∧ o.2 = y) := by
        intro cnt2 h2
        refine u_X4_signChanges_6 ?_; unfold cm_X4_signChanges_6
        exact c7 cnt2 (d r) _ hd2 h2
      have hg : d r ≠ 0 → gC9 d (r + 1) l = (if opp9 l (d r) then 1 else 0) + gC9 d r (d r) := fun h => if_neg h
      have c5 : d r ≠ 0 → opp9 l (d r) → Tt (fun K k => c_X4_signChanges vl K k 5 (nI n) x2 (nI cnt) (nI i) (Int64.ofInt l) (Int64.ofInt (d r)) 6000 0 0 0 y) (fun o => o.1 = nI (cnt + gC9 d (r + 1) l) ∧ o.2 = y) := by
        intro h0 ho
        refine u_X4_signChanges_5 ?_; unfold cm_X4_signChanges_5
        rw [nI_1 cnt]
        exact c6 (cnt + 1) (by rw [hg h0, if_pos ho]; omega)
      have c4 : d r ≠ 0 → ¬ (l < 0 ∧ 0 < d r) → Tt (fun K k => c_X4_signChanges vl K k 4 (nI n) x2 (nI cnt) (nI i) (Int64.ofInt l) (Int64.ofInt (d r)) 6000 0 0 0 y) (fun o => o.1 = nI (cnt + gC9 d (r + 1) l) ∧ o.2 = y) := by
        intro h0 hno
        refine u_X4_signChanges_4 ?_; unfold cm_X4_signChanges_4
        refine w_if (fun h1 => ?_) (fun h1 => w_if (fun h2 => ?_) (fun h2 => ?_))
        · rw [lg_le hl] at h1
          exact c6 cnt (by rw [hg h0, if_neg (by unfold opp9; omega)]; omega)
        · rw [lg_ge hd2] at h2
          exact c6 cnt (by rw [hg h0, if_neg (by unfold opp9; omega)]; omega)
        · rw [lg_le hl] at h1
          rw [lg_ge hd2] at h2
          exact c5 h0 (by unfold opp9; omega)
      have c3 : ∀ (t0 : Int32) (y1 : Int64), y1 * t0.toInt64 = Int64.ofInt (d r) → Tt (fun K k => c_X4_signChanges vl K k 3 (nI n) x2 (nI cnt) (nI i) (Int64.ofInt l) 0 6000 t0 0 y1 y) (fun o => o.1 = nI (cnt + gC9 d (r + 1) l) ∧ o.2 = y) := by
        intro t0 y1 he
        refine u_X4_signChanges_3 ?_; unfold cm_X4_signChanges_3
        rw [he]
        refine w_if (fun h0 => ?_) (fun h0 => w_if (fun h1 => ?_) (fun h1 => w_if (fun h2 => ?_) (fun h2 => ?_)))
        · rw [lg_0 hd2] at h0
          exact c7 cnt l _ hl (by rw [show gC9 d (r + 1) l = gC9 d r l from if_pos h0])
        · rw [lg_0 hd2] at h0
          rw [lg_ge hl] at h1
          exact c4 h0 (by omega)
        · rw [lg_0 hd2] at h0
          rw [lg_ge hl] at h1
          rw [lg_g hd2] at h2
          exact c5 h0 (by unfold opp9; omega)
        · rw [lg_0 hd2] at h0
          rw [lg_g hd2] at h2
          exact c4 h0 (by omega)
      have c2 : ∀ (y0 : Int64), y0 * (1 : Int32).toInt64 = Int64.ofInt (d r) → Tt (fun K k => c_X4_signChanges vl K k 2 (nI n) x2 (nI cnt) (nI i) (Int64.ofInt l) 0 6000 0 y0 0 y) (fun o => o.1 = nI (cnt + gC9 d (r + 1) l) ∧ o.2 = y) := by
        intro y0 he
        refine u_X4_signChanges_2 ?_; unfold cm_X4_signChanges_2
        exact c3 1 y0 he
      have an : nI i &&& 1 = 1 ↔ i % 2 = 1 := by
        have key : ∀ i : Fin 9, (nI i.val &&& 1 = 1 ↔ i.val % 2 = 1) := by decide +kernel
        exact key ⟨i, by omega⟩
      refine u_X4_signChanges_1 ?_; unfold cm_X4_signChanges_1
      refine w_ltF (by omega) (by omega) (w_crJ ch_6008 rfl (by omega) rfl (w_if (fun h1 => ?_) (fun h1 => w_if (fun h2 => ?_) (fun h2 => ?_))))
      · refine c2 _ ?_
        rw [if_neg (fun h9 => by rw [h9.1] at h1; exact absurd h1 (by decide))] at hd1
        exact hd1
      · refine c3 _ _ ?_
        have hx1 : x2 = -1 := by
          rcases hx with h9 | h9
          · rw [h9] at h1
            exact absurd (by decide) h1
          · exact h9
        rw [if_pos ⟨hx1, an.mp h2⟩] at hd1
        exact hd1
      · refine c2 _ ?_
        rw [if_neg (fun h9 => h2 (an.mpr h9.2))] at hd1
        exact hd1
  refine e_X4_signChanges ?_
  refine u_X4_signChanges_0 ?_; unfold cm_X4_signChanges_0
  have := c1 (n + 1) 0 0 0 (by omega) (by unfold rI9; omega)
  rw [gC_0, Nat.zero_add] at this
  exact this
end XSGN
end
section
/-! 99zzzzzzzzzzzzzzzzyzzx.xsgo -/
/-! signature, the class: the characteristic polynomial, exactly -/
section XSGO
theorem zS_mul {c : Int} {f : Nat → Int} : ∀ {n : Nat}, zS9 (fun i => c * f i) n = c * zS9 f n := by
  intro n
  induction n with
  | zero => exact (Int.mul_zero c).symm
  | succ n ih =>
    show zS9 (fun i => c * f i) n + c * f n = c * (zS9 f n + f n)
    rw [ih, Int.mul_add]
variable {vl : Nat → Nat} {y : ow_MS} {M : Nat → Nat → Int} {E : Nat → Int}
theorem zN_s {n j k i : Nat} : zS9 (fun m => M i m * zN9 n M E j k m) n = E (k + 1) * zd9 j i - zN9 n M E j (k + 1) i := by
  show _ = E (k + 1) * zd9 j i - (E (k + 1) * zd9 j i - zS9 (fun m => M i m * zN9 n M E j k m) n)
  omega
theorem te_findChar {n : Nat} (hn : n ≤ 8) (hM : ∀ i j, i < n → j < n → y.2.2 6005 (8 * i + j) = Int64.ofInt (M i j)) (hE : ∀ k, ((E k : Int) : Rat) = qE9 (cM9 M) n k) (hb : ∀ k, k ≤ n → rI9 ((k : Int) * E k)) : Te (fun K => ce_X4_findCharacteristic vl K 6000 (nI n) y) (fun y1 => fr fcP y y1 ∧ ∀ m, m ≤ n → y1.2.2 6008 (n - m) = Int64.ofInt (zn9 m * E m)) := by
  have E0 : E 0 = 1 := by
    have := hE 0
    rw [qE_0] at this
    exact Rat.intCast_inj.mp this
  let Q : ow_MS → Prop := fun y1 => fr fcP y y1 ∧ ∀ m, m ≤ n → y1.2.2 6008 (n - m) = Int64.ofInt (zn9 m * E m)
  -- what stands before step k
  let Ch : Nat → ow_MS → Prop := fun k z => fr fcP y z ∧ ∀ m, m < k → z.2.2 6008 (n - m) = Int64.ofInt (zn9 m * E m)
  have c1 : ∀ (d k : Nat) (z : ow_MS), k + d = n + 1 → 1 ≤ k → Ch k z → (∀ i j, i < n → j < n → z.2.2 6006 (8 * i + j) = Int64.ofInt (zn9 (k - 1) * (zN9 n M E j (k - 1) i - E (k - 1) * zd9 j i))) → Tt (fun K t => c_X4_findCharacteristic vl K t 1 (nI n) (nI k) 0 0 0 0 0 0 6000 z) Q := by
    intro d
    induction d with
    | zero =>
      intro k z hk _ hz _
      refine u_X4_findCharacteristic_1 ?_; unfold cm_X4_findCharacteristic_1
      exact w_ltT (by omega) (by omega) (w_some ⟨hz.1, fun m hm => hz.2 m (by omega)⟩)
    | succ d ih =>
      intro k z hk hk1 hz hp
      have hnz : (nI k).toInt64 ≠ 0 := by
        have key : ∀ k : Fin 9, 1 ≤ k.val → (nI k.val).toInt64 ≠ 0 := by decide +kernel
        exact key ⟨k, by omega⟩ hk1
      have hk64 : (nI k).toInt64 = Int64.ofInt (k : Int) := by
        have key : ∀ k : Fin 9, (nI k.val).toInt64 = Int64.ofInt (k.val : Int) := by decide +kernel
        exact key ⟨k, by omega⟩
      have e1 : nI n - nI k = nI (n - k) := pk_sub (by omega)
      have zk : zn9 k = -zn9 (k - 1) := by
        have := zn_s (k := k - 1)
        rw [show k - 1 + 1 = k by omega] at this
        exact this
      have M0 : ∀ z : ow_MS, fr fcP y z → ∀ i j, i < n → j < n → z.2.2 6005 (8 * i + j) = Int64.ofInt (M i j) := fun z hf i j hi hj => by
        rw [(hf 6005 (by unfold fcP; omega)).2.2]
        exact hM i j hi hj
      -- rows of the product
      have c3 : ∀ (e i : Nat) (w3 : Int64) (z : ow_MS), i + e = n → Ch k z → w3 = Int64.ofInt (zn9 (k - 1) * zS9 (fun a => E k - zN9 n M E a k a) i) → (∀ a b, a < n → b < n → z.2.2 6006 (8 * a + b) = Int64.ofInt (zn9 (k - 1) * zN9 n M E b (k - 1) a)) → (∀ a b, a < i → b < n → z.2.2 6007 (8 * a + b) = Int64.ofInt (zn9 k * (zN9 n M E b k a - E k * zd9 b a))) → Tt (fun K t => c_X4_findCharacteristic vl K t 3 (nI n) (nI k) 0 (nI i) 0 0 w3 0 6000 z) Q := by
        intro e
        induction e with
        | zero =>
          intro i w3 z hi hz hw3 hp hq
          have hi : i = n := by omega
          subst hi
          rw [zN_tr hE] at hw3
          have bk := hb k (by omega)
          have dv : (-w3) / (nI k).toInt64 = Int64.ofInt (zn9 k * E k) := by
            have h1 : rI9 (zn9 k * ((k : Int) * E k)) := rI_zn k bk
            have h2 : -w3 = Int64.ofInt (zn9 k * ((k : Int) * E k)) := by
              rw [hw3, ← Int64.ofInt_neg, zk, Int.neg_mul]
            have h3 : zn9 k * ((k : Int) * E k) = (zn9 k * E k) * (k : Int) := by
              rw [Int.mul_comm (k : Int), Int.mul_assoc]
            rw [h2, hk64, ← Int64.ofInt_tdiv (by have := h1.1; show (-9223372036854775808 : Int) ≤ _; omega) (by have := h1.2; show _ ≤ (9223372036854775807 : Int); omega) (by show (-9223372036854775808 : Int) ≤ _; omega) (by show _ ≤ (9223372036854775807 : Int); omega), h3, Int.mul_tdiv_cancel _ (by omega)]
          refine u_X4_findCharacteristic_3 ?_; unfold cm_X4_findCharacteristic_3
          rw [e1, nI_1, dv]
          refine w_leT (by omega) (by omega) (w_nzJ hnz (w_ctJ ch_6008 rfl (by omega) (w_cpJ (a := 0) (b := 0) (n := 64) ch_6007 ch_6006 rfl rfl rfl (by omega) (by omega) (ih (k + 1) _ (by omega) (by omega) ⟨?_, fun m hm => ?_⟩ (fun a b ha hb2 => ?_)))))
          · intro g hg
            have h1 := (fr_J2 (i := i - k) (y := Int64.ofInt (zn9 k * E k)) hz.1 (show fcP (6000 + 8) from Or.inr (Or.inr rfl))) g hg
            refine ⟨h1.1, h1.2.1, ?_⟩
            have hne : g ≠ 6000 + 6 := fun h9 => hg (by rw [h9]; exact Or.inl rfl)
            exact (if_neg hne).trans h1.2.2
          · show (if (6008 : Nat) = 6000 + 6 then va_cpy ((usJ z (6000 + 8) (i - k) (Int64.ofInt (zn9 k * E k))).2.2 (6000 + 7)) ((usJ z (6000 + 8) (i - k) (Int64.ofInt (zn9 k * E k))).2.2 (6000 + 6)) 0 0 64 else (usJ z (6000 + 8) (i - k) (Int64.ofInt (zn9 k * E k))).2.2 6008) (i - m) = _
            rw [if_neg (by omega)]
            by_cases h9 : m = k
            · rw [h9]
              exact usJ_at
            · rw [show (usJ z (6000 + 8) (i - k) (Int64.ofInt (zn9 k * E k))).2.2 6008 (i - m) = z.2.2 6008 (i - m) from usJ_ne (by omega)]
              exact hz.2 m (by omega)
          · show (if (6006 : Nat) = 6000 + 6 then va_cpy ((usJ z (6000 + 8) (i - k) (Int64.ofInt (zn9 k * E k))).2.2 (6000 + 7)) ((usJ z (6000 + 8) (i - k) (Int64.ofInt (zn9 k * E k))).2.2 (6000 + 6)) 0 0 64 else (usJ z (6000 + 8) (i - k) (Int64.ofInt (zn9 k * E k))).2.2 6006) (8 * a + b) = _
            rw [if_pos (by omega)]
            have cp : ∀ F H : Nat → Int64, va_cpy F H 0 0 64 (8 * a + b) = F (8 * a + b) := fun F H => by
              show (if 0 ≤ 8 * a + b ∧ 8 * a + b < 0 + 64 then F (0 + (8 * a + b - 0)) else H (8 * a + b)) = _
              rw [if_pos ⟨by omega, by omega⟩, show 0 + (8 * a + b - 0) = 8 * a + b by omega]
            rw [cp, usJ_o9 (by omega), show k + 1 - 1 = k by omega]
            exact hq a b ha hb2
        | succ e ihe =>
          intro i w3 z hi hz hw3 hp hq
          have c4 : ∀ (e2 j : Nat) (z : ow_MS), j + e2 = n → Ch k z → (∀ a b, a < n → b < n → z.2.2 6006 (8 * a + b) = Int64.ofInt (zn9 (k - 1) * zN9 n M E b (k - 1) a)) → (∀ a b, b < n → a < i ∨ a = i ∧ b < j → z.2.2 6007 (8 * a + b) = Int64.ofInt (zn9 k * (zN9 n M E b k a - E k * zd9 b a))) → Tt (fun K t => c_X4_findCharacteristic vl K t 4 (nI n) (nI k) 0 (nI i) (nI j) 0 w3 0 6000 z) Q := by
            intro e2
            induction e2 with
            | zero =>
              intro j z hj hz hp hq
              refine u_X4_findCharacteristic_4 ?_; unfold cm_X4_findCharacteristic_4
              rw [ix8, nI_1]
              refine w_leT (by omega) (by omega) (w_crJ ch_6007 rfl (by omega) (hq i i (by omega) (Or.inr ⟨rfl, by omega⟩)) (ihe (i + 1) _ z (by omega) hz ?_ hp (fun a b ha hb2 => hq a b hb2 (by omega))))
              rw [hw3, ← Int64.ofInt_add]
              refine congrArg Int64.ofInt ?_
              show _ = zn9 (k - 1) * (zS9 (fun a => E k - zN9 n M E a k a) i + (E k - zN9 n M E i k i))
              rw [zk, show zd9 i i = 1 from if_pos rfl, Int.mul_add, Int.mul_one, Int.neg_mul, ← Int.mul_neg]
              congr 2
              omega
            | succ e2 ih2 =>
              intro j z hj hz hp hq
              have c5 : ∀ (e3 m : Nat) (w7 : Int64), m + e3 = n → w7 = Int64.ofInt (zn9 (k - 1) * zS9 (fun m => M i m * zN9 n M E j (k - 1) m) m) → Tt (fun K t => c_X4_findCharacteristic vl K t 5 (nI n) (nI k) 0 (nI i) (nI j) (nI m) w3 w7 6000 z) Q := by
                intro e3
                induction e3 with
                | zero =>
                  intro m w7 hm hw7
                  have hm : m = n := by omega
                  rw [hm, zN_s, show k - 1 + 1 = k by omega] at hw7
                  have hw8 : w7 = Int64.ofInt (zn9 k * (zN9 n M E j k i - E k * zd9 j i)) := by
                    rw [hw7, zk, Int.neg_mul, ← Int.mul_neg]
                    refine congrArg (fun t => Int64.ofInt (zn9 (k - 1) * t)) ?_
                    omega
                  refine u_X4_findCharacteristic_5 ?_; unfold cm_X4_findCharacteristic_5
                  rw [ix8, nI_1 j]
                  refine w_leT (by omega) (by omega) (w_ctJ ch_6007 rfl (by omega) (ih2 (j + 1) _ (by omega) ⟨fr_J2 hz.1 (Or.inr (Or.inl rfl)), fun m hm => ?_⟩ (fun a b ha hb2 => ?_) (fun a b hb2 hab => ?_)))
                  · rw [usJ_o9 (by omega)]
                    exact hz.2 m hm
                  · rw [usJ_o9 (by omega)]
                    exact hp a b ha hb2
                  · by_cases h9 : a = i ∧ b = j
                    · obtain ⟨h8, h7⟩ := h9
                      subst h8
                      subst h7
                      exact usJ_at.trans hw8
                    · rw [show (usJ z (6000 + 7) (8 * i + j) w7).2.2 6007 (8 * a + b) = z.2.2 6007 (8 * a + b) from usJ_ne (by omega)]
                      exact hq a b hb2 (by omega)
                | succ e3 ih3 =>
                  intro m w7 hm hw7
                  refine u_X4_findCharacteristic_5 ?_; unfold cm_X4_findCharacteristic_5
                  refine w_leF (by omega) (by omega) (w_crJ ch_6005 (ix8 i m) (by omega) (M0 z hz.1 i m (by omega) (by omega)) (w_crJ ch_6006 (ix8 m j) (by omega) (hp m j (by omega) (by omega)) ?_))
                  rw [nI_1]
                  refine ih3 (m + 1) _ (by omega) ?_
                  rw [hw7, ← Int64.ofInt_mul, ← Int64.ofInt_add]
                  refine congrArg Int64.ofInt ?_
                  show _ = zn9 (k - 1) * (zS9 (fun m => M i m * zN9 n M E j (k - 1) m) m + M i m * zN9 n M E j (k - 1) m)
                  rw [Int.mul_add, ← Int.mul_assoc (M i m), Int.mul_comm (M i m), Int.mul_assoc]
              refine u_X4_findCharacteristic_4 ?_; unfold cm_X4_findCharacteristic_4
              exact w_leF (by omega) (by omega) (c5 n 0 _ (by omega) (by rw [show zS9 (fun m => M i m * zN9 n M E j (k - 1) m) 0 = 0 from rfl, Int.mul_zero]; rfl))
          refine u_X4_findCharacteristic_3 ?_; unfold cm_X4_findCharacteristic_3
          exact w_leF (by omega) (by omega) (c4 n 0 z (by omega) hz hp (fun a b hb2 hab => hq a b (by omega) hb2))
      have c2 : ∀ (e i : Nat) (z : ow_MS), i + e = n → Ch k z → (∀ a b, a < n → b < n → z.2.2 6006 (8 * a + b) = Int64.ofInt (zn9 (k - 1) * (zN9 n M E b (k - 1) a - (if a < i then 0 else E (k - 1) * zd9 b a)))) → Tt (fun K t => c_X4_findCharacteristic vl K t 2 (nI n) (nI k) (nI i) 0 0 0 0 0 6000 z) Q := by
        intro e
        induction e with
        | zero =>
          intro i z hi hz hp
          refine u_X4_findCharacteristic_2 ?_; unfold cm_X4_findCharacteristic_2
          refine w_leT (by omega) (by omega) (c3 n 0 _ z (by omega) hz ?_ (fun a b ha hb2 => ?_) (fun a b ha => absurd ha (by omega)))
          · rw [show zS9 (fun a => E k - zN9 n M E a k a) 0 = 0 from rfl, Int.mul_zero]
            rfl
          · rw [hp a b ha hb2, if_pos (by omega), Int.sub_zero]
        | succ e ihe =>
          intro i z hi hz hp
          have r1 := hp i i (by omega) (by omega)
          have r2 := hz.2 (k - 1) (by omega)
          rw [show n - (k - 1) = n - k + 1 by omega] at r2
          refine u_X4_findCharacteristic_2 ?_; unfold cm_X4_findCharacteristic_2
          rw [e1, ix8, nI_1, nI_1]
          refine w_leF (by omega) (by omega) (w_crJ ch_6006 rfl (by omega) r1 (w_crJ ch_6008 rfl (by omega) r2 (w_ctJ ch_6006 rfl (by omega) (ihe (i + 1) _ (by omega) ⟨fr_J2 hz.1 (Or.inl rfl), fun m hm => ?_⟩ (fun a b ha hb2 => ?_)))))
          · rw [usJ_o9 (by omega)]
            exact hz.2 m hm
          · by_cases h9 : a = i ∧ b = i
            · obtain ⟨h8, h7⟩ := h9
              subst h8
              subst h7
              rw [show (usJ z (6000 + 6) (8 * b + b) _).2.2 6006 (8 * b + b) = _ from usJ_at, if_neg (by omega), if_pos (by omega), ← Int64.ofInt_add, show zd9 b b = 1 from if_pos rfl]
              refine congrArg Int64.ofInt ?_
              rw [Int.mul_one, Int.mul_sub, Int.sub_zero]
              omega
            · rw [show (usJ z (6000 + 6) (8 * i + i) _).2.2 6006 (8 * a + b) = z.2.2 6006 (8 * a + b) from usJ_ne (by omega), hp a b ha hb2]
              by_cases h8 : a = i
              · rw [if_neg (by omega), if_pos (by omega), show zd9 b a = 0 from if_neg (by omega), Int.mul_zero]
              · by_cases h7 : a < i
                · rw [if_pos h7, if_pos (by omega)]
                · rw [if_neg h7, if_neg (by omega)]
      refine u_X4_findCharacteristic_1 ?_; unfold cm_X4_findCharacteristic_1
      refine w_ltF (by omega) (by omega) (c2 n 0 z (by omega) hz (fun a b ha hb2 => ?_))
      rw [hp a b ha hb2, if_neg (by omega)]
  refine e_X4_findCharacteristic ?_
  refine u_X4_findCharacteristic_0 ?_; unfold cm_X4_findCharacteristic_0
  refine w_cs0 (tc_fillJ ch_6008 (by omega)) ?_
  rintro z1 ⟨-, f1⟩
  refine w_cs0 (tc_fillJ ch_6006 (by omega)) ?_
  rintro z2 ⟨g2, f2⟩
  refine w_ctJ ch_6008 rfl (by omega) (c1 n 1 _ (by omega) (by omega) ⟨fr_J2 (fr_tr (fr_mono (fun g hg => Or.inr (Or.inr hg)) f1) (fr_mono (fun g hg => Or.inl hg) f2)) (Or.inr (Or.inr rfl)), fun m hm => ?_⟩ (fun i j hi hj => ?_))
  · have hm : m = 0 := by omega
    subst hm
    rw [E0]
    exact usJ_at
  · rw [usJ_o9 (by omega)]
    have e9 : z2.2.2 6006 (8 * i + j) = 0 := g2 (8 * i + j) (by omega)
    rw [e9, show 1 - 1 = 0 from rfl, E0]
    show (0 : Int64) = Int64.ofInt (zn9 0 * (zd9 j i - 1 * zd9 j i))
    rw [Int.one_mul, Int.sub_self, Int.mul_zero]
    rfl
theorem tw_zn {E : Nat → Int} : (fun k => zn9 k * E k) = tw9 E := by
  funext k
  unfold zn9 tw9
  split
  · exact Int.one_mul _
  · omega
theorem wv_neg {e : Nat → Int} : ∀ n, wv9 (fun k => -e k) n = ((wv9 e n).1, -(wv9 e n).2) := by
  intro n
  induction n with
  | zero => rfl
  | succ n ih =>
    by_cases h : e (n + 1) = 0
    · rw [wv_z (e := fun k => -e k) (show -e (n + 1) = 0 by omega), wv_z h, ih]
    · rw [wv_s (e := fun k => -e k) (show -e (n + 1) ≠ 0 by omega), wv_s h, ih]
      dsimp only
      have : opp9 (-(wv9 e n).2) (-e (n + 1)) ↔ opp9 (wv9 e n).2 (e (n + 1)) := by
        unfold opp9
        omega
      by_cases h9 : opp9 (wv9 e n).2 (e (n + 1))
      · rw [if_pos h9, if_pos (this.mpr h9)]
      · rw [if_neg h9, if_neg (fun h8 => h9 (this.mp h8))]
theorem wv_zn {E : Nat → Int} (m n : Nat) : (wv9 (fun k => zn9 m * E k) n).1 = (wv9 E n).1 := by
  rcases zn_pm m with h | h
  · rw [h, show (fun k => 1 * E k) = E from funext (fun k => Int.one_mul _)]
  · rw [h, show (fun k => -1 * E k) = fun k => -E k from funext (fun k => by omega), wv_neg]
theorem nuE {n : Nat} (hE : ∀ k, ((E k : Int) : Rat) = qE9 (cM9 M) n k) : nuQ9 (qE9 (cM9 M) n) = E := by
  funext k
  show (qE9 (cM9 M) n k).num = E k
  rw [← hE k]
  rfl
theorem te_eigen {n : Nat} (hn : n ≤ 8) (hM : ∀ i j, i < n → j < n → y.2.2 6005 (8 * i + j) = Int64.ofInt (M i j)) (hE : ∀ k, ((E k : Int) : Rat) = qE9 (cM9 M) n k) (hb : ∀ k, k ≤ n → rI9 ((k : Int) * E k)) : Te (fun K => ce_X4_eigenvalueSigns vl K 6000 (nI n) y) (fun r => r.1 = iI ((vP9 (cM9 M) n : Int) - (vM9 (cM9 M) n : Int)) ∧ fr fcP y r.2) := by
  have E0 : E 0 = 1 := by
    have := hE 0
    rw [qE_0] at this
    exact Rat.intCast_inj.mp this
  have hr : ∀ k, k ≤ n → rI9 (E k) := fun k hk => by
    by_cases h0 : k = 0
    · rw [h0, E0]
      unfold rI9
      omega
    · exact rI_of (by omega) (hb k hk)
  refine e_X4_eigenvalueSigns ?_; unfold cm_X4_eigenvalueSigns_0
  refine w_cs0 (te_findChar hn hM hE hb) ?_
  rintro z1 ⟨f1, g1⟩
  refine w_cs1 (te_signChanges (d := fun k => zn9 k * E k) hn (Or.inl rfl) (fun i hi => ⟨?_, rI_zn _ (hr _ (by omega))⟩)) ?_
  · rw [if_neg (fun h9 => absurd h9.1 (by decide))]
    have := g1 (n - i) (by omega)
    rw [show n - (n - i) = i by omega] at this
    rw [this, show (1 : Int32).toInt64 = 1 from rfl, Int64.mul_one]
  rintro v1 z2 ⟨a1, e2⟩
  have a1 : v1 = nI (wv9 (fun k => zn9 k * E k) n).1 := a1
  have e2 : z2 = z1 := e2
  rw [e2]
  refine w_cs1 (te_signChanges (d := fun k => zn9 n * E k) hn (Or.inr rfl) (fun i hi => ⟨?_, rI_zn _ (hr _ (by omega))⟩)) ?_
  · have := g1 (n - i) (by omega)
    rw [show n - (n - i) = i by omega] at this
    have hz : zn9 i * zn9 (n - i) = zn9 n := by
      rw [zn_a, show i + (n - i) = n by omega]
    rw [this]
    by_cases h9 : i % 2 = 1
    · rw [if_pos ⟨rfl, h9⟩, show (-1 : Int32).toInt64 = Int64.ofInt (-1) from rfl, ← Int64.ofInt_mul]
      refine congrArg Int64.ofInt ?_
      rw [← hz, show zn9 i = -1 from if_neg (by omega)]
      rw [Int.mul_comm, Int.mul_assoc]
    · rw [if_neg (fun h8 => h9 h8.2), show (1 : Int32).toInt64 = 1 from rfl, Int64.mul_one]
      refine congrArg Int64.ofInt ?_
      rw [← hz, show zn9 i = 1 from if_pos (by omega), Int.one_mul]
  rintro v3 z4 ⟨a3, e4⟩
  have a3 : v3 = nI (wv9 (fun k => zn9 n * E k) n).1 := a3
  have e4 : z4 = z1 := e4
  rw [e4]
  refine w_some ⟨?_, f1⟩
  rw [wv_zn] at a3
  rw [tw_zn] at a1
  show v1 - v3 = _
  rw [a1, a3, nI_iI, nI_iI, iI_sub]
  unfold vP9 vM9
  rw [nuE hE]
end XSGO
end
section
/-! 99zzzzzzzzzzzzzzzzyzzy.xsgp -/
/-! signature, the reference: signs of longs, changes of sign -/
def sn32 (a : Int) : Int32 := if a = 0 then 0 else if 0 < a then 1 else -1
/-- changes of sign and the last number, read from place 0 on -/
def wu9 (d : Nat → Int) : Nat → Nat × Int
  | 0 => (0, 0)
  | n + 1 => if d n = 0 then wu9 d n else ((wu9 d n).1 + (if opp9 (wu9 d n).2 (d n) then 1 else 0), d n)
section XSGP
theorem sgJ9 {a : Int} (h : rI9 a) : ow_sgnJ (Int64.ofInt a) = sn32 a := by
  have ht := rI_t h
  generalize Int64.ofInt a = x at ht
  have e : ow_sgnJ x = Int32.ofBitVec (((x.toBitVec.sshiftRight 63) ||| ((-x.toBitVec) >>> 63)).signExtend 32) := rfl
  rw [e]
  have hN := x.toBitVec.isLt
  have hc : x.toBitVec.toInt = a := ht
  rw [BitVec.toInt_eq_toNat_cond] at hc
  by_cases hm : 2 * x.toBitVec.toNat < 2 ^ 64
  · rw [if_pos hm] at hc
    have m1 : x.toBitVec.msb = false := BitVec.msb_eq_false_iff_two_mul_lt.mpr hm
    have s1 : x.toBitVec.sshiftRight 63 = 0#64 := by
      rw [BitVec.sshiftRight_eq_of_msb_false m1]
      refine BitVec.eq_of_toNat_eq ?_
      rw [BitVec.toNat_ushiftRight, Nat.shiftRight_eq_div_pow]
      exact Nat.div_eq_of_lt (by omega)
    rw [s1, BitVec.zero_or]
    by_cases h0 : x.toBitVec.toNat = 0
    · have z0 : x.toBitVec = 0#64 := BitVec.eq_of_toNat_eq h0
      rw [z0, show a = 0 by omega]
      decide
    · have s2 : (-x.toBitVec) >>> 63 = 1#64 := by
        refine BitVec.eq_of_toNat_eq ?_
        rw [BitVec.toNat_ushiftRight, Nat.shiftRight_eq_div_pow, BitVec.toNat_neg, Nat.mod_eq_of_lt (by omega)]
        show (2 ^ 64 - x.toBitVec.toNat) / 2 ^ 63 = 1
        omega
      rw [s2]
      unfold sn32
      rw [if_neg (by omega), if_pos (by omega)]
      decide
  · rw [if_neg hm] at hc
    have m1 : x.toBitVec.msb = true := BitVec.msb_eq_true_iff_two_mul_ge.mpr (by omega)
    have s1 : x.toBitVec.sshiftRight 63 = BitVec.allOnes 64 := by
      rw [BitVec.sshiftRight_eq_of_msb_true m1]
      have s0 : (~~~x.toBitVec) >>> 63 = 0#64 := by
        refine BitVec.eq_of_toNat_eq ?_
        rw [BitVec.toNat_ushiftRight, Nat.shiftRight_eq_div_pow, BitVec.toNat_not]
        exact Nat.div_eq_of_lt (by omega)
      rw [s0]
      decide
    rw [s1, BitVec.allOnes_or]
    unfold sn32
    rw [if_neg (by omega), if_neg (by omega)]
    decide
theorem wu_wv (d : Nat → Int) : ∀ n, wu9 d (n + 1) = wv9 d n := by
  intro n
  induction n with
  | zero =>
    show (if d 0 = 0 then (0, 0) else (0 + (if opp9 0 (d 0) then 1 else 0), d 0)) = (0, d 0)
    by_cases h : d 0 = 0
    · rw [if_pos h, h]
    · rw [if_neg h, if_neg (by unfold opp9; omega)]
  | succ n ih =>
    show (if d (n + 1) = 0 then wu9 d (n + 1) else ((wu9 d (n + 1)).1 + (if opp9 (wu9 d (n + 1)).2 (d (n + 1)) then 1 else 0), d (n + 1))) = _
    rw [ih]
    rfl
theorem sn_z {a : Int} : sn32 a = 0 ↔ a = 0 := by
  unfold sn32
  by_cases h : a = 0
  · rw [if_pos h]
    exact ⟨fun _ => h, fun _ => rfl⟩
  · rw [if_neg h]
    refine ⟨fun h9 => ?_, fun h9 => absurd h9 h⟩
    split at h9
    · exact absurd h9 (by decide)
    · exact absurd h9 (by decide)
theorem sn_op {a b : Int} (ha : a ≠ 0) (hb : b ≠ 0) : sn32 b = sn32 a ↔ ¬ opp9 a b := by
  unfold sn32 opp9
  rw [if_neg ha, if_neg hb]
  by_cases h1 : 0 < a <;> by_cases h2 : 0 < b
  · rw [if_pos h1, if_pos h2]
    exact ⟨fun _ => by omega, fun _ => rfl⟩
  · rw [if_pos h1, if_neg h2]
    exact ⟨fun h9 => absurd h9 (by decide), fun h9 => by omega⟩
  · rw [if_neg h1, if_pos h2]
    exact ⟨fun h9 => absurd h9 (by decide), fun h9 => by omega⟩
  · rw [if_neg h1, if_neg h2]
    exact ⟨fun _ => by omega, fun _ => rfl⟩
theorem sn_neg {a : Int} : 0 - sn32 a = sn32 (-a) := by
  unfold sn32
  by_cases h : a = 0
  · rw [if_pos h, if_pos (by omega)]
    rfl
  · rw [if_neg h, if_neg (show ¬ -a = 0 by omega)]
    by_cases h1 : 0 < a
    · rw [if_pos h1, if_neg (show ¬ 0 < -a by omega)]
      rfl
    · rw [if_neg h1, if_pos (show 0 < -a by omega)]
      rfl
variable {z : ow_MS}
theorem xr_changes {n : Nat} {b : Int32} {d : Nat → Int} (hn : n ≤ 14) (hb : b = 0 ∨ b = 1) (hd : ∀ k, k ≤ n → z.2.2 57 k = Int64.ofInt (d (n - k)) ∧ rI9 (d (n - k))) : Te (fun K => qe_X13_changes K (nI n) b z) (fun r => r.1 = nI (wv9 (fun j => if b = 1 ∧ (n - j) % 2 = 1 then -d j else d j) n).1 ∧ r.2 = z) := by
  generalize hD : (fun j => if b = 1 ∧ (n - j) % 2 = 1 then -d j else d j) = D
  have hDj : ∀ j, D j = if b = 1 ∧ (n - j) % 2 = 1 then -d j else d j := fun j => by rw [← hD]
  have c1 : ∀ (e : Nat), e ≤ n + 1 → Tt (fun K k => q_X13_changes K k 1 (nI n) b (nI (wu9 D (n + 1 - e)).1) (sn32 (wu9 D (n + 1 - e)).2) (iI ((e : Int) - 1)) 0 0 0 z) (fun r => r.1 = nI (wv9 D n).1 ∧ r.2 = z) := by
    intro e
    induction e with
    | zero =>
      intro _
      refine u_X13_changes_1 ?_; unfold qm_X13_changes_1
      refine w_ifT (by show iI (-1) < iI 0; rw [iI_lt (by omega) (by omega) (by omega) (by omega)]; omega) (w_some ⟨?_, rfl⟩)
      rw [show n + 1 - 0 = n + 1 by omega, wu_wv]
    | succ e ih =>
      intro he
      have ih := ih (by omega)
      have e1 : iI (((e + 1 : Nat) : Int) - 1) = nI e := iI_nI (by omega)
      have e2 : nI e + (-1) = iI ((e : Int) - 1) := by
        rw [nI_iI]
        show iI (e : Int) + iI (-1) = _
        rw [iI_add]
        rfl
      rw [e1]
      generalize hj : n + 1 - (e + 1) = j
      have hj2 : n + 1 - e = j + 1 := by omega
      rw [hj2] at ih
      obtain ⟨hv, hr⟩ := hd e (by omega)
      rw [show n - e = j by omega] at hv hr
      have hne : (n - j) % 2 = e % 2 := by rw [show n - j = e by omega]
      have wn : wu9 D (j + 1) = if D j = 0 then wu9 D j else ((wu9 D j).1 + (if opp9 (wu9 D j).2 (D j) then 1 else 0), D j) := rfl
      have c5 : ∀ (x3 x4 x6 : Int32), x3 = nI (wu9 D (j + 1)).1 → x4 = sn32 (wu9 D (j + 1)).2 → Tt (fun K k => q_X13_changes K k 5 (nI n) b x3 x4 (nI e) x6 0 0 z) (fun r => r.1 = nI (wv9 D n).1 ∧ r.2 = z) := by
        intro x3 x4 x6 h3 h4
        rw [h3, h4]
        refine u_X13_changes_5 ?_; unfold qm_X13_changes_5
        rw [e2]
        exact ih
      have c4 : ∀ (x3 x4 t0 t1 : Int32), t1 + t0 = nI (wu9 D (j + 1)).1 → sn32 (D j) = sn32 (wu9 D (j + 1)).2 → Tt (fun K k => q_X13_changes K k 4 (nI n) b x3 x4 (nI e) (sn32 (D j)) t0 t1 z) (fun r => r.1 = nI (wv9 D n).1 ∧ r.2 = z) := by
        intro x3 x4 t0 t1 h1 h2
        refine u_X13_changes_4 ?_; unfold qm_X13_changes_4
        exact c5 _ _ _ h1 h2
      have c2 : Tt (fun K k => q_X13_changes K k 2 (nI n) b (nI (wu9 D j).1) (sn32 (wu9 D j).2) (nI e) (sn32 (D j)) 0 0 z) (fun r => r.1 = nI (wv9 D n).1 ∧ r.2 = z) := by
        refine u_X13_changes_2 ?_; unfold qm_X13_changes_2
        refine w_if (fun h0 => ?_) (fun h0 => ?_)
        · rw [sn_z] at h0
          rw [if_pos h0] at wn
          exact c5 _ _ _ (by rw [wn]) (by rw [wn])
        · rw [sn_z] at h0
          rw [if_neg h0] at wn
          have same : ∀ x3 x4 : Int32, ¬ opp9 (wu9 D j).2 (D j) → Tt (fun K k => q_X13_changes K k 3 (nI n) b x3 x4 (nI e) (sn32 (D j)) (nI (wu9 D j).1) 0 z) (fun r => r.1 = nI (wv9 D n).1 ∧ r.2 = z) := by
            intro x3 x4 hno
            refine u_X13_changes_3 ?_; unfold qm_X13_changes_3
            refine c4 _ _ _ _ ?_ (by rw [wn])
            rw [wn, if_neg hno]
            exact Int32.add_zero _
          refine w_if (fun h1 => ?_) (fun h1 => w_if (fun h2 => ?_) (fun h2 => ?_))
          · rw [sn_z] at h1
            exact same _ _ (by rw [h1]; unfold opp9; omega)
          · rw [sn_z] at h1
            exact same _ _ ((sn_op h1 h0).mp h2)
          · rw [sn_z] at h1
            refine c4 _ _ _ _ ?_ (by rw [wn])
            have ho : opp9 (wu9 D j).2 (D j) := by
              by_cases h9 : opp9 (wu9 D j).2 (D j)
              · exact h9
              · exact absurd ((sn_op h1 h0).mpr h9) h2
            rw [wn, if_pos ho]
            exact nI_1 _
      have an : nI e &&& 1 = 1 ↔ e % 2 = 1 := by
        have key : ∀ i : Fin 16, (nI i.val &&& 1 = 1 ↔ i.val % 2 = 1) := by decide +kernel
        exact key ⟨e, by omega⟩
      have sv : ow_sgnJ (Int64.ofInt (d j)) = sn32 (d j) := sgJ9 hr
      refine u_X13_changes_1 ?_; unfold qm_X13_changes_1
      refine w_ifF (fun h9 => absurd h9 (nI_pos (by omega))) (w_rdJ ml57 rfl (by omega) hv (w_if (fun h1 => ?_) (fun h1 => w_if (fun h2 => ?_) (fun h2 => ?_))))
      · have : D j = d j := by rw [hDj, if_neg (fun h9 => by rw [h9.1] at h1; exact absurd h1 (by decide))]
        rw [sv, ← this]
        exact c2
      · have hb1 : b = 1 := by
          rcases hb with h9 | h9
          · exact absurd h9 h1
          · exact h9
        have : D j = -d j := by rw [hDj, if_pos ⟨hb1, by rw [hne]; exact an.mp h2⟩]
        rw [sv, sn_neg, ← this]
        exact c2
      · have : D j = d j := by rw [hDj, if_neg (fun h9 => h2 (an.mpr (by rw [← hne]; exact h9.2)))]
        rw [sv, ← this]
        exact c2
  refine e_X13_changes ?_
  refine u_X13_changes_0 ?_; unfold qm_X13_changes_0
  have := c1 (n + 1) (Nat.le_refl _)
  rw [show iI (((n + 1 : Nat) : Int) - 1) = nI n from iI_nI (by omega), Nat.sub_self] at this
  exact this
end XSGP
end
section
/-! 99zzzzzzzzzzzzzzzzyzzz.xsgq -/
/-! signature, the reference: the roots, exactly -/
section XSGQ
variable {z : ow_MS} {F : Nat → Nat → Int} {E : Nat → Int}
theorem xr_times {n : Nat} {B : Nat → Nat → Int} (hn : n ≤ 16) (hF : ∀ i j, i < n → j < n → z.2.2 54 (16 * i + j) = Int64.ofInt (F i j)) (hB : ∀ i j, i < n → j < n → z.2.2 56 (16 * i + j) = Int64.ofInt (B i j)) : Te (fun K => qe_X13_times K (nI n) z) (fun z1 => fr (fun g => g = 55) z z1 ∧ ∀ i j, i < n → j < n → z1.2.2 55 (16 * i + j) = Int64.ofInt (zS9 (fun k => F i k * B k j) n)) := by
  let Q : ow_MS → Prop := fun z1 => fr (fun g => g = 55) z z1 ∧ ∀ i j, i < n → j < n → z1.2.2 55 (16 * i + j) = Int64.ofInt (zS9 (fun k => F i k * B k j) n)
  have c1 : ∀ (d i : Nat) (y : ow_MS), i + d = n → fr (fun g => g = 55) z y → (∀ a b, a < i → b < n → y.2.2 55 (16 * a + b) = Int64.ofInt (zS9 (fun k => F a k * B k b) n)) → Tt (fun K k => q_X13_times K k 1 (nI n) (nI i) 0 0 0 y) Q := by
    intro d
    induction d with
    | zero =>
      intro i y hi hf hp
      refine u_X13_times_1 ?_; unfold qm_X13_times_1
      exact w_leT (by omega) (by omega) (w_some ⟨hf, fun a b ha hb => hp a b (by omega) hb⟩)
    | succ d ih =>
      intro i y hi hf hp
      have c2 : ∀ (d2 j : Nat) (y : ow_MS), j + d2 = n → fr (fun g => g = 55) z y → (∀ a b, b < n → a < i ∨ a = i ∧ b < j → y.2.2 55 (16 * a + b) = Int64.ofInt (zS9 (fun k => F a k * B k b) n)) → Tt (fun K k => q_X13_times K k 2 (nI n) (nI i) (nI j) 0 0 y) Q := by
        intro d2
        induction d2 with
        | zero =>
          intro j y hj hf hp
          refine u_X13_times_2 ?_; unfold qm_X13_times_2
          rw [nI_1]
          exact w_leT (by omega) (by omega) (ih (i + 1) y (by omega) hf (fun a b ha hb => hp a b hb (by omega)))
        | succ d2 ih2 =>
          intro j y hj hf hp
          have c3 : ∀ (d3 k : Nat) (w : Int64), k + d3 = n → w = Int64.ofInt (zS9 (fun k => F i k * B k j) k) → Tt (fun K t => q_X13_times K t 3 (nI n) (nI i) (nI j) (nI k) w y) Q := by
            intro d3
            induction d3 with
            | zero =>
              intro k w hk hw
              have hk : k = n := by omega
              subst hk
              refine u_X13_times_3 ?_; unfold qm_X13_times_3
              rw [s16_ix, show nI j + 1 = nI (j + 1) from nI_1 _]
              refine w_leT (by omega) (by omega) (w_wrJ ml55 rfl (by omega) (ih2 (j + 1) _ (by omega) (fr_J2 hf rfl) (fun a b hb hab => ?_)))
              by_cases h9 : a = i ∧ b = j
              · obtain ⟨h8, h7⟩ := h9
                subst h8
                subst h7
                exact usJ_at.trans hw
              · rw [usJ_ne (by omega)]
                exact hp a b hb (by omega)
            | succ d3 ih3 =>
              intro k w hk hw
              have r1 : y.2.2 54 (16 * i + k) = Int64.ofInt (F i k) := by
                rw [(hf 54 (by omega)).2.2]
                exact hF i k (by omega) (by omega)
              have r2 : y.2.2 56 (16 * k + j) = Int64.ofInt (B k j) := by
                rw [(hf 56 (by omega)).2.2]
                exact hB k j (by omega) (by omega)
              refine u_X13_times_3 ?_; unfold qm_X13_times_3
              rw [s16_ix, s16_ix, s16_ix, show nI k + 1 = nI (k + 1) from nI_1 _]
              refine w_leF (by omega) (by omega) (w_rdJ ml54 rfl (by omega) r1 (w_rdJ ml56 rfl (by omega) r2 (ih3 (k + 1) _ (by omega) ?_)))
              rw [hw, ← Int64.ofInt_mul, ← Int64.ofInt_add]
              rfl
          refine u_X13_times_2 ?_; unfold qm_X13_times_2
          exact w_leF (by omega) (by omega) (c3 n 0 0 (by omega) rfl)
      refine u_X13_times_1 ?_; unfold qm_X13_times_1
      exact w_leF (by omega) (by omega) (c2 n 0 y (by omega) hf (fun a b hb hab => hp a b (by omega) hb))
  refine e_X13_times ?_
  refine u_X13_times_0 ?_; unfold qm_X13_times_0
  exact c1 n 0 z (by omega) fr_rf (fun a b ha => absurd ha (by omega))
theorem zS_0 : ∀ n, zS9 (fun _ => 0) n = 0 := by
  intro n
  induction n with
  | zero => rfl
  | succ n ih =>
    show zS9 (fun _ => 0) n + 0 = 0
    omega
theorem xr_roots {n : Nat} (hn : n ≤ 13) (hF : ∀ i j, i < n → j < n → z.2.2 54 (16 * i + j) = Int64.ofInt (F i j)) (hE : ∀ k, ((E k : Int) : Rat) = qE9 (cM9 F) n k) (hb : ∀ k, k ≤ n → rI9 ((k : Int) * E k)) : Te (fun K => qe_X13_rootsOf K (nI n) z) (fun r => r.1 = iI ((vP9 (cM9 F) n : Int) - (vM9 (cM9 F) n : Int)) ∧ fr rtH z r.2) := by
  have E0 : E 0 = 1 := by
    have := hE 0
    rw [qE_0] at this
    exact Rat.intCast_inj.mp this
  have hr : ∀ k, k ≤ n → rI9 (E k) := fun k hk => by
    by_cases h0 : k = 0
    · rw [h0, E0]
      unfold rI9
      omega
    · exact rI_of (by omega) (hb k hk)
  let Q : Int32 × ow_MS → Prop := fun r => r.1 = iI ((vP9 (cM9 F) n : Int) - (vM9 (cM9 F) n : Int)) ∧ fr rtH z r.2
  let Ch : Nat → ow_MS → Prop := fun k y => fr rtH z y ∧ ∀ m, m < k → y.2.2 57 (n - m) = Int64.ofInt (zn9 m * E m)
  have hF0 : ∀ {y : ow_MS}, fr rtH z y → ∀ i j, i < n → j < n → y.2.2 54 (16 * i + j) = Int64.ofInt (F i j) := fun hf i j hi hj => by
    rw [(hf 54 (by unfold rtH; omega)).2.2]
    exact hF i j hi hj
  have h55 : ∀ {k : Nat} {y y1 : ow_MS}, Ch k y → fr (fun g => g = 55) y y1 → Ch k y1 := fun h1 h2 => ⟨fr_tr h1.1 (fr_mono (fun g hg => by unfold rtH; omega) h2), fun m hm => by
    rw [(h2 57 (by omega)).2.2]
    exact h1.2 m hm⟩
  have c2 : ∀ (d k : Nat) (y : ow_MS), k + d = n + 1 → 1 ≤ k → Ch k y → (∀ i j, i < n → j < n → y.2.2 56 (16 * i + j) = Int64.ofInt (if k = 1 then 0 else zn9 (k - 2) * zN9 n F E j (k - 2) i)) → Tt (fun K t => q_X13_rootsOf K t 2 (nI n) (nI k) 0 0 0 0 0 0 0 y) Q := by
    intro d
    induction d with
    | zero =>
      intro k y hk hk1 hz hp
      have hT : ∀ k, k ≤ n → y.2.2 57 k = Int64.ofInt ((fun m => zn9 m * E m) (n - k)) ∧ rI9 ((fun m => zn9 m * E m) (n - k)) := fun k9 hk9 => by
        have := hz.2 (n - k9) (by omega)
        rw [show n - (n - k9) = k9 by omega] at this
        exact ⟨this, rI_zn _ (hr _ (by omega))⟩
      refine u_X13_rootsOf_2 ?_; unfold qm_X13_rootsOf_2
      refine w_ltT (by omega) (by omega) (w_cs1 (xr_changes (b := 0) (d := fun m => zn9 m * E m) (by omega) (Or.inl rfl) hT) (fun a y1 e1 => ?_))
      obtain ⟨a1, e1⟩ := e1
      have e1 : y1 = y := e1
      have a9 : a = nI (wv9 (fun j => if (0 : Int32) = 1 ∧ (n - j) % 2 = 1 then -(zn9 j * E j) else zn9 j * E j) n).1 := a1
      subst e1
      refine w_cs1 (xr_changes (b := 1) (d := fun m => zn9 m * E m) (by omega) (Or.inr rfl) hT) (fun a2 y2 e2 => ?_)
      obtain ⟨b1, e2⟩ := e2
      have e2 : y2 = y1 := e2
      have b9 : a2 = nI (wv9 (fun j => if (1 : Int32) = 1 ∧ (n - j) % 2 = 1 then -(zn9 j * E j) else zn9 j * E j) n).1 := b1
      subst e2
      refine w_some ⟨?_, hz.1⟩
      have f1 : (fun j => if (0 : Int32) = 1 ∧ (n - j) % 2 = 1 then -(zn9 j * E j) else zn9 j * E j) = fun j => zn9 j * E j := funext (fun j => if_neg (fun h9 => absurd h9.1 (by decide)))
      have key : ∀ m, m ≤ n → wv9 (fun j => if (1 : Int32) = 1 ∧ (n - j) % 2 = 1 then -(zn9 j * E j) else zn9 j * E j) m = wv9 (fun j => zn9 n * E j) m := by
        have pt : ∀ j, j ≤ n → (if (1 : Int32) = 1 ∧ (n - j) % 2 = 1 then -(zn9 j * E j) else zn9 j * E j) = zn9 n * E j := fun j hj => by
          have hz9 : zn9 j * zn9 (n - j) = zn9 n := by rw [zn_a, show j + (n - j) = n by omega]
          by_cases h9 : (n - j) % 2 = 1
          · rw [if_pos ⟨rfl, h9⟩, ← hz9, show zn9 (n - j) = -1 from if_neg (by omega), Int.mul_neg, Int.mul_one, Int.neg_mul]
          · rw [if_neg (fun h8 => h9 h8.2), ← hz9, show zn9 (n - j) = 1 from if_pos (by omega), Int.mul_one]
        intro m
        induction m with
        | zero =>
          intro _
          show ((0 : Nat), (if (1 : Int32) = 1 ∧ (n - 0) % 2 = 1 then -(zn9 0 * E 0) else zn9 0 * E 0)) = (0, zn9 n * E 0)
          rw [pt 0 (by omega)]
        | succ m ihm =>
          intro hm
          have q := pt (m + 1) hm
          show (if (if (1 : Int32) = 1 ∧ (n - (m + 1)) % 2 = 1 then -(zn9 (m + 1) * E (m + 1)) else zn9 (m + 1) * E (m + 1)) = 0 then _ else (_ + (if opp9 _ (if (1 : Int32) = 1 ∧ (n - (m + 1)) % 2 = 1 then -(zn9 (m + 1) * E (m + 1)) else zn9 (m + 1) * E (m + 1)) then 1 else 0), (if (1 : Int32) = 1 ∧ (n - (m + 1)) % 2 = 1 then -(zn9 (m + 1) * E (m + 1)) else zn9 (m + 1) * E (m + 1)))) = _
          rw [q, ihm (by omega)]
          rfl
      rw [f1, tw_zn] at a9
      rw [key n (Nat.le_refl n), wv_zn] at b9
      show a - a2 = _
      rw [a9, b9, nI_iI, nI_iI, iI_sub]
      unfold vP9 vM9
      rw [nuE hE]
    | succ d ih =>
      intro k y hk hk1 hz hp
      have zk : zn9 k = -zn9 (k - 1) := by
        have := zn_s (k := k - 1)
        rw [show k - 1 + 1 = k by omega] at this
        exact this
      have hk64 : (nI k).toInt64 = Int64.ofInt (k : Int) := by
        have key : ∀ k : Fin 16, (nI k.val).toInt64 = Int64.ofInt (k.val : Int) := by decide +kernel
        exact key ⟨k, by omega⟩
      have hnz : (nI k).toInt64 ≠ 0 := by
        rw [nI_l (by omega)]
        exact fun e => by
          have := (pk_lEQ (a := k) (b := 0) (by omega) (by omega)).mp e
          omega
      have c6 : ∀ (d2 i : Nat) (w : Int64) (y : ow_MS), i + d2 = n → Ch k y → (∀ a b, a < n → b < n → y.2.2 56 (16 * a + b) = Int64.ofInt (zn9 (k - 1) * zN9 n F E b (k - 1) a)) → (∀ a, a < n → y.2.2 55 (16 * a + a) = Int64.ofInt (zn9 (k - 1) * (E k - zN9 n F E a k a))) → w = Int64.ofInt (zn9 (k - 1) * zS9 (fun a => E k - zN9 n F E a k a) i) → Tt (fun K t => q_X13_rootsOf K t 6 (nI n) (nI k) 0 0 (nI i) w 0 0 0 y) Q := by
        intro d2
        induction d2 with
        | zero =>
          intro i w y hi hz hp hd9 hw
          have hi : i = n := by omega
          subst hi
          rw [zN_tr hE] at hw
          have bk := hb k (by omega)
          have dv : 0 - w / (nI k).toInt64 = Int64.ofInt (zn9 k * E k) := by
            have h1 : rI9 (zn9 (k - 1) * ((k : Int) * E k)) := rI_zn (k - 1) bk
            have h3 : zn9 (k - 1) * ((k : Int) * E k) = (zn9 (k - 1) * E k) * (k : Int) := by
              rw [Int.mul_comm (k : Int), Int.mul_assoc]
            rw [hw, hk64, ← Int64.ofInt_tdiv (by have := h1.1; show (-9223372036854775808 : Int) ≤ _; omega) (by have := h1.2; show _ ≤ (9223372036854775807 : Int); omega) (by show (-9223372036854775808 : Int) ≤ _; omega) (by show _ ≤ (9223372036854775807 : Int); omega), h3, Int.mul_tdiv_cancel _ (by omega), zk, Int.neg_mul, Int64.ofInt_neg, Int64.zero_sub]
          refine u_X13_rootsOf_6 ?_; unfold qm_X13_rootsOf_6
          rw [show nI i - nI k = nI (i - k) from pk_sub (by omega), nI_1, dv]
          refine w_leT (by omega) (by omega) (w_nzJ hnz (w_wrJ ml57 rfl (by omega) (ih (k + 1) _ (by omega) (by omega) ⟨fr_J2 hz.1 (by unfold rtH; omega), fun m hm => ?_⟩ (fun a b ha hb2 => ?_))))
          · by_cases h9 : m = k
            · rw [h9]
              exact usJ_at
            · rw [usJ_ne (by omega)]
              exact hz.2 m (by omega)
          · rw [usJ_o9 (by omega), if_neg (by omega), show k + 1 - 2 = k - 1 by omega]
            exact hp a b ha hb2
        | succ d2 ih2 =>
          intro i w y hi hz hp hd9 hw
          refine u_X13_rootsOf_6 ?_; unfold qm_X13_rootsOf_6
          rw [show (17 : Int32) * nI i = nI (17 * i) from pk_mul 17 i, show nI i + 1 = nI (i + 1) from nI_1 _]
          have r1 := hd9 i (by omega)
          rw [show 16 * i + i = 17 * i by omega] at r1
          refine w_leF (by omega) (by omega) (w_rdJ ml55 rfl (by omega) r1 (ih2 (i + 1) _ y (by omega) hz hp hd9 ?_))
          rw [hw, ← Int64.ofInt_add, ← Int.mul_add]
          rfl
      have c3 : ∀ (d2 i : Nat) (y : ow_MS), i + d2 = n → Ch k y → (∀ a b, a < n → b < n → y.2.2 55 (16 * a + b) = Int64.ofInt (zn9 (k - 1) * (zN9 n F E b (k - 1) a - E (k - 1) * zd9 b a))) → (∀ a b, a < i → b < n → y.2.2 56 (16 * a + b) = Int64.ofInt (zn9 (k - 1) * zN9 n F E b (k - 1) a)) → Tt (fun K t => q_X13_rootsOf K t 3 (nI n) (nI k) (nI i) 0 0 0 0 0 0 y) Q := by
        intro d2
        induction d2 with
        | zero =>
          intro i y hi hz h55a hp
          have hi : i = n := by omega
          subst hi
          refine u_X13_rootsOf_3 ?_; unfold qm_X13_rootsOf_3
          refine w_leT (by omega) (by omega) (w_cs0 (xr_times (by omega) (hF0 hz.1) hp) (fun y1 ⟨f1, g1⟩ => ?_))
          have f1 : fr (fun g => g = 55) y y1 := f1
          refine c6 i 0 0 y1 (by omega) (h55 hz f1) (fun a b ha hb2 => ?_) (fun a ha => ?_) ?_
          · rw [(f1 56 (by omega)).2.2]
            exact hp a b ha hb2
          · have e9 : y1.2.2 55 (16 * a + a) = _ := g1 a a ha ha
            rw [e9]
            have e8 : zS9 (fun m => F a m * (zn9 (k - 1) * zN9 i F E a (k - 1) m)) i = zn9 (k - 1) * zS9 (fun m => F a m * zN9 i F E a (k - 1) m) i := by
              rw [← zS_mul]
              refine zS_cg (fun m _ => ?_)
              rw [← Int.mul_assoc (F a m), Int.mul_comm (F a m), Int.mul_assoc]
            rw [e8, zN_s, show k - 1 + 1 = k by omega, show zd9 a a = 1 from if_pos rfl, Int.mul_one]
          · rw [show zS9 (fun a => E k - zN9 i F E a k a) 0 = 0 from rfl, Int.mul_zero]
            rfl
        | succ d2 ih2 =>
          intro i y hi hz h55a hp
          have c4 : ∀ (d3 j : Nat) (y : ow_MS), j + d3 = n → Ch k y → (∀ a b, a < n → b < n → y.2.2 55 (16 * a + b) = Int64.ofInt (zn9 (k - 1) * (zN9 n F E b (k - 1) a - E (k - 1) * zd9 b a))) → (∀ a b, b < n → a < i ∨ a = i ∧ b < j → y.2.2 56 (16 * a + b) = Int64.ofInt (zn9 (k - 1) * zN9 n F E b (k - 1) a)) → Tt (fun K t => q_X13_rootsOf K t 4 (nI n) (nI k) (nI i) (nI j) 0 0 0 0 0 y) Q := by
            intro d3
            induction d3 with
            | zero =>
              intro j y hj hz h55a hp
              refine u_X13_rootsOf_4 ?_; unfold qm_X13_rootsOf_4
              rw [show nI i + 1 = nI (i + 1) from nI_1 _]
              exact w_leT (by omega) (by omega) (ih2 (i + 1) y (by omega) hz h55a (fun a b ha hb2 => hp a b hb2 (by omega)))
            | succ d3 ih3 =>
              intro j y hj hz h55a hp
              have c5 : ∀ (y0 y1 : Int64), y1 + y0 = Int64.ofInt (zn9 (k - 1) * zN9 n F E j (k - 1) i) → Tt (fun K t => q_X13_rootsOf K t 5 (nI n) (nI k) (nI i) (nI j) 0 0 (nI (16 * i + j)) y0 y1 y) Q := by
                intro y0 y1 he
                refine u_X13_rootsOf_5 ?_; unfold qm_X13_rootsOf_5
                rw [show nI j + 1 = nI (j + 1) from nI_1 _, he]
                refine w_wrJ ml56 rfl (by omega) (ih3 (j + 1) _ (by omega) ⟨fr_J2 hz.1 (by unfold rtH; omega), fun m hm => ?_⟩ (fun a b ha hb2 => ?_) (fun a b hb2 hab => ?_))
                · rw [usJ_o9 (by omega)]
                  exact hz.2 m hm
                · rw [usJ_o9 (by omega)]
                  exact h55a a b ha hb2
                · by_cases h9 : a = i ∧ b = j
                  · obtain ⟨h8, h7⟩ := h9
                    subst h8
                    subst h7
                    exact usJ_at
                  · rw [usJ_ne (by omega)]
                    exact hp a b hb2 (by omega)
              have r1 := h55a i j (by omega) (by omega)
              have r2 := hz.2 (k - 1) (by omega)
              rw [show n - (k - 1) = n - k + 1 by omega] at r2
              refine u_X13_rootsOf_4 ?_; unfold qm_X13_rootsOf_4
              rw [s16_ix, show nI n - nI k + 1 = nI (n - k + 1) from by rw [pk_sub (by omega)]; exact nI_1 _]
              refine w_leF (by omega) (by omega) (w_rdJ ml55 rfl (by omega) r1 (w_eqN (by omega) (by omega) (fun h9 => w_rdJ ml57 rfl (by omega) r2 (c5 _ _ ?_)) (fun h9 => c5 _ _ ?_)))
              · rw [← Int64.ofInt_add, show zd9 j i = 1 from if_pos h9, Int.mul_one, Int.mul_sub]
                refine congrArg Int64.ofInt ?_
                omega
              · rw [show zd9 j i = 0 from if_neg h9, Int.mul_zero, Int.sub_zero]
                exact Int64.add_zero _
          refine u_X13_rootsOf_3 ?_; unfold qm_X13_rootsOf_3
          exact w_leF (by omega) (by omega) (c4 n 0 y (by omega) hz h55a (fun a b hb2 hab => hp a b (by omega) hb2))
      refine u_X13_rootsOf_2 ?_; unfold qm_X13_rootsOf_2
      refine w_ltF (by omega) (by omega) (w_cs0 (xr_times (by omega) (hF0 hz.1) hp) (fun y1 ⟨f1, g1⟩ => ?_))
      have f1 : fr (fun g => g = 55) y y1 := f1
      refine c3 n 0 y1 (by omega) (h55 hz f1) (fun a b ha hb2 => ?_) (fun a b ha => absurd ha (by omega))
      have e9 : y1.2.2 55 (16 * a + b) = _ := g1 a b ha hb2
      rw [e9]
      refine congrArg Int64.ofInt ?_
      by_cases h1 : k = 1
      · subst h1
        rw [zS_cg (g := fun _ => 0) (fun m _ => by rw [if_pos rfl, Int.mul_zero]), zS_0, show 1 - 1 = 0 from rfl, E0]
        show (0 : Int) = zn9 0 * (zd9 b a - 1 * zd9 b a)
        rw [Int.one_mul, Int.sub_self, Int.mul_zero]
      · have e8 : zS9 (fun m => F a m * (if k = 1 then 0 else zn9 (k - 2) * zN9 n F E b (k - 2) m)) n = zn9 (k - 2) * zS9 (fun m => F a m * zN9 n F E b (k - 2) m) n := by
          rw [← zS_mul]
          refine zS_cg (fun m _ => ?_)
          rw [if_neg h1, ← Int.mul_assoc (F a m), Int.mul_comm (F a m), Int.mul_assoc]
        have zk2 : zn9 (k - 1) = -zn9 (k - 2) := by
          have := zn_s (k := k - 2)
          rw [show k - 2 + 1 = k - 1 by omega] at this
          exact this
        rw [e8, zN_s, show k - 2 + 1 = k - 1 by omega, zk2, Int.neg_mul, ← Int.mul_neg]
        refine congrArg (fun t => zn9 (k - 2) * t) ?_
        omega
  have c1 : ∀ (d i : Nat) (y : ow_MS), i + d = 256 → fr rtH z y → (∀ a, a < i → y.2.2 56 a = 0) → Tt (fun K t => q_X13_rootsOf K t 1 (nI n) (nI i) 0 0 0 0 0 0 0 y) Q := by
    intro d
    induction d with
    | zero =>
      intro i y hi hf h0
      refine u_X13_rootsOf_1 ?_; unfold qm_X13_rootsOf_1
      refine w_leT (a := 256) (by omega) (by omega) (w_wrJ ml57 rfl (by omega) (c2 n 1 _ (by omega) (Nat.le_refl _) ⟨fr_J2 hf (by unfold rtH; omega), fun m hm => ?_⟩ (fun a b ha hb2 => ?_)))
      · have hm : m = 0 := by omega
        subst hm
        rw [E0]
        exact usJ_at
      · rw [usJ_o9 (by omega), if_pos rfl]
        exact h0 _ (by omega)
    | succ d ih =>
      intro i y hi hf h0
      refine u_X13_rootsOf_1 ?_; unfold qm_X13_rootsOf_1
      rw [nI_1]
      refine w_leF (a := 256) (by omega) (by omega) (w_wrJ ml56 rfl (by omega) (ih (i + 1) _ (by omega) (fr_J2 hf (by unfold rtH; omega)) (fun a ha => ?_)))
      by_cases h9 : a = i
      · rw [h9]
        exact usJ_at
      · rw [usJ_ne h9]
        exact h0 a (by omega)
  refine e_X13_rootsOf ?_
  refine u_X13_rootsOf_0 ?_; unfold qm_X13_rootsOf_0
  exact c1 256 0 z (by omega) fr_rf (fun a ha => absurd ha (by omega))
end XSGQ
end
section
/-! 99zzzzzzzzzzzzzzzzyzzza.xsgr -/
/-! signature: faces round a crossing; every numbering of the faces of a part gives one value -/
/-- the side of colour κ of the gap behind v -/
def ws9 (w : Nat → Bool) (κ : Bool) (v : Nat) : Nat := if w v = κ then 2 * v else 2 * v + 1
section XSGR
variable {c : Nat} {S : ow_NP} {G : Nat → Int32} {w q : Nat → Bool}
theorem mt_2 (x : Nat) : mt (2 * x) = 2 * x + 1 ∧ mt (2 * x + 1) = 2 * x := by
  unfold mt
  constructor
  · rw [if_pos (by omega)]
  · rw [if_neg (by omega)]
    omega
theorem fV_st (x : Nat) : (decide (fV9 G x % 2 = 0) == decide (0 < G (fV9 G x / 2))) = true ∧ (decide (mt (fV9 G x) % 2 = 0) == decide (0 < G (mt (fV9 G x) / 2))) = false ∧ mt (mt (fV9 G x)) = fV9 G x := by
  obtain ⟨m1, m2⟩ := mt_2 x
  unfold fV9
  by_cases h : 0 < G x
  · rw [if_pos h, m1, m2, show 2 * x / 2 = x by omega, show (2 * x + 1) / 2 = x by omega, decide_eq_true h, decide_eq_true (show 2 * x % 2 = 0 by omega), decide_eq_false (show ¬ (2 * x + 1) % 2 = 0 by omega)]
    exact ⟨rfl, rfl, rfl⟩
  · rw [if_neg h, m2, m1, show 2 * x / 2 = x by omega, show (2 * x + 1) / 2 = x by omega, decide_eq_false h, decide_eq_true (show 2 * x % 2 = 0 by omega), decide_eq_false (show ¬ (2 * x + 1) % 2 = 0 by omega)]
    exact ⟨rfl, rfl, rfl⟩
theorem on4 (hv : vn c S) {x : Nat} (hx : x < c) : fc_on S G (2 * S.2 (fV9 G x)) = 2 * mt (fV9 G x) ∧ fc_on S G (2 * S.2 (mt (fV9 G x))) = 2 * S.2 (fV9 G x) + 1 ∧ fc_on S G (2 * fV9 G x + 1) = 2 * S.2 (mt (fV9 G x)) + 1 ∧ fc_on S G (2 * mt (fV9 G x) + 1) = 2 * fV9 G x := by
  have hf := fV_lt (G := G) hx
  have hm := mt_lt hf
  obtain ⟨s1, s2, s3⟩ := fV_st (G := G) x
  have e1 : ∀ v, v < 2 * c → fc_end S.1 (2 * S.2 v) = v := fun v hv1 => by
    unfold fc_end
    rw [if_pos (by omega), show 2 * S.2 v / 2 = S.2 v by omega, (hv v hv1).2.2.2]
  have e2 : ∀ v, fc_end S.1 (2 * v + 1) = v := fun v => by
    unfold fc_end
    rw [if_neg (by omega)]
    omega
  refine ⟨?_, ?_, ?_, ?_⟩
  · unfold fc_on
    rw [e1 _ hf, s1, decide_eq_true (show 2 * S.2 (fV9 G x) % 2 = 0 by omega)]
    rfl
  · unfold fc_on
    rw [e1 _ hm, s2, s3, decide_eq_true (show 2 * S.2 (mt (fV9 G x)) % 2 = 0 by omega)]
    rfl
  · unfold fc_on
    rw [e2, s1, decide_eq_false (show ¬ (2 * fV9 G x + 1) % 2 = 0 by omega)]
    rfl
  · unfold fc_on
    rw [e2, s2, s3, decide_eq_false (show ¬ (2 * mt (fV9 G x) + 1) % 2 = 0 by omega)]
    rfl
/-- every visit is the one that goes ahead, or its mate -/
theorem fV_or {v : Nat} : v = fV9 G (v / 2) ∨ v = mt (fV9 G (v / 2)) := by
  obtain ⟨m1, m2⟩ := mt_2 (v / 2)
  unfold fV9
  by_cases h9 : 0 < G (v / 2)
  · rw [if_pos h9, m1]
    omega
  · rw [if_neg h9, m2]
    omega
/-- what stands at both sides of a gap or at none, and at one of the part's: at all -/
theorem paint_all (hv : vn c S) (hq : ptQ9 c S q) {φ : Nat → Nat} (hφ : ∀ s, s < 4 * c → φ (fc_on S G s) = φ s) {K : Nat → Prop} (hK : ∀ v, v < 2 * c → q v = true → (K (φ (2 * v)) ↔ K (φ (2 * v + 1)))) {v0 : Nat} (h0 : v0 < 2 * c) (q0 : q v0 = true) (k0 : K (φ (2 * v0))) : ∀ v, v < 2 * c → q v = true → K (φ (2 * v)) ∧ K (φ (2 * v + 1)) := by
  intro v hvl hvq
  have r := hq.2 v0 v h0 hvl q0 hvq
  have key := r (fun u => u < 2 * c ∧ q u = true ∧ K (φ (2 * u))) ⟨h0, q0, k0⟩ (fun j hj ⟨_, j2, j3⟩ => ?_) (fun j hj ⟨_, j2, j3⟩ => ?_)
  · exact ⟨key.2.2, (hK v hvl hvq).mp key.2.2⟩
  · have s1 := hv j hj
    have qn : q (S.1 j) = true := by rw [(hq.1 j hj).1]; exact j2
    have j4 := (hK j hj j2).mp j3
    refine ⟨s1.1, qn, ?_⟩
    have hx : S.1 j / 2 < c := by omega
    obtain ⟨o1, o2, o3, o4⟩ := on4 (G := G) hv hx
    have hf := fV_lt (G := G) hx
    have hm := mt_lt hf
    have p1 := hφ (2 * S.2 (fV9 G (S.1 j / 2))) (by have := (hv _ hf).2.1; omega)
    have p2 := hφ (2 * S.2 (mt (fV9 G (S.1 j / 2)))) (by have := (hv _ hm).2.1; omega)
    have p3 := hφ (2 * fV9 G (S.1 j / 2) + 1) (by omega)
    have p4 := hφ (2 * mt (fV9 G (S.1 j / 2)) + 1) (by omega)
    rw [o1] at p1
    rw [o3] at p3
    rw [o4] at p4
    obtain ⟨q1, q2⟩ := fV_q (G := G) hq hx
    have qm : q (2 * (S.1 j / 2)) = true := by
      rcases fV_or (G := G) (v := S.1 j) with h9 | h9
      · rw [← q1, ← h9]
        exact qn
      · rw [← q2, ← h9]
        exact qn
    rcases fV_or (G := G) (v := S.1 j) with h9 | h9
    · have hb : S.2 (fV9 G (S.1 j / 2)) = j := by rw [← h9, s1.2.2.1]
      rw [hb] at p1
      have a1 : K (φ (2 * mt (fV9 G (S.1 j / 2)))) := by rw [p1]; exact j3
      have a2 := (hK _ hm (by rw [q2]; exact qm)).mp a1
      rw [← p4] at a2
      rw [h9, ← h9]
      rw [← h9] at a2
      exact a2
    · have hb : S.2 (mt (fV9 G (S.1 j / 2))) = j := by rw [← h9, s1.2.2.1]
      rw [hb] at p3
      have a1 : K (φ (2 * fV9 G (S.1 j / 2) + 1)) := by rw [← p3]; exact j4
      have a2 := (hK _ hf (by rw [q1]; exact qm)).mpr a1
      rw [p4] at a2
      have a3 := (hK _ hm (by rw [q2]; exact qm)).mpr a2
      rw [← h9] at a3
      exact a3
  · have qn : q (mt j) = true := by rw [(hq.1 j hj).2]; exact j2
    refine ⟨mt_lt hj, qn, ?_⟩
    have hx : j / 2 < c := by omega
    obtain ⟨o1, o2, o3, o4⟩ := on4 (G := G) hv hx
    have hf := fV_lt (G := G) hx
    have hm := mt_lt hf
    have p4 := hφ (2 * mt (fV9 G (j / 2)) + 1) (by omega)
    rw [o4] at p4
    obtain ⟨s1, s2, s3⟩ := fV_st (G := G) (j / 2)
    rcases fV_or (G := G) (v := j) with h9 | h9
    · have a1 : K (φ (2 * mt (fV9 G (j / 2)) + 1)) := by rw [← p4, ← h9]; exact j3
      have hmj : mt j = mt (fV9 G (j / 2)) := congrArg mt h9
      rw [hmj]
      refine (hK _ hm ?_).mpr a1
      rw [← hmj]
      exact qn
    · have j4 := (hK j hj j2).mp j3
      have hmj : mt j = fV9 G (j / 2) := (congrArg mt h9).trans s3
      rw [hmj, p4, ← h9]
      exact j4
/-- rows of faces are rows of gaps -/
theorem nb_of (hv : vn c S) (hw : gaO c S w) {φ : Nat → Nat} (hφ : ∀ s, s < 4 * c → φ (fc_on S G s) = φ s) {κ : Bool} {ρ : Nat → Nat} {k : Nat} (h1 : ∀ v, v < 2 * c → q v = true → ρ (φ (ws9 w κ v)) < k) (h2 : ∀ j, j < k → ∃ v, v < 2 * c ∧ q v = true ∧ ρ (φ (ws9 w κ v)) = j) : nbG9 c S G w q κ (fun v => ρ (φ (ws9 w κ v))) k := by
  refine ⟨h1, h2, fun x hx hxq => ?_⟩
  have hf := fV_lt (G := G) hx
  have hm := mt_lt hf
  obtain ⟨o1, o2, o3, o4⟩ := on4 (G := G) hv hx
  have p1 := hφ (2 * S.2 (fV9 G x)) (by have := (hv _ hf).2.1; omega)
  have p2 := hφ (2 * S.2 (mt (fV9 G x))) (by have := (hv _ hm).2.1; omega)
  have p3 := hφ (2 * fV9 G x + 1) (by omega)
  have p4 := hφ (2 * mt (fV9 G x) + 1) (by omega)
  rw [o1] at p1
  rw [o2] at p2
  rw [o3] at p3
  rw [o4] at p4
  have wb : ∀ v, v < 2 * c → w (S.2 v) = !w v := fun v hv1 => by
    have := (hw (S.2 v) (hv v hv1).2.1).1
    rw [(hv v hv1).2.2.2] at this
    rw [this, Bool.not_not]
  have w1 := (hw _ hf).2
  have w2 := wb _ hf
  have w3 := wb _ hm
  rw [w1, Bool.not_not] at w3
  have nb : ∀ b : Bool, ¬ (!b) = b := fun b => by cases b <;> decide
  dsimp only
  unfold ws9
  rw [w1, w2, w3]
  refine ⟨fun h => ?_, fun h => ?_⟩
  · rw [h, if_neg (nb κ), if_pos rfl, if_pos rfl, if_neg (nb κ)]
    exact ⟨by rw [p4], by rw [p2]⟩
  · rw [h, Bool.not_not, if_pos rfl, if_pos rfl, if_neg (nb κ), if_neg (nb κ)]
    exact ⟨by rw [p1], by rw [p3]⟩
theorem nF_mono {q : Nat → Bool} : ∀ {a b : Nat}, a ≤ b → nF q a ≤ nF q b := by
  intro a b
  induction b with
  | zero =>
    intro h
    rw [show a = 0 by omega]
    exact Nat.le_refl _
  | succ b ih =>
    intro h
    by_cases h9 : a = b + 1
    · rw [h9]
      exact Nat.le_refl _
    · have := ih (by omega)
      show nF q a ≤ nF q b + _
      omega
theorem nF_lt {q : Nat → Bool} {f n : Nat} (hf : f < n) (hq : q f = true) : nF q f < nF q n := by
  have a := nF_mono (q := q) (show f + 1 ≤ n by omega)
  have b : nF q (f + 1) = nF q f + 1 := by
    show nF q f + (if q f = true then 1 else 0) = _
    rw [if_pos hq]
  omega
theorem nF_sur {q : Nat → Bool} : ∀ {n j : Nat}, j < nF q n → ∃ f, f < n ∧ q f = true ∧ nF q f = j := by
  intro n
  induction n with
  | zero => exact fun h => absurd h (Nat.not_lt_zero _)
  | succ n ih =>
    intro j h
    have e : nF q (n + 1) = nF q n + (if q n = true then 1 else 0) := rfl
    by_cases h9 : j < nF q n
    · obtain ⟨f, f1, f2, f3⟩ := ih h9
      exact ⟨f, by omega, f2, f3⟩
    · by_cases hq : q n = true
      · rw [if_pos hq] at e
        exact ⟨n, by omega, hq, by omega⟩
      · rw [if_neg hq] at e
        omega
theorem nF_split {p r : Nat → Bool} : ∀ n, nF (fun f => p f && (r f == true)) n + nF (fun f => p f && (r f == false)) n = nF p n := by
  intro n
  induction n with
  | zero => rfl
  | succ n ih =>
    show nF (fun f => p f && (r f == true)) n + (if (p n && (r n == true)) = true then 1 else 0) + (nF (fun f => p f && (r f == false)) n + (if (p n && (r n == false)) = true then 1 else 0)) = nF p n + (if p n = true then 1 else 0)
    rw [← ih]
    cases p n <;> cases r n <;> simp <;> omega
theorem ws_k (κ : Bool) (v : Nat) : kS w (ws9 w κ v) = κ ∧ ws9 w κ v / 2 = v ∧ ws9 w κ v < 2 * v + 2 := by
  unfold ws9
  by_cases h : w v = κ
  · rw [if_pos h]
    unfold kS
    rw [if_pos (by omega), show 2 * v / 2 = v by omega]
    exact ⟨h, rfl, by omega⟩
  · rw [if_neg h]
    unfold kS
    rw [if_neg (by omega), show (2 * v + 1) / 2 = v by omega]
    refine ⟨?_, rfl, by omega⟩
    rw [bnot h, Bool.not_not]
theorem ws_of {κ : Bool} {s : Nat} (h : kS w s = κ) : s = ws9 w κ (s / 2) := by
  unfold kS at h
  unfold ws9
  by_cases h2 : s % 2 = 0
  · rw [if_pos h2] at h
    rw [if_pos h]
    omega
  · rw [if_neg h2] at h
    rw [if_neg (fun h9 => by rw [← h9] at h; cases hw : w (s / 2) <;> simp_all)]
    omega
end XSGR
end
section
/-! 99zzzzzzzzzzzzzzzzyzzzb.xsgs -/
/-! signature: the value of a part -/
def qP9 (M : Nat → Int32) (p v : Nat) : Bool := decide (M v = nI p)
def qF9 (ψ : Nat → Nat) (cf : Nat → Bool) (p : Nat) (κ : Bool) (f : Nat) : Bool := decide (ψ f = p) && (cf f == κ)
/-- faces, colours and parts of a plane net -/
def fcD9 (c : Nat) (S : ow_NP) (G : Nat → Int32) (w : Nat → Bool) (n P : Nat) (M : Nat → Int32) (φ ψ : Nat → Nat) (cf : Nat → Bool) : Prop := vn c S ∧ gaO c S w ∧ (∀ s, s < 4 * c → φ s < n) ∧ (∀ s, s < 4 * c → φ (fc_on S G s) = φ s) ∧ (∀ s, s < 4 * c → kS w s = cf (φ s)) ∧ (∀ f, f < n → ψ f < P) ∧ (∀ s, s < 4 * c → M (s / 2) = nI (ψ (φ s))) ∧ (∀ f, f < n → ∃ s, s < 4 * c ∧ φ s = f) ∧ n = c + 2 * P ∧ (∀ v, v < 2 * c → M (S.1 v) = M v ∧ M (mt v) = M v) ∧ (∀ u v, u < 2 * c → v < 2 * c → M u = M v → rch c S u v) ∧ (∀ p, p < P → ∃ v, v < 2 * c ∧ M v = nI p) ∧ c ≤ 12 ∧ n ≤ 48 ∧ P ≤ 24
def kF9 (ψ : Nat → Nat) (cf : Nat → Bool) (n p : Nat) (κ : Bool) : Nat := nF (qF9 ψ cf p κ) n
def cnR9 (w : Nat → Bool) (φ ψ : Nat → Nat) (cf : Nat → Bool) (p : Nat) (κ : Bool) (v : Nat) : Nat := nF (qF9 ψ cf p κ) (φ (ws9 w κ v))
/-- the value -/
def vlG9 (c : Nat) (S : ow_NP) (G : Nat → Int32) (w : Nat → Bool) (n : Nat) (M : Nat → Int32) (φ ψ : Nat → Nat) (cf : Nat → Bool) (p : Nat) : Int := svG9 c S G w (qP9 M p) true (cnR9 w φ ψ cf p true) (kF9 ψ cf n p true)
theorem sumQ_sq {A B : Nat → Nat} : ∀ P, (∀ p, p < P → A p ≤ B p + 2) → sumQ A P ≤ sumQ B P + 2 * P ∧ (sumQ A P = sumQ B P + 2 * P → ∀ p, p < P → A p = B p + 2) := by
  intro P
  induction P with
  | zero => exact fun _ => ⟨Nat.le_refl _, fun _ p hp => absurd hp (Nat.not_lt_zero _)⟩
  | succ P ih =>
    intro h
    obtain ⟨i1, i2⟩ := ih (fun p hp => h p (by omega))
    have hP := h P (by omega)
    have e1 : sumQ A (P + 1) = sumQ A P + A P := rfl
    have e2 : sumQ B (P + 1) = sumQ B P + B P := rfl
    refine ⟨by omega, fun e p hp => ?_⟩
    by_cases h9 : p = P
    · rw [h9]
      omega
    · exact i2 (by omega) p (by omega)
section XSGS
variable {c n P : Nat} {S : ow_NP} {G : Nat → Int32} {w cf : Nat → Bool} {M : Nat → Int32} {φ ψ : Nat → Nat}
theorem ptQ_of (h : fcD9 c S G w n P M φ ψ cf) (p : Nat) : ptQ9 c S (qP9 M p) := by
  obtain ⟨h1, h2, h3, h4, h5, h6, h7, h8, h9, h10, h11, h12, h13, h14, h15⟩ := h
  refine ⟨fun v hv => ?_, fun u v hu hv q1 q2 => ?_⟩
  · unfold qP9
    rw [(h10 v hv).1, (h10 v hv).2]
    exact ⟨rfl, rfl⟩
  · have a := of_decide_eq_true q1
    have b := of_decide_eq_true q2
    exact h11 u v hu hv (by rw [a, b])
theorem fc_ws (h : fcD9 c S G w n P M φ ψ cf) {p : Nat} (hp : p < P) {κ : Bool} {v : Nat} (hv : v < 2 * c) (hq : qP9 M p v = true) : φ (ws9 w κ v) < n ∧ qF9 ψ cf p κ (φ (ws9 w κ v)) = true := by
  obtain ⟨h1, h2, h3, h4, h5, h6, h7, h8, h9, h10, h11, h12, h13, h14, h15⟩ := h
  obtain ⟨a1, a2, a3⟩ := ws_k (w := w) κ v
  have hs : ws9 w κ v < 4 * c := by omega
  have hn := h3 _ hs
  refine ⟨hn, ?_⟩
  have e := h7 _ hs
  rw [a2, of_decide_eq_true hq] at e
  have hl := h6 _ hn
  have e2 := nI_inj9 (by omega) (by omega) e
  have e3 := h5 _ hs
  rw [a1] at e3
  unfold qF9
  rw [decide_eq_true e2.symm, ← e3]
  simp
theorem fc_of (h : fcD9 c S G w n P M φ ψ cf) {p : Nat} {κ : Bool} {f : Nat} (hf : f < n) (hq : qF9 ψ cf p κ f = true) : ∃ v, v < 2 * c ∧ qP9 M p v = true ∧ φ (ws9 w κ v) = f := by
  obtain ⟨h1, h2, h3, h4, h5, h6, h7, h8, h9, h10, h11, h12, h13, h14, h15⟩ := h
  obtain ⟨s, s1, s2⟩ := h8 f hf
  unfold qF9 at hq
  rw [Bool.and_eq_true_iff] at hq
  have q1 := of_decide_eq_true hq.1
  have q2 : cf f = κ := by
    have := hq.2
    simpa using this
  have k1 := h5 s s1
  rw [s2, q2] at k1
  refine ⟨s / 2, by omega, ?_, ?_⟩
  · unfold qP9
    rw [h7 s s1, s2, q1]
    exact decide_eq_true rfl
  · rw [← ws_of k1, s2]
theorem nb_can (h : fcD9 c S G w n P M φ ψ cf) {p : Nat} (hp : p < P) (κ : Bool) : nbG9 c S G w (qP9 M p) κ (cnR9 w φ ψ cf p κ) (kF9 ψ cf n p κ) := by
  refine nb_of (ρ := fun f => nF (qF9 ψ cf p κ) f) h.1 h.2.1 h.2.2.2.1 (fun v hv hq => ?_) (fun j hj => ?_)
  · obtain ⟨a, b⟩ := fc_ws h hp (κ := κ) hv hq
    exact nF_lt a b
  · obtain ⟨f, f1, f2, f3⟩ := nF_sur hj
    obtain ⟨v, v1, v2, v3⟩ := fc_of h f1 f2
    refine ⟨v, v1, v2, ?_⟩
    rw [v3]
    exact f3
theorem kF_pos (h : fcD9 c S G w n P M φ ψ cf) {p : Nat} (hp : p < P) (κ : Bool) : 1 ≤ kF9 ψ cf n p κ := by
  obtain ⟨v, v1, v2⟩ := h.2.2.2.2.2.2.2.2.2.2.2.1 p hp
  obtain ⟨a, b⟩ := fc_ws h hp (κ := κ) v1 (decide_eq_true v2)
  exact nF_pos b n a
/-- Euler for each part -/
theorem eul_p (h : fcD9 c S G w n P M φ ψ cf) {p : Nat} (hp : p < P) (κ : Bool) : kF9 ψ cf n p κ + kF9 ψ cf n p (!κ) = nF (fun x => qP9 M p (2 * x)) c + 2 := by
  have hle : ∀ p, p < P → nF (fun f => decide (ψ f = p)) n ≤ nF (fun x => decide (ψ (φ (4 * x)) = p)) c + 2 := fun p hp => by
    have a := eul_G (κ := true) h.1 h.2.1 (ptQ_of h p) (kF_pos h hp true) (kF_pos h hp false) (nb_can h hp true) (nb_can h hp false)
    have b := nF_split (p := fun f => decide (ψ f = p)) (r := cf) n
    have e : nF (fun x => qP9 M p (2 * x)) c = nF (fun x => decide (ψ (φ (4 * x)) = p)) c := nF_cg c (fun x hx => by
      have e1 := h.2.2.2.2.2.2.1 (4 * x) (by omega)
      rw [show 4 * x / 2 = 2 * x by omega] at e1
      have hl := h.2.2.2.2.2.1 _ (h.2.2.1 (4 * x) (by omega))
      have hP := h.2.2.2.2.2.2.2.2.2.2.2.2.2.2
      unfold qP9
      rw [e1]
      by_cases h9 : ψ (φ (4 * x)) = p
      · rw [h9, decide_eq_true rfl, decide_eq_true rfl]
      · rw [decide_eq_false (fun h8 => h9 (nI_inj9 (by omega) (by omega) h8)), decide_eq_false h9])
    rw [e] at a
    have b2 : kF9 ψ cf n p true + kF9 ψ cf n p false = nF (fun f => decide (ψ f = p)) n := b
    omega
  have s1 := sumQ_nF ψ P n h.2.2.2.2.2.1
  have s2 := sumQ_nF (fun x => ψ (φ (4 * x))) P c (fun x hx => h.2.2.2.2.2.1 _ (h.2.2.1 _ (by omega)))
  have s3 := (sumQ_sq P hle).2 (by rw [s1, s2]; exact h.2.2.2.2.2.2.2.2.1) p hp
  have e : nF (fun x => qP9 M p (2 * x)) c = nF (fun x => decide (ψ (φ (4 * x)) = p)) c := nF_cg c (fun x hx => by
    have e1 := h.2.2.2.2.2.2.1 (4 * x) (by omega)
    rw [show 4 * x / 2 = 2 * x by omega] at e1
    have hl := h.2.2.2.2.2.1 _ (h.2.2.1 (4 * x) (by omega))
    have hP := h.2.2.2.2.2.2.2.2.2.2.2.2.2.2
    unfold qP9
    rw [e1]
    by_cases h9 : ψ (φ (4 * x)) = p
    · rw [h9, decide_eq_true rfl, decide_eq_true rfl]
    · rw [decide_eq_false (fun h8 => h9 (nI_inj9 (by omega) (by omega) h8)), decide_eq_false h9])
  have b := nF_split (p := fun f => decide (ψ f = p)) (r := cf) n
  have b2 : kF9 ψ cf n p true + kF9 ψ cf n p false = nF (fun f => decide (ψ f = p)) n := b
  cases κ with
  | true =>
    show kF9 ψ cf n p true + kF9 ψ cf n p false = _
    omega
  | false =>
    show kF9 ψ cf n p false + kF9 ψ cf n p true = _
    omega
/-- EVERY NUMBERING OF EITHER COLOUR GIVES THE VALUE -/
theorem vl_all (h : fcD9 c S G w n P M φ ψ cf) {p : Nat} (hp : p < P) {κ : Bool} {R : Nat → Nat} (hR : nbG9 c S G w (qP9 M p) κ R (kF9 ψ cf n p κ)) : svG9 c S G w (qP9 M p) κ R (kF9 ψ cf n p κ) = vlG9 c S G w n M φ ψ cf p := by
  have key : ∀ (κ : Bool) (R : Nat → Nat), nbG9 c S G w (qP9 M p) κ R (kF9 ψ cf n p κ) → svG9 c S G w (qP9 M p) κ R (kF9 ψ cf n p κ) = svG9 c S G w (qP9 M p) (!κ) (cnR9 w φ ψ cf p (!κ)) (kF9 ψ cf n p (!κ)) := fun κ R hR => sv_G h.1 h.2.1 (ptQ_of h p) (kF_pos h hp κ) (kF_pos h hp (!κ)) hR (nb_can h hp (!κ)) (eul_p h hp κ)
  cases κ with
  | false => exact key false R hR
  | true =>
    rw [key true R hR]
    exact (key true _ (nb_can h hp true)).symm
end XSGS
/-- the matrix in whole numbers -/
def rwZ9 (S : ow_NP) (G : Nat → Int32) (R : Nat → Nat) (x i : Nat) : Int := zd9 i (R (fV9 G x)) - zd9 i (R (S.2 (fV9 G x)))
def mtZ9 (c : Nat) (S : ow_NP) (G : Nat → Int32) (w q : Nat → Bool) (κ : Bool) (R : Nat → Nat) (i j : Nat) : Int := zS9 (fun x => if q (2 * x) = true then tI9 G w κ x * rwZ9 S G R x i * rwZ9 S G R x j else 0) c
section XSGS2
variable {c : Nat} {S : ow_NP} {G : Nat → Int32} {w q : Nat → Bool} {κ : Bool} {R : Nat → Nat}
theorem rwZ_cs (x i : Nat) : ((rwZ9 S G R x i : Int) : Rat) = rwG9 S G R x i := by
  unfold rwZ9 rwG9
  rw [Rat.intCast_sub, zd_cs, zd_cs]
theorem mtZ_cs : cM9 (mtZ9 c S G w q κ R) = mtG9 c S G w q κ R := by
  funext i j
  show ((mtZ9 c S G w q κ R i j : Int) : Rat) = _
  unfold mtZ9 mtG9
  rw [zS_cs]
  refine qS_cg (fun x _ => ?_)
  by_cases h : q (2 * x) = true
  · rw [if_pos h, if_pos h, Rat.intCast_mul, Rat.intCast_mul, rwZ_cs, rwZ_cs]
  · rw [if_neg h, if_neg h]
    rfl
theorem rw_ab (x i : Nat) : ab9 (rwG9 S G R x i) ≤ 1 := ab_1 _ (by
  unfold rwG9 dl9
  split <;> split <;> grind)
theorem rw_abS (x n : Nat) : qS9 (fun i => ab9 (rwG9 S G R x i)) n ≤ 2 := by
  have d1 : ∀ a n, qS9 (fun i => dl9 i a) n ≤ 1 := fun a n => by
    have b : ∀ i, i < n → dl9 i a = dl9 a i * (fun _ => 1) i := fun i _ => by
      show dl9 i a = dl9 a i * 1
      rw [Rat.mul_one]
      unfold dl9
      by_cases h9 : a = i
      · rw [if_pos h9, if_pos h9.symm]
      · rw [if_neg h9, if_neg (fun h => h9 h.symm)]
    rw [qS_cg b]
    by_cases h9 : a < n
    · have := qD_dl (x := fun _ => (1 : Rat)) h9
      unfold qD9 at this
      rw [this]
      exact Rat.le_refl
    · rw [qS_cg (g := fun _ => 0) (fun i hi => by rw [show dl9 a i = 0 from if_neg (by omega), Rat.zero_mul]), qS_0]
      decide
  have a := qS_le (n := n) (f := fun i => ab9 (rwG9 S G R x i)) (g := fun i => dl9 i (R (fV9 G x)) + dl9 i (R (S.2 (fV9 G x)))) (fun i _ => by
    unfold rwG9
    refine ab_le ?_ ?_
    · unfold dl9
      split <;> split <;> grind
    · unfold dl9
      split <;> split <;> grind)
  rw [qS_add] at a
  have b1 := d1 (R (fV9 G x)) n
  have b2 := d1 (R (S.2 (fV9 G x))) n
  grind
theorem mt_ab (i j : Nat) : ab9 (mtG9 c S G w q κ R i j) ≤ qS9 (fun x => ab9 (rwG9 S G R x i) * ab9 (rwG9 S G R x j)) c := by
  unfold mtG9
  refine Rat.le_trans (ab_sum _) (qS_le (fun x _ => ?_))
  by_cases h : q (2 * x) = true
  · rw [if_pos h, ab_mul, ab_mul]
    have t1 : ab9 ((tI9 G w κ x : Int) : Rat) ≤ 1 := ab_1 _ (by
      rcases tI_pm (G := G) (w := w) (κ := κ) x with h9 | h9
      · exact Or.inl (by rw [h9]; rfl)
      · exact Or.inr (Or.inl (by rw [h9]; rfl)))
    have a := mul_le9 t1 (show ab9 (rwG9 S G R x i) * ab9 (rwG9 S G R x j) ≤ ab9 (rwG9 S G R x i) * ab9 (rwG9 S G R x j) from Rat.le_refl) (Rat.mul_nonneg (ab_nn _) (ab_nn _)) (by decide)
    rw [Rat.one_mul, ← Rat.mul_assoc] at a
    exact a
  · rw [if_neg h]
    refine Rat.le_trans ?_ (Rat.mul_nonneg (ab_nn _) (ab_nn _))
    exact ab_le Rat.le_refl (by grind)
theorem mt_row (i n : Nat) : qS9 (fun j => ab9 (mtG9 c S G w q κ R i j)) n ≤ qS9 (fun x => 2 * ab9 (rwG9 S G R x i)) c := by
  have a := qS_le (n := n) (f := fun j => ab9 (mtG9 c S G w q κ R i j)) (g := fun j => qS9 (fun x => ab9 (rwG9 S G R x i) * ab9 (rwG9 S G R x j)) c) (fun j _ => mt_ab i j)
  rw [qS_sw] at a
  refine Rat.le_trans a (qS_le (fun x _ => ?_))
  rw [qS_mul]
  have b := Rat.mul_le_mul_of_nonneg_left (rw_abS (S := S) (G := G) (R := R) x n) (ab_nn (rwG9 S G R x i))
  grind
theorem mt_bd {E : Nat → Int} {n : Nat} (hc : c ≤ 12) (hE : ∀ k, ((E k : Int) : Rat) = qE9 (cM9 (mtZ9 c S G w q κ R)) n k) : ∀ k : Nat, k ≤ 12 → rI9 ((k : Int) * E k) := by
  rw [mtZ_cs] at hE
  have cc : ((c : Nat) : Rat) ≤ 12 := by
    have : ((c : Int) : Rat) ≤ ((12 : Int) : Rat) := Rat.intCast_le_intCast.mpr (by omega)
    exact this
  have r1 : ∀ i, i < n → qS9 (fun j => ab9 (mtG9 c S G w q κ R i j)) n ≤ 24 := fun i _ => by
    refine Rat.le_trans (mt_row i n) ?_
    have a := qS_le (n := c) (f := fun x => 2 * ab9 (rwG9 S G R x i)) (g := fun _ => 2) (fun x _ => by
      have := rw_ab (S := S) (G := G) (R := R) x i
      show 2 * ab9 (rwG9 S G R x i) ≤ 2
      grind)
    rw [qS_c] at a
    grind
  have r2 : qS9 (fun i => qS9 (fun j => ab9 (mtG9 c S G w q κ R i j)) n) n ≤ 2 * 24 := by
    have a := qS_le (n := n) (f := fun i => qS9 (fun j => ab9 (mtG9 c S G w q κ R i j)) n) (g := fun i => qS9 (fun x => 2 * ab9 (rwG9 S G R x i)) c) (fun i _ => mt_row i n)
    rw [qS_sw (m := c) (k := n)] at a
    have b := qS_le (n := c) (f := fun x => qS9 (fun i => 2 * ab9 (rwG9 S G R x i)) n) (g := fun _ => 4) (fun x _ => by
      show qS9 (fun i => 2 * ab9 (rwG9 S G R x i)) n ≤ 4
      rw [qS_mul]
      have := rw_abS (S := S) (G := G) (R := R) x n
      grind)
    rw [qS_c] at b
    grind
  have r3 := qE_bd (A := mtG9 c S G w q κ R) (n := n) (s := 24) (by decide) r1 r2
  intro k hk
  have a := r3 k
  rw [← hE k] at a
  have g1 := ab_ge ((E k : Int) : Rat)
  have cs : ((k : Rat) + 1) * (24 : Rat) ^ k = ((((k + 1) * 24 ^ k : Nat) : Int) : Rat) := by
    rw [show ((((k + 1) * 24 ^ k : Nat) : Int) : Rat) = (((k + 1) * 24 ^ k : Nat) : Rat) from rfl, Rat.natCast_mul, cs_s, Rat.natCast_pow]
    rfl
  rw [cs] at a
  have u1 : E k ≤ (((k + 1) * 24 ^ k : Nat) : Int) := Rat.intCast_le_intCast.mp (Rat.le_trans g1.1 a)
  have u2 : -E k ≤ (((k + 1) * 24 ^ k : Nat) : Int) := Rat.intCast_le_intCast.mp (by
    rw [Rat.intCast_neg]
    exact Rat.le_trans g1.2 a)
  have key : ∀ k : Fin 13, k.val * ((k.val + 1) * 24 ^ k.val) < 9223372036854775808 := by decide +kernel
  have k9 := key ⟨k, by omega⟩
  dsimp only at k9
  generalize (k + 1) * 24 ^ k = B at u1 u2 k9
  have v1 := Int.mul_le_mul_of_nonneg_left u1 (show (0 : Int) ≤ (k : Int) by omega)
  have v2 := Int.mul_le_mul_of_nonneg_left u2 (show (0 : Int) ≤ (k : Int) by omega)
  rw [Int.mul_neg] at v2
  have k10 : (k : Int) * (B : Int) < 9223372036854775808 := by
    have : ((k * B : Nat) : Int) < 9223372036854775808 := by omega
    rw [Int.natCast_mul] at this
    exact this
  unfold rI9
  omega
end XSGS2
end
