section
/-! 99zzzzzzzzzzzzzzzzyzzw.xsgn -/
/-! signature, the class: the coefficients and their changes of sign, exactly -/
theorem usJ_o9 {z : ow_MS} {h g i : Nat} {x : Int64} (hg : g ≠ h) : (usJ z h i x).2.2 g = z.2.2 g := if_neg hg
/-- a long holds the number -/
def rI9 (a : Int) : Prop := -9223372036854775808 < a ∧ a < 9223372036854775808
/-- changes of sign read from place r - 1 down, the last one being l -/
def gC9 (d : Nat → Int) : Nat → Int → Nat
  | 0, _ => 0
  | r + 1, l => if d r = 0 then gC9 d r l else (if opp9 l (d r) then 1 else 0) + gC9 d r (d r)
section XSGN
theorem rI_t {a : Int} (h : rI9 a) : (Int64.ofInt a).toInt = a := Int64.toInt_ofInt_of_le (by have := h.1; omega) (by have := h.2; omega)
theorem lg_0 {a : Int} (h : rI9 a) : lg_cmp (Int64.ofInt a) 0 = 0 ↔ a = 0 := by
  rw [lg_cmp_eq, ← Int64.toInt_inj, rI_t h]
  rfl
theorem lg_g {a : Int} (h : rI9 a) : 0 < lg_cmp (Int64.ofInt a) 0 ↔ 0 < a := by
  rw [lg_cmp_gt, Int64.lt_iff_toInt_lt, rI_t h]
  rfl
theorem lg_ge {a : Int} (h : rI9 a) : 0 ≤ lg_cmp (Int64.ofInt a) 0 ↔ 0 ≤ a := by
  rw [lg_cmp_ge, Int64.le_iff_toInt_le, rI_t h]
  rfl
theorem lg_le {a : Int} (h : rI9 a) : lg_cmp (Int64.ofInt a) 0 ≤ 0 ↔ a ≤ 0 := by
  rw [lg_cmp_le, Int64.le_iff_toInt_le, rI_t h]
  rfl
theorem gC_wv (d : Nat → Int) : ∀ n l, gC9 d (n + 1) l = (wv9 d n).1 + (if opp9 l (wv9 d n).2 then 1 else 0) := by
  intro n
  induction n with
  | zero =>
    intro l
    show (if d 0 = 0 then 0 else (if opp9 l (d 0) then 1 else 0) + 0) = 0 + (if opp9 l (d 0) then 1 else 0)
    by_cases h : d 0 = 0
    · rw [if_pos h, if_neg (by rw [h]; unfold opp9; omega)]
    · rw [if_neg h]
      omega
  | succ n ih =>
    intro l
    show (if d (n + 1) = 0 then gC9 d (n + 1) l else (if opp9 l (d (n + 1)) then 1 else 0) + gC9 d (n + 1) (d (n + 1))) = _
    by_cases h : d (n + 1) = 0
    · rw [if_pos h, wv_z h, ih]
    · rw [if_neg h, wv_s h, ih]
      show _ = (wv9 d n).1 + (if opp9 (wv9 d n).2 (d (n + 1)) then 1 else 0) + (if opp9 l (d (n + 1)) then 1 else 0)
      have e : opp9 (d (n + 1)) (wv9 d n).2 ↔ opp9 (wv9 d n).2 (d (n + 1)) := by
        unfold opp9
        omega
      by_cases h9 : opp9 (wv9 d n).2 (d (n + 1))
      · rw [if_pos h9, if_pos (e.mpr h9)]
        omega
      · rw [if_neg h9, if_neg (fun h8 => h9 (e.mp h8))]
        omega
theorem gC_0 (d : Nat → Int) (n : Nat) : gC9 d (n + 1) 0 = (wv9 d n).1 := by
  rw [gC_wv, if_neg (by unfold opp9; omega)]
  rfl
theorem zn_s {k : Nat} : zn9 (k + 1) = -zn9 k := by
  unfold zn9
  rcases Nat.mod_two_eq_zero_or_one k with h | h
  · rw [if_pos h, if_neg (by omega)]
  · rw [if_pos (show (k + 1) % 2 = 0 by omega), if_neg (show ¬ k % 2 = 0 by omega)]
    rfl
theorem zn_pm (k : Nat) : zn9 k = 1 ∨ zn9 k = -1 := by
  unfold zn9
  split
  · exact Or.inl rfl
  · exact Or.inr rfl
theorem zn_a {k : Nat} : ∀ j, zn9 k * zn9 j = zn9 (k + j) := by
  intro j
  induction j with
  | zero => exact Int.mul_one _
  | succ j ih =>
    rw [zn_s, show k + (j + 1) = k + j + 1 from rfl, zn_s, ← ih, Int.mul_neg]
theorem rI_zn {a : Int} (k : Nat) (h : rI9 a) : rI9 (zn9 k * a) := by
  unfold rI9 at *
  rcases zn_pm k with h9 | h9 <;> rw [h9] <;> omega
theorem rI_of {a : Int} {k : Nat} (hk : 1 ≤ k) (h : rI9 ((k : Int) * a)) : rI9 a := by
  unfold rI9 at *
  have h1 : (1 : Int) ≤ (k : Int) := by omega
  rcases Int.le_total 0 a with h2 | h2
  · have := Int.mul_le_mul_of_nonneg_right h1 h2
    omega
  · have := Int.mul_le_mul_of_nonpos_right h1 h2
    omega
variable {vl : Nat → Nat} {y : ow_MS}
theorem te_signChanges {n : Nat} {x2 : Int32} {d : Nat → Int} (hn : n ≤ 8) (hx : x2 = 1 ∨ x2 = -1) (hd : ∀ i, i ≤ n → y.2.2 6008 i * (if x2 = -1 ∧ i % 2 = 1 then (-1 : Int32).toInt64 else (1 : Int32).toInt64) = Int64.ofInt (d (n - i)) ∧ rI9 (d (n - i))) : Te (fun K => ce_X4_signChanges vl K 6000 (nI n) x2 y) (fun r => r.1 = nI (wv9 d n).1 ∧ r.2 = y) := by
  have c1 : ∀ (r i cnt : Nat) (l : Int), i + r = n + 1 → rI9 l → Tt (fun K k => c_X4_signChanges vl K k 1 (nI n) x2 (nI cnt) (nI i) (Int64.ofInt l) 0 6000 0 0 0 y) (fun o => o.1 = nI (cnt + gC9 d r l) ∧ o.2 = y) := by
    intro r
    induction r with
    | zero =>
      intro i cnt l hi hl
      refine u_X4_signChanges_1 ?_; unfold cm_X4_signChanges_1
      exact w_ltT (by omega) (by omega) (w_some ⟨rfl, rfl⟩)
    | succ r ih =>
      intro i cnt l hi hl
      obtain ⟨hd1, hd2⟩ := hd i (by omega)
      rw [show n - i = r by omega] at hd1 hd2
      have c7 : ∀ (cnt2 : Nat) (l2 : Int) (w7 : Int64), rI9 l2 → cnt2 + gC9 d r l2 = cnt + gC9 d (r + 1) l → Tt (fun K k => c_X4_signChanges vl K k 7 (nI n) x2 (nI cnt2) (nI i) (Int64.ofInt l2) w7 6000 0 0 0 y) (fun o => o.1 = nI (cnt + gC9 d (r + 1) l) ∧ o.2 = y) := by
        intro cnt2 l2 w7 h1 h2
        refine u_X4_signChanges_7 ?_; unfold cm_X4_signChanges_7
        rw [nI_1, ← h2]
        exact ih (i + 1) cnt2 l2 (by omega) h1
      have c6 : ∀ (cnt2 : Nat), cnt2 + gC9 d r (d r) = cnt + gC9 d (r + 1) l → Tt (fun K k => c_X4_signChanges vl K k 6 (nI n) x2 (nI cnt2) (nI i) (Int64.ofInt l) (Int64.ofInt (d r)) 6000 0 0 0 y) (fun o => o.1 = nI (cnt + gC9 d (r + 1) l) ∧ o.2 = y) := by
        intro cnt2 h2
        refine u_X4_signChanges_6 ?_; unfold cm_X4_signChanges_6
        exact c7 cnt2 (d r) _ hd2 h2
      have hg : d r ≠ 0 → gC9 d (r + 1) l = (if opp9 l (d r) then 1 else 0) + gC9 d r (d r) := fun h => if_neg h
      have c5 : d r ≠ 0 → opp9 l (d r) → Tt (fun K k => c_X4_signChanges vl K k 5 (nI n) x2 (nI cnt) (nI i) (Int64.ofInt l) (Int64.ofInt (d r)) 6000 0 0 0 y) (fun o => o.1 = nI (cnt + gC9 d (r + 1) l) ∧ o.2 = y) := by
        intro h0 ho
        refine u_X4_signChanges_5 ?_; unfold cm_X4_signChanges_5
        rw [nI_1 cnt]
        exact c6 (cnt + 1) (by rw [hg h0, if_pos ho]; omega)
      have c4 : d r ≠ 0 → ¬ (l < 0 ∧ 0 < d r) → Tt (fun K k => c_X4_signChanges vl K k 4 (nI n) x2 (nI cnt) (nI i) (Int64.ofInt l) (Int64.ofInt (d r)) 6000 0 0 0 y) (fun o => o.1 = nI (cnt + gC9 d (r + 1) l) ∧ o.2 = y) := by
        intro h0 hno
        refine u_X4_signChanges_4 ?_; unfold cm_X4_signChanges_4
        refine w_if (fun h1 => ?_) (fun h1 => w_if (fun h2 => ?_) (fun h2 => ?_))
        · rw [lg_le hl] at h1
          exact c6 cnt (by rw [hg h0, if_neg (by unfold opp9; omega)]; omega)
        · rw [lg_ge hd2] at h2
          exact c6 cnt (by rw [hg h0, if_neg (by unfold opp9; omega)]; omega)
        · rw [lg_le hl] at h1
          rw [lg_ge hd2] at h2
          exact c5 h0 (by unfold opp9; omega)
      have c3 : ∀ (t0 : Int32) (y1 : Int64), y1 * t0.toInt64 = Int64.ofInt (d r) → Tt (fun K k => c_X4_signChanges vl K k 3 (nI n) x2 (nI cnt) (nI i) (Int64.ofInt l) 0 6000 t0 0 y1 y) (fun o => o.1 = nI (cnt + gC9 d (r + 1) l) ∧ o.2 = y) := by
        intro t0 y1 he
        refine u_X4_signChanges_3 ?_; unfold cm_X4_signChanges_3
        rw [he]
        refine w_if (fun h0 => ?_) (fun h0 => w_if (fun h1 => ?_) (fun h1 => w_if (fun h2 => ?_) (fun h2 => ?_)))
        · rw [lg_0 hd2] at h0
          exact c7 cnt l _ hl (by rw [show gC9 d (r + 1) l = gC9 d r l from if_pos h0])
        · rw [lg_0 hd2] at h0
          rw [lg_ge hl] at h1
          exact c4 h0 (by omega)
        · rw [lg_0 hd2] at h0
          rw [lg_ge hl] at h1
          rw [lg_g hd2] at h2
          exact c5 h0 (by unfold opp9; omega)
        · rw [lg_0 hd2] at h0
          rw [lg_g hd2] at h2
          exact c4 h0 (by omega)
      have c2 : ∀ (y0 : Int64), y0 * (1 : Int32).toInt64 = Int64.ofInt (d r) → Tt (fun K k => c_X4_signChanges vl K k 2 (nI n) x2 (nI cnt) (nI i) (Int64.ofInt l) 0 6000 0 y0 0 y) (fun o => o.1 = nI (cnt + gC9 d (r + 1) l) ∧ o.2 = y) := by
        intro y0 he
        refine u_X4_signChanges_2 ?_; unfold cm_X4_signChanges_2
        exact c3 1 y0 he
      have an : nI i &&& 1 = 1 ↔ i % 2 = 1 := by
        have key : ∀ i : Fin 9, (nI i.val &&& 1 = 1 ↔ i.val % 2 = 1) := by decide +kernel
        exact key ⟨i, by omega⟩
      refine u_X4_signChanges_1 ?_; unfold cm_X4_signChanges_1
      refine w_ltF (by omega) (by omega) (w_crJ ch_6008 rfl (by omega) rfl (w_if (fun h1 => ?_) (fun h1 => w_if (fun h2 => ?_) (fun h2 => ?_))))
      · refine c2 _ ?_
        rw [if_neg (fun h9 => by rw [h9.1] at h1; exact absurd h1 (by decide))] at hd1
        exact hd1
      · refine c3 _ _ ?_
        have hx1 : x2 = -1 := by
          rcases hx with h9 | h9
          · rw [h9] at h1
            exact absurd (by decide) h1
          · exact h9
        rw [if_pos ⟨hx1, an.mp h2⟩] at hd1
        exact hd1
      · refine c2 _ ?_
        rw [if_neg (fun h9 => h2 (an.mpr h9.2))] at hd1
        exact hd1
  refine e_X4_signChanges ?_
  refine u_X4_signChanges_0 ?_; unfold cm_X4_signChanges_0
  have := c1 (n + 1) 0 0 0 (by omega) (by unfold rI9; omega)
  rw [gC_0, Nat.zero_add] at this
  exact this
end XSGN
end
section
/-! 99zzzzzzzzzzzzzzzzyzzx.xsgo -/
/-! signature, the class: the characteristic polynomial, exactly -/
section XSGO
theorem zS_mul {c : Int} {f : Nat → Int} : ∀ {n : Nat}, zS9 (fun i => c * f i) n = c * zS9 f n := by
  intro n
  induction n with
  | zero => exact (Int.mul_zero c).symm
  | succ n ih =>
    show zS9 (fun i => c * f i) n + c * f n = c * (zS9 f n + f n)
    rw [ih, Int.mul_add]
variable {vl : Nat → Nat} {y : ow_MS} {M : Nat → Nat → Int} {E : Nat → Int}
theorem zN_s {n j k i : Nat} : zS9 (fun m => M i m * zN9 n M E j k m) n = E (k + 1) * zd9 j i - zN9 n M E j (k + 1) i := by
  show _ = E (k + 1) * zd9 j i - (E (k + 1) * zd9 j i - zS9 (fun m => M i m * zN9 n M E j k m) n)
  omega
theorem te_findChar {n : Nat} (hn : n ≤ 8) (hM : ∀ i j, i < n → j < n → y.2.2 6005 (8 * i + j) = Int64.ofInt (M i j)) (hE : ∀ k, ((E k : Int) : Rat) = qE9 (cM9 M) n k) (hb : ∀ k, k ≤ n → rI9 ((k : Int) * E k)) : Te (fun K => ce_X4_findCharacteristic vl K 6000 (nI n) y) (fun y1 => fr fcP y y1 ∧ ∀ m, m ≤ n → y1.2.2 6008 (n - m) = Int64.ofInt (zn9 m * E m)) := by
  have E0 : E 0 = 1 := by
    have := hE 0
    rw [qE_0] at this
    exact Rat.intCast_inj.mp this
  let Q : ow_MS → Prop := fun y1 => fr fcP y y1 ∧ ∀ m, m ≤ n → y1.2.2 6008 (n - m) = Int64.ofInt (zn9 m * E m)
  -- what stands before step k
  let Ch : Nat → ow_MS → Prop := fun k z => fr fcP y z ∧ ∀ m, m < k → z.2.2 6008 (n - m) = Int64.ofInt (zn9 m * E m)
  have c1 : ∀ (d k : Nat) (z : ow_MS), k + d = n + 1 → 1 ≤ k → Ch k z → (∀ i j, i < n → j < n → z.2.2 6006 (8 * i + j) = Int64.ofInt (zn9 (k - 1) * (zN9 n M E j (k - 1) i - E (k - 1) * zd9 j i))) → Tt (fun K t => c_X4_findCharacteristic vl K t 1 (nI n) (nI k) 0 0 0 0 0 0 6000 z) Q := by
    intro d
    induction d with
    | zero =>
      intro k z hk _ hz _
      refine u_X4_findCharacteristic_1 ?_; unfold cm_X4_findCharacteristic_1
      exact w_ltT (by omega) (by omega) (w_some ⟨hz.1, fun m hm => hz.2 m (by omega)⟩)
    | succ d ih =>
      intro k z hk hk1 hz hp
      have hnz : (nI k).toInt64 ≠ 0 := by
        have key : ∀ k : Fin 9, 1 ≤ k.val → (nI k.val).toInt64 ≠ 0 := by decide +kernel
        exact key ⟨k, by omega⟩ hk1
      have hk64 : (nI k).toInt64 = Int64.ofInt (k : Int) := by
        have key : ∀ k : Fin 9, (nI k.val).toInt64 = Int64.ofInt (k.val : Int) := by decide +kernel
        exact key ⟨k, by omega⟩
      have e1 : nI n - nI k = nI (n - k) := pk_sub (by omega)
      have zk : zn9 k = -zn9 (k - 1) := by
        have := zn_s (k := k - 1)
        rw [show k - 1 + 1 = k by omega] at this
        exact this
      have M0 : ∀ z : ow_MS, fr fcP y z → ∀ i j, i < n → j < n → z.2.2 6005 (8 * i + j) = Int64.ofInt (M i j) := fun z hf i j hi hj => by
        rw [(hf 6005 (by unfold fcP; omega)).2.2]
        exact hM i j hi hj
      -- rows of the product
      have c3 : ∀ (e i : Nat) (w3 : Int64) (z : ow_MS), i + e = n → Ch k z → w3 = Int64.ofInt (zn9 (k - 1) * zS9 (fun a => E k - zN9 n M E a k a) i) → (∀ a b, a < n → b < n → z.2.2 6006 (8 * a + b) = Int64.ofInt (zn9 (k - 1) * zN9 n M E b (k - 1) a)) → (∀ a b, a < i → b < n → z.2.2 6007 (8 * a + b) = Int64.ofInt (zn9 k * (zN9 n M E b k a - E k * zd9 b a))) → Tt (fun K t => c_X4_findCharacteristic vl K t 3 (nI n) (nI k) 0 (nI i) 0 0 w3 0 6000 z) Q := by
        intro e
        induction e with
        | zero =>
          intro i w3 z hi hz hw3 hp hq
          have hi : i = n := by omega
          subst hi
          rw [zN_tr hE] at hw3
          have bk := hb k (by omega)
          have dv : (-w3) / (nI k).toInt64 = Int64.ofInt (zn9 k * E k) := by
            have h1 : rI9 (zn9 k * ((k : Int) * E k)) := rI_zn k bk
            have h2 : -w3 = Int64.ofInt (zn9 k * ((k : Int) * E k)) := by
              rw [hw3, ← Int64.ofInt_neg, zk, Int.neg_mul]
            have h3 : zn9 k * ((k : Int) * E k) = (zn9 k * E k) * (k : Int) := by
              rw [Int.mul_comm (k : Int), Int.mul_assoc]
            rw [h2, hk64, ← Int64.ofInt_tdiv (by have := h1.1; show (-9223372036854775808 : Int) ≤ _; omega) (by have := h1.2; show _ ≤ (9223372036854775807 : Int); omega) (by show (-9223372036854775808 : Int) ≤ _; omega) (by show _ ≤ (9223372036854775807 : Int); omega), h3, Int.mul_tdiv_cancel _ (by omega)]
          refine u_X4_findCharacteristic_3 ?_; unfold cm_X4_findCharacteristic_3
          rw [e1, nI_1, dv]
          refine w_leT (by omega) (by omega) (w_nzJ hnz (w_ctJ ch_6008 rfl (by omega) (w_cpJ (a := 0) (b := 0) (n := 64) ch_6007 ch_6006 rfl rfl rfl (by omega) (by omega) (ih (k + 1) _ (by omega) (by omega) ⟨?_, fun m hm => ?_⟩ (fun a b ha hb2 => ?_)))))
          · intro g hg
            have h1 := (fr_J2 (i := i - k) (y := Int64.ofInt (zn9 k * E k)) hz.1 (show fcP (6000 + 8) from Or.inr (Or.inr rfl))) g hg
            refine ⟨h1.1, h1.2.1, ?_⟩
            have hne : g ≠ 6000 + 6 := fun h9 => hg (by rw [h9]; exact Or.inl rfl)
            exact (if_neg hne).trans h1.2.2
          · show (if (6008 : Nat) = 6000 + 6 then va_cpy ((usJ z (6000 + 8) (i - k) (Int64.ofInt (zn9 k * E k))).2.2 (6000 + 7)) ((usJ z (6000 + 8) (i - k) (Int64.ofInt (zn9 k * E k))).2.2 (6000 + 6)) 0 0 64 else (usJ z (6000 + 8) (i - k) (Int64.ofInt (zn9 k * E k))).2.2 6008) (i - m) = _
            rw [if_neg (by omega)]
            by_cases h9 : m = k
            · rw [h9]
              exact usJ_at
            · rw [show (usJ z (6000 + 8) (i - k) (Int64.ofInt (zn9 k * E k))).2.2 6008 (i - m) = z.2.2 6008 (i - m) from usJ_ne (by omega)]
              exact hz.2 m (by omega)
          · show (if (6006 : Nat) = 6000 + 6 then va_cpy ((usJ z (6000 + 8) (i - k) (Int64.ofInt (zn9 k * E k))).2.2 (6000 + 7)) ((usJ z (6000 + 8) (i - k) (Int64.ofInt (zn9 k * E k))).2.2 (6000 + 6)) 0 0 64 else (usJ z (6000 + 8) (i - k) (Int64.ofInt (zn9 k * E k))).2.2 6006) (8 * a + b) = _
            rw [if_pos (by omega)]
            have cp : ∀ F H : Nat → Int64, va_cpy F H 0 0 64 (8 * a + b) = F (8 * a + b) := fun F H => by
              show (if 0 ≤ 8 * a + b ∧ 8 * a + b < 0 + 64 then F (0 + (8 * a + b - 0)) else H (8 * a + b)) = _
              rw [if_pos ⟨by omega, by omega⟩, show 0 + (8 * a + b - 0) = 8 * a + b by omega]
            rw [cp, usJ_o9 (by omega), show k + 1 - 1 = k by omega]
            exact hq a b ha hb2
        | succ e ihe =>
          intro i w3 z hi hz hw3 hp hq
          have c4 : ∀ (e2 j : Nat) (z : ow_MS), j + e2 = n → Ch k z → (∀ a b, a < n → b < n → z.2.2 6006 (8 * a + b) = Int64.ofInt (zn9 (k - 1) * zN9 n M E b (k - 1) a)) → (∀ a b, b < n → a < i ∨ a = i ∧ b < j → z.2.2 6007 (8 * a + b) = Int64.ofInt (zn9 k * (zN9 n M E b k a - E k * zd9 b a))) → Tt (fun K t => c_X4_findCharacteristic vl K t 4 (nI n) (nI k) 0 (nI i) (nI j) 0 w3 0 6000 z) Q := by
            intro e2
            induction e2 with
            | zero =>
              intro j z hj hz hp hq
              refine u_X4_findCharacteristic_4 ?_; unfold cm_X4_findCharacteristic_4
              rw [ix8, nI_1]
              refine w_leT (by omega) (by omega) (w_crJ ch_6007 rfl (by omega) (hq i i (by omega) (Or.inr ⟨rfl, by omega⟩)) (ihe (i + 1) _ z (by omega) hz ?_ hp (fun a b ha hb2 => hq a b hb2 (by omega))))
              rw [hw3, ← Int64.ofInt_add]
              refine congrArg Int64.ofInt ?_
              show _ = zn9 (k - 1) * (zS9 (fun a => E k - zN9 n M E a k a) i + (E k - zN9 n M E i k i))
              rw [zk, show zd9 i i = 1 from if_pos rfl, Int.mul_add, Int.mul_one, Int.neg_mul, ← Int.mul_neg]
              congr 2
              omega
            | succ e2 ih2 =>
              intro j z hj hz hp hq
              have c5 : ∀ (e3 m : Nat) (w7 : Int64), m + e3 = n → w7 = Int64.ofInt (zn9 (k - 1) * zS9 (fun m => M i m * zN9 n M E j (k - 1) m) m) → Tt (fun K t => c_X4_findCharacteristic vl K t 5 (nI n) (nI k) 0 (nI i) (nI j) (nI m) w3 w7 6000 z) Q := by
                intro e3
                induction e3 with
                | zero =>
                  intro m w7 hm hw7
                  have hm : m = n := by omega
                  rw [hm, zN_s, show k - 1 + 1 = k by omega] at hw7
                  have hw8 : w7 = Int64.ofInt (zn9 k * (zN9 n M E j k i - E k * zd9 j i)) := by
                    rw [hw7, zk, Int.neg_mul, ← Int.mul_neg]
                    refine congrArg (fun t => Int64.ofInt (zn9 (k - 1) * t)) ?_
                    omega
                  refine u_X4_findCharacteristic_5 ?_; unfold cm_X4_findCharacteristic_5
                  rw [ix8, nI_1 j]
                  refine w_leT (by omega) (by omega) (w_ctJ ch_6007 rfl (by omega) (ih2 (j + 1) _ (by omega) ⟨fr_J2 hz.1 (Or.inr (Or.inl rfl)), fun m hm => ?_⟩ (fun a b ha hb2 => ?_) (fun a b hb2 hab => ?_)))
                  · rw [usJ_o9 (by omega)]
                    exact hz.2 m hm
                  · rw [usJ_o9 (by omega)]
                    exact hp a b ha hb2
                  · by_cases h9 : a = i ∧ b = j
                    · obtain ⟨h8, h7⟩ := h9
                      subst h8
                      subst h7
                      exact usJ_at.trans hw8
                    · rw [show (usJ z (6000 + 7) (8 * i + j) w7).2.2 6007 (8 * a + b) = z.2.2 6007 (8 * a + b) from usJ_ne (by omega)]
                      exact hq a b hb2 (by omega)
                | succ e3 ih3 =>
                  intro m w7 hm hw7
                  refine u_X4_findCharacteristic_5 ?_; unfold cm_X4_findCharacteristic_5
                  refine w_leF (by omega) (by omega) (w_crJ ch_6005 (ix8 i m) (by omega) (M0 z hz.1 i m (by omega) (by omega)) (w_crJ ch_6006 (ix8 m j) (by omega) (hp m j (by omega) (by omega)) ?_))
                  rw [nI_1]
                  refine ih3 (m + 1) _ (by omega) ?_
                  rw [hw7, ← Int64.ofInt_mul, ← Int64.ofInt_add]
                  refine congrArg Int64.ofInt ?_
                  show _ = zn9 (k - 1) * (zS9 (fun m => M i m * zN9 n M E j (k - 1) m) m + M i m * zN9 n M E j (k - 1) m)
                  rw [Int.mul_add, ← Int.mul_assoc (M i m), Int.mul_comm (M i m), Int.mul_assoc]
              refine u_X4_findCharacteristic_4 ?_; unfold cm_X4_findCharacteristic_4
              exact w_leF (by omega) (by omega) (c5 n 0 _ (by omega) (by rw [show zS9 (fun m => M i m * zN9 n M E j (k - 1) m) 0 = 0 from rfl, Int.mul_zero]; rfl))
          refine u_X4_findCharacteristic_3 ?_; unfold cm_X4_findCharacteristic_3
          exact w_leF (by omega) (by omega) (c4 n 0 z (by omega) hz hp (fun a b hb2 hab => hq a b (by omega) hb2))
      have c2 : ∀ (e i : Nat) (z : ow_MS), i + e = n → Ch k z → (∀ a b, a < n → b < n → z.2.2 6006 (8 * a + b) = Int64.ofInt (zn9 (k - 1) * (zN9 n M E b (k - 1) a - (if a < i then 0 else E (k - 1) * zd9 b a)))) → Tt (fun K t => c_X4_findCharacteristic vl K t 2 (nI n) (nI k) (nI i) 0 0 0 0 0 6000 z) Q := by
        intro e
        induction e with
        | zero =>
          intro i z hi hz hp
          refine u_X4_findCharacteristic_2 ?_; unfold cm_X4_findCharacteristic_2
          refine w_leT (by omega) (by omega) (c3 n 0 _ z (by omega) hz ?_ (fun a b ha hb2 => ?_) (fun a b ha => absurd ha (by omega)))
          · rw [show zS9 (fun a => E k - zN9 n M E a k a) 0 = 0 from rfl, Int.mul_zero]
            rfl
          · rw [hp a b ha hb2, if_pos (by omega), Int.sub_zero]
        | succ e ihe =>
          intro i z hi hz hp
          have r1 := hp i i (by omega) (by omega)
          have r2 := hz.2 (k - 1) (by omega)
          rw [show n - (k - 1) = n - k + 1 by omega] at r2
          refine u_X4_findCharacteristic_2 ?_; unfold cm_X4_findCharacteristic_2
          rw [e1, ix8, nI_1, nI_1]
          refine w_leF (by omega) (by omega) (w_crJ ch_6006 rfl (by omega) r1 (w_crJ ch_6008 rfl (by omega) r2 (w_ctJ ch_6006 rfl (by omega) (ihe (i + 1) _ (by omega) ⟨fr_J2 hz.1 (Or.inl rfl), fun m hm => ?_⟩ (fun a b ha hb2 => ?_)))))
          · rw [usJ_o9 (by omega)]
            exact hz.2 m hm
          · by_cases h9 : a = i ∧ b = i
            · obtain ⟨h8, h7⟩ := h9
              subst h8
              subst h7
              rw [show (usJ z (6000 + 6) (8 * b + b) _).2.2 6006 (8 * b + b) = _ from usJ_at, if_neg (by omega), if_pos (by omega), ← Int64.ofInt_add, show zd9 b b = 1 from if_pos rfl]
              refine congrArg Int64.ofInt ?_
              rw [Int.mul_one, Int.mul_sub, Int.sub_zero]
              omega
            · rw [show (usJ z (6000 + 6) (8 * i + i) _).2.2 6006 (8 * a + b) = z.2.2 6006 (8 * a + b) from usJ_ne (by omega), hp a b ha hb2]
              by_cases h8 : a = i
              · rw [if_neg (by omega), if_pos (by omega), show zd9 b a = 0 from if_neg (by omega), Int.mul_zero]
              · by_cases h7 : a < i
                · rw [if_pos h7, if_pos (by omega)]
                · rw [if_neg h7, if_neg (by omega)]
      refine u_X4_findCharacteristic_1 ?_; unfold cm_X4_findCharacteristic_1
      refine w_ltF (by omega) (by omega) (c2 n 0 z (by omega) hz (fun a b ha hb2 => ?_))
      rw [hp a b ha hb2, if_neg (by omega)]
  refine e_X4_findCharacteristic ?_
  refine u_X4_findCharacteristic_0 ?_; unfold cm_X4_findCharacteristic_0
  refine w_cs0 (tc_fillJ ch_6008 (by omega)) ?_
  rintro z1 ⟨-, f1⟩
  refine w_cs0 (tc_fillJ ch_6006 (by omega)) ?_
  rintro z2 ⟨g2, f2⟩
  refine w_ctJ ch_6008 rfl (by omega) (c1 n 1 _ (by omega) (by omega) ⟨fr_J2 (fr_tr (fr_mono (fun g hg => Or.inr (Or.inr hg)) f1) (fr_mono (fun g hg => Or.inl hg) f2)) (Or.inr (Or.inr rfl)), fun m hm => ?_⟩ (fun i j hi hj => ?_))
  · have hm : m = 0 := by omega
    subst hm
    rw [E0]
    exact usJ_at
  · rw [usJ_o9 (by omega)]
    have e9 : z2.2.2 6006 (8 * i + j) = 0 := g2 (8 * i + j) (by omega)
    rw [e9, show 1 - 1 = 0 from rfl, E0]
    show (0 : Int64) = Int64.ofInt (zn9 0 * (zd9 j i - 1 * zd9 j i))
    rw [Int.one_mul, Int.sub_self, Int.mul_zero]
    rfl
theorem tw_zn {E : Nat → Int} : (fun k => zn9 k * E k) = tw9 E := by
  funext k
  unfold zn9 tw9
  split
  · exact Int.one_mul _
  · omega
theorem wv_neg {e : Nat → Int} : ∀ n, wv9 (fun k => -e k) n = ((wv9 e n).1, -(wv9 e n).2) := by
  intro n
  induction n with
  | zero => rfl
  | succ n ih =>
    by_cases h : e (n + 1) = 0
    · rw [wv_z (e := fun k => -e k) (show -e (n + 1) = 0 by omega), wv_z h, ih]
    · rw [wv_s (e := fun k => -e k) (show -e (n + 1) ≠ 0 by omega), wv_s h, ih]
      dsimp only
      have : opp9 (-(wv9 e n).2) (-e (n + 1)) ↔ opp9 (wv9 e n).2 (e (n + 1)) := by
        unfold opp9
        omega
      by_cases h9 : opp9 (wv9 e n).2 (e (n + 1))
      · rw [if_pos h9, if_pos (this.mpr h9)]
      · rw [if_neg h9, if_neg (fun h8 => h9 (this.mp h8))]
theorem wv_zn {E : Nat → Int} (m n : Nat) : (wv9 (fun k => zn9 m * E k) n).1 = (wv9 E n).1 := by
  rcases zn_pm m with h | h
  · rw [h, show (fun k => 1 * E k) = E from funext (fun k => Int.one_mul _)]
  · rw [h, show (fun k => -1 * E k) = fun k => -E k from funext (fun k => by omega), wv_neg]
theorem nuE {n : Nat} (hE : ∀ k, ((E k : Int) : Rat) = qE9 (cM9 M) n k) : nuQ9 (qE9 (cM9 M) n) = E := by
  funext k
  show (qE9 (cM9 M) n k).num = E k
  rw [← hE k]
  rfl
theorem te_eigen {n : Nat} (hn : n ≤ 8) (hM : ∀ i j, i < n → j < n → y.2.2 6005 (8 * i + j) = Int64.ofInt (M i j)) (hE : ∀ k, ((E k : Int) : Rat) = qE9 (cM9 M) n k) (hb : ∀ k, k ≤ n → rI9 ((k : Int) * E k)) : Te (fun K => ce_X4_eigenvalueSigns vl K 6000 (nI n) y) (fun r => r.1 = iI ((vP9 (cM9 M) n : Int) - (vM9 (cM9 M) n : Int)) ∧ fr fcP y r.2) := by
  have E0 : E 0 = 1 := by
    have := hE 0
    rw [qE_0] at this
    exact Rat.intCast_inj.mp this
  have hr : ∀ k, k ≤ n → rI9 (E k) := fun k hk => by
    by_cases h0 : k = 0
    · rw [h0, E0]
      unfold rI9
      omega
    · exact rI_of (by omega) (hb k hk)
  refine e_X4_eigenvalueSigns ?_; unfold cm_X4_eigenvalueSigns_0
  refine w_cs0 (te_findChar hn hM hE hb) ?_
  rintro z1 ⟨f1, g1⟩
  refine w_cs1 (te_signChanges (d := fun k => zn9 k * E k) hn (Or.inl rfl) (fun i hi => ⟨?_, rI_zn _ (hr _ (by omega))⟩)) ?_
  · rw [if_neg (fun h9 => absurd h9.1 (by decide))]
    have := g1 (n - i) (by omega)
    rw [show n - (n - i) = i by omega] at this
    rw [this, show (1 : Int32).toInt64 = 1 from rfl, Int64.mul_one]
  rintro v1 z2 ⟨a1, e2⟩
  have a1 : v1 = nI (wv9 (fun k => zn9 k * E k) n).1 := a1
  have e2 : z2 = z1 := e2
  rw [e2]
  refine w_cs1 (te_signChanges (d := fun k => zn9 n * E k) hn (Or.inr rfl) (fun i hi => ⟨?_, rI_zn _ (hr _ (by omega))⟩)) ?_
  · have := g1 (n - i) (by omega)
    rw [show n - (n - i) = i by omega] at this
    have hz : zn9 i * zn9 (n - i) = zn9 n := by
      rw [zn_a, show i + (n - i) = n by omega]
    rw [this]
    by_cases h9 : i % 2 = 1
    · rw [if_pos ⟨rfl, h9⟩, show (-1 : Int32).toInt64 = Int64.ofInt (-1) from rfl, ← Int64.ofInt_mul]
      refine congrArg Int64.ofInt ?_
      rw [← hz, show zn9 i = -1 from if_neg (by omega)]
      rw [Int.mul_comm, Int.mul_assoc]
    · rw [if_neg (fun h8 => h9 h8.2), show (1 : Int32).toInt64 = 1 from rfl, Int64.mul_one]
      refine congrArg Int64.ofInt ?_
      rw [← hz, show zn9 i = 1 from if_pos (by omega), Int.one_mul]
  rintro v3 z4 ⟨a3, e4⟩
  have a3 : v3 = nI (wv9 (fun k => zn9 n * E k) n).1 := a3
  have e4 : z4 = z1 := e4
  rw [e4]
  refine w_some ⟨?_, f1⟩
  rw [wv_zn] at a3
  rw [tw_zn] at a1
  show v1 - v3 = _
  rw [a1, a3, nI_iI, nI_iI, iI_sub]
  unfold vP9 vM9
  rw [nuE hE]
end XSGO
end
section
/-! 99zzzzzzzzzzzzzzzzyzzy.xsgp -/
/-! signature, the reference: signs of longs, changes of sign -/
def sn32 (a : Int) : Int32 := if a = 0 then 0 else if 0 < a then 1 else -1
/-- changes of sign and the last number, read from place 0 on -/
def wu9 (d : Nat → Int) : Nat → Nat × Int
  | 0 => (0, 0)
  | n + 1 => if d n = 0 then wu9 d n else ((wu9 d n).1 + (if opp9 (wu9 d n).2 (d n) then 1 else 0), d n)
section XSGP
theorem sgJ9 {a : Int} (h : rI9 a) : ow_sgnJ (Int64.ofInt a) = sn32 a := by
  have ht := rI_t h
  generalize Int64.ofInt a = x at ht
  have e : ow_sgnJ x = Int32.ofBitVec (((x.toBitVec.sshiftRight 63) ||| ((-x.toBitVec) >>> 63)).signExtend 32) := rfl
  rw [e]
  have hN := x.toBitVec.isLt
  have hc : x.toBitVec.toInt = a := ht
  rw [BitVec.toInt_eq_toNat_cond] at hc
  by_cases hm : 2 * x.toBitVec.toNat < 2 ^ 64
  · rw [if_pos hm] at hc
    have m1 : x.toBitVec.msb = false := BitVec.msb_eq_false_iff_two_mul_lt.mpr hm
    have s1 : x.toBitVec.sshiftRight 63 = 0#64 := by
      rw [BitVec.sshiftRight_eq_of_msb_false m1]
      refine BitVec.eq_of_toNat_eq ?_
      rw [BitVec.toNat_ushiftRight, Nat.shiftRight_eq_div_pow]
      exact Nat.div_eq_of_lt (by omega)
    rw [s1, BitVec.zero_or]
    by_cases h0 : x.toBitVec.toNat = 0
    · have z0 : x.toBitVec = 0#64 := BitVec.eq_of_toNat_eq h0
      rw [z0, show a = 0 by omega]
      decide
    · have s2 : (-x.toBitVec) >>> 63 = 1#64 := by
        refine BitVec.eq_of_toNat_eq ?_
        rw [BitVec.toNat_ushiftRight, Nat.shiftRight_eq_div_pow, BitVec.toNat_neg, Nat.mod_eq_of_lt (by omega)]
        show (2 ^ 64 - x.toBitVec.toNat) / 2 ^ 63 = 1
        omega
      rw [s2]
      unfold sn32
      rw [if_neg (by omega), if_pos (by omega)]
      decide
  · rw [if_neg hm] at hc
    have m1 : x.toBitVec.msb = true := BitVec.msb_eq_true_iff_two_mul_ge.mpr (by omega)
    have s1 : x.toBitVec.sshiftRight 63 = BitVec.allOnes 64 := by
      rw [BitVec.sshiftRight_eq_of_msb_true m1]
      have s0 : (~~~x.toBitVec) >>> 63 = 0#64 := by
        refine BitVec.eq_of_toNat_eq ?_
        rw [BitVec.toNat_ushiftRight, Nat.shiftRight_eq_div_pow, BitVec.toNat_not]
        exact Nat.div_eq_of_lt (by omega)
      rw [s0]
      decide
    rw [s1, BitVec.allOnes_or]
    unfold sn32
    rw [if_neg (by omega), if_neg (by omega)]
    decide
theorem wu_wv (d : Nat → Int) : ∀ n, wu9 d (n + 1) = wv9 d n := by
  intro n
  induction n with
  | zero =>
    show (if d 0 = 0 then (0, 0) else (0 + (if opp9 0 (d 0) then 1 else 0), d 0)) = (0, d 0)
    by_cases h : d 0 = 0
    · rw [if_pos h, h]
    · rw [if_neg h, if_neg (by unfold opp9; omega)]
  | succ n ih =>
    show (if d (n + 1) = 0 then wu9 d (n + 1) else ((wu9 d (n + 1)).1 + (if opp9 (wu9 d (n + 1)).2 (d (n + 1)) then 1 else 0), d (n + 1))) = _
    rw [ih]
    rfl
theorem sn_z {a : Int} : sn32 a = 0 ↔ a = 0 := by
  unfold sn32
  by_cases h : a = 0
  · rw [if_pos h]
    exact ⟨fun _ => h, fun _ => rfl⟩
  · rw [if_neg h]
    refine ⟨fun h9 => ?_, fun h9 => absurd h9 h⟩
    split at h9
    · exact absurd h9 (by decide)
    · exact absurd h9 (by decide)
theorem sn_op {a b : Int} (ha : a ≠ 0) (hb : b ≠ 0) : sn32 b = sn32 a ↔ ¬ opp9 a b := by
  unfold sn32 opp9
  rw [if_neg ha, if_neg hb]
  by_cases h1 : 0 < a <;> by_cases h2 : 0 < b
  · rw [if_pos h1, if_pos h2]
    exact ⟨fun _ => by omega, fun _ => rfl⟩
  · rw [if_pos h1, if_neg h2]
    exact ⟨fun h9 => absurd h9 (by decide), fun h9 => by omega⟩
  · rw [if_neg h1, if_pos h2]
    exact ⟨fun h9 => absurd h9 (by decide), fun h9 => by omega⟩
  · rw [if_neg h1, if_neg h2]
    exact ⟨fun _ => by omega, fun _ => rfl⟩
theorem sn_neg {a : Int} : 0 - sn32 a = sn32 (-a) := by
  unfold sn32
  by_cases h : a = 0
  · rw [if_pos h, if_pos (by omega)]
    rfl
  · rw [if_neg h, if_neg (show ¬ -a = 0 by omega)]
    by_cases h1 : 0 < a
    · rw [if_pos h1, if_neg (show ¬ 0 < -a by omega)]
      rfl
    · rw [if_neg h1, if_pos (show 0 < -a by omega)]
      rfl
variable {z : ow_MS}
theorem xr_changes {n : Nat} {b : Int32} {d : Nat → Int} (hn : n ≤ 14) (hb : b = 0 ∨ b = 1) (hd : ∀ k, k ≤ n → z.2.2 57 k = Int64.ofInt (d (n - k)) ∧ rI9 (d (n - k))) : Te (fun K => qe_X13_changes K (nI n) b z) (fun r => r.1 = nI (wv9 (fun j => if b = 1 ∧ (n - j) % 2 = 1 then -d j else d j) n).1 ∧ r.2 = z) := by
  generalize hD : (fun j => if b = 1 ∧ (n - j) % 2 = 1 then -d j else d j) = D
  have hDj : ∀ j, D j = if b = 1 ∧ (n - j) % 2 = 1 then -d j else d j := fun j => by rw [← hD]
  have c1 : ∀ (e : Nat), e ≤ n + 1 → Tt (fun K k => q_X13_changes K k 1 (nI n) b (nI (wu9 D (n + 1 - e)).1) (sn32 (wu9 D (n + 1 - e)).2) (iI ((e : Int) - 1)) 0 0 0 z) (fun r => r.1 = nI (wv9 D n).1 ∧ r.2 = z) := by
    intro e
    induction e with
    | zero =>
      intro _
      refine u_X13_changes_1 ?_; unfold qm_X13_changes_1
      refine w_ifT (by show iI (-1) < iI 0; rw [iI_lt (by omega) (by omega) (by omega) (by omega)]; omega) (w_some ⟨?_, rfl⟩)
      rw [show n + 1 - 0 = n + 1 by omega, wu_wv]
    | succ e ih =>
      intro he
      have ih := ih (by omega)
      have e1 : iI (((e + 1 : Nat) : Int) - 1) = nI e := iI_nI (by omega)
      have e2 : nI e + (-1) = iI ((e : Int) - 1) := by
        rw [nI_iI]
        show iI (e : Int) + iI (-1) = _
        rw [iI_add]
        rfl
      rw [e1]
      generalize hj : n + 1 - (e + 1) = j
      have hj2 : n + 1 - e = j + 1 := by omega
      rw [hj2] at ih
      obtain ⟨hv, hr⟩ := hd e (by omega)
      rw [show n - e = j by omega] at hv hr
      have hne : (n - j) % 2 = e % 2 := by rw [show n - j = e by omega]
      have wn : wu9 D (j + 1) = if D j = 0 then wu9 D j else ((wu9 D j).1 + (if opp9 (wu9 D j).2 (D j) then 1 else 0), D j) := rfl
      have c5 : ∀ (x3 x4 x6 : Int32), x3 = nI (wu9 D (j + 1)).1 → x4 = sn32 (wu9 D (j + 1)).2 → Tt (fun K k => q_X13_changes K k 5 (nI n) b x3 x4 (nI e) x6 0 0 z) (fun r => r.1 = nI (wv9 D n).1 ∧ r.2 = z) := by
        intro x3 x4 x6 h3 h4
        rw [h3, h4]
        refine u_X13_changes_5 ?_; unfold qm_X13_changes_5
        rw [e2]
        exact ih
      have c4 : ∀ (x3 x4 t0 t1 : Int32), t1 + t0 = nI (wu9 D (j + 1)).1 → sn32 (D j) = sn32 (wu9 D (j + 1)).2 → Tt (fun K k => q_X13_changes K k 4 (nI n) b x3 x4 (nI e) (sn32 (D j)) t0 t1 z) (fun r => r.1 = nI (wv9 D n).1 ∧ r.2 = z) := by
        intro x3 x4 t0 t1 h1 h2
        refine u_X13_changes_4 ?_; unfold qm_X13_changes_4
        exact c5 _ _ _ h1 h2
      have c2 : Tt (fun K k => q_X13_changes K k 2 (nI n) b (nI (wu9 D j).1) (sn32 (wu9 D j).2) (nI e) (sn32 (D j)) 0 0 z) (fun r => r.1 = nI (wv9 D n).1 ∧ r.2 = z) := by
        refine u_X13_changes_2 ?_; unfold qm_X13_changes_2
        refine w_if (fun h0 => ?_) (fun h0 => ?_)
        · rw [sn_z] at h0
          rw [if_pos h0] at wn
          exact c5 _ _ _ (by rw [wn]) (by rw [wn])
        · rw [sn_z] at h0
          rw [if_neg h0] at wn
          have same : ∀ x3 x4 : Int32, ¬ opp9 (wu9 D j).2 (D j) → Tt (fun K k => q_X13_changes K k 3 (nI n) b x3 x4 (nI e) (sn32 (D j)) (nI (wu9 D j).1) 0 z) (fun r => r.1 = nI (wv9 D n).1 ∧ r.2 = z) := by
            intro x3 x4 hno
            refine u_X13_changes_3 ?_; unfold qm_X13_changes_3
            refine c4 _ _ _ _ ?_ (by rw [wn])
            rw [wn, if_neg hno]
            exact Int32.add_zero _
          refine w_if (fun h1 => ?_) (fun h1 => w_if (fun h2 => ?_) (fun h2 => ?_))
          · rw [sn_z] at h1
            exact same _ _ (by rw [h1]; unfold opp9; omega)
          · rw [sn_z] at h1
            exact same _ _ ((sn_op h1 h0).mp h2)
          · rw [sn_z] at h1
            refine c4 _ _ _ _ ?_ (by rw [wn])
            have ho : opp9 (wu9 D j).2 (D j) := by
              by_cases h9 : opp9 (wu9 D j).2 (D j)
              · exact h9
              · exact absurd ((sn_op h1 h0).mpr h9) h2
            rw [wn, if_pos ho]
            exact nI_1 _
      have an : nI e &&& 1 = 1 ↔ e % 2 = 1 := by
        have key : ∀ i : Fin 16, (nI i.val &&& 1 = 1 ↔ i.val % 2 = 1) := by decide +kernel
        exact key ⟨e, by omega⟩
      have sv : ow_sgnJ (Int64.ofInt (d j)) = sn32 (d j) := sgJ9 hr
      refine u_X13_changes_1 ?_; unfold qm_X13_changes_1
      refine w_ifF (fun h9 => absurd h9 (nI_pos (by omega))) (w_rdJ ml57 rfl (by omega) hv (w_if (fun h1 => ?_) (fun h1 => w_if (fun h2 => ?_) (fun h2 => ?_))))
      · have : D j = d j := by rw [hDj, if_neg (fun h9 => by rw [h9.1] at h1; exact absurd h1 (by decide))]
        rw [sv, ← this]
        exact c2
      · have hb1 : b = 1 := by
          rcases hb with h9 | h9
          · exact absurd h9 h1
          · exact h9
        have : D j = -d j := by rw [hDj, if_pos ⟨hb1, by rw [hne]; exact an.mp h2⟩]
        rw [sv, sn_neg, ← this]
        exact c2
      · have : D j = d j := by rw [hDj, if_neg (fun h9 => h2 (an.mpr (by rw [← hne]; exact h9.2)))]
        rw [sv, ← this]
        exact c2
  refine e_X13_changes ?_
  refine u_X13_changes_0 ?_; unfold qm_X13_changes_0
  have := c1 (n + 1) (Nat.le_refl _)
  rw [show iI (((n + 1 : Nat) : Int) - 1) = nI n from iI_nI (by omega), Nat.sub_self] at this
  exact this
end XSGP
end
section
/-! 99zzzzzzzzzzzzzzzzyzzz.xsgq -/
/-! signature, the reference: the roots, exactly -/
section XSGQ
variable {z : ow_MS} {F : Nat → Nat → Int} {E : Nat → Int}
theorem xr_times {n : Nat} {B : Nat → Nat → Int} (hn : n ≤ 16) (hF : ∀ i j, i < n → j < n → z.2.2 54 (16 * i + j) = Int64.ofInt (F i j)) (hB : ∀ i j, i < n → j < n → z.2.2 56 (16 * i + j) = Int64.ofInt (B i j)) : Te (fun K => qe_X13_times K (nI n) z) (fun z1 => fr (fun g => g = 55) z z1 ∧ ∀ i j, i < n → j < n → z1.2.2 55 (16 * i + j) = Int64.ofInt (zS9 (fun k => F i k * B k j) n)) := by
  let Q : ow_MS → Prop := fun z1 => fr (fun g => g = 55) z z1 ∧ ∀ i j, i < n → j < n → z1.2.2 55 (16 * i + j) = Int64.ofInt (zS9 (fun k => F i k * B k j) n)
  have c1 : ∀ (d i : Nat) (y : ow_MS), i + d = n → fr (fun g => g = 55) z y → (∀ a b, a < i → b < n → y.2.2 55 (16 * a + b) = Int64.ofInt (zS9 (fun k => F a k * B k b) n)) → Tt (fun K k => q_X13_times K k 1 (nI n) (nI i) 0 0 0 y) Q := by
    intro d
    induction d with
    | zero =>
      intro i y hi hf hp
      refine u_X13_times_1 ?_; unfold qm_X13_times_1
      exact w_leT (by omega) (by omega) (w_some ⟨hf, fun a b ha hb => hp a b (by omega) hb⟩)
    | succ d ih =>
      intro i y hi hf hp
      have c2 : ∀ (d2 j : Nat) (y : ow_MS), j + d2 = n → fr (fun g => g = 55) z y → (∀ a b, b < n → a < i ∨ a = i ∧ b < j → y.2.2 55 (16 * a + b) = Int64.ofInt (zS9 (fun k => F a k * B k b) n)) → Tt (fun K k => q_X13_times K k 2 (nI n) (nI i) (nI j) 0 0 y) Q := by
        intro d2
        induction d2 with
        | zero =>
          intro j y hj hf hp
          refine u_X13_times_2 ?_; unfold qm_X13_times_2
          rw [nI_1]
          exact w_leT (by omega) (by omega) (ih (i + 1) y (by omega) hf (fun a b ha hb => hp a b hb (by omega)))
        | succ d2 ih2 =>
          intro j y hj hf hp
          have c3 : ∀ (d3 k : Nat) (w : Int64), k + d3 = n → w = Int64.ofInt (zS9 (fun k => F i k * B k j) k) → Tt (fun K t => q_X13_times K t 3 (nI n) (nI i) (nI j) (nI k) w y) Q := by
            intro d3
            induction d3 with
            | zero =>
              intro k w hk hw
              have hk : k = n := by omega
              subst hk
              refine u_X13_times_3 ?_; unfold qm_X13_times_3
              rw [s16_ix, show nI j + 1 = nI (j + 1) from nI_1 _]
              refine w_leT (by omega) (by omega) (w_wrJ ml55 rfl (by omega) (ih2 (j + 1) _ (by omega) (fr_J2 hf rfl) (fun a b hb hab => ?_)))
              by_cases h9 : a = i ∧ b = j
              · obtain ⟨h8, h7⟩ := h9
                subst h8
                subst h7
                exact usJ_at.trans hw
              · rw [usJ_ne (by omega)]
                exact hp a b hb (by omega)
            | succ d3 ih3 =>
              intro k w hk hw
              have r1 : y.2.2 54 (16 * i + k) = Int64.ofInt (F i k) := by
                rw [(hf 54 (by omega)).2.2]
                exact hF i k (by omega) (by omega)
              have r2 : y.2.2 56 (16 * k + j) = Int64.ofInt (B k j) := by
                rw [(hf 56 (by omega)).2.2]
                exact hB k j (by omega) (by omega)
              refine u_X13_times_3 ?_; unfold qm_X13_times_3
              rw [s16_ix, s16_ix, s16_ix, show nI k + 1 = nI (k + 1) from nI_1 _]
              refine w_leF (by omega) (by omega) (w_rdJ ml54 rfl (by omega) r1 (w_rdJ ml56 rfl (by omega) r2 (ih3 (k + 1) _ (by omega) ?_)))
              rw [hw, ← Int64.ofInt_mul, ← Int64.ofInt_add]
              rfl
          refine u_X13_times_2 ?_; unfold qm_X13_times_2
          exact w_leF (by omega) (by omega) (c3 n 0 0 (by omega) rfl)
      refine u_X13_times_1 ?_; unfold qm_X13_times_1
      exact w_leF (by omega) (by omega) (c2 n 0 y (by omega) hf (fun a b hb hab => hp a b (by omega) hb))
  refine e_X13_times ?_
  refine u_X13_times_0 ?_; unfold qm_X13_times_0
  exact c1 n 0 z (by omega) fr_rf (fun a b ha => absurd ha (by omega))
theorem zS_0 : ∀ n, zS9 (fun _ => 0) n = 0 := by
  intro n
  induction n with
  | zero => rfl
  | succ n ih =>
    show zS9 (fun _ => 0) n + 0 = 0
    omega
theorem xr_roots {n : Nat} (hn : n ≤ 13) (hF : ∀ i j, i < n → j < n → z.2.2 54 (16 * i + j) = Int64.ofInt (F i j)) (hE : ∀ k, ((E k : Int) : Rat) = qE9 (cM9 F) n k) (hb : ∀ k, k ≤ n → rI9 ((k : Int) * E k)) : Te (fun K => qe_X13_rootsOf K (nI n) z) (fun r => r.1 = iI ((vP9 (cM9 F) n : Int) - (vM9 (cM9 F) n : Int)) ∧ fr rtH z r.2) := by
  have E0 : E 0 = 1 := by
    have := hE 0
    rw [qE_0] at this
    exact Rat.intCast_inj.mp this
  have hr : ∀ k, k ≤ n → rI9 (E k) := fun k hk => by
    by_cases h0 : k = 0
    · rw [h0, E0]
      unfold rI9
      omega
    · exact rI_of (by omega) (hb k hk)
  let Q : Int32 × ow_MS → Prop := fun r => r.1 = iI ((vP9 (cM9 F) n : Int) - (vM9 (cM9 F) n : Int)) ∧ fr rtH z r.2
  let Ch : Nat → ow_MS → Prop := fun k y => fr rtH z y ∧ ∀ m, m < k → y.2.2 57 (n - m) = Int64.ofInt (zn9 m * E m)
  have hF0 : ∀ {y : ow_MS}, fr rtH z y → ∀ i j, i < n → j < n → y.2.2 54 (16 * i + j) = Int64.ofInt (F i j) := fun hf i j hi hj => by
    rw [(hf 54 (by unfold rtH; omega)).2.2]
    exact hF i j hi hj
  have h55 : ∀ {k : Nat} {y y1 : ow_MS}, Ch k y → fr (fun g => g = 55) y y1 → Ch k y1 := fun h1 h2 => ⟨fr_tr h1.1 (fr_mono (fun g hg => by unfold rtH; omega) h2), fun m hm => by
    rw [(h2 57 (by omega)).2.2]
    exact h1.2 m hm⟩
  have c2 : ∀ (d k : Nat) (y : ow_MS), k + d = n + 1 → 1 ≤ k → Ch k y → (∀ i j, i < n → j < n → y.2.2 56 (16 * i + j) = Int64.ofInt (if k = 1 then 0 else zn9 (k - 2) * zN9 n F E j (k - 2) i)) → Tt (fun K t => q_X13_rootsOf K t 2 (nI n) (nI k) 0 0 0 0 0 0 0 y) Q := by
    intro d
    induction d with
    | zero =>
      intro k y hk hk1 hz hp
      have hT : ∀ k, k ≤ n → y.2.2 57 k = Int64.ofInt ((fun m => zn9 m * E m) (n - k)) ∧ rI9 ((fun m => zn9 m * E m) (n - k)) := fun k9 hk9 => by
        have := hz.2 (n - k9) (by omega)
        rw [show n - (n - k9) = k9 by omega] at this
        exact ⟨this, rI_zn _ (hr _ (by omega))⟩
      refine u_X13_rootsOf_2 ?_; unfold qm_X13_rootsOf_2
      refine w_ltT (by omega) (by omega) (w_cs1 (xr_changes (b := 0) (d := fun m => zn9 m * E m) (by omega) (Or.inl rfl) hT) (fun a y1 e1 => ?_))
      obtain ⟨a1, e1⟩ := e1
      have e1 : y1 = y := e1
      have a9 : a = nI (wv9 (fun j => if (0 : Int32) = 1 ∧ (n - j) % 2 = 1 then -(zn9 j * E j) else zn9 j * E j) n).1 := a1
      subst e1
      refine w_cs1 (xr_changes (b := 1) (d := fun m => zn9 m * E m) (by omega) (Or.inr rfl) hT) (fun a2 y2 e2 => ?_)
      obtain ⟨b1, e2⟩ := e2
      have e2 : y2 = y1 := e2
      have b9 : a2 = nI (wv9 (fun j => if (1 : Int32) = 1 ∧ (n - j) % 2 = 1 then -(zn9 j * E j) else zn9 j * E j) n).1 := b1
      subst e2
      refine w_some ⟨?_, hz.1⟩
      have f1 : (fun j => if (0 : Int32) = 1 ∧ (n - j) % 2 = 1 then -(zn9 j * E j) else zn9 j * E j) = fun j => zn9 j * E j := funext (fun j => if_neg (fun h9 => absurd h9.1 (by decide)))
      have key : ∀ m, m ≤ n → wv9 (fun j => if (1 : Int32) = 1 ∧ (n - j) % 2 = 1 then -(zn9 j * E j) else zn9 j * E j) m = wv9 (fun j => zn9 n * E j) m := by
        have pt : ∀ j, j ≤ n → (if (1 : Int32) = 1 ∧ (n - j) % 2 = 1 then -(zn9 j * E j) else zn9 j * E j) = zn9 n * E j := fun j hj => by
          have hz9 : zn9 j * zn9 (n - j) = zn9 n := by rw [zn_a, show j + (n - j) = n by omega]
          by_cases h9 : (n - j) % 2 = 1
          · rw [if_pos ⟨rfl, h9⟩, ← hz9, show zn9 (n - j) = -1 from if_neg (by omega), Int.mul_neg, Int.mul_one, Int.neg_mul]
          · rw [if_neg (fun h8 => h9 h8.2), ← hz9, show zn9 (n - j) = 1 from if_pos (by omega), Int.mul_one]
        intro m
        induction m with
        | zero =>
          intro _
          show ((0 : Nat), (if (1 : Int32) = 1 ∧ (n - 0) % 2 = 1 then -(zn9 0 * E 0) else zn9 0 * E 0)) = (0, zn9 n * E 0)
          rw [pt 0 (by omega)]
        | succ m ihm =>
          intro hm
          have q := pt (m + 1) hm
          show (if (if (1 : Int32) = 1 ∧ (n - (m + 1)) % 2 = 1 then -(zn9 (m + 1) * E (m + 1)) else zn9 (m + 1) * E (m + 1)) = 0 then _ else (_ + (if opp9 _ (if (1 : Int32) = 1 ∧ (n - (m + 1)) % 2 = 1 then -(zn9 (m + 1) * E (m + 1)) else zn9 (m + 1) * E (m + 1)) then 1 else 0), (if (1 : Int32) = 1 ∧ (n - (m + 1)) % 2 = 1 then -(zn9 (m + 1) * E (m + 1)) else zn9 (m + 1) * E (m + 1)))) = _
          rw [q, ihm (by omega)]
          rfl
      rw [f1, tw_zn] at a9
      rw [key n (Nat.le_refl n), wv_zn] at b9
      show a - a2 = _
      rw [a9, b9, nI_iI, nI_iI, iI_sub]
      unfold vP9 vM9
      rw [nuE hE]
    | succ d ih =>
      intro k y hk hk1 hz hp
      have zk : zn9 k = -zn9 (k - 1) := by
        have := zn_s (k := k - 1)
        rw [show k - 1 + 1 = k by omega] at this
        exact this
      have hk64 : (nI k).toInt64 = Int64.ofInt (k : Int) := by
        have key : ∀ k : Fin 16, (nI k.val).toInt64 = Int64.ofInt (k.val : Int) := by decide +kernel
        exact key ⟨k, by omega⟩
      have hnz : (nI k).toInt64 ≠ 0 := by
        rw [nI_l (by omega)]
        exact fun e => by
          have := (pk_lEQ (a := k) (b := 0) (by omega) (by omega)).mp e
          omega
      have c6 : ∀ (d2 i : Nat) (w : Int64) (y : ow_MS), i + d2 = n → Ch k y → (∀ a b, a < n → b < n → y.2.2 56 (16 * a + b) = Int64.ofInt (zn9 (k - 1) * zN9 n F E b (k - 1) a)) → (∀ a, a < n → y.2.2 55 (16 * a + a) = Int64.ofInt (zn9 (k - 1) * (E k - zN9 n F E a k a))) → w = Int64.ofInt (zn9 (k - 1) * zS9 (fun a => E k - zN9 n F E a k a) i) → Tt (fun K t => q_X13_rootsOf K t 6 (nI n) (nI k) 0 0 (nI i) w 0 0 0 y) Q := by
        intro d2
        induction d2 with
        | zero =>
          intro i w y hi hz hp hd9 hw
          have hi : i = n := by omega
          subst hi
          rw [zN_tr hE] at hw
          have bk := hb k (by omega)
          have dv : 0 - w / (nI k).toInt64 = Int64.ofInt (zn9 k * E k) := by
            have h1 : rI9 (zn9 (k - 1) * ((k : Int) * E k)) := rI_zn (k - 1) bk
            have h3 : zn9 (k - 1) * ((k : Int) * E k) = (zn9 (k - 1) * E k) * (k : Int) := by
              rw [Int.mul_comm (k : Int), Int.mul_assoc]
            rw [hw, hk64, ← Int64.ofInt_tdiv (by have := h1.1; show (-9223372036854775808 : Int) ≤ _; omega) (by have := h1.2; show _ ≤ (9223372036854775807 : Int); omega) (by show (-9223372036854775808 : Int) ≤ _; omega) (by show _ ≤ (9223372036854775807 : Int); omega), h3, Int.mul_tdiv_cancel _ (by omega), zk, Int.neg_mul, Int64.ofInt_neg, Int64.zero_sub]
          refine u_X13_rootsOf_6 ?_; unfold qm_X13_rootsOf_6
          rw [show nI i - nI k = nI (i - k) from pk_sub (by omega), nI_1, dv]
          refine w_leT (by omega) (by omega) (w_nzJ hnz (w_wrJ ml57 rfl (by omega) (ih (k + 1) _ (by omega) (by omega) ⟨fr_J2 hz.1 (by unfold rtH; omega), fun m hm => ?_⟩ (fun a b ha hb2 => ?_))))
          · by_cases h9 : m = k
            · rw [h9]
              exact usJ_at
            · rw [usJ_ne (by omega)]
              exact hz.2 m (by omega)
          · rw [usJ_o9 (by omega), if_neg (by omega), show k + 1 - 2 = k - 1 by omega]
            exact hp a b ha hb2
        | succ d2 ih2 =>
          intro i w y hi hz hp hd9 hw
          refine u_X13_rootsOf_6 ?_; unfold qm_X13_rootsOf_6
          rw [show (17 : Int32) * nI i = nI (17 * i) from pk_mul 17 i, show nI i + 1 = nI (i + 1) from nI_1 _]
          have r1 := hd9 i (by omega)
          rw [show 16 * i + i = 17 * i by omega] at r1
          refine w_leF (by omega) (by omega) (w_rdJ ml55 rfl (by omega) r1 (ih2 (i + 1) _ y (by omega) hz hp hd9 ?_))
          rw [hw, ← Int64.ofInt_add, ← Int.mul_add]
          rfl
      have c3 : ∀ (d2 i : Nat) (y : ow_MS), i + d2 = n → Ch k y → (∀ a b, a < n → b < n → y.2.2 55 (16 * a + b) = Int64.ofInt (zn9 (k - 1) * (zN9 n F E b (k - 1) a - E (k - 1) * zd9 b a))) → (∀ a b, a < i → b < n → y.2.2 56 (16 * a + b) = Int64.ofInt (zn9 (k - 1) * zN9 n F E b (k - 1) a)) → Tt (fun K t => q_X13_rootsOf K t 3 (nI n) (nI k) (nI i) 0 0 0 0 0 0 y) Q := by
        intro d2
        induction d2 with
        | zero =>
          intro i y hi hz h55a hp
          have hi : i = n := by omega
          subst hi
          refine u_X13_rootsOf_3 ?_; unfold qm_X13_rootsOf_3
          refine w_leT (by omega) (by omega) (w_cs0 (xr_times (by omega) (hF0 hz.1) hp) (fun y1 ⟨f1, g1⟩ => ?_))
          have f1 : fr (fun g => g = 55) y y1 := f1
          refine c6 i 0 0 y1 (by omega) (h55 hz f1) (fun a b ha hb2 => ?_) (fun a ha => ?_) ?_
          · rw [(f1 56 (by omega)).2.2]
            exact hp a b ha hb2
          · have e9 : y1.2.2 55 (16 * a + a) = _ := g1 a a ha ha
            rw [e9]
            have e8 : zS9 (fun m => F a m * (zn9 (k - 1) * zN9 i F E a (k - 1) m)) i = zn9 (k - 1) * zS9 (fun m => F a m * zN9 i F E a (k - 1) m) i := by
              rw [← zS_mul]
              refine zS_cg (fun m _ => ?_)
              rw [← Int.mul_assoc (F a m), Int.mul_comm (F a m), Int.mul_assoc]
            rw [e8, zN_s, show k - 1 + 1 = k by omega, show zd9 a a = 1 from if_pos rfl, Int.mul_one]
          · rw [show zS9 (fun a => E k - zN9 i F E a k a) 0 = 0 from rfl, Int.mul_zero]
            rfl
        | succ d2 ih2 =>
          intro i y hi hz h55a hp
          have c4 : ∀ (d3 j : Nat) (y : ow_MS), j + d3 = n → Ch k y → (∀ a b, a < n → b < n → y.2.2 55 (16 * a + b) = Int64.ofInt (zn9 (k - 1) * (zN9 n F E b (k - 1) a - E (k - 1) * zd9 b a))) → (∀ a b, b < n → a < i ∨ a = i ∧ b < j → y.2.2 56 (16 * a + b) = Int64.ofInt (zn9 (k - 1) * zN9 n F E b (k - 1) a)) → Tt (fun K t => q_X13_rootsOf K t 4 (nI n) (nI k) (nI i) (nI j) 0 0 0 0 0 y) Q := by
            intro d3
            induction d3 with
            | zero =>
              intro j y hj hz h55a hp
              refine u_X13_rootsOf_4 ?_; unfold qm_X13_rootsOf_4
              rw [show nI i + 1 = nI (i + 1) from nI_1 _]
              exact w_leT (by omega) (by omega) (ih2 (i + 1) y (by omega) hz h55a (fun a b ha hb2 => hp a b hb2 (by omega)))
            | succ d3 ih3 =>
              intro j y hj hz h55a hp
              have c5 : ∀ (y0 y1 : Int64), y1 + y0 = Int64.ofInt (zn9 (k - 1) * zN9 n F E j (k - 1) i) → Tt (fun K t => q_X13_rootsOf K t 5 (nI n) (nI k) (nI i) (nI j) 0 0 (nI (16 * i + j)) y0 y1 y) Q := by
                intro y0 y1 he
                refine u_X13_rootsOf_5 ?_; unfold qm_X13_rootsOf_5
                rw [show nI j + 1 = nI (j + 1) from nI_1 _, he]
                refine w_wrJ ml56 rfl (by omega) (ih3 (j + 1) _ (by omega) ⟨fr_J2 hz.1 (by unfold rtH; omega), fun m hm => ?_⟩ (fun a b ha hb2 => ?_) (fun a b hb2 hab => ?_))
                · rw [usJ_o9 (by omega)]
                  exact hz.2 m hm
                · rw [usJ_o9 (by omega)]
                  exact h55a a b ha hb2
                · by_cases h9 : a = i ∧ b = j
                  · obtain ⟨h8, h7⟩ := h9
                    subst h8
                    subst h7
                    exact usJ_at
                  · rw [usJ_ne (by omega)]
                    exact hp a b hb2 (by omega)
              have r1 := h55a i j (by omega) (by omega)
              have r2 := hz.2 (k - 1) (by omega)
              rw [show n - (k - 1) = n - k + 1 by omega] at r2
              refine u_X13_rootsOf_4 ?_; unfold qm_X13_rootsOf_4
              rw [s16_ix, show nI n - nI k + 1 = nI (n - k + 1) from by rw [pk_sub (by omega)]; exact nI_1 _]
              refine w_leF (by omega) (by omega) (w_rdJ ml55 rfl (by omega) r1 (w_eqN (by omega) (by omega) (fun h9 => w_rdJ ml57 rfl (by omega) r2 (c5 _ _ ?_)) (fun h9 => c5 _ _ ?_)))
              · rw [← Int64.ofInt_add, show zd9 j i = 1 from if_pos h9, Int.mul_one, Int.mul_sub]
                refine congrArg Int64.ofInt ?_
                omega
              · rw [show zd9 j i = 0 from if_neg h9, Int.mul_zero, Int.sub_zero]
                exact Int64.add_zero _
          refine u_X13_rootsOf_3 ?_; unfold qm_X13_rootsOf_3
          exact w_leF (by omega) (by omega) (c4 n 0 y (by omega) hz h55a (fun a b hb2 hab => hp a b (by omega) hb2))
      refine u_X13_rootsOf_2 ?_; unfold qm_X13_rootsOf_2
      refine w_ltF (by omega) (by omega) (w_cs0 (xr_times (by omega) (hF0 hz.1) hp) (fun y1 ⟨f1, g1⟩ => ?_))
      have f1 : fr (fun g => g = 55) y y1 := f1
      refine c3 n 0 y1 (by omega) (h55 hz f1) (fun a b ha hb2 => ?_) (fun a b ha => absurd ha (by omega))
      have e9 : y1.2.2 55 (16 * a + b) = _ := g1 a b ha hb2
      rw [e9]
      refine congrArg Int64.ofInt ?_
      by_cases h1 : k = 1
      · subst h1
        rw [zS_cg (g := fun _ => 0) (fun m _ => by rw [if_pos rfl, Int.mul_zero]), zS_0, show 1 - 1 = 0 from rfl, E0]
        show (0 : Int) = zn9 0 * (zd9 b a - 1 * zd9 b a)
        rw [Int.one_mul, Int.sub_self, Int.mul_zero]
      · have e8 : zS9 (fun m => F a m * (if k = 1 then 0 else zn9 (k - 2) * zN9 n F E b (k - 2) m)) n = zn9 (k - 2) * zS9 (fun m => F a m * zN9 n F E b (k - 2) m) n := by
          rw [← zS_mul]
          refine zS_cg (fun m _ => ?_)
          rw [if_neg h1, ← Int.mul_assoc (F a m), Int.mul_comm (F a m), Int.mul_assoc]
        have zk2 : zn9 (k - 1) = -zn9 (k - 2) := by
          have := zn_s (k := k - 2)
          rw [show k - 2 + 1 = k - 1 by omega] at this
          exact this
        rw [e8, zN_s, show k - 2 + 1 = k - 1 by omega, zk2, Int.neg_mul, ← Int.mul_neg]
        refine congrArg (fun t => zn9 (k - 2) * t) ?_
        omega
  have c1 : ∀ (d i : Nat) (y : ow_MS), i + d = 256 → fr rtH z y → (∀ a, a < i → y.2.2 56 a = 0) → Tt (fun K t => q_X13_rootsOf K t 1 (nI n) (nI i) 0 0 0 0 0 0 0 y) Q := by
    intro d
    induction d with
    | zero =>
      intro i y hi hf h0
      refine u_X13_rootsOf_1 ?_; unfold qm_X13_rootsOf_1
      refine w_leT (a := 256) (by omega) (by omega) (w_wrJ ml57 rfl (by omega) (c2 n 1 _ (by omega) (Nat.le_refl _) ⟨fr_J2 hf (by unfold rtH; omega), fun m hm => ?_⟩ (fun a b ha hb2 => ?_)))
      · have hm : m = 0 := by omega
        subst hm
        rw [E0]
        exact usJ_at
      · rw [usJ_o9 (by omega), if_pos rfl]
        exact h0 _ (by omega)
    | succ d ih =>
      intro i y hi hf h0
      refine u_X13_rootsOf_1 ?_; unfold qm_X13_rootsOf_1
      rw [nI_1]
      refine w_leF (a := 256) (by omega) (by omega) (w_wrJ ml56 rfl (by omega) (ih (i + 1) _ (by omega) (fr_J2 hf (by unfold rtH; omega)) (fun a ha => ?_)))
      by_cases h9 : a = i
      · rw [h9]
        exact usJ_at
      · rw [usJ_ne h9]
        exact h0 a (by omega)
  refine e_X13_rootsOf ?_
  refine u_X13_rootsOf_0 ?_; unfold qm_X13_rootsOf_0
  exact c1 256 0 z (by omega) fr_rf (fun a ha => absurd ha (by omega))
end XSGQ
end
section
/-! 99zzzzzzzzzzzzzzzzyzzza.xsgr -/
/-! signature: faces round a crossing; every numbering of the faces of a part gives one value -/
/-- the side of colour κ of the gap behind v -/
def ws9 (w : Nat → Bool) (κ : Bool) (v : Nat) : Nat := if w v = κ then 2 * v else 2 * v + 1
section XSGR
variable {c : Nat} {S : ow_NP} {G : Nat → Int32} {w q : Nat → Bool}
theorem mt_2 (x : Nat) : mt (2 * x) = 2 * x + 1 ∧ mt (2 * x + 1) = 2 * x := by
  unfold mt
  constructor
  · rw [if_pos (by omega)]
  · rw [if_neg (by omega)]
    omega
theorem fV_st (x : Nat) : (decide (fV9 G x % 2 = 0) == decide (0 < G (fV9 G x / 2))) = true ∧ (decide (mt (fV9 G x) % 2 = 0) == decide (0 < G (mt (fV9 G x) / 2))) = false ∧ mt (mt (fV9 G x)) = fV9 G x := by
  obtain ⟨m1, m2⟩ := mt_2 x
  unfold fV9
  by_cases h : 0 < G x
  · rw [if_pos h, m1, m2, show 2 * x / 2 = x by omega, show (2 * x + 1) / 2 = x by omega, decide_eq_true h, decide_eq_true (show 2 * x % 2 = 0 by omega), decide_eq_false (show ¬ (2 * x + 1) % 2 = 0 by omega)]
    exact ⟨rfl, rfl, rfl⟩
  · rw [if_neg h, m2, m1, show 2 * x / 2 = x by omega, show (2 * x + 1) / 2 = x by omega, decide_eq_false h, decide_eq_true (show 2 * x % 2 = 0 by omega), decide_eq_false (show ¬ (2 * x + 1) % 2 = 0 by omega)]
    exact ⟨rfl, rfl, rfl⟩
theorem on4 (hv : vn c S) {x : Nat} (hx : x < c) : fc_on S G (2 * S.2 (fV9 G x)) = 2 * mt (fV9 G x) ∧ fc_on S G (2 * S.2 (mt (fV9 G x))) = 2 * S.2 (fV9 G x) + 1 ∧ fc_on S G (2 * fV9 G x + 1) = 2 * S.2 (mt (fV9 G x)) + 1 ∧ fc_on S G (2 * mt (fV9 G x) + 1) = 2 * fV9 G x := by
  have hf := fV_lt (G := G) hx
  have hm := mt_lt hf
  obtain ⟨s1, s2, s3⟩ := fV_st (G := G) x
  have e1 : ∀ v, v < 2 * c → fc_end S.1 (2 * S.2 v) = v := fun v hv1 => by
    unfold fc_end
    rw [if_pos (by omega), show 2 * S.2 v / 2 = S.2 v by omega, (hv v hv1).2.2.2]
  have e2 : ∀ v, fc_end S.1 (2 * v + 1) = v := fun v => by
    unfold fc_end
    rw [if_neg (by omega)]
    omega
  refine ⟨?_, ?_, ?_, ?_⟩
  · unfold fc_on
    rw [e1 _ hf, s1, decide_eq_true (show 2 * S.2 (fV9 G x) % 2 = 0 by omega)]
    rfl
  · unfold fc_on
    rw [e1 _ hm, s2, s3, decide_eq_true (show 2 * S.2 (mt (fV9 G x)) % 2 = 0 by omega)]
    rfl
  · unfold fc_on
    rw [e2, s1, decide_eq_false (show ¬ (2 * fV9 G x + 1) % 2 = 0 by omega)]
    rfl
  · unfold fc_on
    rw [e2, s2, s3, decide_eq_false (show ¬ (2 * mt (fV9 G x) + 1) % 2 = 0 by omega)]
    rfl
/-- every visit is the one that goes ahead, or its mate -/
theorem fV_or {v : Nat} : v = fV9 G (v / 2) ∨ v = mt (fV9 G (v / 2)) := by
  obtain ⟨m1, m2⟩ := mt_2 (v / 2)
  unfold fV9
  by_cases h9 : 0 < G (v / 2)
  · rw [if_pos h9, m1]
    omega
  · rw [if_neg h9, m2]
    omega
/-- what stands at both sides of a gap or at none, and at one of the part's: at all -/
theorem paint_all (hv : vn c S) (hq : ptQ9 c S q) {φ : Nat → Nat} (hφ : ∀ s, s < 4 * c → φ (fc_on S G s) = φ s) {K : Nat → Prop} (hK : ∀ v, v < 2 * c → q v = true → (K (φ (2 * v)) ↔ K (φ (2 * v + 1)))) {v0 : Nat} (h0 : v0 < 2 * c) (q0 : q v0 = true) (k0 : K (φ (2 * v0))) : ∀ v, v < 2 * c → q v = true → K (φ (2 * v)) ∧ K (φ (2 * v + 1)) := by
  intro v hvl hvq
  have r := hq.2 v0 v h0 hvl q0 hvq
  have key := r (fun u => u < 2 * c ∧ q u = true ∧ K (φ (2 * u))) ⟨h0, q0, k0⟩ (fun j hj ⟨_, j2, j3⟩ => ?_) (fun j hj ⟨_, j2, j3⟩ => ?_)
  · exact ⟨key.2.2, (hK v hvl hvq).mp key.2.2⟩
  · have s1 := hv j hj
    have qn : q (S.1 j) = true := by rw [(hq.1 j hj).1]; exact j2
    have j4 := (hK j hj j2).mp j3
    refine ⟨s1.1, qn, ?_⟩
    have hx : S.1 j / 2 < c := by omega
    obtain ⟨o1, o2, o3, o4⟩ := on4 (G := G) hv hx
    have hf := fV_lt (G := G) hx
    have hm := mt_lt hf
    have p1 := hφ (2 * S.2 (fV9 G (S.1 j / 2))) (by have := (hv _ hf).2.1; omega)
    have p2 := hφ (2 * S.2 (mt (fV9 G (S.1 j / 2)))) (by have := (hv _ hm).2.1; omega)
    have p3 := hφ (2 * fV9 G (S.1 j / 2) + 1) (by omega)
    have p4 := hφ (2 * mt (fV9 G (S.1 j / 2)) + 1) (by omega)
    rw [o1] at p1
    rw [o3] at p3
    rw [o4] at p4
    obtain ⟨q1, q2⟩ := fV_q (G := G) hq hx
    have qm : q (2 * (S.1 j / 2)) = true := by
      rcases fV_or (G := G) (v := S.1 j) with h9 | h9
      · rw [← q1, ← h9]
        exact qn
      · rw [← q2, ← h9]
        exact qn
    rcases fV_or (G := G) (v := S.1 j) with h9 | h9
    · have hb : S.2 (fV9 G (S.1 j / 2)) = j := by rw [← h9, s1.2.2.1]
      rw [hb] at p1
      have a1 : K (φ (2 * mt (fV9 G (S.1 j / 2)))) := by rw [p1]; exact j3
      have a2 := (hK _ hm (by rw [q2]; exact qm)).mp a1
      rw [← p4] at a2
      rw [h9, ← h9]
      rw [← h9] at a2
      exact a2
    · have hb : S.2 (mt (fV9 G (S.1 j / 2))) = j := by rw [← h9, s1.2.2.1]
      rw [hb] at p3
      have a1 : K (φ (2 * fV9 G (S.1 j / 2) + 1)) := by rw [← p3]; exact j4
      have a2 := (hK _ hf (by rw [q1]; exact qm)).mpr a1
      rw [p4] at a2
      have a3 := (hK _ hm (by rw [q2]; exact qm)).mpr a2
      rw [← h9] at a3
      exact a3
  · have qn : q (mt j) = true := by rw [(hq.1 j hj).2]; exact j2
    refine ⟨mt_lt hj, qn, ?_⟩
    have hx : j / 2 < c := by omega
    obtain ⟨o1, o2, o3, o4⟩ := on4 (G := G) hv hx
    have hf := fV_lt (G := G) hx
    have hm := mt_lt hf
    have p4 := hφ (2 * mt (fV9 G (j / 2)) + 1) (by omega)
    rw [o4] at p4
    obtain ⟨s1, s2, s3⟩ := fV_st (G := G) (j / 2)
    rcases fV_or (G := G) (v := j) with h9 | h9
    · have a1 : K (φ (2 * mt (fV9 G (j / 2)) + 1)) := by rw [← p4, ← h9]; exact j3
      have hmj : mt j = mt (fV9 G (j / 2)) := congrArg mt h9
      rw [hmj]
      refine (hK _ hm ?_).mpr a1
      rw [← hmj]
      exact qn
    · have j4 := (hK j hj j2).mp j3
      have hmj : mt j = fV9 G (j / 2) := (congrArg mt h9).trans s3
      rw [hmj, p4, ← h9]
      exact j4
/-- rows of faces are rows of gaps -/
theorem nb_of (hv : vn c S) (hw : gaO c S w) {φ : Nat → Nat} (hφ : ∀ s, s < 4 * c → φ (fc_on S G s) = φ s) {κ : Bool} {ρ : Nat → Nat} {k : Nat} (h1 : ∀ v, v < 2 * c → q v = true → ρ (φ (ws9 w κ v)) < k) (h2 : ∀ j, j < k → ∃ v, v < 2 * c ∧ q v = true ∧ ρ (φ (ws9 w κ v)) = j) : nbG9 c S G w q κ (fun v => ρ (φ (ws9 w κ v))) k := by
  refine ⟨h1, h2, fun x hx hxq => ?_⟩
  have hf := fV_lt (G := G) hx
  have hm := mt_lt hf
  obtain ⟨o1, o2, o3, o4⟩ := on4 (G := G) hv hx
  have p1 := hφ (2 * S.2 (fV9 G x)) (by have := (hv _ hf).2.1; omega)
  have p2 := hφ (2 * S.2 (mt (fV9 G x))) (by have := (hv _ hm).2.1; omega)
  have p3 := hφ (2 * fV9 G x + 1) (by omega)
  have p4 := hφ (2 * mt (fV9 G x) + 1) (by omega)
  rw [o1] at p1
  rw [o2] at p2
  rw [o3] at p3
  rw [o4] at p4
  have wb : ∀ v, v < 2 * c → w (S.2 v) = !w v := fun v hv1 => by
    have := (hw (S.2 v) (hv v hv1).2.1).1
    rw [(hv v hv1).2.2.2] at this
    rw [this, Bool.not_not]
  have w1 := (hw _ hf).2
  have w2 := wb _ hf
  have w3 := wb _ hm
  rw [w1, Bool.not_not] at w3
  have nb : ∀ b : Bool, ¬ (!b) = b := fun b => by cases b <;> decide
  dsimp only
  unfold ws9
  rw [w1, w2, w3]
  refine ⟨fun h => ?_, fun h => ?_⟩
  · rw [h, if_neg (nb κ), if_pos rfl, if_pos rfl, if_neg (nb κ)]
    exact ⟨by rw [p4], by rw [p2]⟩
  · rw [h, Bool.not_not, if_pos rfl, if_pos rfl, if_neg (nb κ), if_neg (nb κ)]
    exact ⟨by rw [p1], by rw [p3]⟩
theorem nF_mono {q : Nat → Bool} : ∀ {a b : Nat}, a ≤ b → nF q a ≤ nF q b := by
  intro a b
  induction b with
  | zero =>
    intro h
    rw [show a = 0 by omega]
    exact Nat.le_refl _
  | succ b ih =>
    intro h
    by_cases h9 : a = b + 1
    · rw [h9]
      exact Nat.le_refl _
    · have := ih (by omega)
      show nF q a ≤ nF q b + _
      omega
theorem nF_lt {q : Nat → Bool} {f n : Nat} (hf : f < n) (hq : q f = true) : nF q f < nF q n := by
  have a := nF_mono (q := q) (show f + 1 ≤ n by omega)
  have b : nF q (f + 1) = nF q f + 1 := by
    show nF q f + (if q f = true then 1 else 0) = _
    rw [if_pos hq]
  omega
theorem nF_sur {q : Nat → Bool} : ∀ {n j : Nat}, j < nF q n → ∃ f, f < n ∧ q f = true ∧ nF q f = j := by
  intro n
  induction n with
  | zero => exact fun h => absurd h (Nat.not_lt_zero _)
  | succ n ih =>
    intro j h
    have e : nF q (n + 1) = nF q n + (if q n = true then 1 else 0) := rfl
    by_cases h9 : j < nF q n
    · obtain ⟨f, f1, f2, f3⟩ := ih h9
      exact ⟨f, by omega, f2, f3⟩
    · by_cases hq : q n = true
      · rw [if_pos hq] at e
        exact ⟨n, by omega, hq, by omega⟩
      · rw [if_neg hq] at e
        omega
theorem nF_split {p r : Nat → Bool} : ∀ n, nF (fun f => p f && (r f == true)) n + nF (fun f => p f && (r f == false)) n = nF p n := by
  intro n
  induction n with
  | zero => rfl
  | succ n ih =>
    show nF (fun f => p f && (r f == true)) n + (if (p n && (r n == true)) = true then 1 else 0) + (nF (fun f => p f && (r f == false)) n + (if (p n && (r n == false)) = true then 1 else 0)) = nF p n + (if p n = true then 1 else 0)
    rw [← ih]
    cases p n <;> cases r n <;> simp <;> omega
theorem ws_k (κ : Bool) (v : Nat) : kS w (ws9 w κ v) = κ ∧ ws9 w κ v / 2 = v ∧ ws9 w κ v < 2 * v + 2 := by
  unfold ws9
  by_cases h : w v = κ
  · rw [if_pos h]
    unfold kS
    rw [if_pos (by omega), show 2 * v / 2 = v by omega]
    exact ⟨h, rfl, by omega⟩
  · rw [if_neg h]
    unfold kS
    rw [if_neg (by omega), show (2 * v + 1) / 2 = v by omega]
    refine ⟨?_, rfl, by omega⟩
    rw [bnot h, Bool.not_not]
theorem ws_of {κ : Bool} {s : Nat} (h : kS w s = κ) : s = ws9 w κ (s / 2) := by
  unfold kS at h
  unfold ws9
  by_cases h2 : s % 2 = 0
  · rw [if_pos h2] at h
    rw [if_pos h]
    omega
  · rw [if_neg h2] at h
    rw [if_neg (fun h9 => by rw [← h9] at h; cases hw : w (s / 2) <;> simp_all)]
    omega
end XSGR
end
section
/-! 99zzzzzzzzzzzzzzzzyzzzb.xsgs -/
/-! signature: the value of a part -/
def qP9 (M : Nat → Int32) (p v : Nat) : Bool := decide (M v = nI p)
def qF9 (ψ : Nat → Nat) (cf : Nat → Bool) (p : Nat) (κ : Bool) (f : Nat) : Bool := decide (ψ f = p) && (cf f == κ)
/-- faces, colours and parts of a plane net -/
def fcD9 (c : Nat) (S : ow_NP) (G : Nat → Int32) (w : Nat → Bool) (n P : Nat) (M : Nat → Int32) (φ ψ : Nat → Nat) (cf : Nat → Bool) : Prop := vn c S ∧ gaO c S w ∧ (∀ s, s < 4 * c → φ s < n) ∧ (∀ s, s < 4 * c → φ (fc_on S G s) = φ s) ∧ (∀ s, s < 4 * c → kS w s = cf (φ s)) ∧ (∀ f, f < n → ψ f < P) ∧ (∀ s, s < 4 * c → M (s / 2) = nI (ψ (φ s))) ∧ (∀ f, f < n → ∃ s, s < 4 * c ∧ φ s = f) ∧ n = c + 2 * P ∧ (∀ v, v < 2 * c → M (S.1 v) = M v ∧ M (mt v) = M v) ∧ (∀ u v, u < 2 * c → v < 2 * c → M u = M v → rch c S u v) ∧ (∀ p, p < P → ∃ v, v < 2 * c ∧ M v = nI p) ∧ c ≤ 12 ∧ n ≤ 48 ∧ P ≤ 24
def kF9 (ψ : Nat → Nat) (cf : Nat → Bool) (n p : Nat) (κ : Bool) : Nat := nF (qF9 ψ cf p κ) n
def cnR9 (w : Nat → Bool) (φ ψ : Nat → Nat) (cf : Nat → Bool) (p : Nat) (κ : Bool) (v : Nat) : Nat := nF (qF9 ψ cf p κ) (φ (ws9 w κ v))
/-- the value -/
def vlG9 (c : Nat) (S : ow_NP) (G : Nat → Int32) (w : Nat → Bool) (n : Nat) (M : Nat → Int32) (φ ψ : Nat → Nat) (cf : Nat → Bool) (p : Nat) : Int := svG9 c S G w (qP9 M p) true (cnR9 w φ ψ cf p true) (kF9 ψ cf n p true)
theorem sumQ_sq {A B : Nat → Nat} : ∀ P, (∀ p, p < P → A p ≤ B p + 2) → sumQ A P ≤ sumQ B P + 2 * P ∧ (sumQ A P = sumQ B P + 2 * P → ∀ p, p < P → A p = B p + 2) := by
  intro P
  induction P with
  | zero => exact fun _ => ⟨Nat.le_refl _, fun _ p hp => absurd hp (Nat.not_lt_zero _)⟩
  | succ P ih =>
    intro h
    obtain ⟨i1, i2⟩ := ih (fun p hp => h p (by omega))
    have hP := h P (by omega)
    have e1 : sumQ A (P + 1) = sumQ A P + A P := rfl
    have e2 : sumQ B (P + 1) = sumQ B P + B P := rfl
    refine ⟨by omega, fun e p hp => ?_⟩
    by_cases h9 : p = P
    · rw [h9]
      omega
    · exact i2 (by omega) p (by omega)
section XSGS
variable {c n P : Nat} {S : ow_NP} {G : Nat → Int32} {w cf : Nat → Bool} {M : Nat → Int32} {φ ψ : Nat → Nat}
theorem ptQ_of (h : fcD9 c S G w n P M φ ψ cf) (p : Nat) : ptQ9 c S (qP9 M p) := by
  obtain ⟨h1, h2, h3, h4, h5, h6, h7, h8, h9, h10, h11, h12, h13, h14, h15⟩ := h
  refine ⟨fun v hv => ?_, fun u v hu hv q1 q2 => ?_⟩
  · unfold qP9
    rw [(h10 v hv).1, (h10 v hv).2]
    exact ⟨rfl, rfl⟩
  · have a := of_decide_eq_true q1
    have b := of_decide_eq_true q2
    exact h11 u v hu hv (by rw [a, b])
theorem fc_ws (h : fcD9 c S G w n P M φ ψ cf) {p : Nat} (hp : p < P) {κ : Bool} {v : Nat} (hv : v < 2 * c) (hq : qP9 M p v = true) : φ (ws9 w κ v) < n ∧ qF9 ψ cf p κ (φ (ws9 w κ v)) = true := by
  obtain ⟨h1, h2, h3, h4, h5, h6, h7, h8, h9, h10, h11, h12, h13, h14, h15⟩ := h
  obtain ⟨a1, a2, a3⟩ := ws_k (w := w) κ v
  have hs : ws9 w κ v < 4 * c := by omega
  have hn := h3 _ hs
  refine ⟨hn, ?_⟩
  have e := h7 _ hs
  rw [a2, of_decide_eq_true hq] at e
  have hl := h6 _ hn
  have e2 := nI_inj9 (by omega) (by omega) e
  have e3 := h5 _ hs
  rw [a1] at e3
  unfold qF9
  rw [decide_eq_true e2.symm, ← e3]
  simp
theorem fc_of (h : fcD9 c S G w n P M φ ψ cf) {p : Nat} {κ : Bool} {f : Nat} (hf : f < n) (hq : qF9 ψ cf p κ f = true) : ∃ v, v < 2 * c ∧ qP9 M p v = true ∧ φ (ws9 w κ v) = f := by
  obtain ⟨h1, h2, h3, h4, h5, h6, h7, h8, h9, h10, h11, h12, h13, h14, h15⟩ := h
  obtain ⟨s, s1, s2⟩ := h8 f hf
  unfold qF9 at hq
  rw [Bool.and_eq_true_iff] at hq
  have q1 := of_decide_eq_true hq.1
  have q2 : cf f = κ := by
    have := hq.2
    simpa using this
  have k1 := h5 s s1
  rw [s2, q2] at k1
  refine ⟨s / 2, by omega, ?_, ?_⟩
  · unfold qP9
    rw [h7 s s1, s2, q1]
    exact decide_eq_true rfl
  · rw [← ws_of k1, s2]
theorem nb_can (h : fcD9 c S G w n P M φ ψ cf) {p : Nat} (hp : p < P) (κ : Bool) : nbG9 c S G w (qP9 M p) κ (cnR9 w φ ψ cf p κ) (kF9 ψ cf n p κ) := by
  refine nb_of (ρ := fun f => nF (qF9 ψ cf p κ) f) h.1 h.2.1 h.2.2.2.1 (fun v hv hq => ?_) (fun j hj => ?_)
  · obtain ⟨a, b⟩ := fc_ws h hp (κ := κ) hv hq
    exact nF_lt a b
  · obtain ⟨f, f1, f2, f3⟩ := nF_sur hj
    obtain ⟨v, v1, v2, v3⟩ := fc_of h f1 f2
    refine ⟨v, v1, v2, ?_⟩
    rw [v3]
    exact f3
theorem kF_pos (h : fcD9 c S G w n P M φ ψ cf) {p : Nat} (hp : p < P) (κ : Bool) : 1 ≤ kF9 ψ cf n p κ := by
  obtain ⟨v, v1, v2⟩ := h.2.2.2.2.2.2.2.2.2.2.2.1 p hp
  obtain ⟨a, b⟩ := fc_ws h hp (κ := κ) v1 (decide_eq_true v2)
  exact nF_pos b n a
/-- Euler for each part -/
theorem eul_p (h : fcD9 c S G w n P M φ ψ cf) {p : Nat} (hp : p < P) (κ : Bool) : kF9 ψ cf n p κ + kF9 ψ cf n p (!κ) = nF (fun x => qP9 M p (2 * x)) c + 2 := by
  have hle : ∀ p, p < P → nF (fun f => decide (ψ f = p)) n ≤ nF (fun x => decide (ψ (φ (4 * x)) = p)) c + 2 := fun p hp => by
    have a := eul_G (κ := true) h.1 h.2.1 (ptQ_of h p) (kF_pos h hp true) (kF_pos h hp false) (nb_can h hp true) (nb_can h hp false)
    have b := nF_split (p := fun f => decide (ψ f = p)) (r := cf) n
    have e : nF (fun x => qP9 M p (2 * x)) c = nF (fun x => decide (ψ (φ (4 * x)) = p)) c := nF_cg c (fun x hx => by
      have e1 := h.2.2.2.2.2.2.1 (4 * x) (by omega)
      rw [show 4 * x / 2 = 2 * x by omega] at e1
      have hl := h.2.2.2.2.2.1 _ (h.2.2.1 (4 * x) (by omega))
      have hP := h.2.2.2.2.2.2.2.2.2.2.2.2.2.2
      unfold qP9
      rw [e1]
      by_cases h9 : ψ (φ (4 * x)) = p
      · rw [h9, decide_eq_true rfl, decide_eq_true rfl]
      · rw [decide_eq_false (fun h8 => h9 (nI_inj9 (by omega) (by omega) h8)), decide_eq_false h9])
    rw [e] at a
    have b2 : kF9 ψ cf n p true + kF9 ψ cf n p false = nF (fun f => decide (ψ f = p)) n := b
    omega
  have s1 := sumQ_nF ψ P n h.2.2.2.2.2.1
  have s2 := sumQ_nF (fun x => ψ (φ (4 * x))) P c (fun x hx => h.2.2.2.2.2.1 _ (h.2.2.1 _ (by omega)))
  have s3 := (sumQ_sq P hle).2 (by rw [s1, s2]; exact h.2.2.2.2.2.2.2.2.1) p hp
  have e : nF (fun x => qP9 M p (2 * x)) c = nF (fun x => decide (ψ (φ (4 * x)) = p)) c := nF_cg c (fun x hx => by
    have e1 := h.2.2.2.2.2.2.1 (4 * x) (by omega)
    rw [show 4 * x / 2 = 2 * x by omega] at e1
    have hl := h.2.2.2.2.2.1 _ (h.2.2.1 (4 * x) (by omega))
    have hP := h.2.2.2.2.2.2.2.2.2.2.2.2.2.2
    unfold qP9
    rw [e1]
    by_cases h9 : ψ (φ (4 * x)) = p
    · rw [h9, decide_eq_true rfl, decide_eq_true rfl]
    · rw [decide_eq_false (fun h8 => h9 (nI_inj9 (by omega) (by omega) h8)), decide_eq_false h9])
  have b := nF_split (p := fun f => decide (ψ f = p)) (r := cf) n
  have b2 : kF9 ψ cf n p true + kF9 ψ cf n p false = nF (fun f => decide (ψ f = p)) n := b
  cases κ with
  | true =>
    show kF9 ψ cf n p true + kF9 ψ cf n p false = _
    omega
  | false =>
    show kF9 ψ cf n p false + kF9 ψ cf n p true = _
    omega
/-- EVERY NUMBERING OF EITHER COLOUR GIVES THE VALUE -/
theorem vl_all (h : fcD9 c S G w n P M φ ψ cf) {p : Nat} (hp : p < P) {κ : Bool} {R : Nat → Nat} (hR : nbG9 c S G w (qP9 M p) κ R (kF9 ψ cf n p κ)) : svG9 c S G w (qP9 M p) κ R (kF9 ψ cf n p κ) = vlG9 c S G w n M φ ψ cf p := by
  have key : ∀ (κ : Bool) (R : Nat → Nat), nbG9 c S G w (qP9 M p) κ R (kF9 ψ cf n p κ) → svG9 c S G w (qP9 M p) κ R (kF9 ψ cf n p κ) = svG9 c S G w (qP9 M p) (!κ) (cnR9 w φ ψ cf p (!κ)) (kF9 ψ cf n p (!κ)) := fun κ R hR => sv_G h.1 h.2.1 (ptQ_of h p) (kF_pos h hp κ) (kF_pos h hp (!κ)) hR (nb_can h hp (!κ)) (eul_p h hp κ)
  cases κ with
  | false => exact key false R hR
  | true =>
    rw [key true R hR]
    exact (key true _ (nb_can h hp true)).symm
end XSGS
/-- the matrix in whole numbers -/
def rwZ9 (S : ow_NP) (G : Nat → Int32) (R : Nat → Nat) (x i : Nat) : Int := zd9 i (R (fV9 G x)) - zd9 i (R (S.2 (fV9 G x)))
def mtZ9 (c : Nat) (S : ow_NP) (G : Nat → Int32) (w q : Nat → Bool) (κ : Bool) (R : Nat → Nat) (i j : Nat) : Int := zS9 (fun x => if q (2 * x) = true then tI9 G w κ x * rwZ9 S G R x i * rwZ9 S G R x j else 0) c
section XSGS2
variable {c : Nat} {S : ow_NP} {G : Nat → Int32} {w q : Nat → Bool} {κ : Bool} {R : Nat → Nat}
theorem rwZ_cs (x i : Nat) : ((rwZ9 S G R x i : Int) : Rat) = rwG9 S G R x i := by
  unfold rwZ9 rwG9
  rw [Rat.intCast_sub, zd_cs, zd_cs]
theorem mtZ_cs : cM9 (mtZ9 c S G w q κ R) = mtG9 c S G w q κ R := by
  funext i j
  show ((mtZ9 c S G w q κ R i j : Int) : Rat) = _
  unfold mtZ9 mtG9
  rw [zS_cs]
  refine qS_cg (fun x _ => ?_)
  by_cases h : q (2 * x) = true
  · rw [if_pos h, if_pos h, Rat.intCast_mul, Rat.intCast_mul, rwZ_cs, rwZ_cs]
  · rw [if_neg h, if_neg h]
    rfl
theorem rw_ab (x i : Nat) : ab9 (rwG9 S G R x i) ≤ 1 := ab_1 _ (by
  unfold rwG9 dl9
  split <;> split <;> grind)
theorem rw_abS (x n : Nat) : qS9 (fun i => ab9 (rwG9 S G R x i)) n ≤ 2 := by
  have d1 : ∀ a n, qS9 (fun i => dl9 i a) n ≤ 1 := fun a n => by
    have b : ∀ i, i < n → dl9 i a = dl9 a i * (fun _ => 1) i := fun i _ => by
      show dl9 i a = dl9 a i * 1
      rw [Rat.mul_one]
      unfold dl9
      by_cases h9 : a = i
      · rw [if_pos h9, if_pos h9.symm]
      · rw [if_neg h9, if_neg (fun h => h9 h.symm)]
    rw [qS_cg b]
    by_cases h9 : a < n
    · have := qD_dl (x := fun _ => (1 : Rat)) h9
      unfold qD9 at this
      rw [this]
      exact Rat.le_refl
    · rw [qS_cg (g := fun _ => 0) (fun i hi => by rw [show dl9 a i = 0 from if_neg (by omega), Rat.zero_mul]), qS_0]
      decide
  have a := qS_le (n := n) (f := fun i => ab9 (rwG9 S G R x i)) (g := fun i => dl9 i (R (fV9 G x)) + dl9 i (R (S.2 (fV9 G x)))) (fun i _ => by
    unfold rwG9
    refine ab_le ?_ ?_
    · unfold dl9
      split <;> split <;> grind
    · unfold dl9
      split <;> split <;> grind)
  rw [qS_add] at a
  have b1 := d1 (R (fV9 G x)) n
  have b2 := d1 (R (S.2 (fV9 G x))) n
  grind
theorem mt_ab (i j : Nat) : ab9 (mtG9 c S G w q κ R i j) ≤ qS9 (fun x => ab9 (rwG9 S G R x i) * ab9 (rwG9 S G R x j)) c := by
  unfold mtG9
  refine Rat.le_trans (ab_sum _) (qS_le (fun x _ => ?_))
  by_cases h : q (2 * x) = true
  · rw [if_pos h, ab_mul, ab_mul]
    have t1 : ab9 ((tI9 G w κ x : Int) : Rat) ≤ 1 := ab_1 _ (by
      rcases tI_pm (G := G) (w := w) (κ := κ) x with h9 | h9
      · exact Or.inl (by rw [h9]; rfl)
      · exact Or.inr (Or.inl (by rw [h9]; rfl)))
    have a := mul_le9 t1 (show ab9 (rwG9 S G R x i) * ab9 (rwG9 S G R x j) ≤ ab9 (rwG9 S G R x i) * ab9 (rwG9 S G R x j) from Rat.le_refl) (Rat.mul_nonneg (ab_nn _) (ab_nn _)) (by decide)
    rw [Rat.one_mul, ← Rat.mul_assoc] at a
    exact a
  · rw [if_neg h]
    refine Rat.le_trans ?_ (Rat.mul_nonneg (ab_nn _) (ab_nn _))
    exact ab_le Rat.le_refl (by grind)
theorem mt_row (i n : Nat) : qS9 (fun j => ab9 (mtG9 c S G w q κ R i j)) n ≤ qS9 (fun x => 2 * ab9 (rwG9 S G R x i)) c := by
  have a := qS_le (n := n) (f := fun j => ab9 (mtG9 c S G w q κ R i j)) (g := fun j => qS9 (fun x => ab9 (rwG9 S G R x i) * ab9 (rwG9 S G R x j)) c) (fun j _ => mt_ab i j)
  rw [qS_sw] at a
  refine Rat.le_trans a (qS_le (fun x _ => ?_))
  rw [qS_mul]
  have b := Rat.mul_le_mul_of_nonneg_left (rw_abS (S := S) (G := G) (R := R) x n) (ab_nn (rwG9 S G R x i))
  grind
theorem mt_bd {E : Nat → Int} {n : Nat} (hc : c ≤ 12) (hE : ∀ k, ((E k : Int) : Rat) = qE9 (cM9 (mtZ9 c S G w q κ R)) n k) : ∀ k : Nat, k ≤ 12 → rI9 ((k : Int) * E k) := by
  rw [mtZ_cs] at hE
  have cc : ((c : Nat) : Rat) ≤ 12 := by
    have : ((c : Int) : Rat) ≤ ((12 : Int) : Rat) := Rat.intCast_le_intCast.mpr (by omega)
    exact this
  have r1 : ∀ i, i < n → qS9 (fun j => ab9 (mtG9 c S G w q κ R i j)) n ≤ 24 := fun i _ => by
    refine Rat.le_trans (mt_row i n) ?_
    have a := qS_le (n := c) (f := fun x => 2 * ab9 (rwG9 S G R x i)) (g := fun _ => 2) (fun x _ => by
      have := rw_ab (S := S) (G := G) (R := R) x i
      show 2 * ab9 (rwG9 S G R x i) ≤ 2
      grind)
    rw [qS_c] at a
    grind
  have r2 : qS9 (fun i => qS9 (fun j => ab9 (mtG9 c S G w q κ R i j)) n) n ≤ 2 * 24 := by
    have a := qS_le (n := n) (f := fun i => qS9 (fun j => ab9 (mtG9 c S G w q κ R i j)) n) (g := fun i => qS9 (fun x => 2 * ab9 (rwG9 S G R x i)) c) (fun i _ => mt_row i n)
    rw [qS_sw (m := c) (k := n)] at a
    have b := qS_le (n := c) (f := fun x => qS9 (fun i => 2 * ab9 (rwG9 S G R x i)) n) (g := fun _ => 4) (fun x _ => by
      show qS9 (fun i => 2 * ab9 (rwG9 S G R x i)) n ≤ 4
      rw [qS_mul]
      have := rw_abS (S := S) (G := G) (R := R) x n
      grind)
    rw [qS_c] at b
    grind
  have r3 := qE_bd (A := mtG9 c S G w q κ R) (n := n) (s := 24) (by decide) r1 r2
  intro k hk
  have a := r3 k
  rw [← hE k] at a
  have g1 := ab_ge ((E k : Int) : Rat)
  have cs : ((k : Rat) + 1) * (24 : Rat) ^ k = ((((k + 1) * 24 ^ k : Nat) : Int) : Rat) := by
    rw [show ((((k + 1) * 24 ^ k : Nat) : Int) : Rat) = (((k + 1) * 24 ^ k : Nat) : Rat) from rfl, Rat.natCast_mul, cs_s, Rat.natCast_pow]
    rfl
  rw [cs] at a
  have u1 : E k ≤ (((k + 1) * 24 ^ k : Nat) : Int) := Rat.intCast_le_intCast.mp (Rat.le_trans g1.1 a)
  have u2 : -E k ≤ (((k + 1) * 24 ^ k : Nat) : Int) := Rat.intCast_le_intCast.mp (by
    rw [Rat.intCast_neg]
    exact Rat.le_trans g1.2 a)
  have key : ∀ k : Fin 13, k.val * ((k.val + 1) * 24 ^ k.val) < 9223372036854775808 := by decide +kernel
  have k9 := key ⟨k, by omega⟩
  dsimp only at k9
  generalize (k + 1) * 24 ^ k = B at u1 u2 k9
  have v1 := Int.mul_le_mul_of_nonneg_left u1 (show (0 : Int) ≤ (k : Int) by omega)
  have v2 := Int.mul_le_mul_of_nonneg_left u2 (show (0 : Int) ≤ (k : Int) by omega)
  rw [Int.mul_neg] at v2
  have k10 : (k : Int) * (B : Int) < 9223372036854775808 := by
    have : ((k * B : Nat) : Int) < 9223372036854775808 := by omega
    rw [Int.natCast_mul] at this
    exact this
  unfold rI9
  omega
end XSGS2
end
section
/-! 99zzzzzzzzzzzzzzzzyzzzc.xsgt -/
/-! signature, the class: faces are painted, exactly -/
/-- how many of the first m sides of the part have no colour yet -/
def ucC9 (z : ow_MS) (φ : Nat → Nat) (q : Nat → Bool) (m : Nat) : Nat := nF (fun s => q (s / 2) && decide (z.2.1 6003 (φ s) = -1)) m
section XSGT
variable {vl : Nat → Nat} {y : ow_MS} {c n : Nat} {φ : Nat → Nat} {q : Nat → Bool} {x2 : Int32}
theorem nF_le2 {p r : Nat → Bool} : ∀ m, (∀ s, s < m → p s = true → r s = true) → nF p m ≤ nF r m := by
  intro m
  induction m with
  | zero => exact fun _ => Nat.le_refl _
  | succ m ih =>
    intro h
    have a := ih (fun s hs => h s (by omega))
    have b := h m (by omega)
    show nF p m + _ ≤ nF r m + _
    by_cases hp : p m = true
    · rw [if_pos hp, if_pos (b hp)]
      omega
    · rw [if_neg hp]
      omega
theorem nF_lt2 {p r : Nat → Bool} {a : Nat} : ∀ m, (∀ s, s < m → p s = true → r s = true) → a < m → p a = false → r a = true → nF p m < nF r m := by
  intro m
  induction m with
  | zero => exact fun _ h => absurd h (Nat.not_lt_zero _)
  | succ m ih =>
    intro h ha hp hr
    show nF p m + _ < nF r m + _
    by_cases h9 : a = m
    · subst h9
      have b := nF_le2 a (fun s hs => h s (by omega))
      rw [if_neg (by rw [hp]; decide), if_pos hr]
      omega
    · have b := ih (fun s hs => h s (by omega)) (by omega) hp hr
      have d := h m (by omega)
      by_cases hpm : p m = true
      · rw [if_pos hpm, if_pos (d hpm)]
        omega
      · rw [if_neg hpm]
        omega
/-- what stands while faces are painted: fc f is the colour that f must get -/
def pnI9 (y z : ow_MS) (c n : Nat) (φ : Nat → Nat) (q : Nat → Bool) (fc : Nat → Int32) : Prop := fr (fun g => g = 6003) y z ∧ (∀ f, (∀ s, s < 4 * c → q (s / 2) = true → φ s ≠ f) → z.2.1 6003 f = y.2.1 6003 f) ∧ ∀ s, s < 4 * c → q (s / 2) = true → z.2.1 6003 (φ s) = -1 ∨ z.2.1 6003 (φ s) = fc (φ s)
theorem pn_w {z : ow_MS} {fc : Nat → Int32} {s : Nat} (hs : s < 4 * c) (hq : q (s / 2) = true) (h : pnI9 y z c n φ q fc) (hm : z.2.1 6003 (φ s) = -1) (hfc : fc (φ s) ≠ -1) : pnI9 y (usI z 6003 (φ s) (fc (φ s))) c n φ q fc ∧ ucC9 (usI z 6003 (φ s) (fc (φ s))) φ q (4 * c) < ucC9 z φ q (4 * c) := by
  refine ⟨⟨fr_I2 h.1 rfl, fun f hf => ?_, fun t ht htq => ?_⟩, ?_⟩
  · rw [po_usI_ne (fun h9 => hf s hs hq h9.symm)]
    exact h.2.1 f hf
  · by_cases h9 : φ t = φ s
    · rw [h9]
      exact Or.inr po_usI_at
    · rw [po_usI_ne h9]
      exact h.2.2 t ht htq
  · refine nF_lt2 (a := s) (4 * c) (fun t _ ht => ?_) hs ?_ ?_
    · rw [Bool.and_eq_true_iff] at ht ⊢
      refine ⟨ht.1, ?_⟩
      have a := of_decide_eq_true ht.2
      by_cases h9 : φ t = φ s
      · rw [h9, po_usI_at] at a
        exact absurd a hfc
      · rw [po_usI_ne h9] at a
        exact decide_eq_true a
    · rw [hq, po_usI_at, decide_eq_false hfc]
      rfl
    · rw [hq, hm, decide_eq_true rfl]
      rfl
theorem te_paint {S : ow_NP} {G : Nat → Int32} {fc : Nat → Int32} {v0 : Nat} (hv : vn c S) (hq : ptQ9 c S q) (h8 : y.1 4008 = nI c) (hc : c ≤ 12) (hn : n ≤ 48) (hφ : ∀ s, s < 4 * c → y.2.1 6001 s = nI (φ s) ∧ φ s < n) (ho : ∀ s, s < 4 * c → φ (fc_on S G s) = φ s) (hqM : ∀ v, v < 2 * c → (y.2.1 4006 v = x2 ↔ q v = true)) (hfc : ∀ f, fc f = 0 ∨ fc f = 1) (hlr : ∀ v, v < 2 * c → q v = true → fc (φ (2 * v)) = 1 - fc (φ (2 * v + 1))) (hv0 : v0 < 2 * c) (hq0 : q v0 = true) (hf0 : ∀ u, u < v0 → q u = false) (hc0 : fc (φ (2 * v0)) = 0) (hin : ∀ s, s < 4 * c → q (s / 2) = true → y.2.1 6003 (φ s) = -1) : Te (fun K => ce_X4_paint vl K 6000 4000 x2 y) (fun y1 => fr (fun g => g = 6003) y y1 ∧ (∀ f, (∀ s, s < 4 * c → q (s / 2) = true → φ s ≠ f) → y1.2.1 6003 f = y.2.1 6003 f) ∧ ∀ s, s < 4 * c → q (s / 2) = true → y1.2.1 6003 (φ s) = fc (φ s)) := by
  let Q : ow_MS → Prop := fun y1 => fr (fun g => g = 6003) y y1 ∧ (∀ f, (∀ s, s < 4 * c → q (s / 2) = true → φ s ≠ f) → y1.2.1 6003 f = y.2.1 6003 f) ∧ ∀ s, s < 4 * c → q (s / 2) = true → y1.2.1 6003 (φ s) = fc (φ s)
  have fcn : ∀ f, fc f ≠ -1 := fun f h => by
    rcases hfc f with h9 | h9 <;> rw [h9] at h <;> exact absurd h (by decide)
  have one : ∀ v, v < 2 * c → q v = true → fc (φ (2 * v + 1)) = 1 - fc (φ (2 * v)) := fun v hv1 hvq => by
    have a := hlr v hv1 hvq
    rcases hfc (φ (2 * v + 1)) with h9 | h9 <;> rw [h9] at a ⊢ <;> rw [a] <;> rfl
  -- painted through
  have done : ∀ z, pnI9 y z c n φ q fc → z.2.1 6003 (φ (2 * v0)) ≠ -1 → (∀ v, v < 2 * c → q v = true → (z.2.1 6003 (φ (2 * v)) ≠ -1 ↔ z.2.1 6003 (φ (2 * v + 1)) ≠ -1)) → Q z := by
    intro z hz h0 hst
    have all := paint_all (G := G) hv hq ho (K := fun f => z.2.1 6003 f ≠ -1) hst hv0 hq0 h0
    refine ⟨hz.1, hz.2.1, fun s hs hsq => ?_⟩
    have a := all (s / 2) (by omega) hsq
    have b := hz.2.2 s hs hsq
    by_cases h2 : s % 2 = 0
    · rw [show 2 * (s / 2) = s by omega] at a
      exact b.resolve_left a.1
    · rw [show 2 * (s / 2) + 1 = s by omega] at a
      exact b.resolve_left a.2
  -- one pass: changed, or the same as before and even so far
  have pass : ∀ (x5 : Int32) (z0 : ow_MS), (∀ (x4 : Int32) (z : ow_MS), pnI9 y z c n φ q fc → z.2.1 6003 (φ (2 * v0)) ≠ -1 → (x4 = 1 ∧ ucC9 z φ q (4 * c) < ucC9 z0 φ q (4 * c) ∨ x4 = 0 ∧ ∀ v, v < 2 * c → q v = true → (z.2.1 6003 (φ (2 * v)) ≠ -1 ↔ z.2.1 6003 (φ (2 * v + 1)) ≠ -1)) → Tt (fun K k => c_X4_paint vl K k 1 x2 1 x4 (x5 + 1) 0 0 0 6000 4000 z) Q) → ∀ (d v : Nat) (x3 x4 : Int32) (z : ow_MS), v + d = 2 * c → pnI9 y z c n φ q fc → (x3 = 1 ∧ z.2.1 6003 (φ (2 * v0)) ≠ -1 ∨ x3 = 0 ∧ v ≤ v0 ∧ x4 = 0 ∧ z = y) → (x4 = 1 ∧ ucC9 z φ q (4 * c) < ucC9 z0 φ q (4 * c) ∨ x4 = 0 ∧ ucC9 z φ q (4 * c) ≤ ucC9 z0 φ q (4 * c) ∧ ∀ u, u < v → q u = true → (z.2.1 6003 (φ (2 * u)) ≠ -1 ↔ z.2.1 6003 (φ (2 * u + 1)) ≠ -1)) → Tt (fun K k => c_X4_paint vl K k 2 x2 x3 x4 x5 (nI v) 0 0 6000 4000 z) Q := by
    intro x5 z0 hnext d
    induction d with
    | zero =>
      intro v x3 x4 z hvd hz h3 h4
      rcases h3 with ⟨h3, h5⟩ | ⟨h3, h5, h6, h7⟩
      · rw [h3]
        refine u_X4_paint_2 ?_; unfold cm_X4_paint_2
        refine w_rdF ((hz.1 4008 (by omega)).1.trans h8) ?_
        rw [rn_mul2]
        refine w_leT (by omega) (by omega) (hnext x4 z hz h5 ?_)
        rcases h4 with h4 | ⟨h4, h7, h9⟩
        · exact Or.inl h4
        · exact Or.inr ⟨h4, fun u hu => h9 u (by omega)⟩
      · omega
    | succ d ih =>
      intro v x3 x4 z hvd hz h3 h4
      obtain ⟨a1, a2⟩ := hφ (2 * v) (by omega)
      obtain ⟨b1, b2⟩ := hφ (2 * v + 1) (by omega)
      have c5 : ∀ (x3 x4 : Int32) (z : ow_MS), pnI9 y z c n φ q fc → (x3 = 1 ∧ z.2.1 6003 (φ (2 * v0)) ≠ -1 ∨ x3 = 0 ∧ v + 1 ≤ v0 ∧ x4 = 0 ∧ z = y) → (x4 = 1 ∧ ucC9 z φ q (4 * c) < ucC9 z0 φ q (4 * c) ∨ x4 = 0 ∧ ucC9 z φ q (4 * c) ≤ ucC9 z0 φ q (4 * c) ∧ ∀ u, u < v + 1 → q u = true → (z.2.1 6003 (φ (2 * u)) ≠ -1 ↔ z.2.1 6003 (φ (2 * u + 1)) ≠ -1)) → Tt (fun K k => c_X4_paint vl K k 5 x2 x3 x4 x5 (nI v) 0 0 6000 4000 z) Q := by
        intro x3 x4 z hz h3 h4
        refine u_X4_paint_5 ?_; unfold cm_X4_paint_5
        rw [nI_1]
        exact ih (v + 1) x3 x4 z (by omega) hz h3 h4
      have qs1 : q v = true → q (2 * v / 2) = true := fun h => by rw [show 2 * v / 2 = v by omega]; exact h
      have qs2 : q v = true → q ((2 * v + 1) / 2) = true := fun h => by rw [show (2 * v + 1) / 2 = v by omega]; exact h
      -- both sides of the gap are looked at
      have c3 : ∀ (x4 : Int32) (z : ow_MS), q v = true → pnI9 y z c n φ q fc → z.2.1 6003 (φ (2 * v0)) ≠ -1 → (x4 = 1 ∧ ucC9 z φ q (4 * c) < ucC9 z0 φ q (4 * c) ∨ x4 = 0 ∧ ucC9 z φ q (4 * c) ≤ ucC9 z0 φ q (4 * c) ∧ ∀ u, u < v → q u = true → (z.2.1 6003 (φ (2 * u)) ≠ -1 ↔ z.2.1 6003 (φ (2 * u + 1)) ≠ -1)) → Tt (fun K k => c_X4_paint vl K k 3 x2 1 x4 x5 (nI v) (nI (φ (2 * v))) (nI (φ (2 * v + 1))) 6000 4000 z) Q := by
        intro x4 z hvq hz h0 h4
        have ule : ucC9 z φ q (4 * c) ≤ ucC9 z0 φ q (4 * c) := by
          rcases h4 with h4 | h4
          · omega
          · exact h4.2.1
        have even : (z.2.1 6003 (φ (2 * v)) ≠ -1 ↔ z.2.1 6003 (φ (2 * v + 1)) ≠ -1) → x4 = 1 ∧ ucC9 z φ q (4 * c) < ucC9 z0 φ q (4 * c) ∨ x4 = 0 ∧ ucC9 z φ q (4 * c) ≤ ucC9 z0 φ q (4 * c) ∧ ∀ u, u < v + 1 → q u = true → (z.2.1 6003 (φ (2 * u)) ≠ -1 ↔ z.2.1 6003 (φ (2 * u + 1)) ≠ -1) := fun he => by
          rcases h4 with h4 | ⟨h4, h5, h6⟩
          · exact Or.inl h4
          · refine Or.inr ⟨h4, h5, fun u hu huq => ?_⟩
            by_cases h9 : u = v
            · rw [h9]
              exact he
            · exact h6 u (by omega) huq
        have c4 : ¬ (z.2.1 6003 (φ (2 * v)) ≠ -1 ∧ z.2.1 6003 (φ (2 * v + 1)) = -1) → Tt (fun K k => c_X4_paint vl K k 4 x2 1 x4 x5 (nI v) (nI (φ (2 * v))) (nI (φ (2 * v + 1))) 6000 4000 z) Q := by
          intro hno
          refine u_X4_paint_4 ?_; unfold cm_X4_paint_4
          refine w_crI cg_6003 rfl (by omega) rfl (w_if (fun e1 => w_crI cg_6003 rfl (by omega) rfl (w_if (fun e2 => ?_) (fun e2 => ?_))) (fun e1 => ?_))
          · exact c5 _ _ z hz (Or.inl ⟨rfl, h0⟩) (even ⟨fun h => absurd e1 h, fun h => absurd e2 h⟩)
          · have hr := (hz.2.2 (2 * v + 1) (by omega) (qs2 hvq)).resolve_left e2
            obtain ⟨k1, k2⟩ := pn_w (n := n) (show 2 * v < 4 * c by omega) (qs1 hvq) hz e1 (fcn _)
            have e3 : 1 - fc (φ (2 * v + 1)) = fc (φ (2 * v)) := (hlr v (by omega) hvq).symm
            refine w_crI cg_6003 rfl (by omega) hr (w_ctI cg_6003 rfl (by omega) ?_)
            rw [e3]
            refine c5 1 1 _ k1 (Or.inl ⟨rfl, ?_⟩) (Or.inl ⟨rfl, Nat.lt_of_lt_of_le k2 ule⟩)
            by_cases h9 : φ (2 * v0) = φ (2 * v)
            · rw [h9]
              show (usI z 6003 (φ (2 * v)) (fc (φ (2 * v)))).2.1 6003 (φ (2 * v)) ≠ -1
              rw [po_usI_at]
              exact fcn _
            · show (usI z 6003 (φ (2 * v)) (fc (φ (2 * v)))).2.1 6003 (φ (2 * v0)) ≠ -1
              rw [po_usI_ne h9]
              exact h0
          · exact c5 _ _ z hz (Or.inl ⟨rfl, h0⟩) (even ⟨fun _ h => hno ⟨e1, h⟩, fun _ => e1⟩)
        refine u_X4_paint_3 ?_; unfold cm_X4_paint_3
        refine w_crI cg_6003 rfl (by omega) rfl (w_if (fun e1 => c4 (fun h => h.1 e1)) (fun e1 => w_crI cg_6003 rfl (by omega) rfl (w_if (fun e2 => ?_) (fun e2 => c4 (fun h => e2 h.2)))))
        have hl := (hz.2.2 (2 * v) (by omega) (qs1 hvq)).resolve_left e1
        obtain ⟨k1, k2⟩ := pn_w (n := n) (show 2 * v + 1 < 4 * c by omega) (qs2 hvq) hz e2 (fcn _)
        have e3 : 1 - fc (φ (2 * v)) = fc (φ (2 * v + 1)) := (one v (by omega) hvq).symm
        refine w_crI cg_6003 rfl (by omega) hl (w_ctI cg_6003 rfl (by omega) ?_)
        rw [e3]
        refine c5 1 1 _ k1 (Or.inl ⟨rfl, ?_⟩) (Or.inl ⟨rfl, Nat.lt_of_lt_of_le k2 ule⟩)
        by_cases h9 : φ (2 * v0) = φ (2 * v + 1)
        · rw [h9]
          show (usI z 6003 (φ (2 * v + 1)) (fc (φ (2 * v + 1)))).2.1 6003 (φ (2 * v + 1)) ≠ -1
          rw [po_usI_at]
          exact fcn _
        · show (usI z 6003 (φ (2 * v + 1)) (fc (φ (2 * v + 1)))).2.1 6003 (φ (2 * v0)) ≠ -1
          rw [po_usI_ne h9]
          exact h0
      have r6 : z.2.1 4006 v = y.2.1 4006 v := by rw [(hz.1 4006 (by omega)).2.1]
      have r1 : z.2.1 6001 (2 * v) = nI (φ (2 * v)) := by rw [(hz.1 6001 (by omega)).2.1]; exact a1
      have r2 : z.2.1 6001 (2 * v + 1) = nI (φ (2 * v + 1)) := by rw [(hz.1 6001 (by omega)).2.1]; exact b1
      refine u_X4_paint_2 ?_; unfold cm_X4_paint_2
      refine w_rdF ((hz.1 4008 (by omega)).1.trans h8) ?_
      rw [rn_mul2, rn_mul2, nI_1]
      refine w_leF (by omega) (by omega) (w_crI cg_4006 rfl (by omega) r6 (w_if (fun hp => w_crI cg_6001 rfl (by omega) r1 (w_crI cg_6001 rfl (by omega) r2 ?_)) (fun hp => ?_)))
      · have hvq := (hqM v (by omega)).mp hp
        rcases h3 with ⟨h3, h5⟩ | ⟨h3, h5, h6, h7⟩
        · rw [h3]
          exact w_ifF (by decide) (c3 x4 z hvq hz h5 h4)
        · rw [h3]
          have hvv : v = v0 := by
            by_cases h9 : v = v0
            · exact h9
            · rw [hf0 v (by omega)] at hvq
              exact absurd hvq (by decide)
          subst hvv
          refine w_ifT rfl (w_ctI cg_6003 rfl (by omega) ?_)
          have hm : z.2.1 6003 (φ (2 * v)) = -1 := by
            rw [h7]
            exact hin (2 * v) (by omega) (qs1 hvq)
          have e0 : usI z (6000 + 3) (φ (2 * v)) 0 = usI z 6003 (φ (2 * v)) (fc (φ (2 * v))) := by rw [hc0]
          rw [e0]
          have k0 : (usI z 6003 (φ (2 * v)) (fc (φ (2 * v)))).2.1 6003 (φ (2 * v)) ≠ -1 := by
            rw [po_usI_at]
            exact fcn _
          obtain ⟨k1, k2⟩ := pn_w (n := n) (show 2 * v < 4 * c by omega) (qs1 hvq) hz hm (fcn _)
          refine c3 x4 _ hvq k1 k0 (Or.inr ⟨h6, ?_, fun u hu huq => ?_⟩)
          · rcases h4 with h4 | h4
            · omega
            · omega
          · rw [hf0 u hu] at huq
            exact absurd huq (by decide)
      · refine c5 x3 x4 z hz ?_ ?_
        · rcases h3 with h3 | ⟨h3, h5, h6, h7⟩
          · exact Or.inl h3
          · refine Or.inr ⟨h3, ?_, h6, h7⟩
            by_cases h9 : v = v0
            · rw [h9] at hp
              exact absurd ((hqM v0 hv0).mpr hq0) hp
            · omega
        · rcases h4 with h4 | ⟨h4, h5, h6⟩
          · exact Or.inl h4
          · refine Or.inr ⟨h4, h5, fun u hu huq => ?_⟩
            by_cases h9 : u = v
            · rw [h9] at huq
              exact absurd ((hqM v (by omega)).mpr huq) hp
            · exact h6 u (by omega) huq
  have c1 : ∀ (d i : Nat) (x4 : Int32) (z : ow_MS), i + d = 48 → pnI9 y z c n φ q fc → z.2.1 6003 (φ (2 * v0)) ≠ -1 → (x4 = 1 ∧ ucC9 z φ q (4 * c) + i ≤ 48 ∨ x4 = 0 ∧ ∀ v, v < 2 * c → q v = true → (z.2.1 6003 (φ (2 * v)) ≠ -1 ↔ z.2.1 6003 (φ (2 * v + 1)) ≠ -1)) → Tt (fun K k => c_X4_paint vl K k 1 x2 1 x4 (nI i) 0 0 0 6000 4000 z) Q := by
    intro d
    induction d with
    | zero =>
      intro i x4 z hi hz h0 h4
      refine u_X4_paint_1 ?_; unfold cm_X4_paint_1
      refine w_leT (a := 48) (b := i) (by omega) (by omega) (w_some ?_)
      rcases h4 with ⟨h4, h5⟩ | ⟨h4, h5⟩
      · refine done z hz h0 (fun v hv1 hvq => ?_)
        have z0 : ∀ s, s < 4 * c → q (s / 2) = true → z.2.1 6003 (φ s) ≠ -1 := fun s hs hsq h9 => by
          have := nF_pos (q := fun s => q (s / 2) && decide (z.2.1 6003 (φ s) = -1)) (a := s) (by rw [hsq, h9, decide_eq_true rfl]; rfl) (4 * c) hs
          have u9 : ucC9 z φ q (4 * c) = nF (fun s => q (s / 2) && decide (z.2.1 6003 (φ s) = -1)) (4 * c) := rfl
          omega
        exact ⟨fun _ => z0 (2 * v + 1) (by omega) (by rw [show (2 * v + 1) / 2 = v by omega]; exact hvq), fun _ => z0 (2 * v) (by omega) (by rw [show 2 * v / 2 = v by omega]; exact hvq)⟩
      · exact done z hz h0 h5
    | succ d ih =>
      intro i x4 z hi hz h0 h4
      refine u_X4_paint_1 ?_; unfold cm_X4_paint_1
      refine w_leF (a := 48) (b := i) (by omega) (by omega) (w_if (fun h9 => w_some ?_) (fun h9 => ?_))
      · rcases h4 with ⟨h4, h5⟩ | ⟨h4, h5⟩
        · rw [h4] at h9
          exact absurd h9 (by decide)
        · exact done z hz h0 h5
      · rcases h4 with ⟨h4, h5⟩ | ⟨h4, h5⟩
        · refine pass (nI i) z (fun x4 z1 h1 h2 h3 => ?_) (2 * c) 0 1 0 z (by omega) hz (Or.inl ⟨rfl, h0⟩) (Or.inr ⟨rfl, Nat.le_refl _, fun u hu => absurd hu (Nat.not_lt_zero _)⟩)
          rw [nI_1]
          refine ih (i + 1) x4 z1 (by omega) h1 h2 ?_
          rcases h3 with ⟨h3, h6⟩ | h3
          · exact Or.inl ⟨h3, by omega⟩
          · exact Or.inr h3
        · exact absurd h4 h9
  have hz0 : pnI9 y y c n φ q fc := ⟨fr_rf, fun f _ => rfl, fun s hs hsq => Or.inl (hin s hs hsq)⟩
  have u0 : ucC9 y φ q (4 * c) ≤ 48 := Nat.le_trans (nF_le _ _) (by omega)
  refine e_X4_paint ?_
  refine u_X4_paint_0 ?_; unfold cm_X4_paint_0
  refine u_X4_paint_1 ?_; unfold cm_X4_paint_1
  refine w_leF (a := 48) (b := 0) (by omega) (by omega) (w_ifF (by decide) ?_)
  refine pass 0 y (fun x4 z1 h1 h2 h3 => ?_) (2 * c) 0 0 0 y (by omega) hz0 (Or.inr ⟨rfl, Nat.zero_le _, rfl, rfl⟩) (Or.inr ⟨rfl, Nat.le_refl _, fun u hu => absurd hu (Nat.not_lt_zero _)⟩)
  refine c1 47 1 x4 z1 (by omega) h1 h2 ?_
  rcases h3 with ⟨h3, h6⟩ | h3
  · exact Or.inl ⟨h3, by omega⟩
  · exact Or.inr h3
end XSGT
end
section
/-! 99zzzzzzzzzzzzzzzzyzzzd.xsgu -/
/-! signature, the class: rows of faces and the matrix, exactly -/
section XSGU
variable {vl : Nat → Nat} {y : ow_MS}
theorem te_numRows {c n : Nat} {φ : Nat → Nat} {x2 x3 : Int32} (h8 : y.1 4008 = nI c) (hc : c ≤ 12) (h2 : y.1 6002 = nI n) (hn : n ≤ 48) (hφ : ∀ s, s < 4 * c → y.2.1 6001 s = nI (φ s) ∧ φ s < n) : Te (fun K => ce_X4_numberRows vl K 6000 4000 x2 x3 y) (fun r => r.1 = nI (nF (snS φ (cdN y φ x2 x3) (4 * c)) n) ∧ (∀ f, f < n → (r.2.2.1 6004 f = -1 ∧ snS φ (cdN y φ x2 x3) (4 * c) f = false ∨ (∃ k, k < nF (snS φ (cdN y φ x2 x3) (4 * c)) n ∧ r.2.2.1 6004 f = nI k) ∧ snS φ (cdN y φ x2 x3) (4 * c) f = true)) ∧ fr (fun g => g = 6004) y r.2 ∧ ∀ j, j < nF (snS φ (cdN y φ x2 x3) (4 * c)) n → ∃ f, f < n ∧ snS φ (cdN y φ x2 x3) (4 * c) f = true ∧ r.2.2.1 6004 f = nI j) := by
  let cd := cdN y φ x2 x3
  let Q : Int32 × ow_MS → Prop := fun r => r.1 = nI (nF (snS φ cd (4 * c)) n) ∧ (∀ f, f < n → (r.2.2.1 6004 f = -1 ∧ snS φ cd (4 * c) f = false ∨ (∃ k, k < nF (snS φ cd (4 * c)) n ∧ r.2.2.1 6004 f = nI k) ∧ snS φ cd (4 * c) f = true)) ∧ fr (fun g => g = 6004) y r.2 ∧ ∀ j, j < nF (snS φ (cdN y φ x2 x3) (4 * c)) n → ∃ f, f < n ∧ snS φ (cdN y φ x2 x3) (4 * c) f = true ∧ r.2.2.1 6004 f = nI j
  let I : Nat → ow_MS → Prop := fun s z => (∀ f, f < n → (z.2.1 6004 f = -1 ∧ snS φ cd s f = false ∨ (∃ k, k < nF (snS φ cd s) n ∧ z.2.1 6004 f = nI k) ∧ snS φ cd s f = true)) ∧ fr (fun g => g = 6004) y z ∧ ∀ j, j < nF (snS φ (cdN y φ x2 x3) s) n → ∃ f, f < n ∧ snS φ (cdN y φ x2 x3) s f = true ∧ z.2.1 6004 f = nI j
  have c1 : ∀ (d s : Nat) (z : ow_MS), s + d = 4 * c → I s z → Tt (fun K k => c_X4_numberRows vl K k 1 x2 x3 (nI (nF (snS φ cd s) n)) (nI s) 0 6000 4000 z) Q := by
    intro d
    induction d with
    | zero =>
      intro s z hs hz
      have hs : s = 4 * c := by omega
      subst hs
      refine u_X4_numberRows_1 ?_; unfold cm_X4_numberRows_1
      refine w_rdF ((hz.2.1 4008 (by omega)).1.trans h8) ?_
      rw [show (4 : Int32) * nI c = nI (4 * c) from pk_mul 4 c]
      exact w_leT (by omega) (by omega) (w_some ⟨rfl, hz.1, hz.2.1, hz.2.2⟩)
    | succ d ih =>
      intro s z hs hz
      obtain ⟨p1, p2⟩ := hφ s (by omega)
      have hnl := nF_le (snS φ cd s) n
      have c2 : ∀ (m : Nat) (z1 : ow_MS), m = nF (snS φ cd (s + 1)) n → I (s + 1) z1 → Tt (fun K k => c_X4_numberRows vl K k 2 x2 x3 (nI m) (nI s) (nI (φ s)) 6000 4000 z1) Q := by
        intro m z1 hm h1
        refine u_X4_numberRows_2 ?_; unfold cm_X4_numberRows_2
        rw [nI_1, hm]
        exact ih (s + 1) z1 (by omega) h1
      -- nothing new
      have old : (cd s = false ∨ snS φ cd s (φ s) = true) → Tt (fun K k => c_X4_numberRows vl K k 2 x2 x3 (nI (nF (snS φ cd s) n)) (nI s) (nI (φ s)) 6000 4000 z) Q := by
        intro h9
        have e : ∀ f, snS φ cd (s + 1) f = snS φ cd s f := by
          intro f
          show (snS φ cd s f || (cd s && decide (φ s = f))) = _
          rcases h9 with h9 | h9
          · rw [h9, Bool.false_and, Bool.or_false]
          · by_cases e9 : φ s = f
            · rw [← e9, h9, Bool.true_or]
            · rw [decide_eq_false e9, Bool.and_false, Bool.or_false]
        have ef : snS φ cd (s + 1) = snS φ cd s := funext e
        refine c2 _ z (by rw [ef]) ?_
        refine ⟨?_, hz.2.1, ?_⟩
        · rw [ef]
          exact hz.1
        · have ef2 : snS φ (cdN y φ x2 x3) (s + 1) = snS φ (cdN y φ x2 x3) s := ef
          rw [ef2]
          exact hz.2.2
      refine u_X4_numberRows_1 ?_; unfold cm_X4_numberRows_1
      refine w_rdF ((hz.2.1 4008 (by omega)).1.trans h8) ?_
      rw [show (4 : Int32) * nI c = nI (4 * c) from pk_mul 4 c, rn_shr1 (by omega)]
      have r1 : z.2.1 6001 s = nI (φ s) := by rw [(hz.2.1 6001 (by omega)).2.1]; exact p1
      have r6 : z.2.1 4006 (s / 2) = y.2.1 4006 (s / 2) := by rw [(hz.2.1 4006 (by omega)).2.1]
      have r3 : z.2.1 6003 (φ s) = y.2.1 6003 (φ s) := by rw [(hz.2.1 6003 (by omega)).2.1]
      refine w_leF (by omega) (by omega) (w_crI cg_6001 rfl (by omega) r1 (w_crI cg_4006 rfl (by omega) r6 (w_if (fun a1 => w_crI cg_6003 rfl (by omega) r3 (w_if (fun a2 => ?_) (fun a2 => old (Or.inl (decide_eq_false (fun h9 => a2 h9.2)))))) (fun a1 => old (Or.inl (decide_eq_false (fun h9 => a1 h9.1)))))))
      have hcd : cd s = true := decide_eq_true ⟨a1, a2⟩
      rcases hz.1 (φ s) p2 with ⟨q1, q2⟩ | ⟨⟨k, q1, q3⟩, q2⟩
      · refine w_crI cg_6004 rfl (by omega) q1 (w_ifT rfl (w_ctI cg_6004 rfl (by omega) ?_))
        rw [nI_1]
        have hset := nF_set (q := snS φ cd s) (q' := snS φ cd (s + 1)) (a := φ s) q2 (by
          show (snS φ cd s (φ s) || (cd s && decide (φ s = φ s))) = true
          rw [hcd, decide_eq_true rfl]
          simp) (fun k hk => by
          show (snS φ cd s k || (cd s && decide (φ s = k))) = _
          rw [decide_eq_false (fun h9 => hk h9.symm), Bool.and_false, Bool.or_false]) n
        rw [if_pos p2] at hset
        have s3 : ∀ j, j < nF (snS φ cd (s + 1)) n → ∃ f, f < n ∧ snS φ cd (s + 1) f = true ∧ (usI z (6000 + 4) (φ s) (nI (nF (snS φ cd s) n))).2.1 6004 f = nI j := by
          intro j hj
          by_cases h9 : j < nF (snS φ cd s) n
          · obtain ⟨f, f1, f2, f3⟩ := hz.2.2 j h9
            have hne : f ≠ φ s := fun h8 => by
              have f2' : snS φ cd s f = true := f2
              rw [h8, q2] at f2'
              exact absurd f2' (by decide)
            refine ⟨f, f1, ?_, (po_usI_ne hne).trans f3⟩
            show (snS φ cd s f || (cd s && decide (φ s = f))) = true
            have f2' : snS φ cd s f = true := f2
            rw [f2', Bool.true_or]
          · refine ⟨φ s, p2, ?_, ?_⟩
            · show (snS φ cd s (φ s) || (cd s && decide (φ s = φ s))) = true
              rw [hcd, decide_eq_true rfl]
              simp
            · have : j = nF (snS φ cd s) n := by omega
              rw [this]
              exact po_usI_at
        refine c2 _ _ hset.symm ⟨fun f hf => ?_, fr_I2 hz.2.1 rfl, s3⟩
        by_cases e : f = φ s
        · subst e
          refine Or.inr ⟨⟨nF (snS φ cd s) n, by omega, po_usI_at⟩, ?_⟩
          show (snS φ cd s (φ s) || (cd s && decide (φ s = φ s))) = true
          rw [hcd, decide_eq_true rfl]
          simp
        · have e2 : snS φ cd (s + 1) f = snS φ cd s f := by
            show (snS φ cd s f || (cd s && decide (φ s = f))) = _
            rw [decide_eq_false (fun h9 => e h9.symm), Bool.and_false, Bool.or_false]
          rcases hz.1 f hf with ⟨u1, u2⟩ | ⟨⟨k, u1, u3⟩, u2⟩
          · exact Or.inl ⟨(po_usI_ne e).trans u1, by rw [e2]; exact u2⟩
          · exact Or.inr ⟨⟨k, by omega, (po_usI_ne e).trans u3⟩, by rw [e2]; exact u2⟩
      · exact w_crI cg_6004 rfl (by omega) q3 (w_ifF (rn_neg1 (by omega)) (old (Or.inr q2)))
  have hz0 : nF (snS φ cd 0) n = 0 := by
    have key : ∀ m, nF (fun _ => false) m = 0 := by
      intro m
      induction m with
      | zero => rfl
      | succ m ih =>
        show nF (fun _ => false) m + (if false = true then 1 else 0) = 0
        rw [ih]
        rfl
    exact key n
  refine e_X4_numberRows ?_
  refine u_X4_numberRows_0 ?_; unfold cm_X4_numberRows_0
  refine w_rdF h2 (w_cs0 (tc_fill (a := 0) (b := n) cg_6004 (by omega) (by omega) (by omega)) ?_)
  rintro z1 ⟨f1, f2⟩
  have := c1 (4 * c) 0 z1 (by omega) ⟨fun f hf => Or.inl ⟨by rw [f1 f, if_pos (by omega)], rfl⟩, f2, fun j hj => absurd hj (by
    have hz1 : nF (snS φ (cdN y φ x2 x3) 0) n = 0 := hz0
    omega)⟩
  rw [hz0] at this
  exact this
/-- the matrix of the class holds A -/
def mtA9 (y : ow_MS) (m : Nat) (A : Nat → Nat → Int) : Prop := ∀ i j, i < m → j < m → y.2.2 6005 (8 * i + j) = Int64.ofInt (A i j)
theorem mtA_w {m a b : Nat} {A : Nat → Nat → Int} {s : Int} (h : mtA9 y m A) (ha : a < m) (hb : b < m) (hm : m ≤ 8) : mtA9 (usJ y 6005 (8 * a + b) (Int64.ofInt (A a b + s))) m (fun i j => A i j + s * (zd9 a i * zd9 b j)) := by
  intro i j hi hj
  by_cases h9 : i = a ∧ j = b
  · obtain ⟨h8, h7⟩ := h9
    subst h8
    subst h7
    rw [usJ_at]
    dsimp only
    rw [show zd9 i i = 1 from if_pos rfl, show zd9 j j = 1 from if_pos rfl, Int.mul_one, Int.mul_one]
  · rw [usJ_ne (by omega), h i j hi hj]
    refine congrArg Int64.ofInt ?_
    have : zd9 a i * zd9 b j = 0 := by
      by_cases h8 : i = a
      · rw [show zd9 b j = 0 from if_neg (fun h7 => h9 ⟨h8, h7⟩), Int.mul_zero]
      · rw [show zd9 a i = 0 from if_neg h8, Int.zero_mul]
    dsimp only
    rw [this, Int.mul_zero, Int.add_zero]
theorem te_addAt {m u v : Nat} {t : Int} {A : Nat → Nat → Int} (hm : m ≤ 8) (hu : u < 20) (hv : v < 20) (ht : t = 1 ∨ t = -1) (h : mtA9 y m A) : Te (fun K => ce_X4_addAt vl K 6000 (nI u) (nI v) (iI t) (nI m) y) (fun y1 => fr (fun g => g = 6005) y y1 ∧ mtA9 y1 m (fun i j => A i j + t * (zd9 i u - zd9 i v) * (zd9 j u - zd9 j v))) := by
  have tl : (iI t).toInt64 = Int64.ofInt t := by
    rcases ht with h9 | h9 <;> rw [h9] <;> rfl
  let Q : ow_MS → Prop := fun y1 => fr (fun g => g = 6005) y y1 ∧ mtA9 y1 m (fun i j => A i j + t * (zd9 i u - zd9 i v) * (zd9 j u - zd9 j v))
  have sy : ∀ a b, zd9 a b = zd9 b a := fun a b => by
    unfold zd9
    by_cases h9 : b = a
    · rw [if_pos h9, if_pos h9.symm]
    · rw [if_neg h9, if_neg (fun h8 => h9 h8.symm)]
  have far : ∀ a i, m ≤ a → i < m → zd9 i a = 0 := fun a i h1 h2 => if_neg (by omega)
  have c2 : ∀ z, fr (fun g => g = 6005) y z → mtA9 z m (fun i j => A i j + t * (zd9 i u * zd9 j u) + t * (zd9 i v * zd9 j v)) → Tt (fun K k => c_X4_addAt vl K k 2 (nI u) (nI v) (iI t) (nI m) 6000 z) Q := by
    intro z hz hA
    have out : (m ≤ u ∨ m ≤ v) → Q z := fun hor => by
      refine ⟨hz, fun i j hi hj => ?_⟩
      rw [hA i j hi hj]
      refine congrArg Int64.ofInt ?_
      dsimp only
      rcases hor with h9 | h9
      · rw [far u i h9 hi, far u j h9 hj]
        grind
      · rw [far v i h9 hi, far v j h9 hj]
        grind
    refine u_X4_addAt_2 ?_; unfold cm_X4_addAt_2
    refine w_ifF (fun h9 => absurd h9 (nI_pos (by omega))) (w_le (by omega) (by omega) (fun h1 => w_some (out (Or.inl h1))) (fun h1 => w_ifF (fun h9 => absurd h9 (nI_pos (by omega))) (w_le (by omega) (by omega) (fun h2 => w_some (out (Or.inr h2))) (fun h2 => ?_))))
    have k1 := mtA_w (s := -t) hA (show u < m by omega) (show v < m by omega) hm
    have k2 := mtA_w (s := -t) k1 (show v < m by omega) (show u < m by omega) hm
    rw [ix8, ix8, tl]
    refine w_crJ ch_6005 rfl (by omega) (hA u v (by omega) (by omega)) (w_ctJ ch_6005 rfl (by omega) ?_)
    rw [← Int64.ofInt_sub, Int.sub_eq_add_neg]
    refine w_crJ ch_6005 rfl (by omega) (k1 v u (by omega) (by omega)) (w_ctJ ch_6005 rfl (by omega) ?_)
    rw [← Int64.ofInt_sub, Int.sub_eq_add_neg]
    refine w_some ⟨fr_J2 (fr_J2 hz rfl) rfl, fun i j hi hj => ?_⟩
    refine (k2 i j hi hj).trans (congrArg Int64.ofInt ?_)
    dsimp only
    rw [sy u i, sy v j, sy v i, sy u j]
    grind
  have c1 : ∀ z, fr (fun g => g = 6005) y z → mtA9 z m (fun i j => A i j + t * (zd9 i u * zd9 j u)) → Tt (fun K k => c_X4_addAt vl K k 1 (nI u) (nI v) (iI t) (nI m) 6000 z) Q := by
    intro z hz hA
    refine u_X4_addAt_1 ?_; unfold cm_X4_addAt_1
    refine w_ifF (fun h9 => absurd h9 (nI_pos (by omega))) (w_le (by omega) (by omega) (fun h1 => c2 z hz (fun i j hi hj => ?_)) (fun h1 => ?_))
    · rw [hA i j hi hj]
      dsimp only
      rw [far v i h1 hi, Int.zero_mul, Int.mul_zero, Int.add_zero]
    · have k1 := mtA_w (s := t) hA (show v < m by omega) (show v < m by omega) hm
      rw [ix8, tl]
      refine w_crJ ch_6005 rfl (by omega) (hA v v (by omega) (by omega)) (w_ctJ ch_6005 rfl (by omega) ?_)
      rw [← Int64.ofInt_add]
      refine c2 _ (fr_J2 hz rfl) (fun i j hi hj => ?_)
      refine (k1 i j hi hj).trans (congrArg Int64.ofInt ?_)
      dsimp only
      rw [sy v i, sy v j]
  refine e_X4_addAt ?_
  refine u_X4_addAt_0 ?_; unfold cm_X4_addAt_0
  refine w_ifF (fun h9 => absurd h9 (nI_pos (by omega))) (w_le (by omega) (by omega) (fun h1 => c1 y fr_rf (fun i j hi hj => ?_)) (fun h1 => ?_))
  · rw [h i j hi hj]
    dsimp only
    rw [far u i h1 hi, Int.zero_mul, Int.mul_zero, Int.add_zero]
  · have k1 := mtA_w (s := t) h (show u < m by omega) (show u < m by omega) hm
    rw [ix8, tl]
    refine w_crJ ch_6005 rfl (by omega) (h u u (by omega) (by omega)) (w_ctJ ch_6005 rfl (by omega) ?_)
    rw [← Int64.ofInt_add]
    refine c1 _ (fr_J rfl) (fun i j hi hj => ?_)
    refine (k1 i j hi hj).trans (congrArg Int64.ofInt ?_)
    dsimp only
    rw [sy u i, sy u j]
end XSGU
end
section
/-! 99zzzzzzzzzzzzzzzzyzzze.xsgv -/
/-! signature, the class: a part, exactly -/
section XSGV
variable {vl : Nat → Nat} {y : ow_MS} {n P : Nat} {φ ψ : Nat → Nat} {w cf : Nat → Bool} {M : Nat → Int32}
/-- the colours of the part's faces are told by 0 and 1: x is κ -/
def coI9 (y : ow_MS) (c : Nat) (φ : Nat → Nat) (cf : Nat → Bool) (M : Nat → Int32) (p : Nat) (x : Int32) (κ : Bool) : Prop := ∀ s, s < 4 * c → M (s / 2) = nI p → (y.2.1 6003 (φ s) = x ↔ cf (φ s) = κ)
theorem cnt_kF {T : ow_NT} {p : Nat} {x : Int32} {κ : Bool} (h : fcD9 T.1 T.2.2.1 T.2.2.2 w n P M φ ψ cf) (hp : p < P) (hM : ∀ v, v < 2 * T.1 → y.2.1 4006 v = M v) (hx : coI9 y T.1 φ cf M p x κ) : ∀ f, f < n → snS φ (cdN y φ (nI p) x) (4 * T.1) f = qF9 ψ cf p κ f := by
  intro f hf
  have hP := h.2.2.2.2.2.2.2.2.2.2.2.2.2.2
  have key : snS φ (cdN y φ (nI p) x) (4 * T.1) f = true ↔ qF9 ψ cf p κ f = true := by
    rw [snS_t]
    constructor
    · rintro ⟨s, s1, s2, s3⟩
      obtain ⟨u1, u2⟩ := of_decide_eq_true s2
      rw [hM _ (by omega)] at u1
      have a := h.2.2.2.2.2.2.1 s s1
      rw [u1] at a
      have hl := h.2.2.2.2.2.1 _ (h.2.2.1 s s1)
      have e := nI_inj9 (by omega) (by omega) a
      have b := (hx s s1 u1).mp u2
      unfold qF9
      rw [← s3, decide_eq_true e.symm, b]
      simp
    · intro hq
      obtain ⟨v, v1, v2, v3⟩ := fc_of h hf hq
      obtain ⟨a1, a2, a3⟩ := ws_k (w := w) κ v
      have hM9 : M (ws9 w κ v / 2) = nI p := by
        rw [a2]
        exact of_decide_eq_true v2
      refine ⟨ws9 w κ v, by omega, decide_eq_true ⟨?_, ?_⟩, v3⟩
      · rw [hM _ (by omega)]
        exact hM9
      · refine (hx _ (by omega) hM9).mpr ?_
        rw [← h.2.2.2.2.1 _ (by omega)]
        exact a1
  cases e1 : snS φ (cdN y φ (nI p) x) (4 * T.1) f <;> cases e2 : qF9 ψ cf p κ f <;> simp_all
theorem te_sgPart {T : ow_NT} {p : Nat} {x3 : Int32} {κ : Bool} (hy : cAt y 4000 T) (h : fcD9 T.1 T.2.2.1 T.2.2.2 w n P M φ ψ cf) (hp : p < P) (hG : ∀ x, x < T.1 → T.2.2.2 x = 1 ∨ T.2.2.2 x = -1) (h2 : y.1 6002 = nI n) (hφ : ∀ s, s < 4 * T.1 → y.2.1 6001 s = nI (φ s) ∧ φ s < n) (hM : ∀ v, v < 2 * T.1 → y.2.1 4006 v = M v) (hx : coI9 y T.1 φ cf M p x3 κ) (hk9 : kF9 ψ cf n p κ ≤ 9) : Te (fun K => ce_X4_signatureOfPart vl K 6000 4000 (nI p) x3 y) (fun r => r.1 = iI (vlG9 T.1 T.2.2.1 T.2.2.2 w n M φ ψ cf p) ∧ fr spP y r.2) := by
  have hv := h.1
  have hw := h.2.1
  have hc : T.1 ≤ 12 := h.2.2.2.2.2.2.2.2.2.2.2.2.1
  have hn : n ≤ 48 := h.2.2.2.2.2.2.2.2.2.2.2.2.2.1
  have hP := h.2.2.2.2.2.2.2.2.2.2.2.2.2.2
  have ho := h.2.2.2.1
  have cnt := cnt_kF h hp hM hx
  have ck : nF (snS φ (cdN y φ (nI p) x3) (4 * T.1)) n = kF9 ψ cf n p κ := nF_cg n cnt
  have k1 := kF_pos h hp κ
  let Q : Int32 × ow_MS → Prop := fun r => r.1 = iI (vlG9 T.1 T.2.2.1 T.2.2.2 w n M φ ψ cf p) ∧ fr spP y r.2
  refine e_X4_signatureOfPart ?_
  refine u_X4_signatureOfPart_0 ?_; unfold cm_X4_signatureOfPart_0
  refine w_cs1 (te_numRows (x3 := x3) (x2 := nI p) hy.1 hc h2 hn hφ) ?_
  rintro v1 z1 ⟨e1, r1, f1, r2⟩
  have e1 : v1 = nI (kF9 ψ cf n p κ) := by rw [← ck]; exact e1
  have r1 : ∀ f, f < n → (z1.2.1 6004 f = -1 ∧ snS φ (cdN y φ (nI p) x3) (4 * T.1) f = false ∨ (∃ k, k < nF (snS φ (cdN y φ (nI p) x3) (4 * T.1)) n ∧ z1.2.1 6004 f = nI k) ∧ snS φ (cdN y φ (nI p) x3) (4 * T.1) f = true) := r1
  have r2 : ∀ j, j < nF (snS φ (cdN y φ (nI p) x3) (4 * T.1)) n → ∃ f, f < n ∧ snS φ (cdN y φ (nI p) x3) (4 * T.1) f = true ∧ z1.2.1 6004 f = nI j := r2
  have f1 : fr (fun g => g = 6004) y z1 := f1
  rw [ck] at r1 r2
  -- the rows as a function
  obtain ⟨ρ, hρ⟩ : ∃ ρ : Nat → Nat, ∀ f, f < n → qF9 ψ cf p κ f = true → z1.2.1 6004 f = nI (ρ f) ∧ ρ f < kF9 ψ cf n p κ := by
    refine ⟨fun f => (z1.2.1 6004 f).toNatClampNeg, fun f hf hq => ?_⟩
    rcases r1 f hf with ⟨a1, a2⟩ | ⟨⟨k, a1, a2⟩, a3⟩
    · rw [cnt f hf, hq] at a2
      exact absurd a2 (by decide)
    · dsimp only
      rw [a2, nI_clamp (by omega)]
      exact ⟨rfl, a1⟩
  have hR : nbG9 T.1 T.2.2.1 T.2.2.2 w (qP9 M p) κ (fun v => ρ (φ (ws9 w κ v))) (kF9 ψ cf n p κ) := by
    refine nb_of hv hw ho (fun v hv1 hq => ?_) (fun j hj => ?_)
    · obtain ⟨a, b⟩ := fc_ws h hp (κ := κ) hv1 hq
      exact (hρ _ a b).2
    · obtain ⟨f, a1, a2, a3⟩ := r2 j hj
      rw [cnt f a1] at a2
      obtain ⟨v, b1, b2, b3⟩ := fc_of h a1 a2
      refine ⟨v, b1, b2, ?_⟩
      rw [b3]
      have := (hρ f a1 a2).1
      have hl := (hρ f a1 a2).2
      rw [a3] at this
      exact (nI_inj9 (by omega) (by omega) this).symm
  have val := vl_all h hp hR
  generalize hRR : (fun v => ρ (φ (ws9 w κ v))) = R at hR val
  have hRv : ∀ v, R v = ρ (φ (ws9 w κ v)) := fun v => by rw [← hRR]
  obtain ⟨E, hE⟩ := isZ_E (M := mtZ9 T.1 T.2.2.1 T.2.2.2 w (qP9 M p) κ R) (kF9 ψ cf n p κ - 1)
  have hb := mt_bd hc hE
  refine w_cs0 (tc_fillJ ch_6005 (by omega)) ?_
  rintro z2 ⟨g2, f2⟩
  have f2 : fr (fun g => g = 6005) z1 z2 := f2
  rw [e1, show nI (kF9 ψ cf n p κ) - 1 = nI (kF9 ψ cf n p κ - 1) from pk_sub (b := 1) k1]
  generalize hm : kF9 ψ cf n p κ - 1 = m at hE
  have hm8 : m ≤ 8 := by omega
  have I0 : fr (fun g => g = 6004 ∨ g = 6005) y z2 := fr_tr (fr_mono (fun g hg => Or.inl hg) f1) (fr_mono (fun g hg => Or.inr hg) f2)
  have rowz : ∀ z, fr (fun g => g = 6005) z1 z → ∀ f, f < n → qF9 ψ cf p κ f = true → z.2.1 6004 f = nI (ρ f) := fun z hf f hf1 hq => by
    rw [(hf 6004 (by omega)).2.1]
    exact (hρ f hf1 hq).1
  have c1 : ∀ (d x : Nat) (x5 : Int32) (z : ow_MS), x + d = T.1 → fr (fun g => g = 6005) z1 z → x5 = iI (crG9 T.2.2.2 w (qP9 M p) κ x) → mtA9 z m (mtZ9 x T.2.2.1 T.2.2.2 w (qP9 M p) κ R) → Tt (fun K k => c_X4_signatureOfPart vl K k 1 (nI p) x3 (nI m) x5 (nI x) 6000 4000 0 z) Q := by
    intro d
    induction d with
    | zero =>
      intro x x5 z hxd hz h5 hA
      have hxd : x = T.1 := by omega
      have zy : fr (fun g => g = 6004 ∨ g = 6005) y z := fr_tr (fr_mono (fun g hg => Or.inl hg) f1) (fr_mono (fun g hg => Or.inr hg) hz)
      rw [hxd] at hA h5
      refine u_X4_signatureOfPart_1 ?_; unfold cm_X4_signatureOfPart_1
      refine w_rdF ((zy 4008 (by omega)).1.trans hy.1) (w_leT (by omega) (by omega) (w_cs1 (te_eigen hm8 hA hE (fun k hk => hb k (by omega))) ?_))
      rintro v z1 ⟨a1, f3⟩
      have a1 : v = _ := a1
      refine w_some ⟨?_, fr_tr (fr_mono (fun g hg => by unfold spP; rcases hg with h | h; exact Or.inl h; exact Or.inr (Or.inl h)) zy) (fr_mono (fun g hg => Or.inr (Or.inr hg)) f3)⟩
      show v - x5 = _
      rw [a1, h5, iI_sub, mtZ_cs, ← val]
      unfold svG9
      rw [hm]
    | succ d ih =>
      intro x x5 z hxd hz h5 hA
      have hx1 : x < T.1 := by omega
      have zy : fr (fun g => g = 6004 ∨ g = 6005) y z := fr_tr (fr_mono (fun g hg => Or.inl hg) f1) (fr_mono (fun g hg => Or.inr hg) hz)
      have c3 : ∀ (x5 : Int32) (z : ow_MS), fr (fun g => g = 6005) z1 z → x5 = iI (crG9 T.2.2.2 w (qP9 M p) κ (x + 1)) → mtA9 z m (mtZ9 (x + 1) T.2.2.1 T.2.2.2 w (qP9 M p) κ R) → Tt (fun K k => c_X4_signatureOfPart vl K k 3 (nI p) x3 (nI m) x5 (nI x) 6000 4000 0 z) Q := by
        intro x5 z hz h5 hA
        refine u_X4_signatureOfPart_3 ?_; unfold cm_X4_signatureOfPart_3
        rw [nI_1]
        exact ih (x + 1) x5 z (by omega) hz h5 hA
      have fcz : ∀ s, s < 4 * T.1 → z.2.1 6001 s = nI (φ s) ∧ φ s < n := fun s hs => by
        rw [(zy 6001 (by omega)).2.1]
        exact hφ s hs
      have pv : ∀ v, z.2.1 4002 v = nI (T.2.2.1.2 v) := fun v => by
        rw [(zy 4002 (by omega)).2.1]
        exact hy.2.2.2.1 v
      have sgn : z.2.1 4003 x = T.2.2.2 x := by
        rw [(zy 4003 (by omega)).2.1]
        exact hy.2.2.2.2 x
      have r6 : z.2.1 4006 (2 * x) = M (2 * x) := by
        rw [(zy 4006 (by omega)).2.1]
        exact hM _ (by omega)
      have sI : T.2.2.2 x = iI (sgI9 T.2.2.2 x) := by
        unfold sgI9
        rcases hG x hx1 with h9 | h9 <;> rw [h9] <;> rfl
      have sP : sgI9 T.2.2.2 x = 1 ∨ sgI9 T.2.2.2 x = -1 := by
        unfold sgI9
        split
        · exact Or.inl rfl
        · exact Or.inr rfl
      -- in the part
      have c2 : qP9 M p (2 * x) = true → Tt (fun K k => c_X4_signatureOfPart vl K k 2 (nI p) x3 (nI m) x5 (nI x) 6000 4000 (nI (fV9 T.2.2.2 x)) z) Q := by
        intro hxq
        have ht := fV_lt (G := T.2.2.2) hx1
        have hmt := mt_lt ht
        have v1 := (hv _ ht).2.1
        have v2 := (hv _ hmt).2.1
        obtain ⟨q1, q2⟩ := fV_q (G := T.2.2.2) (ptQ_of h p) hx1
        have qf : qP9 M p (fV9 T.2.2.2 x) = true := by rw [q1]; exact hxq
        have qpf : qP9 M p (T.2.2.1.2 (fV9 T.2.2.2 x)) = true := by
          have := ((ptQ_of h p).1 _ v1).1
          rw [(hv _ ht).2.2.2] at this
          rw [← this]
          exact qf
        obtain ⟨o1, o2, o3, o4⟩ := on4 (G := T.2.2.2) hv hx1
        have p2 := ho (2 * T.2.2.1.2 (mt (fV9 T.2.2.2 x))) (by omega)
        rw [o2] at p2
        have Mf : M (2 * fV9 T.2.2.2 x / 2) = nI p := by
          rw [show 2 * fV9 T.2.2.2 x / 2 = fV9 T.2.2.2 x by omega]
          exact of_decide_eq_true qf
        have cN := hx (2 * fV9 T.2.2.2 x) (by omega) Mf
        have kN := h.2.2.2.2.1 (2 * fV9 T.2.2.2 x) (by omega)
        have kN2 : kS w (2 * fV9 T.2.2.2 x) = w (fV9 T.2.2.2 x) := by
          unfold kS
          rw [if_pos (by omega), show 2 * fV9 T.2.2.2 x / 2 = fV9 T.2.2.2 x by omega]
        rw [← kN, kN2] at cN
        have wpf : w (T.2.2.1.2 (fV9 T.2.2.2 x)) = !w (fV9 T.2.2.2 x) := by
          have := (hw _ v1).1
          rw [(hv _ ht).2.2.2] at this
          rw [this, Bool.not_not]
        obtain ⟨A1, A2⟩ := fc_ws h hp (κ := κ) ht qf
        obtain ⟨B1, B2⟩ := fc_ws h hp (κ := κ) v1 qpf
        have RA := rowz z hz _ A1 A2
        have RB := rowz z hz _ B1 B2
        have lA := (hρ _ A1 A2).2
        have lB := (hρ _ B1 B2).2
        obtain ⟨g1, g2⟩ := fcz (2 * fV9 T.2.2.2 x) (by omega)
        obtain ⟨g3, g4⟩ := fcz (2 * fV9 T.2.2.2 x + 1) (by omega)
        obtain ⟨g5, g6⟩ := fcz (2 * T.2.2.1.2 (fV9 T.2.2.2 x)) (by omega)
        obtain ⟨g7, g8⟩ := fcz (2 * T.2.2.1.2 (mt (fV9 T.2.2.2 x))) (by omega)
        have col : z.2.1 6003 (φ (2 * fV9 T.2.2.2 x)) = y.2.1 6003 (φ (2 * fV9 T.2.2.2 x)) := by rw [(zy 6003 (by omega)).2.1]
        -- the matrix with this crossing
        have nxt : ∀ z3, mtA9 z3 m (fun i j => mtZ9 x T.2.2.1 T.2.2.2 w (qP9 M p) κ R i j + tI9 T.2.2.2 w κ x * (zd9 i (R (fV9 T.2.2.2 x)) - zd9 i (R (T.2.2.1.2 (fV9 T.2.2.2 x)))) * (zd9 j (R (fV9 T.2.2.2 x)) - zd9 j (R (T.2.2.1.2 (fV9 T.2.2.2 x))))) → mtA9 z3 m (mtZ9 (x + 1) T.2.2.1 T.2.2.2 w (qP9 M p) κ R) := fun z3 h3 i j hi hj => by
          rw [h3 i j hi hj]
          refine congrArg Int64.ofInt ?_
          show _ = zS9 (fun x => if qP9 M p (2 * x) = true then tI9 T.2.2.2 w κ x * rwZ9 T.2.2.1 T.2.2.2 R x i * rwZ9 T.2.2.1 T.2.2.2 R x j else 0) x + (if qP9 M p (2 * x) = true then tI9 T.2.2.2 w κ x * rwZ9 T.2.2.1 T.2.2.2 R x i * rwZ9 T.2.2.1 T.2.2.2 R x j else 0)
          rw [if_pos hxq]
          rfl
        have crs : crG9 T.2.2.2 w (qP9 M p) κ (x + 1) = crG9 T.2.2.2 w (qP9 M p) κ x + (if w (fV9 T.2.2.2 x) = κ then 0 else sgI9 T.2.2.2 x) := by
          show crG9 T.2.2.2 w (qP9 M p) κ x + (if qP9 M p (2 * x) = true then (if w (fV9 T.2.2.2 x) = κ then 0 else sgI9 T.2.2.2 x) else 0) = _
          rw [if_pos hxq]
        refine u_X4_signatureOfPart_2 ?_; unfold cm_X4_signatureOfPart_2
        rw [rn_mul2, mt_x (by omega), nI_1]
        refine w_crI cg_6001 rfl (by omega) g1 (w_crI cg_6003 rfl (by omega) col (w_if (fun hcol => ?_) (fun hcol => ?_)))
        · have hwf : w (fV9 T.2.2.2 x) = κ := cN.mp hcol
          have wa : ws9 w κ (fV9 T.2.2.2 x) = 2 * fV9 T.2.2.2 x := if_pos hwf
          have wb : ws9 w κ (T.2.2.1.2 (fV9 T.2.2.2 x)) = 2 * T.2.2.1.2 (fV9 T.2.2.2 x) + 1 := if_neg (by rw [wpf, hwf]; cases κ <;> decide)
          rw [wa] at RA lA
          rw [wb, p2] at RB lB
          have Ra : R (fV9 T.2.2.2 x) = ρ (φ (2 * fV9 T.2.2.2 x)) := by rw [hRv, wa]
          have Rb : R (T.2.2.1.2 (fV9 T.2.2.2 x)) = ρ (φ (2 * T.2.2.1.2 (mt (fV9 T.2.2.2 x)))) := by rw [hRv, wb, p2]
          refine w_crI (len := 24) rfl rfl (by omega) (pv (mt (fV9 T.2.2.2 x))) ?_
          rw [rn_mul2]
          refine w_crI cg_6001 rfl (by omega) g7 (w_crI cg_6004 rfl (by omega) RA (w_crI cg_6004 rfl (by omega) RB (w_crI (len := 12) rfl rfl (by omega) sgn ?_)))
          have tt : -T.2.2.2 x = iI (tI9 T.2.2.2 w κ x) := by
            unfold tI9
            rw [if_pos hwf]
            unfold sgI9
            rcases hG x hx1 with h9 | h9 <;> rw [h9] <;> rfl
          rw [tt]
          refine w_cs0 (te_addAt hm8 (by omega) (by omega) (tI_pm x) hA) (fun z3 h3 => ?_)
          obtain ⟨h3, h4⟩ := h3
          rw [← Ra, ← Rb] at h4
          refine c3 _ z3 (fr_tr hz h3) ?_ (nxt z3 h4)
          rw [h5, crs, if_pos hwf, Int.add_zero]
        · have hwf : w (fV9 T.2.2.2 x) = !κ := bnot (fun h9 => hcol (cN.mpr h9))
          have wa : ws9 w κ (fV9 T.2.2.2 x) = 2 * fV9 T.2.2.2 x + 1 := if_neg (by rw [hwf]; cases κ <;> decide)
          have wb : ws9 w κ (T.2.2.1.2 (fV9 T.2.2.2 x)) = 2 * T.2.2.1.2 (fV9 T.2.2.2 x) := if_pos (by rw [wpf, hwf, Bool.not_not])
          rw [wa] at RA lA
          rw [wb] at RB lB
          have Ra : R (fV9 T.2.2.2 x) = ρ (φ (2 * fV9 T.2.2.2 x + 1)) := by rw [hRv, wa]
          have Rb : R (T.2.2.1.2 (fV9 T.2.2.2 x)) = ρ (φ (2 * T.2.2.1.2 (fV9 T.2.2.2 x))) := by rw [hRv, wb]
          refine w_crI cg_6001 rfl (by omega) g3 (w_crI (len := 24) rfl rfl (by omega) (pv (fV9 T.2.2.2 x)) ?_)
          rw [rn_mul2]
          refine w_crI cg_6001 rfl (by omega) g5 (w_crI cg_6004 rfl (by omega) RA (w_crI cg_6004 rfl (by omega) RB (w_crI (len := 12) rfl rfl (by omega) sgn ?_)))
          have hne : ¬ w (fV9 T.2.2.2 x) = κ := by rw [hwf]; cases κ <;> decide
          have tt : T.2.2.2 x = iI (tI9 T.2.2.2 w κ x) := by
            unfold tI9
            rw [if_neg hne]
            exact sI
          rw [tt]
          refine w_cs0 (te_addAt hm8 (by omega) (by omega) (tI_pm x) hA) (fun z3 h3 => ?_)
          obtain ⟨h3, h4⟩ := h3
          rw [← Ra, ← Rb] at h4
          have sgn3 : z3.2.1 4003 x = T.2.2.2 x := by
            rw [(h3 4003 (by omega)).2.1]
            exact sgn
          refine w_crI (len := 12) rfl rfl (by omega) sgn3 (c3 _ z3 (fr_tr hz h3) ?_ (nxt z3 h4))
          rw [h5, crs, if_neg hne, ← iI_add, ← sI]
      refine u_X4_signatureOfPart_1 ?_; unfold cm_X4_signatureOfPart_1
      rw [rn_mul2, nI_1]
      refine w_rdF ((zy 4008 (by omega)).1.trans hy.1) (w_leF (by omega) (by omega) (w_crI cg_4006 rfl (by omega) r6 (w_if (fun hq => w_crI (len := 12) rfl rfl (by omega) sgn (w_if (fun hs => ?_) (fun hs => ?_))) (fun hq => ?_))))
      · have e9 : fV9 T.2.2.2 x = 2 * x + 1 := if_neg (fun h9 => by
          rcases hG x hx1 with h8 | h8 <;> rw [h8] at hs h9
          · exact absurd hs (by decide)
          · exact absurd h9 (by decide))
        rw [← e9]
        exact c2 (decide_eq_true hq)
      · have e9 : fV9 T.2.2.2 x = 2 * x := if_pos (by
          rcases hG x hx1 with h8 | h8 <;> rw [h8] at hs ⊢
          · decide
          · exact absurd (by decide) hs)
        rw [← e9]
        exact c2 (decide_eq_true hq)
      · have hxq : ¬ qP9 M p (2 * x) = true := fun h9 => hq (of_decide_eq_true h9)
        refine c3 _ z hz ?_ (fun i j hi hj => ?_)
        · rw [h5]
          show _ = iI (crG9 T.2.2.2 w (qP9 M p) κ x + (if qP9 M p (2 * x) = true then (if w (fV9 T.2.2.2 x) = κ then 0 else sgI9 T.2.2.2 x) else 0))
          rw [if_neg hxq, Int.add_zero]
        · rw [hA i j hi hj]
          refine congrArg Int64.ofInt ?_
          show _ = zS9 (fun x => if qP9 M p (2 * x) = true then tI9 T.2.2.2 w κ x * rwZ9 T.2.2.1 T.2.2.2 R x i * rwZ9 T.2.2.1 T.2.2.2 R x j else 0) x + (if qP9 M p (2 * x) = true then tI9 T.2.2.2 w κ x * rwZ9 T.2.2.1 T.2.2.2 R x i * rwZ9 T.2.2.1 T.2.2.2 R x j else 0)
          rw [if_neg hxq, Int.add_zero]
          rfl
  refine c1 T.1 0 _ z2 (by omega) f2 rfl (fun i j hi hj => ?_)
  exact g2 (8 * i + j) (by omega)
end XSGV
end
section
/-! 99zzzzzzzzzzzzzzzzyzzzf.xsgw -/
/-! signature, the class: the sum over the parts, exactly -/
section XSGW
variable {vl : Nat → Nat} {y : ow_MS} {T : ow_NT} {n P : Nat} {M : Nat → Int32} {φ ψ : Nat → Nat} {w cf : Nat → Bool}
/-- a plane net has faces, colours and parts as they are wanted -/
theorem fcD_of {c : Nat} {S : ow_NP} {G : Nat → Int32} (hv : vn c S) (hc : c ≤ 12) (hw : gaO c S w) (hp : (np_faces c S G).2 = c + 2 * (np_parts c S.1).2) : ∃ ψ cf, fcD9 c S G w (np_faces c S G).2 (np_parts c S.1).2 (np_parts c S.1).1 (fun s => ((np_faces c S G).1 s).toNatClampNeg) ψ cf := by
  obtain ⟨hI, hval⟩ := fp_of hv hc hw hp
  obtain ⟨ψ, e1, e2⟩ := fp_psi hI
  obtain ⟨h1, h2, h3, h4, h5, h6, h7, h8, h9, h10⟩ := hI
  obtain ⟨q1, q2, q3, q4⟩ := parts_I hv hc
  have m1 : mrI (kS w) (4 * c) (4 * c) (np_faces c S G) := mr_out_k (fun a ha => ⟨fc_on_vn hv G ha, ga_on hw hv ha⟩) (fun _ _ => rfl) (by omega) (4 * c) (Nat.le_refl _)
  have mC : mrC (fc_on S G) (4 * c) (np_faces c S G).1 := mr_out_C (fun a ha => fc_on_vn hv G ha) (fun a b ha hb => fc_on_inj hv ha hb) (by omega) (fun k _ => rfl) (4 * c) (Nat.le_refl _)
  have same : ∀ s t, s < 4 * c → t < 4 * c → ((np_faces c S G).1 s).toNatClampNeg = ((np_faces c S G).1 t).toNatClampNeg → kS w s = kS w t := fun s t hs ht e => m1.2.2.2.2 s t hs ht (m1.2.2.1 s hs) (by rw [hval s hs, hval t ht, e])
  have hex : ∀ f, ∃ b : Bool, ∀ s, s < 4 * c → ((np_faces c S G).1 s).toNatClampNeg = f → kS w s = b := fun f => by
    by_cases hs : ∃ s, s < 4 * c ∧ ((np_faces c S G).1 s).toNatClampNeg = f
    · obtain ⟨s, s1, s2⟩ := hs
      exact ⟨kS w s, fun t t1 t2 => same t s t1 s1 (by rw [t2, s2])⟩
    · exact ⟨true, fun s s1 s2 => absurd ⟨s, s1, s2⟩ hs⟩
  refine ⟨ψ, fun f => Classical.choose (hex f), hv, hw, h1, fun s hs => ?_, fun s hs => Classical.choose_spec (hex _) s hs rfl, e1, e2, h4, h7, q1, fun u v hu hvl e => (parts_iff hv hc hu hvl).mp e, h3, h8, h9, h10⟩
  show ((np_faces c S G).1 (fc_on S G s)).toNatClampNeg = _
  rw [mC s hs]
theorem te_sgLoop (hy : cAt y 4000 T) (h : fcD9 T.1 T.2.2.1 T.2.2.2 w n P M φ ψ cf) (hG : ∀ x, x < T.1 → T.2.2.2 x = 1 ∨ T.2.2.2 x = -1) (h11 : y.1 4011 = nI P) (h2 : y.1 6002 = nI n) (hM : ∀ v, v < 2 * T.1 → y.2.1 4006 v = M v) (hφ : ∀ s, s < 4 * T.1 → y.2.1 6001 s = nI (φ s)) : ∀ (d p : Nat) (x : Int32) (z : ow_MS), p + d = P → fr sgL y z → x = iI (zS9 (fun p => vlG9 T.1 T.2.2.1 T.2.2.2 w n M φ ψ cf p) p) → (∀ s q, s < 4 * T.1 → p ≤ q → q < P → M (s / 2) = nI q → z.2.1 6003 (φ s) = -1) → Tt (fun K k => c_X4_signatureOf vl K k 1 x (nI p) 6000 4000 z) (fun r => r.1 = iI (zS9 (fun p => vlG9 T.1 T.2.2.1 T.2.2.2 w n M φ ψ cf p) P) ∧ fr sgL y r.2) := by
  have hv := h.1
  have hw := h.2.1
  have i1 := h.2.2.1
  have ho := h.2.2.2.1
  have i8 : T.1 ≤ 12 := h.2.2.2.2.2.2.2.2.2.2.2.2.1
  have i9 : n ≤ 48 := h.2.2.2.2.2.2.2.2.2.2.2.2.2.1
  have i10 : P ≤ 24 := h.2.2.2.2.2.2.2.2.2.2.2.2.2.2
  intro d
  induction d with
  | zero =>
    intro p x z hp hz hx _
    have hp : p = P := by omega
    refine u_X4_signatureOf_1 ?_; unfold cm_X4_signatureOf_1
    refine w_rdF ((hz 4011 (by unfold sgL; omega)).1.trans h11) (w_leT (by omega) (by omega) (w_some ⟨?_, hz⟩))
    rw [← hp]
    exact hx
  | succ d ih =>
    intro p x z hp hz hx hcol
    have hpP : p < P := by omega
    have zc : cAt z 4000 T := cAt_fr hz (fun g hg h9 => by unfold cP at hg; unfold sgL at h9; omega) hy
    have z2 : z.1 6002 = nI n := (hz 6002 (by unfold sgL; omega)).1.trans h2
    have zφ : ∀ s, s < 4 * T.1 → z.2.1 6001 s = nI (φ s) ∧ φ s < n := fun s hs => ⟨by rw [(hz 6001 (by unfold sgL; omega)).2.1]; exact hφ s hs, i1 s hs⟩
    have zM : ∀ v, v < 2 * T.1 → z.2.1 4006 v = M v := fun v hv => by rw [(hz 4006 (by unfold sgL; omega)).2.1]; exact hM v hv
    obtain ⟨v, v1, v2⟩ := h.2.2.2.2.2.2.2.2.2.2.2.1 p hpP
    obtain ⟨v0, ⟨a1, a2⟩, a3⟩ := lst_ex (p := fun v => v < 2 * T.1 ∧ M v = nI p) v ⟨v1, v2⟩
    -- the colours that the faces get
    have kL : ∀ v, v < 2 * T.1 → cf (φ (2 * v)) = w v ∧ cf (φ (2 * v + 1)) = !w v := fun v hv1 => by
      have k1 := h.2.2.2.2.1 (2 * v) (by omega)
      have k2 := h.2.2.2.2.1 (2 * v + 1) (by omega)
      unfold kS at k1 k2
      rw [if_pos (by omega), show 2 * v / 2 = v by omega] at k1
      rw [if_neg (by omega), show (2 * v + 1) / 2 = v by omega] at k2
      exact ⟨k1.symm, k2.symm⟩
    have fc2 : ∀ f, (fun f => if cf f = w v0 then (0 : Int32) else 1) f = 0 ∨ (fun f => if cf f = w v0 then (0 : Int32) else 1) f = 1 := fun f => by
      dsimp only
      split
      · exact Or.inl rfl
      · exact Or.inr rfl
    refine u_X4_signatureOf_1 ?_; unfold cm_X4_signatureOf_1
    refine w_rdF ((hz 4011 (by unfold sgL; omega)).1.trans h11) (w_leF (by omega) (by omega) (w_cs0 (te_paint (x2 := nI p) (q := qP9 M p) (S := T.2.2.1) (G := T.2.2.2) (fc := fun f => if cf f = w v0 then 0 else 1) (v0 := v0) hv (ptQ_of h p) zc.1 i8 i9 zφ ho (fun v hv1 => ?_) fc2 (fun v hv1 hvq => ?_) a1 (decide_eq_true a2) (fun u hu => ?_) ?_ (fun s hs hsq => hcol s p hs (Nat.le_refl _) hpP (of_decide_eq_true hsq))) ?_))
    · rw [zM v hv1]
      exact ⟨fun h9 => decide_eq_true h9, fun h9 => of_decide_eq_true h9⟩
    · rw [(kL v hv1).1, (kL v hv1).2]
      by_cases h9 : w v = w v0
      · rw [if_pos h9, if_neg (by rw [h9]; cases w v0 <;> decide)]
        rfl
      · rw [if_neg h9, if_pos (by rw [bnot h9, Bool.not_not])]
        rfl
    · exact decide_eq_false (fun h9 => a3 u hu ⟨by omega, h9⟩)
    · rw [(kL v0 a1).1, if_pos rfl]
    rintro z5 ⟨f5, o5, g5⟩
    have f5 : fr (fun g => g = 6003) z z5 := f5
    have g5 : ∀ s, s < 4 * T.1 → qP9 M p (s / 2) = true → z5.2.1 6003 (φ s) = if cf (φ s) = w v0 then 0 else 1 := g5
    have y5 : fr sgL y z5 := fr_tr hz (fr_mono (fun g hg => by unfold sgL; omega) f5)
    have c5 : cAt z5 4000 T := cAt_fr y5 (fun g hg h9 => by unfold cP at hg; unfold sgL at h9; omega) hy
    have t5 : z5.1 6002 = nI n := (y5 6002 (by unfold sgL; omega)).1.trans h2
    have φ5 : ∀ s, s < 4 * T.1 → z5.2.1 6001 s = nI (φ s) ∧ φ s < n := fun s hs => ⟨by rw [(y5 6001 (by unfold sgL; omega)).2.1]; exact hφ s hs, i1 s hs⟩
    have M5 : ∀ v, v < 2 * T.1 → z5.2.1 4006 v = M v := fun v hv => by rw [(y5 4006 (by unfold sgL; omega)).2.1]; exact hM v hv
    have co0 : coI9 z5 T.1 φ cf M p 0 (w v0) := fun s hs hsM => by
      rw [g5 s hs (decide_eq_true hsM)]
      by_cases h9 : cf (φ s) = w v0
      · rw [if_pos h9]
        exact ⟨fun _ => h9, fun _ => rfl⟩
      · rw [if_neg h9]
        exact ⟨fun h8 => absurd h8 (by decide), fun h8 => absurd h8 h9⟩
    have co1 : coI9 z5 T.1 φ cf M p 1 (!w v0) := fun s hs hsM => by
      rw [g5 s hs (decide_eq_true hsM)]
      by_cases h9 : cf (φ s) = w v0
      · rw [if_pos h9]
        exact ⟨fun h8 => absurd h8 (by decide), fun h8 => absurd (h9.symm.trans h8) (by cases w v0 <;> decide)⟩
      · rw [if_neg h9]
        exact ⟨fun _ => bnot h9, fun _ => rfl⟩
    have n0 : cntR z5 T.1 n φ (nI p) 0 = kF9 ψ cf n p (w v0) := nF_cg n (cnt_kF h hpP M5 co0)
    have n1 : cntR z5 T.1 n φ (nI p) 1 = kF9 ψ cf n p (!w v0) := nF_cg n (cnt_kF h hpP M5 co1)
    have eu := eul_p h hpP (w v0)
    have cl := nF_le (fun x => qP9 M p (2 * x)) T.1
    refine w_cs1 (tc_rarer c5.1 i8 t5 i9 φ5) ?_
    rintro x3 z7 ⟨r1, f7⟩
    have f7 : fr (fun g => g = 6004) z5 z7 := f7
    have y7 : fr sgL y z7 := fr_tr y5 (fr_mono (fun g hg => by unfold sgL; omega) f7)
    have c7 : cAt z7 4000 T := cAt_fr y7 (fun g hg h9 => by unfold cP at hg; unfold sgL at h9; omega) hy
    have φ7 : ∀ s, s < 4 * T.1 → z7.2.1 6001 s = nI (φ s) ∧ φ s < n := fun s hs => ⟨by rw [(y7 6001 (by unfold sgL; omega)).2.1]; exact hφ s hs, i1 s hs⟩
    have M7 : ∀ v, v < 2 * T.1 → z7.2.1 4006 v = M v := fun v hv => by rw [(y7 4006 (by unfold sgL; omega)).2.1]; exact hM v hv
    have co7 : ∀ {x : Int32} {κ : Bool}, coI9 z5 T.1 φ cf M p x κ → coI9 z7 T.1 φ cf M p x κ := fun hco s hs hsM => by
      rw [(f7 6003 (by omega)).2.1]
      exact hco s hs hsM
    have tl : ∀ κ, coI9 z7 T.1 φ cf M p x3 κ → kF9 ψ cf n p κ ≤ 9 → Tt (fun K k => cs1 (ce_X4_signatureOfPart vl K 6000 4000 (nI p) x3 z7) fun v10 z9 => c_X4_signatureOf vl K k 1 (x + v10) (nI p + 1) 6000 4000 z9) (fun r => r.1 = iI (zS9 (fun p => vlG9 T.1 T.2.2.1 T.2.2.2 w n M φ ψ cf p) P) ∧ fr sgL y r.2) := by
      intro κ hco hk
      refine w_cs1 (te_sgPart c7 h hpP hG ((y7 6002 (by unfold sgL; omega)).1.trans h2) φ7 M7 hco hk) ?_
      rintro x4 z9 ⟨a4, f9⟩
      have a4 : x4 = _ := a4
      have f9 : fr spP z7 z9 := f9
      have sp : ∀ g, spP g → sgL g ∧ g ≠ 6003 := fun g hg => by
        unfold spP fcP at hg
        unfold sgL
        omega
      rw [nI_1]
      refine ih (p + 1) _ z9 (by omega) (fr_tr y7 (fr_mono (fun g hg => (sp g hg).1) f9)) ?_ (fun s q hs hq hqP hsq => ?_)
      · rw [hx, a4, iI_add]
        rfl
      · rw [(f9 6003 (fun h9 => (sp _ h9).2 rfl)).2.1, (f7 6003 (by omega)).2.1, o5 (φ s) (fun t ht h9 h8 => ?_)]
        · exact hcol s q hs (by omega) hqP hsq
        · have e1 := h.2.2.2.2.2.2.1 t ht
          rw [h8, ← h.2.2.2.2.2.2.1 s hs, hsq, of_decide_eq_true h9] at e1
          have := nI_inj9 (by omega) (by omega) e1
          omega
    dsimp only at r1
    rw [n0, n1] at r1
    rcases r1 with ⟨e, hh⟩ | ⟨e, hh⟩
    · have e : x3 = 0 := e
      exact tl (w v0) (by rw [e]; exact co7 co0) (by omega)
    · have e : x3 = 1 := e
      exact tl (!w v0) (by rw [e]; exact co7 co1) (by omega)
theorem te_sgOf {c ci : Nat} {S : ow_NP} {G : Nat → Int32} (hy : cAt y 4000 (c, ci, S, G)) (hb : ow_b24 S) (hv : vn c S) (hc : c ≤ 12) (hw : gaO c S w) (hG : ∀ x, x < c → G x = 1 ∨ G x = -1) (hp : nt_plane (c, ci, S, G) = true) : Te (fun K => ce_X4_signatureOf vl K 6000 4000 y) (fun r => (∃ n P M φ ψ cf, fcD9 c S G w n P M φ ψ cf ∧ r.1 = iI (zS9 (fun p => vlG9 c S G w n M φ ψ cf p) P)) ∧ fr sgP2 y r.2) := by
  have hp' : (np_faces c S G).2 = c + 2 * (np_parts c S.1).2 := of_decide_eq_true hp
  obtain ⟨hI, hval⟩ := fp_of hv hc hw hp'
  obtain ⟨ψ, cf, hD⟩ := fcD_of hv hc hw hp'
  have hN : ∀ k, k < 2 * c → S.1 k < 2 * c := fun k hk => (hv k hk).1
  refine e_X4_signatureOf ?_
  refine u_X4_signatureOf_0 ?_; unfold cm_X4_signatureOf_0
  refine w_cs0 (tc_markParts nH4 hy hN hc) ?_
  rintro z1 ⟨m1, m2, m3⟩
  have q := np_parts_of (N := S.1) (c := c) hN hc (y.2.1 (4000 + 6))
  have c1 : cAt z1 4000 (c, ci, S, G) := cAt_fr m3 (fun g hg h9 => by unfold cP at hg; unfold cQ at h9; omega) hy
  refine w_cs0 (tc_faces nH4 (Or.inl rfl) (Or.inl (by omega)) c1 hb hv hc) ?_
  rintro z2 ⟨k1, k2, k3⟩
  have q2 := mr_out_rl (fun a ha => fc_on_vn hv G ha) (rl_fill (4 * c) (z1.2.1 (6000 + 1)) (-1)) (4 * c) (Nat.le_refl _)
  dsimp only at m1 m2 k1 k2
  rw [q2.2] at k2
  rw [q.2] at m2
  have hn48 := hI.2.2.2.2.2.2.2.2.1
  have k2' : z2.1 6002 = nI (np_faces c S G).2 := k2
  refine w_rdF k2' (w_cs0 (tc_fill (a := 0) (b := (np_faces c S G).2) cg_6003 (by omega) hn48 (by omega)) ?_)
  rintro z4 ⟨f4, f5⟩
  have c4 : cAt z4 4000 (c, ci, S, G) := cAt_fr f5 (fun g hg h9 => by unfold cP at hg; omega) (cAt_fr k3 (fun g hg h9 => by unfold cP at hg; unfold cF at h9; omega) c1)
  refine w_mono (te_sgLoop (T := (c, ci, S, G)) c4 hD hG ?_ ?_ ?_ ?_ (np_parts c S.1).2 0 0 z4 (by omega) fr_rf rfl ?_) ?_
  · rw [(f5 4011 (by omega)).1, (k3 4011 (by unfold cF; omega)).1]
    exact m2
  · rw [(f5 6002 (by omega)).1]
    exact k2'
  · intro v hv1
    rw [(f5 4006 (by omega)).2.1, (k3 4006 (by unfold cF; omega)).2.1]
    exact (m1 v).trans (q.1 v hv1)
  · intro s hs
    rw [(f5 6001 (by omega)).2.1]
    exact ((k1 s).trans (q2.1 s hs)).trans (hval s hs)
  · intro s r hs _ _ _
    have := hI.1 s hs
    rw [f4, if_pos ⟨Nat.zero_le _, this⟩]
  · intro r hr
    exact ⟨⟨_, _, _, _, _, _, hD, hr.1⟩, fr_tr (fr_tr (fr_tr (fr_mono (fun g hg => Or.inl hg) m3) (fr_mono (fun g hg => Or.inr (by unfold cF at hg; omega)) k3)) (fr_mono (fun g hg => Or.inr (by omega)) f5)) (fr_mono (fun g hg => Or.inr (by unfold sgL at hg; omega)) hr.2)⟩
end XSGW
end
section
/-! 99zzzzzzzzzzzzzzzzyzzzg.xsgx -/
/-! signature: the reference's faces number the class's -/
section XSGX
variable {A : rn_L} {sg : Nat → Bool} {T : ow_NT} {n P : Nat} {M : Nat → Int32} {φ ψ : Nat → Nat} {w cf : Nat → Bool}
theorem nF_fil (q : Nat → Bool) : ∀ n, nF q n = ((List.range n).filter q).length := by
  intro n
  induction n with
  | zero => rfl
  | succ n ih =>
    show nF q n + (if q n = true then 1 else 0) = _
    rw [List.range_succ, List.filter_append, List.length_append, ← ih]
    by_cases h : q n = true
    · rw [if_pos h, List.filter_cons_of_pos h]
      rfl
    · rw [if_neg h, List.filter_cons_of_neg h]
      rfl
theorem nF_map {q r : Nat → Bool} {n m : Nat} (g : Nat → Nat) (h1 : ∀ a, a < n → q a = true → g a < m ∧ r (g a) = true) (h2 : ∀ a b, a < n → b < n → q a = true → q b = true → g a = g b → a = b) : nF q n ≤ nF r m := by
  rw [nF_fil, nF_fil]
  have := nodup_le (((List.range n).filter q).map g) ((List.range m).filter r) (nodup_map (List.nodup_range.filter _) (fun x y hx hy e => by
    obtain ⟨x1, x2⟩ := List.mem_filter.mp hx
    obtain ⟨y1, y2⟩ := List.mem_filter.mp hy
    exact h2 x y (List.mem_range.mp x1) (List.mem_range.mp y1) x2 y2 e)) (fun b hb => by
    obtain ⟨a, a1, a2⟩ := List.mem_map.mp hb
    obtain ⟨x1, x2⟩ := List.mem_filter.mp a1
    obtain ⟨u1, u2⟩ := h1 a (List.mem_range.mp x1) x2
    rw [← a2]
    exact List.mem_filter.mpr ⟨List.mem_range.mpr u1, u2⟩)
  rw [List.length_map] at this
  exact this
theorem ps_h (s : Nat) : psS A s / 2 = lbv A idN (s / 2) := by
  unfold psS
  omega
theorem ref_nb (h : fcD9 T.1 T.2.2.1 T.2.2.2 w n P M φ ψ cf) (hV : isoV A sg idN T) (hp1 : pm1 T) {p F : Nat} (hp : p < P) {κ : Bool} {fl : Nat → Nat} {wh qA : Nat → Bool} (hqA : ∀ v, v < A.flatten.length → qA v = qP9 M p (lbv A idN v)) (hF : ∀ s, s < 2 * A.flatten.length → fl s < F) (hfl : ∀ s, s < 2 * A.flatten.length → fl (phi A sg s) = fl s) (hfi : ∀ s t, s < 2 * A.flatten.length → t < 2 * A.flatten.length → fl s = fl t → φ (psS A s) = φ (psS A t)) (hw1 : ∀ s, s < 2 * A.flatten.length → qA (s / 2) = true → (wh (fl s) = true ↔ kS w (psS A s) = κ)) (hw2 : ∀ f, f < F → wh f = true → ∃ s, s < 2 * A.flatten.length ∧ qA (s / 2) = true ∧ kS w (psS A s) = κ ∧ fl s = f) : ∃ R : Nat → Nat, nbG9 T.1 T.2.2.1 T.2.2.2 w (qP9 M p) κ R (kF9 ψ cf n p κ) ∧ nF wh F = kF9 ψ cf n p κ ∧ ∀ s, s < 2 * A.flatten.length → qA (s / 2) = true → kS w (psS A s) = κ → R (lbv A idN (s / 2)) = nF wh (fl s) := by
  have hv := h.1
  have hw := h.2.1
  have hd := wkF_ok (isoS_iff.mp hV.1).1
  obtain ⟨isd, hisd⟩ : ∃ isd : Nat → Nat, ∀ a, a < 4 * T.1 → isd a < 2 * A.flatten.length ∧ psS A (isd a) = a := by
    refine Classical.axiomOfChoice (r := fun a s => a < 4 * T.1 → s < 2 * A.flatten.length ∧ psS A s = a) (fun a => ?_)
    by_cases ha : a < 4 * T.1
    · obtain ⟨s, s1, s2⟩ := ps_sur hV ha
      exact ⟨s, fun _ => ⟨s1, s2⟩⟩
    · exact ⟨0, fun h9 => absurd h9 ha⟩
  have back : ∀ s, s < 2 * A.flatten.length → isd (psS A s) = s := fun s hs => by
    obtain ⟨a1, a2⟩ := hisd _ (ps_lt hV hs)
    exact ps_inj hV a1 hs a2
  have on9 : ∀ a, a < 4 * T.1 → (fun a => fl (isd a)) (fc_on T.2.2.1 T.2.2.2 a) = (fun a => fl (isd a)) a := fun a ha => by
    obtain ⟨a1, a2⟩ := hisd a ha
    have e := ps_on hV hp1 a1
    rw [a2] at e
    have hl := phi_lt (sg := sg) hd a1
    show fl (isd (fc_on T.2.2.1 T.2.2.2 a)) = fl (isd a)
    rw [e, back _ hl, hfl _ a1]
  have qv : ∀ v, v < 2 * T.1 → ∀ κ', qA (isd (ws9 w κ' v) / 2) = qP9 M p v ∧ kS w (psS A (isd (ws9 w κ' v))) = κ' ∧ isd (ws9 w κ' v) < 2 * A.flatten.length := fun v hv1 κ' => by
    obtain ⟨b1, b2, b3⟩ := ws_k (w := w) κ' v
    obtain ⟨a1, a2⟩ := hisd (ws9 w κ' v) (by omega)
    refine ⟨?_, by rw [a2]; exact b1, a1⟩
    rw [hqA _ (by omega), ← ps_h, a2, b2]
  have nb := nb_of (G := T.2.2.2) (φ := fun a => fl (isd a)) (q := qP9 M p) (κ := κ) (ρ := fun f => nF wh f) (k := nF wh F) hv hw on9 (fun v hv1 hq => by
    obtain ⟨c1, c2, c3⟩ := qv v hv1 κ
    have := (hw1 _ c3 (by rw [c1]; exact hq)).mpr c2
    exact nF_lt (hF _ c3) this) (fun j hj => by
    obtain ⟨f, f1, f2, f3⟩ := nF_sur hj
    obtain ⟨s, s1, s2, s3, s4⟩ := hw2 f f1 f2
    have e1 : psS A s = ws9 w κ (lbv A idN (s / 2)) := by
      have := ws_of s3
      rw [ps_h] at this
      exact this
    have hl := lbv_lt (isoS_iff.mp hV.1) (v := s / 2) (by omega)
    refine ⟨lbv A idN (s / 2), hl, ?_, ?_⟩
    · rw [← hqA _ (by omega)]
      exact s2
    · show nF wh (fl (isd (ws9 w κ (lbv A idN (s / 2))))) = j
      rw [← e1, back s s1, s4]
      exact f3)
  obtain ⟨v0, v1, v2⟩ := h.2.2.2.2.2.2.2.2.2.2.2.1 p hp
  have k1 : 1 ≤ nF wh F := by
    obtain ⟨c1, c2, c3⟩ := qv v0 v1 κ
    exact nF_pos ((hw1 _ c3 (by rw [c1]; exact decide_eq_true v2)).mpr c2) F (hF _ c3)
  have le1 := eul_G hv hw (ptQ_of h p) k1 (kF_pos h hp (!κ)) nb (nb_can h hp (!κ))
  have eu := eul_p h hp κ
  -- as many faces
  have le2 : kF9 ψ cf n p κ ≤ nF wh F := by
    obtain ⟨vv, hvv⟩ : ∃ vv : Nat → Nat, ∀ f, f < n → qF9 ψ cf p κ f = true → vv f < 2 * T.1 ∧ qP9 M p (vv f) = true ∧ φ (ws9 w κ (vv f)) = f := by
      refine Classical.axiomOfChoice (r := fun f v => f < n → qF9 ψ cf p κ f = true → v < 2 * T.1 ∧ qP9 M p v = true ∧ φ (ws9 w κ v) = f) (fun f => ?_)
      by_cases hf : f < n ∧ qF9 ψ cf p κ f = true
      · obtain ⟨v, a⟩ := fc_of h hf.1 hf.2
        exact ⟨v, fun _ _ => a⟩
      · exact ⟨0, fun a b => absurd ⟨a, b⟩ hf⟩
    refine nF_map (fun f => fl (isd (ws9 w κ (vv f)))) (fun f hf hq => ?_) (fun f g hf hg qf qg e => ?_)
    · obtain ⟨a1, a2, a3⟩ := hvv f hf hq
      obtain ⟨c1, c2, c3⟩ := qv _ a1 κ
      exact ⟨hF _ c3, (hw1 _ c3 (by rw [c1]; exact a2)).mpr c2⟩
    · obtain ⟨a1, a2, a3⟩ := hvv f hf qf
      obtain ⟨b1, b2, b3⟩ := hvv g hg qg
      obtain ⟨c1, c2, c3⟩ := qv _ a1 κ
      obtain ⟨d1, d2, d3⟩ := qv _ b1 κ
      have e2 := hfi _ _ c3 d3 e
      obtain ⟨u1, u2, u3⟩ := ws_k (w := w) κ (vv f)
      obtain ⟨x1, x2, x3⟩ := ws_k (w := w) κ (vv g)
      rw [(hisd _ (by omega)).2, (hisd _ (by omega)).2, a3, b3] at e2
      exact e2
  have ek : nF wh F = kF9 ψ cf n p κ := by omega
  rw [ek] at nb
  refine ⟨_, nb, ek, fun s hs hsq hsk => ?_⟩
  have e1 : psS A s = ws9 w κ (lbv A idN (s / 2)) := by
    have := ws_of hsk
    rw [ps_h] at this
    exact this
  show nF wh (fl (isd (ws9 w κ (lbv A idN (s / 2))))) = _
  rw [← e1, back s hs]
end XSGX
end
section
/-! 99zzzzzzzzzzzzzzzzyzzzh.xsgy -/
/-! signature, the reference: faces are coloured, exactly -/
section XSGY
variable {z : ow_MS}
theorem xr_colour {n F P p v0 c : Nat} {A : rn_L} {sg : Nat → Bool} {fl : Nat → Nat} {cb wh : Nat → Bool} (hn : mw_net n) (hok : okF A.flatten c) (hc : c ≤ 12) (hI : fcI z n A sg F P) (hp : p < P) (hv0 : inP A (z.2.1 (n + 12)) p v0) (hfl : ∀ s, s < 2 * A.flatten.length → z.2.1 (n + 14) s = nI (fl s) ∧ fl s < F) (hcb : ∀ v, inP A (z.2.1 (n + 12)) p v → cb (fl (2 * v)) = !cb (fl (2 * v + 1))) (hall : ∀ K : Nat → Prop, (∀ v, inP A (z.2.1 (n + 12)) p v → (K (fl (2 * v)) ↔ K (fl (2 * v + 1)))) → K (fl (2 * v0)) → ∀ v, inP A (z.2.1 (n + 12)) p v → K (fl (2 * v)) ∧ K (fl (2 * v + 1))) (hwh : ∀ f, f < F → (wh f = true ↔ ∃ s, inP A (z.2.1 (n + 12)) p (s / 2) ∧ fl s = f ∧ cb f = cb (fl (2 * v0)))) (hk : nF wh F ≤ 16) : Te (fun K => qe_X13_colourFaces K n (nI v0) z) (fun r => r.1 = nI (nF wh F) ∧ fr (fun g => g = 52 ∨ g = 53) z r.2 ∧ (∀ s, inP A (z.2.1 (n + 12)) p (s / 2) → r.2.2.1 52 (fl s) = if cb (fl s) = cb (fl (2 * v0)) then 1 else 2) ∧ ∀ f, f < F → wh f = true → r.2.2.1 53 f = nI (nF wh f)) := by
  have hV := okF_len hok
  have hmn := net_mod hn
  have hd := wkF_ok hI.1.wk
  have hC := hI.1.2.2.2
  obtain ⟨q1, q2, q3, q4⟩ := hI.2.1
  have F80 : F ≤ 80 := by omega
  have hv0l := hv0.1
  let Q : Int32 × ow_MS → Prop := fun r => r.1 = nI (nF wh F) ∧ fr (fun g => g = 52 ∨ g = 53) z r.2 ∧ (∀ s, inP A (z.2.1 (n + 12)) p (s / 2) → r.2.2.1 52 (fl s) = if cb (fl s) = cb (fl (2 * v0)) then 1 else 2) ∧ ∀ f, f < F → wh f = true → r.2.2.1 53 f = nI (nF wh f)
  have iF : ∀ {y : ow_MS}, fr (fun g => g = 52 ∨ g = 53) z y → fcI y n A sg F P := fun hf => fcI_fr hn hf (fun g hg => by omega) hI
  have e14 : ∀ {y : ow_MS}, fr (fun g => g = 52 ∨ g = 53) z y → y.2.1 (n + 14) = z.2.1 (n + 14) := fun hf => (hf (n + 14) (by omega)).2.1
  have e12 : ∀ {y : ow_MS}, fr (fun g => g = 52 ∨ g = 53) z y → y.2.1 (n + 12) = z.2.1 (n + 12) := fun hf => (hf (n + 12) (by omega)).2.1
  let co : Nat → Int32 := fun f => if cb f = cb (fl (2 * v0)) then 1 else 2
  have coD : ∀ f, co f = if cb f = cb (fl (2 * v0)) then 1 else 2 := fun f => rfl
  have co0 : ∀ f, co f ≠ 0 := fun f h => by
    rw [coD] at h
    split at h <;> exact absurd h (by decide)
  -- the colours so far
  let cI : ow_MS → Prop := fun y => (∀ f, f < 80 → y.2.1 52 f = 0 ∨ (∃ s, inP A (z.2.1 (n + 12)) p (s / 2) ∧ fl s = f) ∧ y.2.1 52 f = co f) ∧ y.2.1 52 (fl (2 * v0)) = 1
  -- all painted: the white ones are just wh
  let cE : ow_MS → Prop := fun y => (∀ s, inP A (z.2.1 (n + 12)) p (s / 2) → y.2.1 52 (fl s) = co (fl s)) ∧ ∀ f, f < F → (y.2.1 52 f = 1 ↔ wh f = true)
  have ends : ∀ y, cI y → (∀ v, inP A (z.2.1 (n + 12)) p v → (y.2.1 52 (fl (2 * v)) ≠ 0 ↔ y.2.1 52 (fl (2 * v + 1)) ≠ 0)) → cE y := by
    intro y hcl hst
    have a := hall (fun f => y.2.1 52 f ≠ 0) hst (by rw [hcl.2]; decide)
    have b : ∀ s, inP A (z.2.1 (n + 12)) p (s / 2) → y.2.1 52 (fl s) = co (fl s) := fun s hs => by
      have hsl := hs.1
      have f9 := (hfl s (by omega)).2
      have ne : y.2.1 52 (fl s) ≠ 0 := by
        have := a (s / 2) hs
        by_cases h2 : s % 2 = 0
        · rw [show 2 * (s / 2) = s by omega] at this
          exact this.1
        · rw [show 2 * (s / 2) + 1 = s by omega] at this
          exact this.2
      exact ((hcl.1 (fl s) (by omega)).resolve_left ne).2
    refine ⟨b, fun f hf => ⟨fun h1 => ?_, fun h1 => ?_⟩⟩
    · rcases hcl.1 f (by omega) with h9 | ⟨⟨s, s1, s2⟩, h9⟩
      · rw [h1] at h9
        exact absurd h9 (by decide)
      · refine (hwh f hf).mpr ⟨s, s1, s2, ?_⟩
        rw [h1, coD] at h9
        by_cases h8 : cb f = cb (fl (2 * v0))
        · exact h8
        · rw [if_neg h8] at h9
          exact absurd h9 (by decide)
    · obtain ⟨s, s1, s2, s3⟩ := (hwh f hf).mp h1
      have := b s s1
      rw [s2, coD, if_pos s3] at this
      exact this
  have c8 : ∀ (d f : Nat) (x3 x4 : Int32) (y : ow_MS), f + d = F → fr (fun g => g = 52 ∨ g = 53) z y → cE y → (∀ g, g < f → wh g = true → y.2.1 53 g = nI (nF wh g)) → Tt (fun K i => q_X13_colourFaces K i 8 (nI v0) x3 x4 (nI (nF wh f)) (nI f) 0 n 0 0 y) Q := by
    intro d
    induction d with
    | zero =>
      intro f x3 x4 y hfF hf hcl hw
      have hfF : f = F := by omega
      subst hfF
      refine u_X13_colourFaces_8 ?_; unfold qm_X13_colourFaces_8
      exact w_rdF (iF hf).2.1.1 (w_leT (by omega) (by omega) (w_some ⟨rfl, hf, hcl.1, hw⟩))
    | succ d ih =>
      intro f x3 x4 y hfF hf hcl hw
      have hs : nF wh (f + 1) = nF wh f + if wh f = true then 1 else 0 := rfl
      refine u_X13_colourFaces_8 ?_; unfold qm_X13_colourFaces_8
      refine w_rdF (iF hf).2.1.1 (w_leF (by omega) (by omega) (w_rdI ml52 rfl (by omega) rfl (w_if (fun h9 => w_wrI ml53 rfl (by omega) ?_) (fun h9 => ?_))))
      · have hq := (hcl.2 f (by omega)).mp h9
        rw [if_pos hq] at hs
        refine u_X13_colourFaces_9 ?_; unfold qm_X13_colourFaces_9
        rw [nI_1, nI_1, ← hs]
        refine ih (f + 1) x3 x4 (usI y 53 f _) (by omega) (fr_I2 hf (Or.inr rfl)) ⟨fun s hsP => rd_ot (by omega) (hcl.1 s hsP), fun g hg => ?_⟩ (fun g hg hgw => ?_)
        · rw [po_usI_ot (by omega)]
          exact hcl.2 g hg
        · by_cases h8 : g = f
          · rw [h8]
            exact po_usI_at
          · rw [po_usI_ne h8]
            exact hw g (by omega) hgw
      · have hq : ¬ wh f = true := fun h8 => h9 ((hcl.2 f (by omega)).mpr h8)
        rw [if_neg hq, Nat.add_zero] at hs
        refine u_X13_colourFaces_9 ?_; unfold qm_X13_colourFaces_9
        rw [nI_1]
        have := ih (f + 1) x3 x4 y (by omega) hf hcl (fun g hg hgw => by
          by_cases h8 : g = f
          · rw [h8] at hgw
            exact absurd hgw hq
          · exact hw g (by omega) hgw)
        rw [hs] at this
        exact this
  have hfm : ∀ {y : ow_MS}, fr (fun g => g = 52) z y → fr (fun g => g = 52 ∨ g = 53) z y := fun h => fr_mono (fun g hg => Or.inl hg) h
  have c2 : ∀ (m : Nat) (x4 : Int32) (y : ow_MS), zeC y ≤ m → fr (fun g => g = 52) z y → cI y → x4 = 1 → Tt (fun K i => q_X13_colourFaces K i 2 (nI v0) (nI p) x4 0 0 0 n 0 0 y) Q := by
    intro m
    induction m using Nat.strongRecOn with
    | ind m ih =>
    intro x4 y hm hf hcl hx4
    have pass : ∀ (d g : Nat) (x4 : Int32) (y1 : ow_MS), g + d = A.flatten.length → fr (fun g => g = 52) z y1 → cI y1 → (x4 = 0 ∧ (∀ u, u < g → inP A (z.2.1 (n + 12)) p u → (y1.2.1 52 (fl (2 * u)) ≠ 0 ↔ y1.2.1 52 (fl (2 * u + 1)) ≠ 0)) ∨ x4 = 1 ∧ zeC y1 < zeC y) → zeC y1 ≤ zeC y → Tt (fun K i => q_X13_colourFaces K i 3 (nI v0) (nI p) x4 (nI g) 0 0 n 0 0 y1) Q := by
      intro d
      induction d with
      | zero =>
        intro g x4 y1 hg hf hcl h4 hz
        refine u_X13_colourFaces_3 ?_; unfold qm_X13_colourFaces_3
        refine w_rdF (iF (hfm hf)).1.1.V (w_leT (by omega) (by omega) ?_)
        rcases h4 with ⟨h4, h6⟩ | ⟨h4, h5⟩
        · rw [h4]
          refine u_X13_colourFaces_2 ?_; unfold qm_X13_colourFaces_2
          exact w_ifT rfl (c8 F 0 _ _ y1 (by omega) (hfm hf) (ends y1 hcl (fun v hv => h6 v (by have := hv.1; omega) hv)) (fun g hg => absurd hg (by omega)))
        · exact ih (zeC y1) (by omega) x4 y1 (Nat.le_refl _) hf hcl h4
      | succ d ihp =>
        intro g x4 y1 hg hf hcl h4 hz
        have hgl : g < A.flatten.length := by omega
        have hcc := (rn_c_in A g hgl).1
        have hI1 := iF (hfm hf)
        obtain ⟨el, hll⟩ := hfl (2 * g) (by omega)
        obtain ⟨er, hrl⟩ := hfl (2 * g + 1) (by omega)
        have efl : y1.2.1 (n + 14) (2 * g) = nI (fl (2 * g)) := by rw [e14 (hfm hf)]; exact el
        have efr : y1.2.1 (n + 14) (2 * g + 1) = nI (fl (2 * g + 1)) := by rw [e14 (hfm hf)]; exact er
        have c7 : ∀ (x4 x6 x7 : Int32) (y1 : ow_MS), fr (fun g => g = 52) z y1 → cI y1 → (x4 = 0 ∧ (∀ u, u < g + 1 → inP A (z.2.1 (n + 12)) p u → (y1.2.1 52 (fl (2 * u)) ≠ 0 ↔ y1.2.1 52 (fl (2 * u + 1)) ≠ 0)) ∨ x4 = 1 ∧ zeC y1 < zeC y) → zeC y1 ≤ zeC y → Tt (fun K i => q_X13_colourFaces K i 7 (nI v0) (nI p) x4 (nI g) x6 x7 n 0 0 y1) Q := by
          intro x4 x6 x7 y1 hf hcl h4 hz
          refine u_X13_colourFaces_7 ?_; unfold qm_X13_colourFaces_7
          rw [nI_1]
          exact ihp (g + 1) x4 y1 (by omega) hf hcl h4 hz
        -- a face gets its colour
        have put : ∀ (f : Nat) (s : Nat), f < 80 → y1.2.1 52 f = 0 → inP A (z.2.1 (n + 12)) p (s / 2) → fl s = f → cI (usI y1 52 f (co f)) ∧ zeC (usI y1 52 f (co f)) < zeC y := by
          intro f s hf80 h0 hs1 hs2
          refine ⟨⟨fun f' hf' => ?_, ?_⟩, Nat.lt_of_lt_of_le (zeC_lt hf80 h0 (co0 f)) hz⟩
          · by_cases hff : f' = f
            · rw [hff]
              exact Or.inr ⟨⟨s, hs1, hs2⟩, po_usI_at⟩
            · rw [po_usI_ne hff]
              exact hcl.1 f' hf'
          · have hff : fl (2 * v0) ≠ f := fun e => by
              rw [← e, hcl.2] at h0
              exact absurd h0 (by decide)
            exact rd_ne hff hcl.2
        have stay : inP A (z.2.1 (n + 12)) p g ∨ ¬ inP A (z.2.1 (n + 12)) p g := Classical.em _
        refine u_X13_colourFaces_3 ?_; unfold qm_X13_colourFaces_3
        rw [show (2 : Int32) * nI g = nI (2 * g) from rn_mul2, show nI (2 * g) + 1 = nI (2 * g + 1) from nI_1 _]
        refine w_rdF hI1.1.1.V (w_leF (by omega) hgl (w_rdI (pl14 hn) rfl (by omega) efl (w_rdI (pl14 hn) rfl (by omega) efr (w_rdI (pl8 hn) rfl (by omega) (lk_c hI1.1.1 hgl) (w_rdI (pl12 hn) rfl (by omega) rfl (w_if (fun hpp => ?_) (fun hpp => ?_)))))))
        · rw [e12 (hfm hf)] at hpp
          have hgP : inP A (z.2.1 (n + 12)) p g := ⟨hgl, hpp⟩
          have opp : cb (fl (2 * g)) = !cb (fl (2 * g + 1)) := hcb g hgP
          have c3a : ∀ a b : Bool, ∀ k : Bool, a = !b → (3 : Int32) - (if b = k then 1 else 2) = if a = k then 1 else 2 := by decide
          have colL : (3 : Int32) - co (fl (2 * g + 1)) = co (fl (2 * g)) := c3a _ _ _ opp
          have colR : (3 : Int32) - co (fl (2 * g)) = co (fl (2 * g + 1)) := c3a _ _ _ (by rw [opp, Bool.not_not])
          have c5 : ∀ (t0 t1 : Int32), (t1 = if y1.2.1 52 (fl (2 * g)) = 0 then 1 else 0) → (t0 = if y1.2.1 52 (fl (2 * g + 1)) = 0 then 1 else 0) → Tt (fun K i => q_X13_colourFaces K i 5 (nI v0) (nI p) x4 (nI g) (nI (fl (2 * g))) (nI (fl (2 * g + 1))) n t0 t1 y1) Q := by
            intro t0 t1 ht1 ht0
            refine u_X13_colourFaces_5 ?_; unfold qm_X13_colourFaces_5
            refine w_if (fun he => ?_) (fun hne => w_rdI ml52 rfl (by omega) rfl (w_if (fun hl0 => ?_) (fun hl0 => ?_)))
            · have ev : y1.2.1 52 (fl (2 * g)) ≠ 0 ↔ y1.2.1 52 (fl (2 * g + 1)) ≠ 0 := by
                rw [ht1, ht0] at he
                by_cases h1 : y1.2.1 52 (fl (2 * g)) = 0 <;> by_cases h2 : y1.2.1 52 (fl (2 * g + 1)) = 0
                · exact ⟨fun h => absurd h1 h, fun h => absurd h2 h⟩
                · rw [if_pos h1, if_neg h2] at he
                  exact absurd he (by decide)
                · rw [if_neg h1, if_pos h2] at he
                  exact absurd he (by decide)
                · exact ⟨fun _ => h2, fun _ => h1⟩
              refine c7 _ _ _ y1 hf hcl ?_ hz
              rcases h4 with ⟨h4, h6⟩ | h4
              · refine Or.inl ⟨h4, fun u hu huP => ?_⟩
                by_cases h8 : u = g
                · rw [h8]
                  exact ev
                · exact h6 u (by omega) huP
              · exact Or.inr h4
            · have hr0 : y1.2.1 52 (fl (2 * g + 1)) ≠ 0 := fun e => hne (by rw [ht1, ht0, if_pos hl0, if_pos e])
              have hr1 := ((hcl.1 _ (by omega)).resolve_left hr0).2
              obtain ⟨k1, k2⟩ := put (fl (2 * g)) (2 * g) (by omega) hl0 (by rw [show 2 * g / 2 = g by omega]; exact hgP) rfl
              refine w_rdI ml52 rfl (by omega) hr1 ?_
              rw [colL]
              refine w_wrI ml52 rfl (by omega) ?_
              refine u_X13_colourFaces_6 ?_; unfold qm_X13_colourFaces_6
              exact c7 1 _ _ _ (fr_I2 hf rfl) k1 (Or.inr ⟨rfl, k2⟩) (Nat.le_of_lt k2)
            · have hr0 : y1.2.1 52 (fl (2 * g + 1)) = 0 := Classical.byContradiction (fun e => hne (by rw [ht1, ht0, if_neg hl0, if_neg e]))
              have hl1 := ((hcl.1 _ (by omega)).resolve_left hl0).2
              obtain ⟨k1, k2⟩ := put (fl (2 * g + 1)) (2 * g + 1) (by omega) hr0 (by rw [show (2 * g + 1) / 2 = g by omega]; exact hgP) rfl
              refine w_rdI ml52 rfl (by omega) hl1 ?_
              rw [colR]
              refine w_wrI ml52 rfl (by omega) ?_
              refine u_X13_colourFaces_6 ?_; unfold qm_X13_colourFaces_6
              exact c7 1 _ _ _ (fr_I2 hf rfl) k1 (Or.inr ⟨rfl, k2⟩) (Nat.le_of_lt k2)
          have c4 : ∀ (t0 : Int32), (t0 = if y1.2.1 52 (fl (2 * g)) = 0 then 1 else 0) → Tt (fun K i => q_X13_colourFaces K i 4 (nI v0) (nI p) x4 (nI g) (nI (fl (2 * g))) (nI (fl (2 * g + 1))) n t0 0 y1) Q := by
            intro t0 ht0
            refine u_X13_colourFaces_4 ?_; unfold qm_X13_colourFaces_4
            exact w_rdI ml52 rfl (by omega) rfl (w_if (fun h9 => c5 _ _ ht0 (if_pos h9).symm) (fun h9 => c5 _ _ ht0 (if_neg h9).symm))
          exact w_rdI ml52 rfl (by omega) rfl (w_if (fun h9 => c4 _ (if_pos h9).symm) (fun h9 => c4 _ (if_neg h9).symm))
        · rw [e12 (hfm hf)] at hpp
          refine c7 _ _ _ y1 hf hcl ?_ hz
          rcases h4 with ⟨h4, h6⟩ | h4
          · refine Or.inl ⟨h4, fun u hu huP => ?_⟩
            by_cases h8 : u = g
            · rw [h8] at huP
              exact absurd huP.2 hpp
            · exact h6 u (by omega) huP
          · exact Or.inr h4
    rw [hx4]
    refine u_X13_colourFaces_2 ?_; unfold qm_X13_colourFaces_2
    exact w_ifF (by decide) (pass A.flatten.length 0 0 y (by omega) hf hcl (Or.inl ⟨rfl, fun u hu => absurd hu (by omega)⟩) (Nat.le_refl _))
  have c1 : ∀ (d i : Nat) (y : ow_MS), i + d = 80 → fr (fun g => g = 52) z y → (∀ f, f < i → y.2.1 52 f = 0) → Tt (fun K t => q_X13_colourFaces K t 1 (nI v0) (nI p) (nI i) 0 0 0 n 0 0 y) Q := by
    intro d
    induction d with
    | zero =>
      intro i y hi hf h0
      have e14' : y.2.1 (n + 14) = z.2.1 (n + 14) := (hf (n + 14) (by omega)).2.1
      obtain ⟨ef0, hf0⟩ := hfl (2 * v0) (by omega)
      refine u_X13_colourFaces_1 ?_; unfold qm_X13_colourFaces_1
      rw [show (2 : Int32) * nI v0 = nI (2 * v0) from rn_mul2]
      refine w_leT (a := 80) (by omega) (by omega) (w_rdI (pl14 hn) rfl (by omega) (by rw [e14']; exact ef0) (w_wrI ml52 rfl (by omega) (c2 _ 1 _ (Nat.le_refl _) (fr_I2 hf rfl) ⟨fun f hf80 => ?_, po_usI_at⟩ rfl)))
      by_cases hff : f = fl (2 * v0)
      · rw [hff]
        refine Or.inr ⟨⟨2 * v0, by rw [show 2 * v0 / 2 = v0 by omega]; exact hv0, rfl⟩, ?_⟩
        rw [po_usI_at, coD, if_pos rfl]
      · exact Or.inl (rd_ne hff (h0 f (by omega)))
    | succ d ih =>
      intro i y hi hf h0
      refine u_X13_colourFaces_1 ?_; unfold qm_X13_colourFaces_1
      rw [nI_1]
      refine w_leF (a := 80) (by omega) (by omega) (w_wrI ml52 rfl (by omega) (ih (i + 1) _ (by omega) (fr_I2 hf rfl) (fun f h9 => ?_)))
      by_cases hfi : f = i
      · rw [hfi, po_usI_at]
      · exact rd_ne hfi (h0 f (by omega))
  have hcc0 := (rn_c_in A v0 hv0l).1
  refine e_X13_colourFaces ?_
  refine u_X13_colourFaces_0 ?_; unfold qm_X13_colourFaces_0
  exact w_rdI (pl8 hn) rfl (by omega) (lk_c hI.1.1 hv0.1) (w_rdI (pl12 hn) rfl (by omega) hv0.2 (c1 80 0 z (by omega) fr_rf (fun f hf => absurd hf (by omega))))
end XSGY
end
section
/-! 99zzzzzzzzzzzzzzzzyzzzi.xsgz -/
/-! signature: sums in another order -/
section XSGZ
theorem zS_add {f g : Nat → Int} : ∀ {n : Nat}, zS9 (fun i => f i + g i) n = zS9 f n + zS9 g n := by
  intro n
  induction n with
  | zero => rfl
  | succ n ih =>
    show zS9 (fun i => f i + g i) n + (f n + g n) = zS9 f n + f n + (zS9 g n + g n)
    rw [ih]
    omega
theorem zS_sw {f : Nat → Nat → Int} {m : Nat} : ∀ {k : Nat}, zS9 (fun i => zS9 (fun j => f i j) m) k = zS9 (fun j => zS9 (fun i => f i j) k) m := by
  intro k
  induction k with
  | zero => exact (zS_0 m).symm
  | succ k ih =>
    show zS9 (fun i => zS9 (fun j => f i j) m) k + zS9 (fun j => f k j) m = zS9 (fun j => zS9 (fun i => f i j) k + f k j) m
    rw [ih, zS_add]
/-- just one place counts -/
theorem zS_one {P : Nat → Bool} {g : Nat → Int} {a : Nat} : ∀ {n : Nat}, a < n → P a = true → (∀ b, b < n → P b = true → b = a) → zS9 (fun i => if P i = true then g i else 0) n = g a := by
  intro n
  induction n with
  | zero => exact fun h => absurd h (Nat.not_lt_zero _)
  | succ n ih =>
    intro ha hP hu
    show zS9 (fun i => if P i = true then g i else 0) n + (if P n = true then g n else 0) = g a
    by_cases h9 : a = n
    · subst h9
      rw [if_pos hP, zS_cg (g := fun _ => 0) (fun i hi => if_neg (fun h => by have := hu i (by omega) h; omega)), zS_0]
      omega
    · rw [ih (by omega) hP (fun b hb hb2 => hu b (by omega) hb2), if_neg (fun h => h9 (hu n (by omega) h).symm)]
      omega
theorem zS_none {P : Nat → Bool} {g : Nat → Int} {n : Nat} (h : ∀ b, b < n → P b = false) : zS9 (fun i => if P i = true then g i else 0) n = 0 := by
  rw [zS_cg (g := fun _ => 0) (fun i hi => if_neg (by rw [h i hi]; decide)), zS_0]
/-- sums over the visits over of a part are sums over its crossings -/
theorem reord {A : rn_L} {sg : Nat → Bool} {T : ow_NT} (hi : isoN A sg idN T) {q qA : Nat → Bool} (hqA : ∀ v, v < A.flatten.length → qA v = q (lbv A idN v)) (H : Nat → Int) : zS9 (fun o => if uns A o = 0 ∧ qA o = true then H (crs A o) else 0) A.flatten.length = zS9 (fun x => if q (2 * x) = true then H x else 0) T.1 := by
  have e1 : ∀ o, o < A.flatten.length → (if uns A o = 0 ∧ qA o = true then H (crs A o) else 0) = zS9 (fun x => if decide (lbv A idN o = 2 * x) = true then (if q (2 * x) = true then H x else 0) else 0) T.1 := fun o ho => by
    obtain ⟨a1, a2⟩ := lbv_hf hi ho
    have hu := uns_lt hi.1 ho
    have hl := lbv_lt hi ho
    have hid : idN (crs A o) = crs A o := rfl
    rw [hid] at a1
    by_cases h9 : uns A o = 0
    · have e : lbv A idN o = 2 * crs A o := by omega
      rw [zS_one (P := fun x => decide (lbv A idN o = 2 * x)) (a := crs A o) (by omega) (decide_eq_true e) (fun b _ hb => by
        have := of_decide_eq_true hb
        omega)]
      rw [hqA o ho, e]
      by_cases h8 : q (2 * crs A o) = true
      · rw [if_pos ⟨h9, h8⟩, if_pos h8]
      · rw [if_neg (fun h => h8 h.2), if_neg h8]
    · rw [if_neg (fun h => h9 h.1), zS_none (P := fun x => decide (lbv A idN o = 2 * x)) (fun b _ => decide_eq_false (fun h => by omega))]
  rw [zS_cg e1, zS_sw]
  refine zS_cg (fun x hx => ?_)
  obtain ⟨o, o1, o2⟩ := lbv_sur hi (k := 2 * x) (by omega)
  exact zS_one (P := fun o => decide (lbv A idN o = 2 * x)) (g := fun _ => if q (2 * x) = true then H x else 0) (a := o) o1 (decide_eq_true o2) (fun b hb hb2 => lbv_inj hi hb o1 ((of_decide_eq_true hb2).trans o2.symm))
theorem cr_sum {G : Nat → Int32} {w q : Nat → Bool} {κ : Bool} : ∀ c, crG9 G w q κ c = zS9 (fun x => if q (2 * x) = true then (if w (fV9 G x) = κ then 0 else sgI9 G x) else 0) c := by
  intro c
  induction c with
  | zero => rfl
  | succ c ih =>
    show crG9 G w q κ c + _ = zS9 _ c + _
    rw [ih]
/-- the matrix of the reference holds B -/
def mtB9 (y : ow_MS) (B : Nat → Nat → Int) : Prop := ∀ i j, i < 16 → j < 16 → y.2.2 54 (16 * i + j) = Int64.ofInt (B i j)
theorem mtB_w {y : ow_MS} {a b : Nat} {B : Nat → Nat → Int} {s : Int} (h : mtB9 y B) (ha : a < 16) (hb : b < 16) : mtB9 (usJ y 54 (16 * a + b) (Int64.ofInt (B a b + s))) (fun i j => B i j + s * (zd9 a i * zd9 b j)) := by
  intro i j hi hj
  by_cases h9 : i = a ∧ j = b
  · obtain ⟨h8, h7⟩ := h9
    subst h8
    subst h7
    rw [usJ_at]
    dsimp only
    rw [show zd9 i i = 1 from if_pos rfl, show zd9 j j = 1 from if_pos rfl, Int.mul_one, Int.mul_one]
  · rw [usJ_ne (by omega), h i j hi hj]
    refine congrArg Int64.ofInt ?_
    have : zd9 a i * zd9 b j = 0 := by
      by_cases h8 : i = a
      · rw [show zd9 b j = 0 from if_neg (fun h7 => h9 ⟨h8, h7⟩), Int.mul_zero]
      · rw [show zd9 a i = 0 from if_neg h8, Int.zero_mul]
    dsimp only
    rw [this, Int.mul_zero, Int.add_zero]
theorem zd_sy (a b : Nat) : zd9 a b = zd9 b a := by
  unfold zd9
  by_cases h9 : b = a
  · rw [if_pos h9, if_pos h9.symm]
  · rw [if_neg h9, if_neg (fun h8 => h9 h8.symm)]
/-- four writes -/
theorem mtB_4 {y : ow_MS} {u v : Nat} {B : Nat → Nat → Int} {t : Int} (h : mtB9 y B) (hu : u < 16) (hv : v < 16) : ∃ a1 a2 a3 a4 : Int, y.2.2 54 (16 * u + u) = Int64.ofInt a1 ∧ (usJ y 54 (16 * u + u) (Int64.ofInt (a1 + t))).2.2 54 (16 * v + v) = Int64.ofInt a2 ∧ (usJ (usJ y 54 (16 * u + u) (Int64.ofInt (a1 + t))) 54 (16 * v + v) (Int64.ofInt (a2 + t))).2.2 54 (16 * u + v) = Int64.ofInt a3 ∧ (usJ (usJ (usJ y 54 (16 * u + u) (Int64.ofInt (a1 + t))) 54 (16 * v + v) (Int64.ofInt (a2 + t))) 54 (16 * u + v) (Int64.ofInt (a3 + -t))).2.2 54 (16 * v + u) = Int64.ofInt a4 ∧ mtB9 (usJ (usJ (usJ (usJ y 54 (16 * u + u) (Int64.ofInt (a1 + t))) 54 (16 * v + v) (Int64.ofInt (a2 + t))) 54 (16 * u + v) (Int64.ofInt (a3 + -t))) 54 (16 * v + u) (Int64.ofInt (a4 + -t))) (fun i j => B i j + t * (zd9 i u - zd9 i v) * (zd9 j u - zd9 j v)) := by
  have k1 := mtB_w (s := t) h hu hu
  have k2 := mtB_w (s := t) k1 hv hv
  have k3 := mtB_w (s := -t) k2 hu hv
  have k4 := mtB_w (s := -t) k3 hv hu
  refine ⟨_, _, _, _, h u u hu hu, k1 v v hv hv, k2 u v hu hv, k3 v u hv hu, fun i j hi hj => (k4 i j hi hj).trans (congrArg Int64.ofInt ?_)⟩
  dsimp only
  rw [zd_sy u i, zd_sy u j, zd_sy v i, zd_sy v j]
  grind
end XSGZ
end
section
/-! 99zzzzzzzzzzzzzzzzyzzzj.xsha -/
/-! signature, the reference: a part, exactly -/
section XSHA
variable {z : ow_MS} {T : ow_NT} {nn Pc : Nat} {M : Nat → Int32} {φ ψ : Nat → Nat} {w cf : Nat → Bool}
theorem xr_sigOf {n F P p v0 c pc : Nat} {A : rn_L} {sg : Nat → Bool} {fl : Nat → Nat} (hn : mw_net n) (hok : okF A.flatten c) (hc : c ≤ 12) (hI : fcI z n A sg F P) (hp : p < P) (hv0 : inP A (z.2.1 (n + 12)) p v0) (hfl : ∀ s, s < 2 * A.flatten.length → z.2.1 (n + 14) s = nI (fl s) ∧ fl s < F) (h : fcD9 T.1 T.2.2.1 T.2.2.2 w nn Pc M φ ψ cf) (hV : isoV A sg idN T) (hp1 : pm1 T) (hpc : pc < Pc) (hqA : ∀ v, v < A.flatten.length → (inP A (z.2.1 (n + 12)) p v ↔ qP9 M pc (lbv A idN v) = true)) (hfc : ∀ s, s < 2 * A.flatten.length → fl (phi A sg s) = fl s) (hfi : ∀ s t, s < 2 * A.flatten.length → t < 2 * A.flatten.length → fl s = fl t → φ (psS A s) = φ (psS A t)) : Te (fun K => qe_X13_signatureOf K n (nI v0) z) (fun r => r.1 = iI (vlG9 T.1 T.2.2.1 T.2.2.2 w nn M φ ψ cf pc) ∧ fr sgH z r.2) := by
  have hVl := okF_len hok
  have hmn := net_mod hn
  have hd := wkF_ok hI.1.wk
  have hC := hI.1.2.2.2
  have hi := isoS_iff.mp hV.1
  have hv := h.1
  have hw := h.2.1
  have hcT : T.1 ≤ 12 := h.2.2.2.2.2.2.2.2.2.2.2.2.1
  have ec : A.flatten.length = 2 * T.1 := hi.2.1
  have hv0l := hv0.1
  have F80 : F ≤ 80 := by
    have := hI.2.1.2.1
    omega
  -- colours of the reference's faces
  have kcb : ∀ s t, s < 2 * A.flatten.length → t < 2 * A.flatten.length → fl s = fl t → kS w (psS A s) = kS w (psS A t) := fun s t hs ht e => by
    rw [h.2.2.2.2.1 _ (ps_lt hV hs), h.2.2.2.2.1 _ (ps_lt hV ht), hfi s t hs ht e]
  obtain ⟨cb, hcb⟩ : ∃ cb : Nat → Bool, ∀ s, s < 2 * A.flatten.length → kS w (psS A s) = cb (fl s) := by
    have hex : ∀ f, ∃ b : Bool, ∀ s, s < 2 * A.flatten.length → fl s = f → kS w (psS A s) = b := fun f => by
      by_cases hs : ∃ s, s < 2 * A.flatten.length ∧ fl s = f
      · obtain ⟨s, s1, s2⟩ := hs
        exact ⟨kS w (psS A s), fun t t1 t2 => kcb t s t1 s1 (by rw [t2, s2])⟩
      · exact ⟨true, fun s s1 s2 => absurd ⟨s, s1, s2⟩ hs⟩
    exact ⟨fun f => Classical.choose (hex f), fun s hs => Classical.choose_spec (hex (fl s)) s hs rfl⟩
  have kL : ∀ v, v < A.flatten.length → cb (fl (2 * v)) = w (lbv A idN v) ∧ cb (fl (2 * v + 1)) = !w (lbv A idN v) := fun v hv1 => by
    have k1 := hcb (2 * v) (by omega)
    have k2 := hcb (2 * v + 1) (by omega)
    have p1 : psS A (2 * v) = 2 * lbv A idN v := by
      unfold psS
      rw [show 2 * v / 2 = v by omega]
      omega
    have p2 : psS A (2 * v + 1) = 2 * lbv A idN v + 1 := by
      unfold psS
      rw [show (2 * v + 1) / 2 = v by omega]
      omega
    rw [p1] at k1
    rw [p2] at k2
    unfold kS at k1 k2
    rw [if_pos (by omega), show 2 * lbv A idN v / 2 = lbv A idN v by omega] at k1
    rw [if_neg (by omega), show (2 * lbv A idN v + 1) / 2 = lbv A idN v by omega] at k2
    exact ⟨k1.symm, k2.symm⟩
  generalize hκ : w (lbv A idN v0) = κ
  have cb0 : cb (fl (2 * v0)) = κ := by rw [(kL v0 hv0l).1]; exact hκ
  -- the white ones
  obtain ⟨wh, hwh⟩ : ∃ wh : Nat → Bool, ∀ f, wh f = true ↔ ∃ s, inP A (z.2.1 (n + 12)) p (s / 2) ∧ fl s = f ∧ cb f = cb (fl (2 * v0)) := by
    have hex : ∀ f, ∃ b : Bool, b = true ↔ ∃ s, inP A (z.2.1 (n + 12)) p (s / 2) ∧ fl s = f ∧ cb f = cb (fl (2 * v0)) := fun f => by
      by_cases hs : ∃ s, inP A (z.2.1 (n + 12)) p (s / 2) ∧ fl s = f ∧ cb f = cb (fl (2 * v0))
      · exact ⟨true, ⟨fun _ => hs, fun _ => rfl⟩⟩
      · exact ⟨false, ⟨fun h9 => absurd h9 (by decide), fun h9 => absurd h9 hs⟩⟩
    exact ⟨fun f => Classical.choose (hex f), fun f => Classical.choose_spec (hex f)⟩
  obtain ⟨R, hR, ek, hRs⟩ := ref_nb (F := F) (κ := κ) (fl := fl) (wh := wh) (qA := fun v => qP9 M pc (lbv A idN v)) h hV hp1 hpc (fun _ _ => rfl) (fun s hs => (hfl s hs).2) hfc hfi (fun s hs hsq => by
    have hP := (hqA (s / 2) (by omega)).mpr hsq
    rw [hwh, hcb s hs, cb0]
    exact ⟨fun ⟨t, t1, t2, t3⟩ => t3, fun h9 => ⟨s, hP, rfl, h9⟩⟩) (fun f hf hq => by
    obtain ⟨s, s1, s2, s3⟩ := (hwh f).mp hq
    have hsl := s1.1
    refine ⟨s, by omega, (hqA _ hsl).mp s1, ?_, s2⟩
    rw [hcb s (by omega), s2, s3]
    exact cb0)
  have eu := eul_p h hpc κ
  have kp := kF_pos h hpc (!κ)
  have kp1 := kF_pos h hpc κ
  have cl := nF_le (fun x => qP9 M pc (2 * x)) T.1
  have k13 : nF wh F ≤ 13 := by omega
  have val := vl_all h hpc hR
  rw [← ek] at val hR
  generalize hk : nF wh F = k at val hR ek k13
  have k1 : 1 ≤ k := by omega
  obtain ⟨E, hE⟩ := isZ_E (M := mtZ9 T.1 T.2.2.1 T.2.2.2 w (qP9 M pc) κ R) (k - 1)
  have hb := mt_bd hcT hE
  -- whatever stands at both sides or none
  have hall : ∀ K : Nat → Prop, (∀ v, inP A (z.2.1 (n + 12)) p v → (K (fl (2 * v)) ↔ K (fl (2 * v + 1)))) → K (fl (2 * v0)) → ∀ v, inP A (z.2.1 (n + 12)) p v → K (fl (2 * v)) ∧ K (fl (2 * v + 1)) := by
    intro K hK hK0 v hvP
    obtain ⟨isd, hisd⟩ : ∃ isd : Nat → Nat, ∀ a, a < 4 * T.1 → isd a < 2 * A.flatten.length ∧ psS A (isd a) = a := by
      refine Classical.axiomOfChoice (r := fun a s => a < 4 * T.1 → s < 2 * A.flatten.length ∧ psS A s = a) (fun a => ?_)
      by_cases ha : a < 4 * T.1
      · obtain ⟨s, s1, s2⟩ := ps_sur hV ha
        exact ⟨s, fun _ => ⟨s1, s2⟩⟩
      · exact ⟨0, fun h9 => absurd h9 ha⟩
    have back : ∀ s, s < 2 * A.flatten.length → isd (psS A s) = s := fun s hs => by
      obtain ⟨a1, a2⟩ := hisd _ (ps_lt hV hs)
      exact ps_inj hV a1 hs a2
    have on9 : ∀ a, a < 4 * T.1 → (fun a => fl (isd a)) (fc_on T.2.2.1 T.2.2.2 a) = (fun a => fl (isd a)) a := fun a ha => by
      obtain ⟨a1, a2⟩ := hisd a ha
      have e := ps_on hV hp1 a1
      rw [a2] at e
      have hl := phi_lt (sg := sg) hd a1
      show fl (isd (fc_on T.2.2.1 T.2.2.2 a)) = fl (isd a)
      rw [e, back _ hl, hfc _ a1]
    have two : ∀ u, u < A.flatten.length → isd (2 * lbv A idN u) = 2 * u ∧ isd (2 * lbv A idN u + 1) = 2 * u + 1 := fun u hu => by
      have p1 : psS A (2 * u) = 2 * lbv A idN u := by
        unfold psS
        rw [show 2 * u / 2 = u by omega]
        omega
      have p2 : psS A (2 * u + 1) = 2 * lbv A idN u + 1 := by
        unfold psS
        rw [show (2 * u + 1) / 2 = u by omega]
        omega
      have b1 := back (2 * u) (by omega)
      have b2 := back (2 * u + 1) (by omega)
      rw [p1] at b1
      rw [p2] at b2
      exact ⟨b1, b2⟩
    have res := paint_all (G := T.2.2.2) (φ := fun a => fl (isd a)) (K := K) hv (ptQ_of h pc) on9 (fun u hu huq => by
      obtain ⟨o, o1, o2⟩ := lbv_sur hi hu
      have t := two o o1
      have o2 : lbv A idN o = u := o2
      rw [o2] at t
      rw [t.1, t.2]
      exact hK o ((hqA o o1).mpr (by rw [o2]; exact huq))) (v0 := lbv A idN v0) (lbv_lt hi hv0l) ((hqA v0 hv0l).mp hv0) (by
      rw [(two v0 hv0l).1]
      exact hK0) (lbv A idN v) (lbv_lt hi hvP.1) ((hqA v hvP.1).mp hvP)
    rw [(two v hvP.1).1, (two v hvP.1).2] at res
    exact res
  let Q : Int32 × ow_MS → Prop := fun r => r.1 = iI (vlG9 T.1 T.2.2.1 T.2.2.2 w nn M φ ψ cf pc) ∧ fr sgH z r.2
  have iF : ∀ {y : ow_MS}, fr sgH z y → fcI y n A sg F P := fun hf => fcI_fr hn hf (fun g hg => by unfold sgH at hg; omega) hI
  have hcc0 := (rn_c_in A v0 hv0l).1
  refine e_X13_signatureOf ?_
  refine u_X13_signatureOf_0 ?_; unfold qm_X13_signatureOf_0
  refine w_rdI (pl8 hn) rfl (by omega) (lk_c hI.1.1 hv0.1) (w_rdI (pl12 hn) rfl (by omega) hv0.2 (w_cs1 (xr_colour (cb := cb) (wh := wh) hn hok hc hI hp hv0 hfl (fun v hvP => by rw [(kL v hvP.1).1, (kL v hvP.1).2, Bool.not_not]) hall (fun f _ => hwh f) (by omega)) (fun a1 z1 ⟨ek1, f1, w1, w2⟩ => ?_)))
  have ek1 : a1 = nI k := by rw [← hk]; exact ek1
  have f1 : fr (fun g => g = 52 ∨ g = 53) z z1 := f1
  have w1 : ∀ s, inP A (z.2.1 (n + 12)) p (s / 2) → z1.2.1 52 (fl s) = if cb (fl s) = cb (fl (2 * v0)) then 1 else 2 := w1
  have w2 : ∀ f, f < F → wh f = true → z1.2.1 53 f = nI (nF wh f) := w2
  rw [ek1]
  have hf1 : fr sgH z z1 := fr_mono (fun g hg => by unfold sgH; omega) f1
  -- the rows of white sides
  have row : ∀ s, s < 2 * A.flatten.length → inP A (z.2.1 (n + 12)) p (s / 2) → cb (fl s) = κ → z1.2.1 53 (fl s) = nI (R (lbv A idN (s / 2))) ∧ R (lbv A idN (s / 2)) < k := fun s hs hsP hsc => by
    have hq : wh (fl s) = true := (hwh _).mpr ⟨s, hsP, rfl, by rw [hsc, cb0]⟩
    have e1 := hRs s hs ((hqA _ hsP.1).mp hsP) (by rw [hcb s hs]; exact hsc)
    rw [e1]
    refine ⟨w2 _ (hfl s hs).2 hq, ?_⟩
    rw [← hk]
    exact nF_lt (hfl s hs).2 hq
  have c2 : ∀ (d o : Nat) (x5 : Int32) (y : ow_MS), o + d = A.flatten.length → fr (fun g => g = 54) z1 y → x5 = iI (zS9 (fun o => if uns A o = 0 ∧ qP9 M pc (lbv A idN o) = true then (fun x => if w (fV9 T.2.2.2 x) = κ then 0 else sgI9 T.2.2.2 x) (crs A o) else 0) o) → mtB9 y (fun i j => zS9 (fun o => if uns A o = 0 ∧ qP9 M pc (lbv A idN o) = true then (fun x => tI9 T.2.2.2 w κ x * rwZ9 T.2.2.1 T.2.2.2 R x i * rwZ9 T.2.2.1 T.2.2.2 R x j) (crs A o) else 0) o) → Tt (fun K i => q_X13_signatureOf K i 2 (nI v0) (nI p) (nI k) x5 (nI o) 0 0 0 0 0 0 0 0 0 0 0 n 0 0 y) Q := by
    intro d
    induction d with
    | zero =>
      intro o x5 y ho hy h5 hB
      have ho : o = A.flatten.length := by omega
      have zy : fr sgH z y := fr_tr hf1 (fr_mono (fun g hg => by unfold sgH; omega) hy)
      have r5 := reord hi (q := qP9 M pc) (qA := fun o => qP9 M pc (lbv A idN o)) (fun _ _ => rfl) (fun x => if w (fV9 T.2.2.2 x) = κ then 0 else sgI9 T.2.2.2 x)
      dsimp only at h5
      rw [ho, r5, ← cr_sum] at h5
      have hF : ∀ i j, i < k - 1 → j < k - 1 → y.2.2 54 (16 * i + j) = Int64.ofInt (mtZ9 T.1 T.2.2.1 T.2.2.2 w (qP9 M pc) κ R i j) := fun i j hi9 hj9 => by
        have a := hB i j (by omega) (by omega)
        dsimp only at a
        have b := reord hi (q := qP9 M pc) (qA := fun o => qP9 M pc (lbv A idN o)) (fun _ _ => rfl) (fun x => tI9 T.2.2.2 w κ x * rwZ9 T.2.2.1 T.2.2.2 R x i * rwZ9 T.2.2.1 T.2.2.2 R x j)
        rw [ho, b] at a
        exact a
      refine u_X13_signatureOf_2 ?_; unfold qm_X13_signatureOf_2
      rw [show nI k - 1 = nI (k - 1) from pk_sub (b := 1) k1]
      refine w_rdF (iF zy).1.1.V (w_leT (by omega) (by omega) (w_cs1 (xr_roots (by omega) hF hE (fun k9 hk9 => hb k9 (by omega))) (fun a y1 ⟨r1, f2⟩ => w_some ⟨?_, fr_tr zy (fr_mono (fun g hg => by unfold rtH at hg; unfold sgH; omega) f2)⟩)))
      have r1 : a = _ := r1
      show a - x5 = _
      rw [r1, h5, iI_sub, mtZ_cs, ← val]
      rfl
    | succ d ih =>
      intro o x5 y ho hy h5 hB
      have hol : o < A.flatten.length := by omega
      have zy : fr sgH z y := fr_tr hf1 (fr_mono (fun g hg => by unfold sgH; omega) hy)
      have hIy := iF zy
      have hO := hIy.1
      obtain ⟨x1, x2, x3⟩ := hO.cx hol
      have hcc := (rn_c_in A o hol).1
      have hml := mtf_lt hd hol
      have y14 : y.2.1 (n + 14) = z.2.1 (n + 14) := (zy (n + 14) (by unfold sgH; omega)).2.1
      have y12 : y.2.1 (n + 12) = z.2.1 (n + 12) := (zy (n + 12) (by unfold sgH; omega)).2.1
      have c10 : ∀ (x5 : Int32) (y : ow_MS), fr (fun g => g = 54) z1 y → x5 = iI (zS9 (fun o => if uns A o = 0 ∧ qP9 M pc (lbv A idN o) = true then (fun x => if w (fV9 T.2.2.2 x) = κ then 0 else sgI9 T.2.2.2 x) (crs A o) else 0) (o + 1)) → mtB9 y (fun i j => zS9 (fun o => if uns A o = 0 ∧ qP9 M pc (lbv A idN o) = true then (fun x => tI9 T.2.2.2 w κ x * rwZ9 T.2.2.1 T.2.2.2 R x i * rwZ9 T.2.2.1 T.2.2.2 R x j) (crs A o) else 0) (o + 1)) → Tt (fun K i => q_X13_signatureOf K i 10 (nI v0) (nI p) (nI k) x5 (nI o) 0 0 0 0 0 0 0 0 0 0 0 n 0 0 y) Q := by
        intro x5 y hy h5 hB
        refine u_X13_signatureOf_10 ?_; unfold qm_X13_signatureOf_10
        rw [nI_1]
        exact ih (o + 1) x5 y (by omega) hy h5 hB
      -- nothing is added
      have skip : ¬ (uns A o = 0 ∧ qP9 M pc (lbv A idN o) = true) → Tt (fun K i => q_X13_signatureOf K i 10 (nI v0) (nI p) (nI k) x5 (nI o) 0 0 0 0 0 0 0 0 0 0 0 n 0 0 y) Q := by
        intro hno
        refine c10 x5 y hy ?_ (fun i j hi9 hj9 => ?_)
        · rw [h5]
          show _ = iI (zS9 _ o + (if uns A o = 0 ∧ qP9 M pc (lbv A idN o) = true then _ else 0))
          rw [if_neg hno, Int.add_zero]
        · refine (hB i j hi9 hj9).trans (congrArg Int64.ofInt ?_)
          show _ = zS9 _ o + (if uns A o = 0 ∧ qP9 M pc (lbv A idN o) = true then _ else 0)
          rw [if_neg hno, Int.add_zero]
      have face : ∀ s, s < 2 * A.flatten.length → y.2.1 (n + 14) s = nI (fl s) ∧ fl s < 80 := fun s hs => by
        rw [y14]
        exact ⟨(hfl s hs).1, by have := (hfl s hs).2; omega⟩
      have lbo := lb_un hV hol
      -- a crossing of the part
      have c3 : uns A o = 0 → inP A (z.2.1 (n + 12)) p o → Tt (fun K i => q_X13_signatureOf K i 3 (nI v0) (nI p) (nI k) x5 (nI o) 0 0 0 0 0 0 0 0 0 0 0 n (if 0 < T.2.2.2 (crs A o) then 1 else 0) 0 y) Q := by
        intro hu0 hoP
        have hoq := (hqA o hol).mp hoP
        have hx : crs A o < T.1 := lbo.2.2.1
        have lo : lbv A idN o = 2 * crs A o := by omega
        have lm : lbv A idN (mtf A o) = 2 * crs A o + 1 := by
          rw [lbo.2.2.2.2, lo]
          exact (mt_2 _).1
        have hxq : qP9 M pc (2 * crs A o) = true := by rw [← lo]; exact hoq
        generalize hxx : crs A o = x at hx lo lm hxq
        have ht := fV_lt (G := T.2.2.2) hx
        have hmt := mt_lt ht
        -- the visit that goes ahead
        have c4 : ∀ u, u < A.flatten.length → lbv A idN u = fV9 T.2.2.2 x → Tt (fun K i => q_X13_signatureOf K i 4 (nI v0) (nI p) (nI k) x5 (nI o) (if 0 < T.2.2.2 x then 1 else 0) 0 0 0 0 0 0 0 0 0 0 n (nI u) 0 y) Q := by
          intro u hu hlu
          have hmu := mtf_lt hd hu
          have hpu := rn_pv_lt hu
          have hpm := rn_pv_lt hmu
          have lmu : lbv A idN (mtf A u) = mt (fV9 T.2.2.2 x) := by rw [(lb_un hV hu).2.2.2.2, hlu]
          have lpv : ∀ v, v < A.flatten.length → lbv A idN (rn_pv A v) = T.2.2.1.2 (lbv A idN v) := fun v hv1 => by
            have a := (lb_un hV (rn_pv_lt hv1)).2.2.2.1
            rw [nx_pv hv1] at a
            have b := (hv _ (lbv_lt hi (rn_pv_lt hv1))).2.2.1
            have b2 : T.2.2.1.2 (T.2.2.1.1 (lbv A idN (rn_pv A v))) = lbv A idN (rn_pv A v) := b
            rw [a] at b2
            exact b2.symm
          have lpu : lbv A idN (rn_pv A u) = T.2.2.1.2 (fV9 T.2.2.2 x) := by rw [lpv u hu, hlu]
          have lpm : lbv A idN (rn_pv A (mtf A u)) = T.2.2.1.2 (mt (fV9 T.2.2.2 x)) := by rw [lpv _ hmu, lmu]
          obtain ⟨q1, q2⟩ := fV_q (G := T.2.2.2) (ptQ_of h pc) hx
          have qb : ∀ v, v < 2 * T.1 → qP9 M pc (T.2.2.1.2 v) = qP9 M pc v := fun v hv1 => by
            have := ((ptQ_of h pc).1 _ (hv v hv1).2.1).1
            rw [(hv v hv1).2.2.2] at this
            exact this.symm
          have uP : inP A (z.2.1 (n + 12)) p u := (hqA u hu).mpr (by rw [hlu, q1]; exact hxq)
          have puP : inP A (z.2.1 (n + 12)) p (rn_pv A u) := (hqA _ hpu).mpr (by rw [lpu, qb _ ht, q1]; exact hxq)
          have pmP : inP A (z.2.1 (n + 12)) p (rn_pv A (mtf A u)) := (hqA _ hpm).mpr (by rw [lpm, qb _ hmt, q2]; exact hxq)
          have wf := (kL u hu)
          rw [hlu] at wf
          have wpu := (kL _ hpu).1
          rw [lpu] at wpu
          have wpm := (kL _ hpm).1
          rw [lpm] at wpm
          have wb : ∀ v, v < 2 * T.1 → w (T.2.2.1.2 v) = !w v := fun v hv1 => by
            have := (hw _ (hv v hv1).2.1).1
            rw [(hv v hv1).2.2.2] at this
            rw [this, Bool.not_not]
          have w9 := (hw _ ht).2
          obtain ⟨ea, ha⟩ := face (2 * u) (by omega)
          obtain ⟨ee, he⟩ := face (2 * u + 1) (by omega)
          obtain ⟨ew, hw0⟩ := face (2 * rn_pv A u) (by omega)
          obtain ⟨eb, hb0⟩ := face (2 * rn_pv A (mtf A u)) (by omega)
          have h2u : 2 * u / 2 = u := by omega
          have h2u1 : (2 * u + 1) / 2 = u := by omega
          have h2p : 2 * rn_pv A u / 2 = rn_pv A u := by omega
          have h2m : 2 * rn_pv A (mtf A u) / 2 = rn_pv A (mtf A u) := by omega
          have y52 : y.2.1 52 = z1.2.1 52 := (hy 52 (by omega)).2.1
          have y53 : y.2.1 53 = z1.2.1 53 := (hy 53 (by omega)).2.1
          have rA : w (fV9 T.2.2.2 x) = κ → y.2.1 53 (fl (2 * u)) = nI (R (fV9 T.2.2.2 x)) ∧ R (fV9 T.2.2.2 x) < k := fun hwf => by
            have a := row (2 * u) (by omega) (by rw [h2u]; exact uP) (by rw [wf.1]; exact hwf)
            rw [h2u, hlu] at a
            rw [y53]
            exact a
          have rB : w (fV9 T.2.2.2 x) = κ → y.2.1 53 (fl (2 * rn_pv A (mtf A u))) = nI (R (T.2.2.1.2 (fV9 T.2.2.2 x))) ∧ R (T.2.2.1.2 (fV9 T.2.2.2 x)) < k := fun hwf => by
            have a := row (2 * rn_pv A (mtf A u)) (by omega) (by rw [h2m]; exact pmP) (by rw [wpm, wb _ hmt, w9, Bool.not_not]; exact hwf)
            rw [h2m, lpm, ((hR.2.2 x hx hxq).1 hwf).2] at a
            rw [y53]
            exact a
          have rE : w (fV9 T.2.2.2 x) = !κ → y.2.1 53 (fl (2 * u + 1)) = nI (R (fV9 T.2.2.2 x)) ∧ R (fV9 T.2.2.2 x) < k := fun hwf => by
            have a := row (2 * u + 1) (by omega) (by rw [h2u1]; exact uP) (by rw [wf.2, hwf, Bool.not_not])
            rw [h2u1, hlu] at a
            rw [y53]
            exact a
          have rW : w (fV9 T.2.2.2 x) = !κ → y.2.1 53 (fl (2 * rn_pv A u)) = nI (R (T.2.2.1.2 (fV9 T.2.2.2 x))) ∧ R (T.2.2.1.2 (fV9 T.2.2.2 x)) < k := fun hwf => by
            have a := row (2 * rn_pv A u) (by omega) (by rw [h2p]; exact puP) (by rw [wpu, wb _ ht, hwf, Bool.not_not])
            rw [h2p, lpu] at a
            rw [y53]
            exact a
          -- the four writes
          have c8 : ∀ (x14 x15 : Int32) (t : Int) (f9 : Nat), f9 < 80 → R (fV9 T.2.2.2 x) < k → R (T.2.2.1.2 (fV9 T.2.2.2 x)) < k → y.2.1 53 f9 = nI (R (T.2.2.1.2 (fV9 T.2.2.2 x))) → t = tI9 T.2.2.2 w κ x → x15 = iI t → x14 = (if w (fV9 T.2.2.2 x) = κ then 1 else 0) → ∀ (x9 x10 x11 x12 x13 : Int32), Tt (fun K i => q_X13_signatureOf K i 8 (nI v0) (nI p) (nI k) x5 (nI o) (if 0 < T.2.2.2 x then 1 else 0) (nI u) x9 x10 x11 x12 x13 x14 x15 (nI (R (fV9 T.2.2.2 x))) 0 n (nI f9) 0 y) Q := by
            intro x14 x15 t f9 hf9 lA lB e9 etI e15 e14 x9 x10 x11 x12 x13
            have tl : x15.toInt64 = Int64.ofInt t := by
              rw [e15]
              rcases tI_pm (G := T.2.2.2) (w := w) (κ := κ) x with h9 | h9 <;> rw [etI, h9] <;> rfl
            obtain ⟨a1, a2, a3, a4, b1, b2, b3, b4, b5⟩ := mtB_4 (t := t) hB (show R (fV9 T.2.2.2 x) < 16 by omega) (show R (T.2.2.1.2 (fV9 T.2.2.2 x)) < 16 by omega)
            have fin : ∀ (y9 : ow_MS) (t0 : Int32), fr (fun g => g = 54) z1 y9 → mtB9 y9 (fun i j => zS9 (fun o => if uns A o = 0 ∧ qP9 M pc (lbv A idN o) = true then (fun x => tI9 T.2.2.2 w κ x * rwZ9 T.2.2.1 T.2.2.2 R x i * rwZ9 T.2.2.1 T.2.2.2 R x j) (crs A o) else 0) o + t * (zd9 i (R (fV9 T.2.2.2 x)) - zd9 i (R (T.2.2.1.2 (fV9 T.2.2.2 x)))) * (zd9 j (R (fV9 T.2.2.2 x)) - zd9 j (R (T.2.2.1.2 (fV9 T.2.2.2 x))))) → t0 = iI (if w (fV9 T.2.2.2 x) = κ then 0 else sgI9 T.2.2.2 x) → ∀ (x7 x8 x9 x10 x11 x12 x13 x14 x15 x16 x17 : Int32), Tt (fun K i => q_X13_signatureOf K i 9 (nI v0) (nI p) (nI k) x5 (nI o) x7 x8 x9 x10 x11 x12 x13 x14 x15 x16 x17 n t0 x5 y9) Q := by
              intro y9 t0 hy9 hB9 ht0 x7 x8 x9 x10 x11 x12 x13 x14 x15 x16 x17
              refine u_X13_signatureOf_9 ?_; unfold qm_X13_signatureOf_9
              refine c10 _ y9 hy9 ?_ (fun i j hi9 hj9 => ?_)
              · rw [h5, ht0, iI_add]
                refine congrArg iI ?_
                show _ = zS9 _ o + (if uns A o = 0 ∧ qP9 M pc (lbv A idN o) = true then (fun x => if w (fV9 T.2.2.2 x) = κ then 0 else sgI9 T.2.2.2 x) (crs A o) else 0)
                rw [if_pos (show uns A o = 0 ∧ qP9 M pc (lbv A idN o) = true from ⟨hu0, hoq⟩), hxx]
              · refine (hB9 i j hi9 hj9).trans (congrArg Int64.ofInt ?_)
                show _ = zS9 _ o + (if uns A o = 0 ∧ qP9 M pc (lbv A idN o) = true then (fun x => tI9 T.2.2.2 w κ x * rwZ9 T.2.2.1 T.2.2.2 R x i * rwZ9 T.2.2.1 T.2.2.2 R x j) (crs A o) else 0)
                rw [if_pos (show uns A o = 0 ∧ qP9 M pc (lbv A idN o) = true from ⟨hu0, hoq⟩), hxx, etI]
                rfl
            refine u_X13_signatureOf_8 ?_; unfold qm_X13_signatureOf_8
            refine w_rdI ml53 rfl hf9 e9 ?_
            rw [s16_ix, s16_ix, s16_ix, s16_ix, tl]
            refine w_rdJ ml54 rfl (by omega) b1 (w_wrJ ml54 rfl (by omega) ?_)
            rw [← Int64.ofInt_add]
            refine w_rdJ ml54 rfl (by omega) b2 (w_wrJ ml54 rfl (by omega) ?_)
            rw [← Int64.ofInt_add]
            refine w_rdJ ml54 rfl (by omega) b3 (w_wrJ ml54 rfl (by omega) ?_)
            rw [← Int64.ofInt_sub, Int.sub_eq_add_neg]
            refine w_rdJ ml54 rfl (by omega) b4 (w_wrJ ml54 rfl (by omega) ?_)
            rw [← Int64.ofInt_sub, Int.sub_eq_add_neg, e14]
            have hyJ := fr_J2 (P := fun g => g = 54) (fr_J2 (fr_J2 (fr_J2 hy (i := 16 * R (fV9 T.2.2.2 x) + R (fV9 T.2.2.2 x)) (y := Int64.ofInt (a1 + t)) (h := 54) rfl) (i := 16 * R (T.2.2.1.2 (fV9 T.2.2.2 x)) + R (T.2.2.1.2 (fV9 T.2.2.2 x))) (y := Int64.ofInt (a2 + t)) (h := 54) rfl) (i := 16 * R (fV9 T.2.2.2 x) + R (T.2.2.1.2 (fV9 T.2.2.2 x))) (y := Int64.ofInt (a3 + -t)) (h := 54) rfl) (i := 16 * R (T.2.2.1.2 (fV9 T.2.2.2 x)) + R (fV9 T.2.2.2 x)) (y := Int64.ofInt (a4 + -t)) (h := 54) rfl
            by_cases hwf : w (fV9 T.2.2.2 x) = κ
            · rw [if_pos hwf]
              exact w_ifF (by decide) (fin _ _ hyJ b5 (by rw [if_pos hwf]; rfl) _ _ _ _ _ _ _ _ _ _ _)
            · rw [if_neg hwf]
              refine w_ifT rfl ?_
              by_cases hpl : 0 < T.2.2.2 x
              · rw [if_pos hpl]
                exact w_ifF (by decide) (fin _ _ hyJ b5 (by rw [if_neg hwf]; unfold sgI9; rw [if_pos hpl]; rfl) _ _ _ _ _ _ _ _ _ _ _)
              · rw [if_neg hpl]
                exact w_ifT rfl (fin _ _ hyJ b5 (by rw [if_neg hwf]; unfold sgI9; rw [if_neg hpl]; rfl) _ _ _ _ _ _ _ _ _ _ _)
          have col : y.2.1 52 (fl (2 * u)) = if w (fV9 T.2.2.2 x) = κ then 1 else 2 := by
            rw [y52, w1 (2 * u) (by rw [h2u]; exact uP), wf.1, cb0]
          have m12 : lbv A idN u = fV9 T.2.2.2 x := hlu
          refine u_X13_signatureOf_4 ?_; unfold qm_X13_signatureOf_4
          rw [show (2 : Int32) * nI u = nI (2 * u) from rn_mul2, show nI (2 * u) + 1 = nI (2 * u + 1) from nI_1 _]
          refine w_rdI (pl7 hn) rfl (by omega) (lk_m hd hO.1 hu) (w_rdI (pl14 hn) rfl (by omega) ea (w_rdI (pl14 hn) rfl (by omega) ee (w_rdI (pl10 hn) rfl (by omega) (lk_p hO.1 hu) (w_rdI (i := 2 * rn_pv A u) (pl14 hn) rn_mul2 (by omega) ew (w_rdI (pl10 hn) rfl (by omega) (lk_p hO.1 hmu) (w_rdI (i := 2 * rn_pv A (mtf A u)) (pl14 hn) rn_mul2 (by omega) eb (w_rdI ml52 rfl ha col ?_)))))))
          by_cases hwf : w (fV9 T.2.2.2 x) = κ
          · obtain ⟨ra, la⟩ := rA hwf
            obtain ⟨rb, lb9⟩ := rB hwf
            have c7 : ∀ x15 : Int32, x15 = iI (tI9 T.2.2.2 w κ x) → Tt (fun K i => q_X13_signatureOf K i 6 (nI v0) (nI p) (nI k) x5 (nI o) (if 0 < T.2.2.2 x then 1 else 0) (nI u) (nI (mtf A u)) (nI (fl (2 * u))) (nI (fl (2 * u + 1))) (nI (fl (2 * rn_pv A u))) (nI (fl (2 * rn_pv A (mtf A u)))) 1 0 0 0 n x15 0 y) Q := by
              intro x15 e15
              refine u_X13_signatureOf_6 ?_; unfold qm_X13_signatureOf_6
              refine w_ifF (by decide) ?_
              refine u_X13_signatureOf_7 ?_; unfold qm_X13_signatureOf_7
              refine w_rdI ml53 rfl ha ra (w_ifF (by decide) ?_)
              exact c8 1 x15 _ _ hb0 la lb9 rb rfl e15 (by rw [if_pos hwf]) _ _ _ _ _
            rw [if_pos hwf]
            refine w_ifT rfl ?_
            refine u_X13_signatureOf_5 ?_; unfold qm_X13_signatureOf_5
            by_cases hpl : 0 < T.2.2.2 x
            · refine w_ifT (by rw [if_pos hpl]) (c7 (-1) ?_)
              unfold tI9 sgI9
              rw [if_pos hwf, if_pos hpl]
              rfl
            · refine w_ifF (by rw [if_neg hpl]; decide) (c7 1 ?_)
              unfold tI9 sgI9
              rw [if_pos hwf, if_neg hpl]
              rfl
          · have hwn := bnot hwf
            obtain ⟨ra, la⟩ := rE hwn
            obtain ⟨rb, lb9⟩ := rW hwn
            have c7 : ∀ x15 : Int32, x15 = iI (tI9 T.2.2.2 w κ x) → Tt (fun K i => q_X13_signatureOf K i 6 (nI v0) (nI p) (nI k) x5 (nI o) (if 0 < T.2.2.2 x then 1 else 0) (nI u) (nI (mtf A u)) (nI (fl (2 * u))) (nI (fl (2 * u + 1))) (nI (fl (2 * rn_pv A u))) (nI (fl (2 * rn_pv A (mtf A u)))) 0 0 0 0 n x15 0 y) Q := by
              intro x15 e15
              refine u_X13_signatureOf_6 ?_; unfold qm_X13_signatureOf_6
              refine w_ifT rfl ?_
              refine u_X13_signatureOf_7 ?_; unfold qm_X13_signatureOf_7
              refine w_rdI ml53 rfl he ra (w_ifT rfl ?_)
              exact c8 0 x15 _ _ hw0 la lb9 rb rfl e15 (by rw [if_neg hwf]) _ _ _ _ _
            rw [if_neg hwf]
            refine w_ifF (by decide) ?_
            refine u_X13_signatureOf_5 ?_; unfold qm_X13_signatureOf_5
            by_cases hpl : 0 < T.2.2.2 x
            · refine w_ifF (by rw [if_pos hpl]; decide) (c7 1 ?_)
              unfold tI9 sgI9
              rw [if_neg hwf, if_pos hpl]
              rfl
            · refine w_ifT (by rw [if_neg hpl]) (c7 (-1) ?_)
              unfold tI9 sgI9
              rw [if_neg hwf, if_neg hpl]
              rfl
        refine u_X13_signatureOf_3 ?_; unfold qm_X13_signatureOf_3
        by_cases hpl : 0 < T.2.2.2 x
        · refine w_ifF (by rw [if_pos hpl]; decide) (c4 o hol ?_)
          rw [lo]
          unfold fV9
          rw [if_pos hpl]
        · refine w_ifT (by rw [if_neg hpl]) (w_rdI (pl7 hn) rfl (by omega) (lk_m hd hO.1 hol) (c4 _ hml ?_))
          rw [lm]
          unfold fV9
          rw [if_neg hpl]
      have sgn : y.2.1 (n + 6) (crs A o) = if sg (crs A o) then -1 else 1 := hO.2.1 _ (List.mem_of_getElem? (vAt_of hol))
      have gx := hi.2.2.2.2.2.2.1 o hol
      have gpm := hp1 (crs A o) lbo.2.2.1
      refine u_X13_signatureOf_2 ?_; unfold qm_X13_signatureOf_2
      refine w_rdF hO.1.V (w_leF (by omega) hol (w_rdI (pl5 hn) rfl (by omega) (lk_cu hO.1 hol).2 (w_if (fun hu9 => ?_) (fun hu9 => ?_))))
      · have hu0 : uns A o = 0 := nI_inj9 (by have := lbo.2.1; omega) (by omega) (hu9.trans nI_0.symm)
        refine w_rdI (pl8 hn) rfl (by omega) (lk_c hO.1 hol) (w_rdI (pl12 hn) rfl (by omega) rfl (w_if (fun hpp => ?_) (fun hpp => ?_)))
        · rw [y12] at hpp
          have hoP : inP A (z.2.1 (n + 12)) p o := ⟨hol, hpp⟩
          have k3 := c3 hu0 hoP
          refine w_rdI (pl4 hn) rfl (by omega) (lk_cu hO.1 hol).1 (w_rdI (pl6 hn) rfl (by omega) sgn ?_)
          have gx2 : T.2.2.2 (crs A o) < 0 ↔ sg (crs A o) = true := gx
          cases hsg : sg (crs A o) with
          | true =>
            have : T.2.2.2 (crs A o) < 0 := gx2.mpr hsg
            rw [if_neg (fun h9 => by
              rcases gpm with h8 | h8 <;> rw [h8] at this h9
              · exact absurd this (by decide)
              · exact absurd h9 (by decide))] at k3
            exact w_ifT (by decide) k3
          | false =>
            have hng : ¬ T.2.2.2 (crs A o) < 0 := fun h9 => by
              rw [gx2.mp h9] at hsg
              exact absurd hsg (by decide)
            rw [if_pos (by
              rcases gpm with h8 | h8 <;> rw [h8] at hng ⊢
              · decide
              · exact absurd (by decide) hng)] at k3
            exact w_ifF (by decide) k3
        · rw [y12] at hpp
          exact skip (fun h9 => hpp ((hqA o hol).mpr h9.2).2)
      · exact skip (fun h9 => hu9 (by rw [h9.1]; exact nI_0))
  have c1 : ∀ (d i : Nat) (y : ow_MS), i + d = 256 → fr (fun g => g = 54) z1 y → (∀ a, a < i → y.2.2 54 a = 0) → Tt (fun K t => q_X13_signatureOf K t 1 (nI v0) (nI p) (nI k) (nI i) 0 0 0 0 0 0 0 0 0 0 0 0 n 0 0 y) Q := by
    intro d
    induction d with
    | zero =>
      intro i y hi9 hf h0
      refine u_X13_signatureOf_1 ?_; unfold qm_X13_signatureOf_1
      exact w_leT (a := 256) (by omega) (by omega) (c2 A.flatten.length 0 0 y (by omega) hf rfl (fun a b ha hb2 => h0 _ (by omega)))
    | succ d ih =>
      intro i y hi9 hf h0
      refine u_X13_signatureOf_1 ?_; unfold qm_X13_signatureOf_1
      rw [nI_1]
      refine w_leF (a := 256) (by omega) (by omega) (w_wrJ ml54 rfl (by omega) (ih (i + 1) _ (by omega) (fr_J2 hf rfl) (fun a ha => ?_)))
      by_cases h9 : a = i
      · rw [h9]
        exact usJ_at
      · rw [usJ_ne h9]
        exact h0 a (by omega)
  exact c1 256 0 z1 (by omega) fr_rf (fun a ha => absurd ha (by omega))
end XSHA
end
section
/-! 99zzzzzzzzzzzzzzzzyzzzk.xshb -/
/-! signature, the reference: exactly -/
section XSHB
variable {X : (Nat → Nat → Int32) → Prop} {z : ow_MS} {St : plT} {T : ow_NT} {nn Pc : Nat} {M : Nat → Int32} {φ ψ : Nat → Nat} {w cf : Nat → Bool}
/-- marks of the list and marks of the net -/
theorem mk_M {A : rn_L} {sg : Nat → Bool} {mm : Nat → Nat} {P : Nat} (h : fcD9 T.1 T.2.2.1 T.2.2.2 w nn Pc M φ ψ cf) (hV : isoV A sg idN T) (hk : mk A mm P) {v u : Nat} (h1 : v < A.flatten.length) (h2 : u < A.flatten.length) : M (lbv A idN v) = M (lbv A idN u) ↔ mm (rn_c A v) = mm (rn_c A u) := by
  have hi := isoS_iff.mp hV.1
  have hv := h.1
  have hc : T.1 ≤ 12 := h.2.2.2.2.2.2.2.2.2.2.2.2.1
  have l1 := lbv_lt hi h1
  have l2 := lbv_lt hi h2
  rw [← part_iff hi hv hk h1 h2, parts_iff hv hc l1 l2]
  refine ⟨fun e => h.2.2.2.2.2.2.2.2.2.2.1 _ _ l1 l2 e, fun r => ?_⟩
  have := r (fun k => k < 2 * T.1 ∧ M k = M (lbv A idN v)) ⟨l1, rfl⟩ (fun j hj ⟨_, e⟩ => ⟨(hv j hj).1, by rw [(h.2.2.2.2.2.2.2.2.2.1 j hj).1]; exact e⟩) (fun j hj ⟨_, e⟩ => ⟨mt_lt hj, by rw [(h.2.2.2.2.2.2.2.2.2.1 j hj).2]; exact e⟩)
  exact this.2.symm
theorem xq_signature {d : Int32} (hXa : X53a X) (h : gI X z) (hR : relR z St) (hT : ∀ e A sg, e < 40 → d = nI e → St e = some (A, sg) → isoV A sg idN T ∧ pm1 T ∧ fcD9 T.1 T.2.2.1 T.2.2.2 w nn Pc M φ ψ cf) : Te (fun K => qe_X13_signature K d z) (fun r => (r.2.1 1 = nI 1 ∧ ∀ e, e < 40 → d = nI e → St e = none) ∨ ∃ e A sg, e < 40 ∧ d = nI e ∧ St e = some (A, sg) ∧ r.2.1 1 = 0 ∧ r.1 = iI (zS9 (fun p => vlG9 T.1 T.2.2.1 T.2.2.2 w nn M φ ψ cf p) Pc)) := by
  let Q : Int32 × ow_MS → Prop := fun r => (r.2.1 1 = nI 1 ∧ ∀ e, e < 40 → d = nI e → St e = none) ∨ ∃ e A sg, e < 40 ∧ d = nI e ∧ St e = some (A, sg) ∧ r.2.1 1 = 0 ∧ r.1 = iI (zS9 (fun p => vlG9 T.1 T.2.2.1 T.2.2.2 w nn M φ ψ cf p) Pc)
  have h1 := gI_1 (c := 0) h
  have hR1 := relR_1 (c := 0) hR
  refine e_X13_signature ?_
  refine u_X13_signature_0 ?_; unfold qm_X13_signature_0
  refine w_wrF (w_hasX hR1 (fun h0 => w_ifT rfl (w_mono (w_failX h1 fr_1) (fun r hr => Or.inl ⟨hr.2.1, h0⟩))) (fun e A sg he hx hs hv9 hne => w_ifF (by decide) ?_))
  obtain ⟨hV, hp1, hD⟩ := hT e A sg he hx hs
  subst hx
  have hi := isoS_iff.mp hV.1
  have hv := hD.1
  have hcT : T.1 ≤ 12 := hD.2.2.2.2.2.2.2.2.2.2.2.2.1
  have hPc : Pc ≤ 24 := hD.2.2.2.2.2.2.2.2.2.2.2.2.2.2
  refine w_cs0 (to_open pn1 he hv9) (fun z2 ⟨o2, f2⟩ => ?_)
  have hl := o2.len
  have hC := o2.2.2.2
  have hd := wkF_ok o2.wk
  obtain ⟨c, hok, hc⟩ := o2.2.2.1
  refine w_cs0 (tn_split pn1 (by omega) (by omega) hd o2.1) (fun z3 ⟨f3, P, hP3⟩ => ?_)
  obtain ⟨mm, hmk, hmm⟩ := mk_of (by omega) hP3
  have o3 : oNet z3 1000 A sg := oNet_fr f3 (fun g hg => by unfold frP at hg; omega) o2
  refine w_cs0 (xr_walk (Lb := fun s => φ (psS A s)) pn1 (by omega) hd o3.1 o3.2.1 (fun s hs9 => ?_)) (fun z4 ⟨f4, F, hF4, hw4⟩ => ?_)
  · show φ (psS A (phi A sg s)) = φ (psS A s)
    rw [← ps_on hV hp1 hs9]
    exact hD.2.2.2.1 _ (ps_lt hV hs9)
  have f4 : fr (frW 1000) z3 z4 := f4
  have o4 : oNet z4 1000 A sg := oNet_fr f4 (fun g hg => by unfold frW at hg; omega) o3
  have hP4 : rn_pt z4 1000 A P := by
    unfold rn_pt
    rw [(f4 1013 (by unfold frW; omega)).1, (f4 1012 (by unfold frW; omega)).2.1]
    exact hP3
  have hmm4 : ∀ c, c < A.length → z4.2.1 1012 c = nI (mm c) := fun c hc9 => by
    rw [(f4 1012 (by unfold frW; omega)).2.1]
    exact hmm c hc9
  have hI4 : fcI z4 1000 A sg F P := ⟨o4, hF4, hw4.1, hP4⟩
  have t4 : z4.1 1 = 0 := by
    rw [(f4 1 (by unfold frW; omega)).1, (f3 1 (by unfold frP; omega)).1, (f2 1 (by omega)).1]
    exact po_usF_at
  have iF : ∀ {y : ow_MS}, fr sgH z4 y → fcI y 1000 A sg F P := fun hf => fcI_fr pn1 hf (fun g hg => by unfold sgH at hg; omega) hI4
  have PA : P ≤ A.length := hP4.2.1
  have F80 := hF4.2.1
  -- the faces as a function
  obtain ⟨fl, hfl⟩ : ∃ fl : Nat → Nat, ∀ s, s < 2 * A.flatten.length → z4.2.1 1014 s = nI (fl s) ∧ fl s < F := by
    refine ⟨fun s => (z4.2.1 1014 s).toNatClampNeg, fun s hs9 => ?_⟩
    obtain ⟨f, hf, ef⟩ := hF4.2.2.1 s hs9
    have ef : z4.2.1 1014 s = nI f := ef
    dsimp only
    rw [ef, nI_clamp (by omega)]
    exact ⟨rfl, hf⟩
  have hfc : ∀ s, s < 2 * A.flatten.length → fl (phi A sg s) = fl s := fun s hs9 => by
    obtain ⟨a1, a2⟩ := hfl s hs9
    obtain ⟨b1, b2⟩ := hfl _ (phi_lt (sg := sg) hd hs9)
    have := (hw4.1 (fl s) a2 s hs9).mp a1
    have this : z4.2.1 1014 (phi A sg s) = nI (fl s) := this
    rw [b1] at this
    exact nI_inj9 (by omega) (by omega) this
  have hfi : ∀ s t, s < 2 * A.flatten.length → t < 2 * A.flatten.length → fl s = fl t → φ (psS A s) = φ (psS A t) := fun s t hs9 ht9 e9 => by
    obtain ⟨a1, a2⟩ := hfl s hs9
    obtain ⟨b1, b2⟩ := hfl t ht9
    rw [← e9] at b1
    exact (hw4.2 (fl s) a2).2 s t hs9 ht9 a1 b1
  -- which part of the net a part of the list is
  obtain ⟨D, hDD⟩ : ∃ D : Nat → Nat → Bool, ∀ p pc, D p pc = true ↔ ∃ v, v < A.flatten.length ∧ mm (rn_c A v) = p ∧ M (lbv A idN v) = nI pc := by
    have hex : ∀ p pc, ∃ b : Bool, b = true ↔ ∃ v, v < A.flatten.length ∧ mm (rn_c A v) = p ∧ M (lbv A idN v) = nI pc := fun p pc => by
      by_cases hs9 : ∃ v, v < A.flatten.length ∧ mm (rn_c A v) = p ∧ M (lbv A idN v) = nI pc
      · exact ⟨true, ⟨fun _ => hs9, fun _ => rfl⟩⟩
      · exact ⟨false, ⟨fun h9 => absurd h9 (by decide), fun h9 => absurd h9 hs9⟩⟩
    exact ⟨fun p pc => Classical.choose (hex p pc), fun p pc => Classical.choose_spec (hex p pc)⟩
  have Mn : ∀ v, v < A.flatten.length → ∃ pc, pc < Pc ∧ M (lbv A idN v) = nI pc := fun v hv1 => by
    have hl9 := lbv_lt hi hv1
    have a := hD.2.2.2.2.2.2.1 (2 * lbv A idN v) (by omega)
    rw [show 2 * lbv A idN v / 2 = lbv A idN v by omega] at a
    exact ⟨_, hD.2.2.2.2.2.1 _ (hD.2.2.1 _ (by omega)), a⟩
  let gv : Nat → Int := fun p => zS9 (fun pc => if D p pc = true then vlG9 T.1 T.2.2.1 T.2.2.2 w nn M φ ψ cf pc else 0) Pc
  have total : zS9 gv P = zS9 (fun p => vlG9 T.1 T.2.2.1 T.2.2.2 w nn M φ ψ cf p) Pc := by
    show zS9 (fun p => zS9 (fun pc => if D p pc = true then vlG9 T.1 T.2.2.1 T.2.2.2 w nn M φ ψ cf pc else 0) Pc) P = _
    rw [zS_sw]
    refine zS_cg (fun pc hpc => ?_)
    obtain ⟨u, u1, u2⟩ := hD.2.2.2.2.2.2.2.2.2.2.2.1 pc hpc
    obtain ⟨v, v1, v2⟩ := lbv_sur hi u1
    have v2 : lbv A idN v = u := v2
    have Mv : M (lbv A idN v) = nI pc := by rw [v2]; exact u2
    refine zS_one (P := fun p => D p pc) (g := fun _ => vlG9 T.1 T.2.2.1 T.2.2.2 w nn M φ ψ cf pc) (a := mm (rn_c A v)) (hmk.1 _ (rn_c_in A v v1).1) ((hDD _ _).mpr ⟨v, v1, rfl, Mv⟩) (fun b _ hb => ?_)
    obtain ⟨v', a1, a2, a3⟩ := (hDD b pc).mp hb
    rw [← a2]
    exact (mk_M hD hV hmk a1 v1).mp (by rw [a3, Mv])
  have c1 : ∀ (d9 p : Nat) (x2 : Int32) (y : ow_MS), p + d9 = P → fr sgH z4 y → x2 = iI (zS9 gv p) → Tt (fun K i => q_X13_signature K i 1 (nI e) x2 (nI p) 0 0 0 0 y) Q := by
    intro d9
    induction d9 with
    | zero =>
      intro p x2 y hp hf hx2
      have hp : p = P := by omega
      refine u_X13_signature_1 ?_; unfold qm_X13_signature_1
      refine w_rdF (iF hf).2.2.2.1 (w_leT (by omega) (by omega) (w_some (Or.inr ⟨e, A, sg, he, rfl, hs, ?_, ?_⟩)))
      · show y.1 1 = 0
        rw [(hf 1 (by unfold sgH; omega)).1]
        exact t4
      · show x2 = _
        rw [hx2, hp, total]
    | succ d9 ih =>
      intro p x2 y hp hf hx2
      have hIy := iF hf
      have y12 : y.2.1 1012 = z4.2.1 1012 := (hf 1012 (by unfold sgH; omega)).2.1
      have y14 : y.2.1 1014 = z4.2.1 1014 := (hf 1014 (by unfold sgH; omega)).2.1
      have inq : ∀ v, v < A.flatten.length → (inP A (y.2.1 1012) p v ↔ mm (rn_c A v) = p) := fun v hv1 => by
        have hcc := (rn_c_in A v hv1).1
        have := hmk.1 _ hcc
        unfold inP
        rw [y12, hmm4 _ hcc]
        exact ⟨fun h9 => nI_inj9 (by omega) (by omega) h9.2, fun h9 => ⟨hv1, by rw [h9]⟩⟩
      have c4 : ∀ (x4 x5 : Int32) (t : Int) (y : ow_MS), fr sgH z4 y → t = gv p → Tt (fun K i => q_X13_signature K i 4 (nI e) x2 (nI p) x4 x5 (iI t) x2 y) Q := by
        intro x4 x5 t y hf ht
        refine u_X13_signature_4 ?_; unfold qm_X13_signature_4
        rw [nI_1]
        refine ih (p + 1) _ y (by omega) hf ?_
        rw [hx2, ht, iI_add]
        rfl
      have c2 : ∀ (d : Nat) (x4 : Int32), d ≤ A.flatten.length → (x4 = -1 ∧ (∀ v, d ≤ v → v < A.flatten.length → mm (rn_c A v) ≠ p) ∨ ∃ v0, x4 = nI v0 ∧ inP A (y.2.1 1012) p v0) → Tt (fun K i => q_X13_signature K i 2 (nI e) x2 (nI p) x4 (iI ((d : Int) - 1)) 0 0 y) Q := by
        intro d
        induction d with
        | zero =>
          intro x4 _ h4
          refine u_X13_signature_2 ?_; unfold qm_X13_signature_2
          refine w_ifT (by show iI (-1) < iI 0; rw [iI_lt (by omega) (by omega) (by omega) (by omega)]; omega) (w_if (fun n4 => ?_) (fun n4 => ?_))
          · rcases h4 with ⟨h4, h5⟩ | ⟨v0, h4, hv0⟩
            · refine c4 _ _ 0 y hf ?_
              show 0 = zS9 (fun pc => if D p pc = true then vlG9 T.1 T.2.2.1 T.2.2.2 w nn M φ ψ cf pc else 0) Pc
              refine (zS_none (P := fun pc => D p pc) (fun pc _ => ?_)).symm
              cases e9 : D p pc with
              | false => rfl
              | true =>
                obtain ⟨v, a1, a2, -⟩ := (hDD p pc).mp e9
                exact absurd a2 (h5 v (Nat.zero_le _) a1)
            · rw [h4] at n4
              have := hv0.1
              exact absurd n4 (rn_neg1 (by omega))
          · rcases h4 with ⟨h4, -⟩ | ⟨v0, rfl, hv0⟩
            · exact absurd h4 n4
            · have hv0l := hv0.1
              obtain ⟨pc, pc1, pc2⟩ := Mn v0 hv0l
              have e0 := (inq v0 hv0l).mp hv0
              refine w_cs1 (xr_sigOf (pc := pc) (fl := fl) pn1 hok hc hIy (by omega) hv0 (fun s hs9 => by rw [y14]; exact hfl s hs9) hD hV hp1 pc1 (fun v hv1 => ?_) hfc hfi) (fun a y1 ⟨r1, f5⟩ => ?_)
              · rw [inq v hv1]
                have q := mk_M hD hV hmk hv1 hv0l
                rw [e0, pc2] at q
                rw [← q]
                exact ⟨fun h9 => decide_eq_true h9, fun h9 => of_decide_eq_true h9⟩
              · have r1 : a = _ := r1
                rw [r1]
                refine c4 _ _ _ y1 (fr_tr hf f5) ?_
                refine (zS_one (P := fun pc => D p pc) (g := fun pc => vlG9 T.1 T.2.2.1 T.2.2.2 w nn M φ ψ cf pc) (a := pc) pc1 ((hDD p pc).mpr ⟨v0, hv0l, e0, pc2⟩) (fun b hb hb2 => ?_)).symm
                obtain ⟨v, a1, a2, a3⟩ := (hDD p b).mp hb2
                have q := (mk_M hD hV hmk a1 hv0l).mpr (by rw [a2, e0])
                rw [a3, pc2] at q
                exact nI_inj9 (by omega) (by omega) q
        | succ d ih2 =>
          intro x4 hd9 h4
          have e1 : iI (((d + 1 : Nat) : Int) - 1) = nI d := iI_nI (by omega)
          have e2 : nI d + (-1) = iI ((d : Int) - 1) := by
            rw [nI_iI]
            show iI (d : Int) + iI (-1) = _
            rw [iI_add]
            rfl
          have hdl : d < A.flatten.length := by omega
          have hcc := (rn_c_in A d hdl).1
          rw [e1]
          refine u_X13_signature_2 ?_; unfold qm_X13_signature_2
          refine w_ifF (fun h9 => absurd h9 (nI_pos (by omega))) (w_rdI (pl8 pn1) rfl (by omega) (lk_c hIy.1.1 hdl) (w_rdI (pl12 pn1) rfl (by omega) rfl (w_if (fun h9 => ?_) (fun h9 => ?_))))
          · refine u_X13_signature_3 ?_; unfold qm_X13_signature_3
            rw [e2]
            exact ih2 _ (by omega) (Or.inr ⟨d, rfl, hdl, h9⟩)
          · refine u_X13_signature_3 ?_; unfold qm_X13_signature_3
            rw [e2]
            refine ih2 _ (by omega) ?_
            rcases h4 with ⟨h4, h5⟩ | h4
            · refine Or.inl ⟨h4, fun v hv1 hv2 => ?_⟩
              by_cases h8 : v = d
              · rw [h8]
                exact fun h7 => h9 ((inq d hdl).mpr h7).2
              · exact h5 v (by omega) hv2
            · exact Or.inr h4
      refine u_X13_signature_1 ?_; unfold qm_X13_signature_1
      refine w_rdF hIy.2.2.2.1 (w_leF (by omega) (by omega) (w_rdF hIy.1.1.V ?_))
      rw [show nI A.flatten.length - 1 = iI ((A.flatten.length : Nat) - 1) from by rw [nI_iI]; exact iI_sub _ 1]
      exact c2 A.flatten.length (-1) (Nat.le_refl _) (Or.inl ⟨rfl, fun v h8 h9 => by omega⟩)
  exact c1 P 0 0 z4 (by omega) fr_rf rfl
end XSHB
end
section
/-! 99zzzzzzzzzzzzzzzzyzzzl.xshc -/
/-! signature: both sides answer the same; it is a step of the law; what is left of the whole: two cases -/
section XSHC
variable {X : (Nat → Nat → Int32) → Prop} {z y : ow_MS} {vl : Nat → Nat} {x : Int32} {St : plT}
theorem xc_signature (hM : gM y) (hC : relC y St) (hS : okS St) : Te (fun K => ce_X11_signature vl K 0 x y) (fun r => (r.1 = 1 ∧ ∀ d, d < 40 → x = nI d → St d = none) ∨ ∃ d A sg, d < 40 ∧ x = nI d ∧ St d = some (A, sg) ∧ r.1 = 0 ∧ ∃ T w n P M φ ψ cf, isoV A sg idN T ∧ pm1 T ∧ fcD9 T.1 T.2.2.1 T.2.2.2 w n P M φ ψ cf ∧ r.2.1 = iI (zS9 (fun p => vlG9 T.1 T.2.2.1 T.2.2.2 w n M φ ψ cf p) P)) := by
  refine e_X11_signature ?_; unfold cm_X11_signature_0
  refine w_tc0 (xc_need hM.1.1 hC hS) ?_ ?_
  · rintro y1 ⟨h1, rfl⟩
    rcases h1 with h1 | ⟨-, d, A, sg, c, hd, rfl, hSt, hs, hA, hne, hpl⟩
    · exact absurd (show (0 : Nat) = 1 from h1.1) (by decide)
    · refine w_cs0 (tc_ld3 nH4 hM.1 hd hs hA) ?_
      rintro y2 ⟨g1, g2, S, G, g3, g4⟩
      obtain ⟨j1, j2, j3, j4⟩ := g4
      have hV : isoV A sg (fun x => x) (c, cirs A, S, G) := isoV_of j2 j3
      have hG : ∀ x, x < c → G x = 1 ∨ G x = -1 := fun x hx => by
        have h7 : G x = if sg x then -1 else 1 := j4 x hx
        rw [h7]
        split
        · exact Or.inr rfl
        · exact Or.inl rfl
      have hp1 : pm1 (c, cirs A, S, G) := hG
      have hpn : nt_plane (c, cirs A, S, G) = true := hpl (fun x => x) _ hV hp1
      obtain ⟨w, hw⟩ := plane_ga (T := (c, cirs A, S, G)) j3 hA.2.2.2.1 hpn
      refine w_cs1 (te_sgOf g3.1 g3.2.2.1.2.2.1 j3 hA.2.2.2.1 hw hG hpn) ?_
      rintro v z9 ⟨⟨n, P, M, φ, ψ, cf, hD, e9⟩, f3⟩
      exact w_some (Or.inr ⟨d, A, sg, hd, rfl, hSt, rfl, (c, cirs A, S, G), w, n, P, M, φ, ψ, cf, hV, hp1, hD, e9⟩)
  · rintro a y1 ha ⟨h1, rfl⟩
    rcases h1 with h1 | h1
    · exact w_some (Or.inl ⟨h1.1, h1.2⟩)
    · exact absurd h1.1 ha
theorem c_signature (hXa : X53a X) (hXb : X53b X) (h : rel3 X z y) : Te (fun K => qe_X13_signature K x z) (fun rr => Te (fun K => ce_X11_signature vl K 0 x y) (fun rc => rel3 X rr.2 rc.2.2 ∧ ansI [(1, 1)] rr rc)) := by
  obtain ⟨⟨St, k⟩, hM, h2⟩ := id h
  have hga := rel_ga vl hM.1 k.2.2.2.1 k.2.2.2.2
  have hpl := rel_plS hM.1 k.2.2.2.1 k.2.2.2.2
  refine te_two (te_all (α := ow_NT × (Nat → Bool) × Nat × Nat × (Nat → Int32) × (Nat → Nat) × (Nat → Nat) × (Nat → Bool)) (H := fun a => ∀ e A sg, e < 40 → x = nI e → St e = some (A, sg) → isoV A sg idN a.1 ∧ pm1 a.1 ∧ fcD9 a.1.1 a.1.2.2.1 a.1.2.2.2 a.2.1 a.2.2.1 a.2.2.2.1 a.2.2.2.2.1 a.2.2.2.2.2.1 a.2.2.2.2.2.2.1 a.2.2.2.2.2.2.2) (te_fo (tp_signature (d := x) hXa hXb k.1) (fun K => ff_X13_signature)) (fun a ha => xq_signature (St := St) hXa k.1 k.2.2.1 ha)) (te_and (tc_signature (x := x) hM hga hpl) (xc_signature hM k.2.2.2.1 k.2.2.2.2)) (fun rr rc ⟨⟨hgI, fR⟩, hr⟩ ⟨⟨hG, hf, _⟩, hc⟩ => ?_)
  have hC : relC rc.2.2 St := relC_fr hf (fun q hq h9 => by unfold cW at hq; unfold sxP at h9; omega) k.2.2.2.1
  have h2' : rel2 rr.2 rc.2.2 := by
    obtain ⟨k1, k2, k3, ⟨Ns, q1, q2, q3⟩, Ms, q4, q5, q6⟩ := h2
    exact ⟨relT_k fR hf (by decide) (by unfold sxP; omega) k1, relB_k fR hf (by decide) (by unfold sxP; omega) k2, brC_fr hf (by unfold sxP; omega) k3, ⟨Ns, rlR_k fR (by decide) q1, rlC_k hf (fun q hq => by unfold cV at hq; unfold sxP; omega) q2, q3⟩, Ms, rlR_k fR (by decide) q4, rlC_k hf (fun q hq => by unfold cV at hq; unfold sxP; omega) q5, q6⟩
  have fin : ansI [(1, 1)] rr rc → rel3 X rr.2 rc.2.2 ∧ ansI [(1, 1)] rr rc := fun ha => ⟨⟨⟨St, hgI, hG.1, relR_fr fR (by decide) k.2.2.1, hC, k.2.2.2.2⟩, hG, h2'⟩, ha⟩
  rcases hc with ⟨c1, c2⟩ | ⟨d, A, sg, hd, hx, hSt, c1, T, w, n, P, M, φ, ψ, cf, hV, hp1, hD, e9⟩
  · rcases hr ((0, 0, (fun _ => 0, fun _ => 0), fun _ => 0), fun _ => false, 0, 0, fun _ => 0, fun _ => 0, fun _ => 0, fun _ => false) (fun e A sg e0 e1 e2 => by
      rw [c2 e e0 e1] at e2
      cases e2) with ⟨r1, -⟩ | ⟨e, A, sg, e1, e2, e3, -⟩
    · exact fin (Or.inr ⟨1, 1, by simp, r1, c1⟩)
    · rw [c2 e e1 e2] at e3
      cases e3
  · rcases hr (T, w, n, P, M, φ, ψ, cf) (fun e A' sg' e0 e1 e2 => by
      have ed := nI_inj9 (a := e) (b := d) (by omega) (by omega) (by rw [← e1, hx])
      subst ed
      rw [hSt] at e2
      cases e2
      exact ⟨hV, hp1, hD⟩) with ⟨-, r2⟩ | ⟨e, A', sg', e1, e2, e3, e4, e5⟩
    · rw [r2 d hd hx] at hSt
      cases hSt
    · exact fin (Or.inl ⟨e4, c1, e5.trans e9.symm⟩)
theorem s2_signature : stp2 lst_signature := by
  intro S x1 x2 x3 x4 x5 h
  have hc := rel_of (vl := S.1) (y := S.2.1) (z := S.2.2) (em := [(1, 1)]) (fc := fun K => ce_X11_signature S.1 K 0 x1 S.2.1) (fm := fun K => qe_X13_signature K x1 S.2.2) h.1 (c_signature XR_a XR_b h.1.1) (fun K => ff_X13_signature) (fun K => ff_X11_signature) (by decide) (fun g hg h9 => by unfold ciH at h9; omega)
  have hn : Te (fun K => ce_X11_signature S.1 K 0 x1 S.2.1) (fun rc => NM rc.2.2) := te_nmF (te_in hc) (fun K => ff_X11_signature) (fun g hg h9 => by omega) h.2
  have hs : Te (lsV S.1 (fun K => ce_X11_signature S.1 K 0 x1 S.2.1) (fun k z => if k = 1 then some (1, z) else none) (fun K => qe_X13_signature K x1 S.2.2)) (fun S1 => REL S1 ∧ dPhi S.1 ≤ dPhi S1.1) := by
    refine st_int hc (fun j k hm => ?_)
    simp only [List.mem_cons, List.not_mem_nil, or_false, Prod.mk.injEq] at hm
    obtain ⟨rfl, rfl⟩ := hm
    exact ⟨by decide, by decide, by decide, fun _ => rfl⟩
  exact w_monoE (lsV_nm hs hn (fun k z r hr => by
    have hr : (if k = 1 then some (1, z) else none) = some r := hr
    by_cases c0 : k = 1
    · rw [if_pos c0] at hr
      cases hr
      rfl
    rw [if_neg c0] at hr
    cases hr)) (fun S1 ⟨⟨q1, q2⟩, q3⟩ => ⟨⟨q1, q3⟩, q2⟩)
variable {Pc Pr : ow_MS → Prop}
theorem s3_signature (hc : keepP ciX Pc) (hr : keepP rfX Pr) : stpX Pc Pr lst_signature := by
  intro S x1 x2 x3 x4 x5 h pc pr
  have hs : Te (lsV S.1 (fun K => ce_X11_signature S.1 K 0 x1 S.2.1) (fun k z => if k = 1 then some (1, z) else none) (fun K => qe_X13_signature K x1 S.2.2)) (fun S1 => REL2 S1 ∧ dPhi S.1 ≤ dPhi S1.1) := s2_signature S x1 x2 x3 x4 x5 h
  exact w_monoE (lsV_fo hs (fun K => ff_X11_signature) (fun K => ff_X13_signature) (fun k z r hr => by
    have hr : (if k = 1 then some (1, z) else none) = some r := hr
    by_cases c0 : k = 1
    · rw [if_pos c0] at hr
      cases hr
      rfl
    rw [if_neg c0] at hr
    cases hr)) (fun S1 ⟨q, f1, f2⟩ => ⟨q, hc _ _ _ f1 (fun g hg h9 => by unfold ciX at h9; omega) pc, hr _ _ _ f2 (pf_rf (by decide)) pr⟩)
end XSHC
end
section
/-! 99zzzzzzzzzzzzzzzzyzzzm.xshd -/
/-! the whole out of two cases: cover and colours -/
section XSHD
variable {Qc Qr : ow_MS → Prop}
end XSHD
end
section
/-! 99zzzzzzzzzzzzzzzzyzzzn.xcv1 -/
/-! cover: determinants of whole numbers -/
section XCV1
end XCV1
end
section
/-! 99zzzzzzzzzzzzzzzzyzzzo.xcv2 -/
/-! cover: minors, and what divides them all -/
section XCV2
variable {R n : Nat} {B : Nat → Nat → Int}
end XCV2
end
section
/-! 99zzzzzzzzzzzzzzzzyzzzp.xcv3 -/
/-! cover: rows and columns exchanged -/
section XCV3
end XCV3
end
section
/-! 99zzzzzzzzzzzzzzzzyzzzq.xcv4 -/
/-! cover: rows with one 1 and one -1: determinants are 0, 1 or -1; sums of two such rows: at most 2^k -/
section XCV4
end XCV4
end
section
/-! 99zzzzzzzzzzzzzzzzyzzzr.xcv5 -/
/-! cover: diagonal matrices -/
section XCV5
end XCV5
end
