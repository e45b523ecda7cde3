/-! signature, the class: the coefficients and their changes of sign, exactly -/
theorem usJ_o9 {z : ow_MS} {h g i : Nat} {x : Int64} (hg : g ≠ h) : (usJ z h i x).2.2 g = z.2.2 g := if_neg hg
/-- a long holds the number -/
def rI9 (a : Int) : Prop := -9223372036854775808 < a ∧ a < 9223372036854775808
/-- changes of sign read from place r - 1 down, the last one being l -/
def gC9 (d : Nat → Int) : Nat → Int → Nat
  | 0, _ => 0
  | r + 1, l => if d r = 0 then gC9 d r l else (if opp9 l (d r) then 1 else 0) + gC9 d r (d r)
section XSGN
theorem rI_t {a : Int} (h : rI9 a) : (Int64.ofInt a).toInt = a := Int64.toInt_ofInt_of_le (by have := h.1; omega) (by have := h.2; omega)
theorem lg_0 {a : Int} (h : rI9 a) : lg_cmp (Int64.ofInt a) 0 = 0 ↔ a = 0 := by
  rw [lg_cmp_eq, ← Int64.toInt_inj, rI_t h]
  rfl
theorem lg_g {a : Int} (h : rI9 a) : 0 < lg_cmp (Int64.ofInt a) 0 ↔ 0 < a := by
  rw [lg_cmp_gt, Int64.lt_iff_toInt_lt, rI_t h]
  rfl
theorem lg_ge {a : Int} (h : rI9 a) : 0 ≤ lg_cmp (Int64.ofInt a) 0 ↔ 0 ≤ a := by
  rw [lg_cmp_ge, Int64.le_iff_toInt_le, rI_t h]
  rfl
theorem lg_le {a : Int} (h : rI9 a) : lg_cmp (Int64.ofInt a) 0 ≤ 0 ↔ a ≤ 0 := by
  rw [lg_cmp_le, Int64.le_iff_toInt_le, rI_t h]
  rfl
theorem gC_wv (d : Nat → Int) : ∀ n l, gC9 d (n + 1) l = (wv9 d n).1 + (if opp9 l (wv9 d n).2 then 1 else 0) := by
  intro n
  induction n with
  | zero =>
    intro l
    show (if d 0 = 0 then 0 else (if opp9 l (d 0) then 1 else 0) + 0) = 0 + (if opp9 l (d 0) then 1 else 0)
    by_cases h : d 0 = 0
    · rw [if_pos h, if_neg (by rw [h]; unfold opp9; omega)]
    · rw [if_neg h]
      omega
  | succ n ih =>
    intro l
    show (if d (n + 1) = 0 then gC9 d (n + 1) l else (if opp9 l (d (n + 1)) then 1 else 0) + gC9 d (n + 1) (d (n + 1))) = _
    by_cases h : d (n + 1) = 0
    · rw [if_pos h, wv_z h, ih]
    · rw [if_neg h, wv_s h, ih]
      show _ = (wv9 d n).1 + (if opp9 (wv9 d n).2 (d (n + 1)) then 1 else 0) + (if opp9 l (d (n + 1)) then 1 else 0)
      have e : opp9 (d (n + 1)) (wv9 d n).2 ↔ opp9 (wv9 d n).2 (d (n + 1)) := by
        unfold opp9
        omega
      by_cases h9 : opp9 (wv9 d n).2 (d (n + 1))
      · rw [if_pos h9, if_pos (e.mpr h9)]
        omega
      · rw [if_neg h9, if_neg (fun h8 => h9 (e.mp h8))]
        omega
theorem gC_0 (d : Nat → Int) (n : Nat) : gC9 d (n + 1) 0 = (wv9 d n).1 := by
  rw [gC_wv, if_neg (by unfold opp9; omega)]
  rfl
theorem zn_s {k : Nat} : zn9 (k + 1) = -zn9 k := by
  unfold zn9
  rcases Nat.mod_two_eq_zero_or_one k with h | h
  · rw [if_pos h, if_neg (by omega)]
  · rw [if_pos (show (k + 1) % 2 = 0 by omega), if_neg (show ¬ k % 2 = 0 by omega)]
    rfl
theorem zn_pm (k : Nat) : zn9 k = 1 ∨ zn9 k = -1 := by
  unfold zn9
  split
  · exact Or.inl rfl
  · exact Or.inr rfl
theorem zn_a {k : Nat} : ∀ j, zn9 k * zn9 j = zn9 (k + j) := by
  intro j
  induction j with
  | zero => exact Int.mul_one _
  | succ j ih =>
    rw [zn_s, show k + (j + 1) = k + j + 1 from rfl, zn_s, ← ih, Int.mul_neg]
theorem rI_zn {a : Int} (k : Nat) (h : rI9 a) : rI9 (zn9 k * a) := by
  unfold rI9 at *
  rcases zn_pm k with h9 | h9 <;> rw [h9] <;> omega
theorem rI_of {a : Int} {k : Nat} (hk : 1 ≤ k) (h : rI9 ((k : Int) * a)) : rI9 a := by
  unfold rI9 at *
  have h1 : (1 : Int) ≤ (k : Int) := by omega
  rcases Int.le_total 0 a with h2 | h2
  · have := Int.mul_le_mul_of_nonneg_right h1 h2
    omega
  · have := Int.mul_le_mul_of_nonpos_right h1 h2
    omega
variable {vl : Nat → Nat} {y : ow_MS}
theorem te_signChanges {n : Nat} {x2 : Int32} {d : Nat → Int} (hn : n ≤ 8) (hx : x2 = 1 ∨ x2 = -1) (hd : ∀ i, i ≤ n → y.2.2 6008 i * (if x2 = -1 ∧ i % 2 = 1 then (-1 : Int32).toInt64 else (1 : Int32).toInt64) = Int64.ofInt (d (n - i)) ∧ rI9 (d (n - i))) : Te (fun K => ce_X4_signChanges vl K 6000 (nI n) x2 y) (fun r => r.1 = nI (wv9 d n).1 ∧ r.2 = y) := by
  have c1 : ∀ (r i cnt : Nat) (l : Int), i + r = n + 1 → rI9 l → Tt (fun K k => c_X4_signChanges vl K k 1 (nI n) x2 (nI cnt) (nI i) (Int64.ofInt l) 0 6000 0 0 0 y) (fun o => o.1 = nI (cnt + gC9 d r l) ∧ o.2 = y) := by
    intro r
    induction r with
    | zero =>
      intro i cnt l hi hl
      refine u_X4_signChanges_1 ?_; unfold cm_X4_signChanges_1
      exact w_ltT (by omega) (by omega) (w_some ⟨rfl, rfl⟩)
    | succ r ih =>
      intro i cnt l hi hl
      obtain ⟨hd1, hd2⟩ := hd i (by omega)
      rw [show n - i = r by omega] at hd1 hd2
      have c7 : ∀ (cnt2 : Nat) (l2 : Int) (w7 : Int64), rI9 l2 → cnt2 + gC9 d r l2 = cnt + gC9 d (r + 1) l → Tt (fun K k => c_X4_signChanges vl K k 7 (nI n) x2 (nI cnt2) (nI i) (Int64.ofInt l2) w7 6000 0 0 0 y) (fun o => o.1 = nI (cnt + gC9 d (r + 1) l) ∧ o.2 = y) := by
        intro cnt2 l2 w7 h1 h2
        refine u_X4_signChanges_7 ?_; unfold cm_X4_signChanges_7
        rw [nI_1, ← h2]
        exact ih (i + 1) cnt2 l2 (by omega) h1
      have c6 : ∀ (cnt2 : Nat), cnt2 + gC9 d r (d r) = cnt + gC9 d (r + 1) l → Tt (fun K k => c_X4_signChanges vl K k 6 (nI n) x2 (nI cnt2) (nI i) (Int64.ofInt l) (Int64.ofInt (d r)) 6000 0 0 0 y) (fun o => o.1 = nI (cnt + gC9 d (r + 1) l) ∧ o.2 = y) := by
        intro cnt2 h2
        refine u_X4_signChanges_6 ?_; unfold cm_X4_signChanges_6
        exact c7 cnt2 (d r) _ hd2 h2
      have hg : d r ≠ 0 → gC9 d (r + 1) l = (if opp9 l (d r) then 1 else 0) + gC9 d r (d r) := fun h => if_neg h
      have c5 : d r ≠ 0 → opp9 l (d r) → Tt (fun K k => c_X4_signChanges vl K k 5 (nI n) x2 (nI cnt) (nI i) (Int64.ofInt l) (Int64.ofInt (d r)) 6000 0 0 0 y) (fun o => o.1 = nI (cnt + gC9 d (r + 1) l) ∧ o.2 = y) := by
        intro h0 ho
        refine u_X4_signChanges_5 ?_; unfold cm_X4_signChanges_5
        rw [nI_1 cnt]
        exact c6 (cnt + 1) (by rw [hg h0, if_pos ho]; omega)
      have c4 : d r ≠ 0 → ¬ (l < 0 ∧ 0 < d r) → Tt (fun K k => c_X4_signChanges vl K k 4 (nI n) x2 (nI cnt) (nI i) (Int64.ofInt l) (Int64.ofInt (d r)) 6000 0 0 0 y) (fun o => o.1 = nI (cnt + gC9 d (r + 1) l) ∧ o.2 = y) := by
        intro h0 hno
        refine u_X4_signChanges_4 ?_; unfold cm_X4_signChanges_4
        refine w_if (fun h1 => ?_) (fun h1 => w_if (fun h2 => ?_) (fun h2 => ?_))
        · rw [lg_le hl] at h1
          exact c6 cnt (by rw [hg h0, if_neg (by unfold opp9; omega)]; omega)
        · rw [lg_ge hd2] at h2
          exact c6 cnt (by rw [hg h0, if_neg (by unfold opp9; omega)]; omega)
        · rw [lg_le hl] at h1
          rw [lg_ge hd2] at h2
          exact c5 h0 (by unfold opp9; omega)
      have c3 : ∀ (t0 : Int32) (y1 : Int64), y1 * t0.toInt64 = Int64.ofInt (d r) → Tt (fun K k => c_X4_signChanges vl K k 3 (nI n) x2 (nI cnt) (nI i) (Int64.ofInt l) 0 6000 t0 0 y1 y) (fun o => o.1 = nI (cnt + gC9 d (r + 1) l) ∧ o.2 = y) := by
        intro t0 y1 he
        refine u_X4_signChanges_3 ?_; unfold cm_X4_signChanges_3
        rw [he]
        refine w_if (fun h0 => ?_) (fun h0 => w_if (fun h1 => ?_) (fun h1 => w_if (fun h2 => ?_) (fun h2 => ?_)))
        · rw [lg_0 hd2] at h0
          exact c7 cnt l _ hl (by rw [show gC9 d (r + 1) l = gC9 d r l from if_pos h0])
        · rw [lg_0 hd2] at h0
          rw [lg_ge hl] at h1
          exact c4 h0 (by omega)
        · rw [lg_0 hd2] at h0
          rw [lg_ge hl] at h1
          rw [lg_g hd2] at h2
          exact c5 h0 (by unfold opp9; omega)
        · rw [lg_0 hd2] at h0
          rw [lg_g hd2] at h2
          exact c4 h0 (by omega)
      have c2 : ∀ (y0 : Int64), y0 * (1 : Int32).toInt64 = Int64.ofInt (d r) → Tt (fun K k => c_X4_signChanges vl K k 2 (nI n) x2 (nI cnt) (nI i) (Int64.ofInt l) 0 6000 0 y0 0 y) (fun o => o.1 = nI (cnt + gC9 d (r + 1) l) ∧ o.2 = y) := by
        intro y0 he
        refine u_X4_signChanges_2 ?_; unfold cm_X4_signChanges_2
        exact c3 1 y0 he
      have an : nI i &&& 1 = 1 ↔ i % 2 = 1 := by
        have key : ∀ i : Fin 9, (nI i.val &&& 1 = 1 ↔ i.val % 2 = 1) := by decide +kernel
        exact key ⟨i, by omega⟩
      refine u_X4_signChanges_1 ?_; unfold cm_X4_signChanges_1
      refine w_ltF (by omega) (by omega) (w_crJ ch_6008 rfl (by omega) rfl (w_if (fun h1 => ?_) (fun h1 => w_if (fun h2 => ?_) (fun h2 => ?_))))
      · refine c2 _ ?_
        rw [if_neg (fun h9 => by rw [h9.1] at h1; exact absurd h1 (by decide))] at hd1
        exact hd1
      · refine c3 _ _ ?_
        have hx1 : x2 = -1 := by
          rcases hx with h9 | h9
          · rw [h9] at h1
            exact absurd (by decide) h1
          · exact h9
        rw [if_pos ⟨hx1, an.mp h2⟩] at hd1
        exact hd1
      · refine c2 _ ?_
        rw [if_neg (fun h9 => h2 (an.mpr h9.2))] at hd1
        exact hd1
  refine e_X4_signChanges ?_
  refine u_X4_signChanges_0 ?_; unfold cm_X4_signChanges_0
  have := c1 (n + 1) 0 0 0 (by omega) (by unfold rI9; omega)
  rw [gC_0, Nat.zero_add] at this
  exact this
end XSGN
