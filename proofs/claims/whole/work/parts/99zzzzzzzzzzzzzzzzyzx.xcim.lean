/-! rank: both sides tell D -/
section XCL4
variable {X : (Nat → Nat → Int32) → Prop} {z y : ow_MS} {vl : Nat → Nat} {x x' : Int32} {D : Int → Int → Int}
theorem i32_bd (x : Int32) : -(2 ^ 31 : Int) ≤ x.toInt ∧ x.toInt < 2 ^ 31 := ⟨Int32.le_toInt x, Int32.toInt_lt x⟩
theorem l64_add {a b : Int64} {p q : Int} (h1 : a.toInt = p) (h2 : b.toInt = q) (l : -(2 ^ 63 : Int) ≤ p + q) (u : p + q < 2 ^ 63) : (a + b).toInt = p + q := by
  rw [Int64.toInt_add, h1, h2]
  exact Int.bmod_eq_of_le (by omega) (by omega)
theorem l64_sub {a b : Int64} {p q : Int} (h1 : a.toInt = p) (h2 : b.toInt = q) (l : -(2 ^ 63 : Int) ≤ p - q) (u : p - q < 2 ^ 63) : (a - b).toInt = p - q := by
  rw [Int64.toInt_sub, h1, h2]
  exact Int.bmod_eq_of_le (by omega) (by omega)
theorem i64_of (x : Int32) : x.toInt64.toInt = x.toInt := Int32.toInt_toInt64 x
theorem lg_i0 {w b : Int64} : lg_cmp w b < 0 ↔ w.toInt < b.toInt := (lg_cmp_lt _ _).trans Int64.lt_iff_toInt_lt
theorem lg_i1 {w b : Int64} : 0 < lg_cmp w b ↔ b.toInt < w.toInt := (lg_cmp_gt _ _).trans Int64.lt_iff_toInt_lt
theorem l64_n {w : Int64} (h : 0 ≤ w.toInt) (h2 : w.toInt < 2 ^ 31) : w = lN w.toInt.toNat := by
  refine Int64.toInt_inj.mp ?_
  rw [lN_toInt (by omega)]
  omega
theorem re_rank (h : trD D z) : Te (fun K => qe_X13_rank K x x' z) (fun r => r.2.1 1 = 0 ∧ r.1 = iI (D x.toInt x'.toInt)) := by
  obtain ⟨ng, n1, n2, n3, n4⟩ := h
  have c1 : ∀ w : Int64, D x.toInt x'.toInt = 0 → Tt (fun K k => q_X13_rank K k 1 x x' w (usF z 1 0)) (fun r => r.2.1 1 = 0 ∧ r.1 = iI (D x.toInt x'.toInt)) := by
    intro w hD
    refine u_X13_rank_1 ?_; unfold qm_X13_rank_1
    rw [hD]
    exact w_some ⟨po_usF_at, rfl⟩
  have bx := i32_bd x
  have e88 : (usF z 1 0).1 88 = nI ng := (po_usF_ot (by omega)).trans n2
  have hw : (x.toInt64 + (nI ng).toInt64).toInt = x.toInt + ng := l64_add (i64_of x) ((i64_of _).trans (nI_toInt (by omega))) (by omega) (by omega)
  refine e_X13_rank ?_
  refine u_X13_rank_0 ?_; unfold qm_X13_rank_0
  refine w_wrF (w_rdF e88 ?_)
  generalize x.toInt64 + (nI ng).toInt64 = w at hw
  refine w_if (fun a1 => c1 _ ?_) (fun a1 => w_if (fun a2 => c1 _ ?_) (fun a2 => w_if (fun a3 => c1 _ ?_) (fun a3 => w_if (fun a4 => ?_) (fun a4 => c1 _ ?_))))
  · have a1 := lg_i0.mp a1
    rw [hw] at a1
    exact n4 _ _ (Or.inl a1)
  · have a2 := lg_i1.mp a2
    rw [hw] at a2
    exact n4 _ _ (Or.inr (Or.inl a2))
  · have a3 := Int32.lt_iff_toInt_lt.mp a3
    exact n4 _ _ (Or.inr (Or.inr (Or.inl a3)))
  · have a1 : ¬ w.toInt < 0 := fun h => a1 (lg_i0.mpr h)
    have a2 : ¬ 9 < w.toInt := fun h => a2 (lg_i1.mpr h)
    have a3 : ¬ x'.toInt < -40 := fun h => a3 (Int32.lt_iff_toInt_lt.mpr h)
    have a4 : x'.toInt < 40 := Int32.lt_iff_toInt_lt.mp a4
    have e1 : w.toInt32 = nI (x.toInt + ng).toNat := by
      rw [l64_n (w := w) (by omega) (by omega), lN_i, hw]
    have e2 : x' + 40 = nI (x'.toInt + 40).toNat := by
      refine Int32.toInt_inj.mp ?_
      rw [nI_toInt (by omega), Int32.toInt_add, show (40 : Int32).toInt = 40 from by decide]
      refine (Int.bmod_eq_of_le (by omega) (by omega)).trans ?_
      omega
    have e3 : 80 * w.toInt32 + x' + 40 = nI (80 * (x.toInt + ng).toNat + (x'.toInt + 40).toNat) := by
      rw [Int32.add_assoc, e2, e1, show (80 : Int32) * nI (x.toInt + ng).toNat = nI (80 * (x.toInt + ng).toNat) from pk_mul 80 _, nI_add]
    refine w_rdI ml87 e3 (by omega) rfl (w_some ⟨po_usF_at, ?_⟩)
    refine (n3 (x.toInt + ng).toNat (x'.toInt + 40).toNat (by omega) (by omega)).trans ?_
    rw [show (((x.toInt + ng).toNat : Nat) : Int) - ng = x.toInt by omega, show (((x'.toInt + 40).toNat : Nat) : Int) - 40 = x'.toInt by omega]
  · have a4 : ¬ x'.toInt < 40 := fun h => a4 (Int32.lt_iff_toInt_lt.mpr h)
    exact n4 _ _ (Or.inr (Or.inr (Or.inr (by omega))))
theorem te_rankAt (h : tcD D y) : Te (fun K => ce_X1_rankAt vl K 43000 x x' y) (fun r => r.2 = y ∧ r.1 = iI (D x.toInt x'.toInt)) := by
  obtain ⟨c', n', CT, k1, k2, k3, k4, k5, k6, k7⟩ := h
  have c1 : ∀ a b : Int64, D x.toInt x'.toInt = 0 → Tt (fun K t => c_X1_rankAt vl K t 1 x x' a b 43000 y) (fun r => r.2 = y ∧ r.1 = iI (D x.toInt x'.toInt)) := by
    intro a b hD
    refine u_X1_rankAt_1 ?_; unfold cm_X1_rankAt_1
    rw [hD]
    exact w_some ⟨rfl, rfl⟩
  have bx := i32_bd x
  have bx' := i32_bd x'
  have hn : (nI n').toInt64.toInt = n' := (i64_of _).trans (nI_toInt (by omega))
  have hwr : (iI ((c' : Int) - 2 * n')).toInt64.toInt = (c' : Int) - 2 * n' := (i64_of _).trans (iI_toInt (by omega) (by omega))
  have hw : (x.toInt64 + (nI n').toInt64).toInt = x.toInt + n' := l64_add (i64_of x) hn (by omega) (by omega)
  have hu : (x'.toInt64 - (iI ((c' : Int) - 2 * n')).toInt64 + (nI n').toInt64 - (-20)).toInt = x'.toInt - (c' - 2 * n') + n' - (-20) := l64_sub (l64_add (l64_sub (i64_of x') hwr (by omega) (by omega)) hn (by omega) (by omega)) (by decide) (by omega) (by omega)
  refine e_X1_rankAt ?_
  refine u_X1_rankAt_0 ?_; unfold cm_X1_rankAt_0
  refine w_rdF k4 (w_rdF k3 (w_rdF k4 ?_))
  generalize x.toInt64 + (nI n').toInt64 = w at hw
  generalize x'.toInt64 - (iI ((c' : Int) - 2 * n')).toInt64 + (nI n').toInt64 - (-20) = u at hu
  refine w_if (fun a1 => c1 _ _ ?_) (fun a1 => w_if (fun a2 => c1 _ _ ?_) (fun a2 => w_if (fun a3 => c1 _ _ ?_) (fun a3 => w_if (fun a4 => ?_) (fun a4 => c1 _ _ ?_))))
  · have a1 : w.toInt < 0 := lg_i0.mp a1
    rw [k7, if_neg (by omega)]
  · have a2 : 8 < w.toInt := lg_i1.mp a2
    rw [k7]
    by_cases h9 : 0 ≤ x.toInt + n'
    · rw [if_pos h9]
      exact k6 _ _ (Or.inl (by omega))
    · rw [if_neg h9]
  · have a3 : u.toInt < 0 := lg_i0.mp a3
    rw [k7]
    by_cases h9 : 0 ≤ x.toInt + n'
    · rw [if_pos h9]
      exact k6 _ _ (Or.inr (Or.inl (by omega)))
    · rw [if_neg h9]
  · have a1 : ¬ w.toInt < 0 := fun h => a1 (lg_i0.mpr h)
    have a2 : ¬ 8 < w.toInt := fun h => a2 (lg_i1.mpr h)
    have a3 : ¬ u.toInt < 0 := fun h => a3 (lg_i0.mpr h)
    have a4 : u.toInt < 56 := lg_i0.mp a4
    have key : ∀ (a : Fin 9) (b : Fin 56), (lN a.val * 56 + lN b.val).toInt32 = nI (a.val * 56 + b.val) := by decide +kernel
    have e := key ⟨w.toInt.toNat, by omega⟩ ⟨u.toInt.toNat, by omega⟩
    dsimp only at e
    rw [← l64_n (w := w) (by omega) (by omega), ← l64_n (w := u) (by omega) (by omega)] at e
    refine w_crI ch_43018 e (by omega) rfl (w_some ⟨rfl, ?_⟩)
    refine (k5 (w.toInt.toNat * 56 + u.toInt.toNat) (by omega)).trans ?_
    rw [k7, if_pos (by omega), show (w.toInt.toNat * 56 + u.toInt.toNat) / 56 = (x.toInt + n').toNat by omega, show (((w.toInt.toNat * 56 + u.toInt.toNat) % 56 : Nat) : Int) - 20 = x'.toInt - c' + 3 * n' by omega]
  · have a4 : ¬ u.toInt < 56 := fun h => a4 (lg_i0.mpr h)
    rw [k7]
    by_cases h9 : 0 ≤ x.toInt + n'
    · rw [if_pos h9]
      exact k6 _ _ (Or.inr (Or.inr (by omega)))
    · rw [if_neg h9]
theorem te_rank (h : tcD D y) : Te (fun K => ce_X11_rank vl K 0 x x' y) (fun r => r.2 = y ∧ r.1 = iI (D x.toInt x'.toInt)) := by
  refine e_X11_rank ?_; unfold cm_X11_rank_0
  refine w_cs1 (te_rankAt h) ?_
  rintro v z ⟨e, e2⟩
  exact w_some ⟨e, e2⟩
theorem tcD_k {y1 : ow_MS} (hk : tkC y y1) (h : tcD D y) : tcD D y1 := by
  obtain ⟨c', n', CT, k1, k2, k3, k4, k5, k6, k7⟩ := h
  exact ⟨c', n', CT, k1, k2, hk.1.trans k3, hk.2.1.trans k4, fun i hi => by rw [hk.2.2]; exact k5 i hi, k6, k7⟩
theorem trD_k {z1 : ow_MS} (hk : tkR z z1) (h : trD D z) : trD D z1 := by
  obtain ⟨ng, n1, n2, n3, n4⟩ := h
  exact ⟨ng, n1, hk.1.trans n2, fun r q hr hq => by rw [hk.2]; exact n3 r q hr hq, n4⟩
theorem tcD_0 (h1 : y.1 43019 = 0) (h2 : y.1 43020 = 0) (h3 : ∀ i, y.2.1 43018 i = 0) : tcD (fun _ _ => 0) y := ⟨0, 0, fun _ _ => 0, Nat.le_refl _, by omega, h1, h2, fun i _ => h3 i, fun _ _ _ => rfl, fun i q => by split <;> rfl⟩
theorem trD_0 (h1 : z.1 88 = 0) (h3 : ∀ i, z.2.1 87 i = 0) : trD (fun _ _ => 0) z := ⟨0, by omega, h1, fun r q _ _ => h3 _, fun _ _ _ => rfl⟩
end XCL4
