/-! what the class's constructors write: binomials -/
theorem binN_0 : ∀ {m i : Nat}, m < i → binN m i = 0
  | 0, 0, h => absurd h (by omega)
  | 0, _ + 1, _ => rfl
  | m + 1, 0, h => absurd h (by omega)
  | m + 1, i + 1, h => by
    show binN m i + binN m (i + 1) = 0
    rw [binN_0 (show m < i by omega), binN_0 (show m < i + 1 by omega)]
theorem binN_z (m : Nat) : binN m 0 = 1 := by cases m <;> rfl
theorem biN_n : ∀ m i, biN m i = binN m i
  | 0, 0 => rfl
  | 0, _ + 1 => rfl
  | m + 1, 0 => by
    show biN m 0 + 0 = 1
    rw [biN_n m 0, binN_z]
  | m + 1, i + 1 => by
    show biN m (i + 1) + biN m i = binN m i + binN m (i + 1)
    rw [biN_n m (i + 1), biN_n m i]
    omega
section XIb8
variable {z : ow_MS}
theorem ch_b8 {m : Nat} (hm : m < 24) : (cT8.2 (39001 + m)).2.1 = 24 := by
  have key : ∀ m : Fin 24, (cT8.2 (39001 + m.val)).2.1 = 24 := by decide +kernel
  exact key ⟨m, hm⟩
theorem u_X8i_b8_1 {x1 : Int32} {x2 : Int32} {r0 : Nat} {z : ow_MS} {Q : ow_MS → Prop} (H : Tt (fun K k => cm_X8i_1_b8 K (c_X8i_b8 K k) x1 x2 r0 z) Q) : Tt (fun K k => c_X8i_b8 K k 1 x1 x2 r0 z) Q := w_un (fun _ _ => rfl) H
theorem u_X8i_b8_2 {x1 : Int32} {x2 : Int32} {r0 : Nat} {z : ow_MS} {Q : ow_MS → Prop} (H : Tt (fun K k => cm_X8i_2_b8 K (c_X8i_b8 K k) x1 x2 r0 z) Q) : Tt (fun K k => c_X8i_b8 K k 2 x1 x2 r0 z) Q := w_un (fun _ _ => rfl) H
theorem e_X8i_b8 {r0 : Nat} {z : ow_MS} {Q : ow_MS → Prop} (H : Tt (fun K k => c_X8i_b8 K k 0 0 0 r0 z) Q) : Te (fun K => ce_X8i_b8 K r0 z) Q := w_te H
theorem u_X8i_b8_0 {x1 : Int32} {x2 : Int32} {r0 : Nat} {z : ow_MS} {Q : ow_MS → Prop} (H : Tt (fun K k => cm_X8i_0_b8 K (c_X8i_b8 K k) x1 x2 r0 z) Q) : Tt (fun K k => c_X8i_b8 K k 0 x1 x2 r0 z) Q := w_un (fun _ _ => rfl) H
theorem ti_b8 (h0 : ∀ m i, m < 24 → z.2.1 (39001 + m) i = 0) : Te (fun K => ce_X8i_b8 K 24000 z) (fun z1 => (∀ m i, m < 24 → i ≤ m → z1.2.1 (39001 + m) i = nI (binN m i)) ∧ fr (fun g => 39001 ≤ g ∧ g < 39001 + 24) z z1) := by
  let Q : ow_MS → Prop := fun z1 => (∀ m i, m < 24 → i ≤ m → z1.2.1 (39001 + m) i = nI (binN m i)) ∧ fr (fun g => 39001 ≤ g ∧ g < 39001 + 24) z z1
  let J : Nat → ow_MS → Prop := fun m y => (∀ a i, a < m → y.2.1 (39001 + a) i = nI (binN a i)) ∧ fr (fun g => 39001 ≤ g ∧ g < 39001 + 24) z y
  have c1 : ∀ (d m : Nat) (y : ow_MS), m + d = 24 → J m y → (∀ a i, m ≤ a → a < 24 → y.2.1 (39001 + a) i = 0) → Tt (fun K t => c_X8i_b8 K t 1 (nI m) 0 24000 y) Q := by
    intro d
    induction d with
    | zero =>
      intro m y hm hj _
      refine u_X8i_b8_1 ?_; unfold cm_X8i_1_b8
      exact w_leT (a := 24) (by omega) (by omega) (w_some ⟨fun a i ha hi => hj.1 a i (by omega), hj.2⟩)
    | succ d ih =>
      intro m y hm hj hz
      have c2 : ∀ (e j : Nat) (y : ow_MS), j + e = m + 1 → 1 ≤ j → J m y → (∀ a i, m + 1 ≤ a → a < 24 → y.2.1 (39001 + a) i = 0) → (∀ i, y.2.1 (39001 + m) i = if i < j then nI (binN m i) else 0) → Tt (fun K t => c_X8i_b8 K t 2 (nI m) (nI j) 24000 y) Q := by
        intro e
        induction e with
        | zero =>
          intro j y hj0 hj1 hj hz hr
          have ej : j = m + 1 := by omega
          refine u_X8i_b8_2 ?_; unfold cm_X8i_2_b8
          rw [nI_1]
          refine w_ltT (by omega) (by omega) (ih (m + 1) y (by omega) ⟨fun a i ha => ?_, hj.2⟩ hz)
          by_cases e9 : a = m
          · rw [e9, hr]
            by_cases hi : i < j
            · rw [if_pos hi]
            · rw [if_neg hi, binN_0 (by omega)]
              rfl
          · exact hj.1 a i (by omega)
        | succ e ihe =>
          intro j y hj0 hj1 hj hz hr
          obtain ⟨m1, rfl⟩ : ∃ m1, m = m1 + 1 := ⟨m - 1, by omega⟩
          obtain ⟨j1, rfl⟩ : ∃ j1, j = j1 + 1 := ⟨j - 1, by omega⟩
          have em : nI (m1 + 1) - 1 = nI m1 := pk_sub (a := m1 + 1) (b := 1) (by omega)
          have ej : nI (j1 + 1) - 1 = nI j1 := pk_sub (a := j1 + 1) (b := 1) (by omega)
          refine u_X8i_b8_2 ?_; unfold cm_X8i_2_b8
          rw [em, ej, show nI (j1 + 1) + 1 = nI (j1 + 1 + 1) from nI_1 _]
          refine w_ltF (by omega) (by omega) (w_crX rfl (show m1 + 1 < 24 by omega) (w_crX rfl (show m1 < 24 by omega) (w_crI (ch_b8 (show m1 < 24 by omega)) rfl (show j1 < 24 by omega) (hj.1 m1 j1 (by omega)) (w_crX rfl (show m1 < 24 by omega) (w_crI (ch_b8 (show m1 < 24 by omega)) rfl (show j1 + 1 < 24 by omega) (hj.1 m1 (j1 + 1) (by omega)) (w_ctI (ch_b8 (show m1 + 1 < 24 by omega)) rfl (show j1 + 1 < 24 by omega) ?_))))))
          refine ihe (j1 + 1 + 1) _ (by omega) (by omega) ⟨fun a i ha => ?_, fr_I2 hj.2 (by omega)⟩ (fun a i ha ha2 => ?_) (fun i => ?_)
          · rw [rd_ot (show 39001 + a ≠ 24000 + 15001 + (m1 + 1) by omega)]
            exact hj.1 a i ha
          · rw [rd_ot (show 39001 + a ≠ 24000 + 15001 + (m1 + 1) by omega)]
            exact hz a i ha ha2
          · by_cases e9 : i = j1 + 1
            · rw [e9, if_pos (by omega)]
              have : (usI y (24000 + 15001 + (m1 + 1)) (j1 + 1) (nI (binN m1 j1) + nI (binN m1 (j1 + 1)))).2.1 (39001 + (m1 + 1)) (j1 + 1) = nI (binN m1 j1) + nI (binN m1 (j1 + 1)) := po_usI_at
              rw [this, nI_add]
              rfl
            · have : (usI y (24000 + 15001 + (m1 + 1)) (j1 + 1) (nI (binN m1 j1) + nI (binN m1 (j1 + 1)))).2.1 (39001 + (m1 + 1)) i = y.2.1 (39001 + (m1 + 1)) i := rd_ne e9 rfl
              rw [this, hr]
              by_cases h1 : i < j1 + 1
              · rw [if_pos h1, if_pos (by omega)]
              · rw [if_neg h1, if_neg (by omega)]
      refine u_X8i_b8_1 ?_; unfold cm_X8i_1_b8
      refine w_leF (a := 24) (by omega) (by omega) (w_crX rfl (show m < 24 by omega) (w_ctI (ch_b8 (show m < 24 by omega)) nI_0.symm (by omega) (c2 m 1 _ (by omega) (by omega) ⟨fun a i ha => ?_, fr_I2 hj.2 (by omega)⟩ (fun a i ha ha2 => ?_) (fun i => ?_))))
      · rw [rd_ot (show 39001 + a ≠ 24000 + 15001 + m by omega)]
        exact hj.1 a i ha
      · rw [rd_ot (show 39001 + a ≠ 24000 + 15001 + m by omega)]
        exact hz a i (by omega) ha2
      · by_cases e9 : i = 0
        · rw [e9, if_pos (by omega), binN_z]
          exact po_usI_at
        · have : (usI y (24000 + 15001 + m) 0 1).2.1 (39001 + m) i = y.2.1 (39001 + m) i := rd_ne e9 rfl
          rw [this, hz m i (Nat.le_refl _) (by omega), if_neg (by omega)]
  refine e_X8i_b8 ?_
  refine u_X8i_b8_0 ?_; unfold cm_X8i_0_b8
  exact c1 24 0 z (by omega) ⟨fun a i ha => absurd ha (Nat.not_lt_zero _), fr_rf⟩ (fun a i _ ha => h0 a i ha)
end XIb8
section XIb1
variable {z : ow_MS}
theorem ch_b1 {m : Nat} (hm : m < 11) : (cT1.2 (45001 + m)).2.1 = 11 := by
  have key : ∀ m : Fin 11, (cT1.2 (45001 + m.val)).2.1 = 11 := by decide +kernel
  exact key ⟨m, hm⟩
theorem u_X1i_b1_1 {x1 : Int32} {x2 : Int32} {r0 : Nat} {z : ow_MS} {Q : ow_MS → Prop} (H : Tt (fun K k => cm_X1i_1_b1 K (c_X1i_b1 K k) x1 x2 r0 z) Q) : Tt (fun K k => c_X1i_b1 K k 1 x1 x2 r0 z) Q := w_un (fun _ _ => rfl) H
theorem u_X1i_b1_2 {x1 : Int32} {x2 : Int32} {r0 : Nat} {z : ow_MS} {Q : ow_MS → Prop} (H : Tt (fun K k => cm_X1i_2_b1 K (c_X1i_b1 K k) x1 x2 r0 z) Q) : Tt (fun K k => c_X1i_b1 K k 2 x1 x2 r0 z) Q := w_un (fun _ _ => rfl) H
theorem e_X1i_b1 {r0 : Nat} {z : ow_MS} {Q : ow_MS → Prop} (H : Tt (fun K k => c_X1i_b1 K k 0 0 0 r0 z) Q) : Te (fun K => ce_X1i_b1 K r0 z) Q := w_te H
theorem u_X1i_b1_0 {x1 : Int32} {x2 : Int32} {r0 : Nat} {z : ow_MS} {Q : ow_MS → Prop} (H : Tt (fun K k => cm_X1i_0_b1 K (c_X1i_b1 K k) x1 x2 r0 z) Q) : Tt (fun K k => c_X1i_b1 K k 0 x1 x2 r0 z) Q := w_un (fun _ _ => rfl) H
theorem ti_b1 (h0 : ∀ m i, m < 11 → z.2.1 (45001 + m) i = 0) : Te (fun K => ce_X1i_b1 K 43000 z) (fun z1 => (∀ m i, m < 11 → i ≤ m → z1.2.1 (45001 + m) i = nI (binN m i)) ∧ fr (fun g => 45001 ≤ g ∧ g < 45001 + 11) z z1) := by
  let Q : ow_MS → Prop := fun z1 => (∀ m i, m < 11 → i ≤ m → z1.2.1 (45001 + m) i = nI (binN m i)) ∧ fr (fun g => 45001 ≤ g ∧ g < 45001 + 11) z z1
  let J : Nat → ow_MS → Prop := fun m y => (∀ a i, a < m → y.2.1 (45001 + a) i = nI (binN a i)) ∧ fr (fun g => 45001 ≤ g ∧ g < 45001 + 11) z y
  have c1 : ∀ (d m : Nat) (y : ow_MS), m + d = 11 → J m y → (∀ a i, m ≤ a → a < 11 → y.2.1 (45001 + a) i = 0) → Tt (fun K t => c_X1i_b1 K t 1 (nI m) 0 43000 y) Q := by
    intro d
    induction d with
    | zero =>
      intro m y hm hj _
      refine u_X1i_b1_1 ?_; unfold cm_X1i_1_b1
      exact w_ltT (a := 10) (by omega) (by omega) (w_some ⟨fun a i ha hi => hj.1 a i (by omega), hj.2⟩)
    | succ d ih =>
      intro m y hm hj hz
      have c2 : ∀ (e j : Nat) (y : ow_MS), j + e = m + 1 → 1 ≤ j → J m y → (∀ a i, m + 1 ≤ a → a < 11 → y.2.1 (45001 + a) i = 0) → (∀ i, y.2.1 (45001 + m) i = if i < j then nI (binN m i) else 0) → Tt (fun K t => c_X1i_b1 K t 2 (nI m) (nI j) 43000 y) Q := by
        intro e
        induction e with
        | zero =>
          intro j y hj0 hj1 hj hz hr
          have ej : j = m + 1 := by omega
          refine u_X1i_b1_2 ?_; unfold cm_X1i_2_b1
          rw [nI_1]
          refine w_ltT (by omega) (by omega) (ih (m + 1) y (by omega) ⟨fun a i ha => ?_, hj.2⟩ hz)
          by_cases e9 : a = m
          · rw [e9, hr]
            by_cases hi : i < j
            · rw [if_pos hi]
            · rw [if_neg hi, binN_0 (by omega)]
              rfl
          · exact hj.1 a i (by omega)
        | succ e ihe =>
          intro j y hj0 hj1 hj hz hr
          obtain ⟨m1, rfl⟩ : ∃ m1, m = m1 + 1 := ⟨m - 1, by omega⟩
          obtain ⟨j1, rfl⟩ : ∃ j1, j = j1 + 1 := ⟨j - 1, by omega⟩
          have em : nI (m1 + 1) - 1 = nI m1 := pk_sub (a := m1 + 1) (b := 1) (by omega)
          have ej : nI (j1 + 1) - 1 = nI j1 := pk_sub (a := j1 + 1) (b := 1) (by omega)
          refine u_X1i_b1_2 ?_; unfold cm_X1i_2_b1
          rw [em, ej, show nI (j1 + 1) + 1 = nI (j1 + 1 + 1) from nI_1 _]
          refine w_ltF (by omega) (by omega) (w_crX rfl (show m1 + 1 < 11 by omega) (w_crX rfl (show m1 < 11 by omega) (w_crI (ch_b1 (show m1 < 11 by omega)) rfl (show j1 < 11 by omega) (hj.1 m1 j1 (by omega)) (w_crX rfl (show m1 < 11 by omega) (w_crI (ch_b1 (show m1 < 11 by omega)) rfl (show j1 + 1 < 11 by omega) (hj.1 m1 (j1 + 1) (by omega)) (w_ctI (ch_b1 (show m1 + 1 < 11 by omega)) rfl (show j1 + 1 < 11 by omega) ?_))))))
          refine ihe (j1 + 1 + 1) _ (by omega) (by omega) ⟨fun a i ha => ?_, fr_I2 hj.2 (by omega)⟩ (fun a i ha ha2 => ?_) (fun i => ?_)
          · rw [rd_ot (show 45001 + a ≠ 43000 + 2001 + (m1 + 1) by omega)]
            exact hj.1 a i ha
          · rw [rd_ot (show 45001 + a ≠ 43000 + 2001 + (m1 + 1) by omega)]
            exact hz a i ha ha2
          · by_cases e9 : i = j1 + 1
            · rw [e9, if_pos (by omega)]
              have : (usI y (43000 + 2001 + (m1 + 1)) (j1 + 1) (nI (binN m1 j1) + nI (binN m1 (j1 + 1)))).2.1 (45001 + (m1 + 1)) (j1 + 1) = nI (binN m1 j1) + nI (binN m1 (j1 + 1)) := po_usI_at
              rw [this, nI_add]
              rfl
            · have : (usI y (43000 + 2001 + (m1 + 1)) (j1 + 1) (nI (binN m1 j1) + nI (binN m1 (j1 + 1)))).2.1 (45001 + (m1 + 1)) i = y.2.1 (45001 + (m1 + 1)) i := rd_ne e9 rfl
              rw [this, hr]
              by_cases h1 : i < j1 + 1
              · rw [if_pos h1, if_pos (by omega)]
              · rw [if_neg h1, if_neg (by omega)]
      refine u_X1i_b1_1 ?_; unfold cm_X1i_1_b1
      refine w_ltF (a := 10) (by omega) (by omega) (w_crX rfl (show m < 11 by omega) (w_ctI (ch_b1 (show m < 11 by omega)) nI_0.symm (by omega) (c2 m 1 _ (by omega) (by omega) ⟨fun a i ha => ?_, fr_I2 hj.2 (by omega)⟩ (fun a i ha ha2 => ?_) (fun i => ?_))))
      · rw [rd_ot (show 45001 + a ≠ 43000 + 2001 + m by omega)]
        exact hj.1 a i ha
      · rw [rd_ot (show 45001 + a ≠ 43000 + 2001 + m by omega)]
        exact hz a i (by omega) ha2
      · by_cases e9 : i = 0
        · rw [e9, if_pos (by omega), binN_z]
          exact po_usI_at
        · have : (usI y (43000 + 2001 + m) 0 1).2.1 (45001 + m) i = y.2.1 (45001 + m) i := rd_ne e9 rfl
          rw [this, hz m i (Nat.le_refl _) (by omega), if_neg (by omega)]
  refine e_X1i_b1 ?_
  refine u_X1i_b1_0 ?_; unfold cm_X1i_0_b1
  exact c1 11 0 z (by omega) ⟨fun a i ha => absurd ha (Nat.not_lt_zero _), fr_rf⟩ (fun a i _ ha => h0 a i ha)
end XIb1
