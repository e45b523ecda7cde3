/-! what the class's constructors write: places of numbers, permutations -/
section XJ1
variable {z : ow_MS}
theorem ch_b1b : (cT1b.2 43005).2.1 = 1024 := by decide +kernel
theorem ch_b1r : (cT1b.2 53001).2.1 = 11 := by decide +kernel
theorem u_X1j_b1b_1 {x2 : Int32} {r0 : Nat} {r1 : Nat} {z : ow_MS} {Q : ow_MS → Prop} (H : Tt (fun K k => cm_X1j_1_b1b K (c_X1j_b1b K k) x2 r0 r1 z) Q) : Tt (fun K k => c_X1j_b1b K k 1 x2 r0 r1 z) Q := w_un (fun _ _ => rfl) H
theorem e_X1j_b1b {r0 : Nat} {r1 : Nat} {z : ow_MS} {Q : ow_MS → Prop} (H : Tt (fun K k => c_X1j_b1b K k 0 0 r0 r1 z) Q) : Te (fun K => ce_X1j_b1b K r0 r1 z) Q := w_te H
theorem u_X1j_b1b_0 {x2 : Int32} {r0 : Nat} {r1 : Nat} {z : ow_MS} {Q : ow_MS → Prop} (H : Tt (fun K k => cm_X1j_0_b1b K (c_X1j_b1b K k) x2 r0 r1 z) Q) : Tt (fun K k => c_X1j_b1b K k 0 x2 r0 r1 z) Q := w_un (fun _ _ => rfl) H
theorem ti_b1b (h0 : ∀ r, z.2.1 53001 r = 0) : Te (fun K => ce_X1j_b1b K 43000 53001 z) (fun z1 => (∀ m, m < 1024 → z1.2.1 43005 m = nI (cpN (pc m) m)) ∧ fr (fun g => g = 43005 ∨ g = 53001) z z1) := by
  let Q : ow_MS → Prop := fun z1 => (∀ m, m < 1024 → z1.2.1 43005 m = nI (cpN (pc m) m)) ∧ fr (fun g => g = 43005 ∨ g = 53001) z z1
  have c1 : ∀ (d m : Nat) (y : ow_MS), m + d = 1024 → (∀ i, i < m → y.2.1 43005 i = nI (cpN (pc i) i)) → (∀ r, r < 11 → y.2.1 53001 r = nI (cpN r m)) → fr (fun g => g = 43005 ∨ g = 53001) z y → Tt (fun K t => c_X1j_b1b K t 1 (nI m) 43000 53001 y) Q := by
    intro d
    induction d with
    | zero =>
      intro m y hm h1 h2 hf
      have hl : (Int32.ofNat (uw_len cT1b y (43000 + 5))) = nI 1024 := by
        show nI (cT1b.2 43005).2.1 = nI 1024
        rw [ch_b1b]
      refine u_X1j_b1b_1 ?_; unfold cm_X1j_1_b1b
      rw [hl]
      exact w_leT (by omega) (by omega) (w_some ⟨fun i hi => h1 i (by omega), hf⟩)
    | succ d ih =>
      intro m y hm h1 h2 hf
      have hl : (Int32.ofNat (uw_len cT1b y (43000 + 5))) = nI 1024 := by
        show nI (cT1b.2 43005).2.1 = nI 1024
        rw [ch_b1b]
      have hpc : pc m ≤ 10 := pc_le (c := 10) (by show m < 1024; omega)
      refine u_X1j_b1b_1 ?_; unfold cm_X1j_1_b1b
      rw [hl, bc_pc (show m < 4096 by omega), show nI m + 1 = nI (m + 1) from nI_1 _]
      refine w_leF (by omega) (by omega) (w_crI ch_b1r rfl (show pc m < 11 by omega) (h2 _ (by omega)) (w_ctI ch_b1b rfl (show m < 1024 by omega) (w_crI ch_b1r rfl (show pc m < 11 by omega) (x := nI (cpN (pc m) m)) ?_ (w_ctI ch_b1r rfl (show pc m < 11 by omega) (ih (m + 1) _ (by omega) (fun i hi => ?_) (fun r hr => ?_) (fr_I2 (fr_I2 hf (Or.inl rfl)) (Or.inr rfl)))))))
      · rw [rd_ot (show (53001 : Nat) ≠ 43000 + 5 by omega)]
        exact h2 _ (by omega)
      · rw [rd_ot (show (43005 : Nat) ≠ 53001 by omega)]
        by_cases e : i = m
        · rw [e]
          exact po_usI_at
        · exact rd_ne e (h1 i (by omega))
      · show _ = nI (cpN r m + if pc m = r then 1 else 0)
        by_cases e : r = pc m
        · rw [e, if_pos rfl, po_usI_at]
          exact nI_1 _
        · have : (usI (usI y (43000 + 5) m (nI (cpN (pc m) m))) 53001 (pc m) (nI (cpN (pc m) m) + 1)).2.1 53001 r = (usI y (43000 + 5) m (nI (cpN (pc m) m))).2.1 53001 r := rd_ne e rfl
          have t2 : (usI y (43000 + 5) m (nI (cpN (pc m) m))).2.1 53001 r = nI (cpN r m) := rd_ot (by omega) (h2 r hr)
          rw [this, t2, if_neg (fun e9 => e e9.symm), Nat.add_zero]
  refine e_X1j_b1b ?_
  refine u_X1j_b1b_0 ?_; unfold cm_X1j_0_b1b
  exact c1 1024 0 z (by omega) (fun i hi => absurd hi (Nat.not_lt_zero _)) (fun r _ => h0 r) fr_rf
end XJ1
section XJ0
variable {z : ow_MS}
theorem ch_0r : (cT0.2 53001).2.1 = 24 := by decide +kernel
theorem ch_06 : (cT0.2 41006).2.1 = 576 := by decide +kernel
theorem ch_07 : (cT0.2 41007).2.1 = 24 := by decide +kernel
theorem u_X0_listPermutations_b0_1 {x1 : Int32} {x2 : Int32} {x3 : Int32} {x4 : Int32} {x5 : Int32} {x6 : Int32} {r0 : Nat} {z : ow_MS} {Q : ow_MS → Prop} (H : Tt (fun K k => cm_X0_listPermutations_1_b0 K (c_X0_listPermutations_b0 K k) x1 x2 x3 x4 x5 x6 r0 z) Q) : Tt (fun K k => c_X0_listPermutations_b0 K k 1 x1 x2 x3 x4 x5 x6 r0 z) Q := w_un (fun _ _ => rfl) H
theorem u_X0_listPermutations_b0_2 {x1 : Int32} {x2 : Int32} {x3 : Int32} {x4 : Int32} {x5 : Int32} {x6 : Int32} {r0 : Nat} {z : ow_MS} {Q : ow_MS → Prop} (H : Tt (fun K k => cm_X0_listPermutations_2_b0 K (c_X0_listPermutations_b0 K k) x1 x2 x3 x4 x5 x6 r0 z) Q) : Tt (fun K k => c_X0_listPermutations_b0 K k 2 x1 x2 x3 x4 x5 x6 r0 z) Q := w_un (fun _ _ => rfl) H
theorem e_X0_listPermutations_b0 {r0 : Nat} {z : ow_MS} {Q : ow_MS → Prop} (H : Tt (fun K k => c_X0_listPermutations_b0 K k 0 0 0 0 0 0 0 r0 z) Q) : Te (fun K => ce_X0_listPermutations_b0 K r0 z) Q := w_te H
theorem u_X0_listPermutations_b0_0 {x1 : Int32} {x2 : Int32} {x3 : Int32} {x4 : Int32} {x5 : Int32} {x6 : Int32} {r0 : Nat} {z : ow_MS} {Q : ow_MS → Prop} (H : Tt (fun K k => cm_X0_listPermutations_0_b0 K (c_X0_listPermutations_b0 K k) x1 x2 x3 x4 x5 x6 r0 z) Q) : Tt (fun K k => c_X0_listPermutations_b0 K k 0 x1 x2 x3 x4 x5 x6 r0 z) Q := w_un (fun _ _ => rfl) H
theorem ti_perms : Te (fun K => ce_X0_listPermutations_b0 K 53001 z) (fun z1 => fr (fun g => g = 53001) z z1) := by
  let Q : ow_MS → Prop := fun z1 => fr (fun g => g = 53001) z z1
  have c1 : ∀ (d m k : Nat) (y : ow_MS), m + d = 256 → k ≤ 24 → fr (fun g => g = 53001) z y → Tt (fun K t => c_X0_listPermutations_b0 K t 1 (nI k) (nI m) 0 0 0 0 53001 y) Q := by
    intro d
    induction d with
    | zero =>
      intro m k y hm hk hf
      refine u_X0_listPermutations_b0_1 ?_; unfold cm_X0_listPermutations_1_b0
      exact w_leT (a := 256) (by omega) (by omega) (w_some hf)
    | succ d ih =>
      intro m k y hm hk hf
      have c2 : ∀ (k : Nat) (a b c e : Int32) (y : ow_MS), k ≤ 24 → fr (fun g => g = 53001) z y → Tt (fun K t => c_X0_listPermutations_b0 K t 2 (nI k) (nI m) a b c e 53001 y) Q := by
        intro k a b c e y hk hf
        refine u_X0_listPermutations_b0_2 ?_; unfold cm_X0_listPermutations_2_b0
        rw [nI_1]
        exact ih (m + 1) k y (by omega) hk hf
      refine u_X0_listPermutations_b0_1 ?_; unfold cm_X0_listPermutations_1_b0
      rw [show nI k + 1 = nI (k + 1) from nI_1 _]
      refine w_leF (a := 256) (by omega) (by omega) (w_le (a := 24) (by omega) (by omega) (fun _ => w_some hf) (fun h24 => w_if (fun _ => w_ctI ch_0r rfl (show k < 24 by omega) (c2 (k + 1) _ _ _ _ _ (by omega) (fr_I2 hf rfl))) (fun _ => c2 k _ _ _ _ _ hk hf)))
  refine e_X0_listPermutations_b0 ?_
  refine u_X0_listPermutations_b0_0 ?_; unfold cm_X0_listPermutations_0_b0
  exact c1 256 0 0 z (by omega) (by omega) fr_rf
theorem u_X0_indexOf_b0_1 {x1 : Int32} {x2 : Int32} {r0 : Nat} {z : ow_MS} {Q : (Int32 × ow_MS) → Prop} (H : Tt (fun K k => cm_X0_indexOf_1_b0 K (c_X0_indexOf_b0 K k) x1 x2 r0 z) Q) : Tt (fun K k => c_X0_indexOf_b0 K k 1 x1 x2 r0 z) Q := w_un (fun _ _ => rfl) H
theorem e_X0_indexOf_b0 {r0 : Nat} {x1 : Int32} {z : ow_MS} {Q : (Int32 × ow_MS) → Prop} (H : Tt (fun K k => c_X0_indexOf_b0 K k 0 x1 0 r0 z) Q) : Te (fun K => ce_X0_indexOf_b0 K r0 x1 z) Q := w_te H
theorem u_X0_indexOf_b0_0 {x1 : Int32} {x2 : Int32} {r0 : Nat} {z : ow_MS} {Q : (Int32 × ow_MS) → Prop} (H : Tt (fun K k => cm_X0_indexOf_0_b0 K (c_X0_indexOf_b0 K k) x1 x2 r0 z) Q) : Tt (fun K k => c_X0_indexOf_b0 K k 0 x1 x2 r0 z) Q := w_un (fun _ _ => rfl) H
theorem ti_index {b : Int32} : Te (fun K => ce_X0_indexOf_b0 K 53001 b z) (fun r => (∃ k, k < 24 ∧ r.1 = nI k) ∧ r.2 = z) := by
  let Q : Int32 × ow_MS → Prop := fun r => (∃ k, k < 24 ∧ r.1 = nI k) ∧ r.2 = z
  have hl : (Int32.ofNat (uw_len cT0 z 53001)) = nI 24 := by
    show nI (cT0.2 53001).2.1 = nI 24
    rw [ch_0r]
  have c1 : ∀ (d m : Nat), m + d = 24 → Tt (fun K t => c_X0_indexOf_b0 K t 1 b (nI m) 53001 z) Q := by
    intro d
    induction d with
    | zero =>
      intro m hm
      refine u_X0_indexOf_b0_1 ?_; unfold cm_X0_indexOf_1_b0
      rw [hl]
      exact w_leT (by omega) (by omega) (w_some ⟨⟨0, by omega, rfl⟩, rfl⟩)
    | succ d ih =>
      intro m hm
      refine u_X0_indexOf_b0_1 ?_; unfold cm_X0_indexOf_1_b0
      rw [hl, nI_1]
      exact w_leF (by omega) (by omega) (w_crI ch_0r rfl (show m < 24 by omega) rfl (w_if (fun _ => w_some ⟨⟨m, by omega, rfl⟩, rfl⟩) (fun _ => ih (m + 1) (by omega))))
  refine e_X0_indexOf_b0 ?_
  refine u_X0_indexOf_b0_0 ?_; unfold cm_X0_indexOf_0_b0
  exact c1 24 0 (by omega)
theorem e_X5_image_b0 {x0 : Int32} {x1 : Int32} {z : ow_MS} {Q : (Int32 × ow_MS) → Prop} (H : Tt (fun K _ => cm_X5_image_0_b0 K x0 x1 z) Q) : Te (fun K => ce_X5_image_b0 K x0 x1 z) Q := w_te0 H
theorem ti_image {a b : Int32} : Te (fun K => ce_X5_image_b0 K a b z) (fun r => r.2 = z) := by
  refine e_X5_image_b0 ?_; unfold cm_X5_image_0_b0
  exact w_some rfl
theorem u_X5_invert_b0_1 {x0 : Int32} {x1 : Int32} {x2 : Int32} {x3 : Int32} {z : ow_MS} {Q : (Int32 × ow_MS) → Prop} (H : Tt (fun K k => cm_X5_invert_1_b0 K (c_X5_invert_b0 K k) x0 x1 x2 x3 z) Q) : Tt (fun K k => c_X5_invert_b0 K k 1 x0 x1 x2 x3 z) Q := w_un (fun _ _ => rfl) H
theorem e_X5_invert_b0 {x0 : Int32} {x1 : Int32} {z : ow_MS} {Q : (Int32 × ow_MS) → Prop} (H : Tt (fun K k => c_X5_invert_b0 K k 0 x0 x1 0 0 z) Q) : Te (fun K => ce_X5_invert_b0 K x0 x1 z) Q := w_te H
theorem u_X5_invert_b0_0 {x0 : Int32} {x1 : Int32} {x2 : Int32} {x3 : Int32} {z : ow_MS} {Q : (Int32 × ow_MS) → Prop} (H : Tt (fun K k => cm_X5_invert_0_b0 K (c_X5_invert_b0 K k) x0 x1 x2 x3 z) Q) : Tt (fun K k => c_X5_invert_b0 K k 0 x0 x1 x2 x3 z) Q := w_un (fun _ _ => rfl) H
theorem ti_invert {a : Int32} : Te (fun K => ce_X5_invert_b0 K a 4 z) (fun r => r.2 = z) := by
  have c1 : ∀ (d m : Nat) (w : Int32), m + d = 4 → Tt (fun K t => c_X5_invert_b0 K t 1 a 4 w (nI m) z) (fun r => r.2 = z) := by
    intro d
    induction d with
    | zero =>
      intro m w hm
      refine u_X5_invert_b0_1 ?_; unfold cm_X5_invert_1_b0
      exact w_leT (a := 4) (by omega) (by omega) (w_some rfl)
    | succ d ih =>
      intro m w hm
      refine u_X5_invert_b0_1 ?_; unfold cm_X5_invert_1_b0
      refine w_leF (a := 4) (by omega) (by omega) (w_cs1 ti_image (fun v y1 e => ?_))
      have e : y1 = z := e
      rw [e, nI_1]
      exact ih (m + 1) _ (by omega)
  refine e_X5_invert_b0 ?_
  refine u_X5_invert_b0_0 ?_; unfold cm_X5_invert_0_b0
  exact c1 4 0 0 (by omega)
theorem nar_24 : ∀ k : Fin 24, vp_nar .byte (nI k.val).toInt8.toInt32 = nI k.val := by decide +kernel
theorem u_X0i_b0_1 {x2 : Int32} {x3 : Int32} {x4 : Int32} {x5 : Int32} {r0 : Nat} {r1 : Nat} {z : ow_MS} {Q : ow_MS → Prop} (H : Tt (fun K k => cm_X0i_1_b0 K (c_X0i_b0 K k) x2 x3 x4 x5 r0 r1 z) Q) : Tt (fun K k => c_X0i_b0 K k 1 x2 x3 x4 x5 r0 r1 z) Q := w_un (fun _ _ => rfl) H
theorem u_X0i_b0_2 {x2 : Int32} {x3 : Int32} {x4 : Int32} {x5 : Int32} {r0 : Nat} {r1 : Nat} {z : ow_MS} {Q : ow_MS → Prop} (H : Tt (fun K k => cm_X0i_2_b0 K (c_X0i_b0 K k) x2 x3 x4 x5 r0 r1 z) Q) : Tt (fun K k => c_X0i_b0 K k 2 x2 x3 x4 x5 r0 r1 z) Q := w_un (fun _ _ => rfl) H
theorem u_X0i_b0_3 {x2 : Int32} {x3 : Int32} {x4 : Int32} {x5 : Int32} {r0 : Nat} {r1 : Nat} {z : ow_MS} {Q : ow_MS → Prop} (H : Tt (fun K k => cm_X0i_3_b0 K (c_X0i_b0 K k) x2 x3 x4 x5 r0 r1 z) Q) : Tt (fun K k => c_X0i_b0 K k 3 x2 x3 x4 x5 r0 r1 z) Q := w_un (fun _ _ => rfl) H
theorem e_X0i_b0 {r0 : Nat} {r1 : Nat} {z : ow_MS} {Q : ow_MS → Prop} (H : Tt (fun K k => c_X0i_b0 K k 0 0 0 0 0 r0 r1 z) Q) : Te (fun K => ce_X0i_b0 K r0 r1 z) Q := w_te H
theorem u_X0i_b0_0 {x2 : Int32} {x3 : Int32} {x4 : Int32} {x5 : Int32} {r0 : Nat} {r1 : Nat} {z : ow_MS} {Q : ow_MS → Prop} (H : Tt (fun K k => cm_X0i_0_b0 K (c_X0i_b0 K k) x2 x3 x4 x5 r0 r1 z) Q) : Tt (fun K k => c_X0i_b0 K k 0 x2 x3 x4 x5 r0 r1 z) Q := w_un (fun _ _ => rfl) H
theorem ti_b0 : Te (fun K => ce_X0i_b0 K 41000 53001 z) (fun z1 => ((∀ i, i < 576 → ∃ k, k < 24 ∧ z1.2.1 41006 i = nI k) ∧ ∀ i, i < 24 → ∃ k, k < 24 ∧ z1.2.1 41007 i = nI k) ∧ fr (fun g => g = 41006 ∨ g = 41007 ∨ g = 53001) z z1) := by
  let Q : ow_MS → Prop := fun z1 => ((∀ i, i < 576 → ∃ k, k < 24 ∧ z1.2.1 41006 i = nI k) ∧ ∀ i, i < 24 → ∃ k, k < 24 ∧ z1.2.1 41007 i = nI k) ∧ fr (fun g => g = 41006 ∨ g = 41007 ∨ g = 53001) z z1
  let I : Nat → Nat → ow_MS → Prop := fun m n y => (∀ i, i < m → ∃ k, k < 24 ∧ y.2.1 41006 i = nI k) ∧ (∀ i, i < n → ∃ k, k < 24 ∧ y.2.1 41007 i = nI k) ∧ fr (fun g => g = 41006 ∨ g = 41007 ∨ g = 53001) z y
  have c1 : ∀ (d m : Nat) (y : ow_MS), m + d = 24 → I (24 * m) m y → Tt (fun K t => c_X0i_b0 K t 1 (nI m) 0 0 0 41000 53001 y) Q := by
    intro d
    induction d with
    | zero =>
      intro m y hm hI
      have e : m = 24 := by omega
      subst e
      refine u_X0i_b0_1 ?_; unfold cm_X0i_1_b0
      exact w_leT (a := 24) (by omega) (by omega) (w_some ⟨⟨hI.1, hI.2.1⟩, hI.2.2⟩)
    | succ d ih =>
      intro m y hm hI
      have c2 : ∀ (e n : Nat) (y : ow_MS), n + e = 24 → I (24 * m + n) m y → Tt (fun K t => c_X0i_b0 K t 2 (nI m) (nI n) 0 0 41000 53001 y) Q := by
        intro e
        induction e with
        | zero =>
          intro n y hn hI
          have e : n = 24 := by omega
          subst e
          refine u_X0i_b0_2 ?_; unfold cm_X0i_2_b0
          refine w_leT (a := 24) (by omega) (by omega) (w_crI ch_0r rfl (show m < 24 by omega) rfl (w_cs1 ti_invert (fun v y1 e => ?_)))
          have e : y1 = y := e
          subst e
          refine w_cs1 ti_index (fun v y2 ⟨⟨k, k1, k2⟩, e⟩ => ?_)
          have e : y2 = y1 := e
          have k2 : v = nI k := k2
          rw [e, k2, nI_1]
          refine w_ctB ch_07 rfl (show m < 24 by omega) ?_
          rw [nar_24 ⟨k, k1⟩]
          refine ih (m + 1) _ (by omega) ⟨fun i hi => ?_, fun i hi => ?_, fr_I2 hI.2.2 (Or.inr (Or.inl rfl))⟩
          · obtain ⟨k', q1, q2⟩ := hI.1 i (by omega)
            exact ⟨k', q1, rd_ot (by omega) q2⟩
          · by_cases e9 : i = m
            · rw [e9]
              exact ⟨k, k1, po_usI_at⟩
            · obtain ⟨k', q1, q2⟩ := hI.2.1 i (by omega)
              exact ⟨k', q1, rd_ne e9 q2⟩
        | succ e ihe =>
          intro n y hn hI
          have c3 : ∀ (e5 q : Nat) (w : Int32), q + e5 = 4 → Tt (fun K t => c_X0i_b0 K t 3 (nI m) (nI n) w (nI q) 41000 53001 y) Q := by
            intro e5
            induction e5 with
            | zero =>
              intro q w hq
              refine u_X0i_b0_3 ?_; unfold cm_X0i_3_b0
              refine w_leT (a := 4) (by omega) (by omega) (w_cs1 ti_index (fun v y2 ⟨⟨k, k1, k2⟩, e⟩ => ?_))
              have e : y2 = y := e
              have k2 : v = nI k := k2
              rw [e, k2, nI_1, show (24 : Int32) * nI m = nI (24 * m) from pk_mul 24 m, nI_add]
              refine w_ctB ch_06 rfl (show 24 * m + n < 576 by omega) ?_
              rw [nar_24 ⟨k, k1⟩]
              refine ihe (n + 1) _ (by omega) ⟨fun i hi => ?_, fun i hi => ?_, fr_I2 hI.2.2 (Or.inl rfl)⟩
              · by_cases e9 : i = 24 * m + n
                · rw [e9]
                  exact ⟨k, k1, po_usI_at⟩
                · obtain ⟨k', q1, q2⟩ := hI.1 i (by omega)
                  exact ⟨k', q1, rd_ne e9 q2⟩
              · obtain ⟨k', q1, q2⟩ := hI.2.1 i hi
                exact ⟨k', q1, rd_ot (by omega) q2⟩
            | succ e5 ih5 =>
              intro q w hq
              refine u_X0i_b0_3 ?_; unfold cm_X0i_3_b0
              refine w_leF (a := 4) (by omega) (by omega) (w_crI ch_0r rfl (show m < 24 by omega) rfl (w_cs1 ti_image (fun v1 y1 e => ?_)))
              have e : y1 = y := e
              subst e
              refine w_crI ch_0r rfl (show m < 24 by omega) rfl (w_crI ch_0r rfl (show n < 24 by omega) rfl (w_cs1 ti_image (fun v2 y2 e => ?_)))
              have e : y2 = y1 := e
              subst e
              refine w_cs1 ti_image (fun v3 y3 e => ?_)
              have e : y3 = y2 := e
              subst e
              rw [nI_1]
              exact ih5 (q + 1) _ (by omega)
          refine u_X0i_b0_2 ?_; unfold cm_X0i_2_b0
          refine w_leF (a := 24) (by omega) (by omega) (c3 4 0 0 (by omega))
      refine u_X0i_b0_1 ?_; unfold cm_X0i_1_b0
      exact w_leF (a := 24) (by omega) (by omega) (c2 24 0 y (by omega) hI)
  refine e_X0i_b0 ?_
  refine u_X0i_b0_0 ?_; unfold cm_X0i_0_b0
  refine w_cs0 ti_perms (fun y hf => c1 24 0 y (by omega) ⟨fun i hi => absurd hi (Nat.not_lt_zero _), fun i hi => absurd hi (Nat.not_lt_zero _), fr_mono (fun g hg => Or.inr (Or.inr hg)) hf⟩)
end XJ0
