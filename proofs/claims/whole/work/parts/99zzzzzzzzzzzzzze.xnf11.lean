/-! the ends of simple braids as the reference has them at the start -/
def dE9 (n : Nat) (y : ow_MS) : Prop := eN n (gNN n) y
theorem dE_fB {P : Nat → Prop} {n m : Nat} {y y1 : ow_MS} (h2 : 2 ≤ m) (h5 : m ≤ 5) (hm : m ≠ n) (hf : fB P n y y1) (h : dE9 m y) : dE9 m y1 := by
  have hN := nn_pos (n := m)
  exact ⟨by rw [hf.2 97 m (by unfold inB; omega)]; exact h.1, fun k hk s hs => by rw [hf.2 98 _ (by unfold inB; omega)]; exact h.2 k hk s hs⟩
theorem smE_12 {Q : ow_MS → Prop} {n : Nat} {z : ow_MS} (h2 : 2 ≤ n) (h5 : n ≤ 5) (hE : eN n (gNN n) z) (hS : szN n (gNN n) z) (hM : mN n (gNN n) 0 z) (hT : tT n (gNN n) z) (H : ∀ y, dE9 n y → fB pA n z y → Tt (fun K t => q_X13_makeSimples_a K t 1 (nI (n + 1)) 0 0 0 0 0 0 0 0 0 y) Q) : Tt (fun K t => q_X13_makeSimples_a K t 12 (nI n) 0 0 0 0 0 0 0 0 0 z) Q := by
  have hN := nn_pos (n := n)
  have np : ∀ g, (97 ≤ g ∧ g ≤ 103) → ¬ pR g := fun g hg h => by unfold pR at h; omega
  have tRz : ∀ {y : ow_MS}, fB pR n z y → tR n y := fun hf => tR_fr hf.1 (np _ (by omega)) (np _ (by omega)) (np _ (by omega)) (fun k hk => ⟨(hS k hk).1, (hS k hk).2, fun j hj => hM k j (Or.inl hk) hk hj⟩)
  have e97 : ∀ {y : ow_MS}, fB pR n z y → y.2.1 97 n = nI (gNN n) := fun hf => by rw [(hf.1 97 (np _ (by omega))).2.1]; exact hE.1
  have c12 : ∀ (d k : Nat) (y : ow_MS), k + d = gNN n → pN n k 0 y → fB pR n z y → Tt (fun K t => q_X13_makeSimples_a K t 12 (nI n) (nI k) 0 0 0 0 0 0 0 0 y) Q := by
    intro d
    induction d with
    | zero =>
      intro k y hk hp hf
      have e : k = gNN n := by omega
      subst e
      refine u_X13_makeSimples_a_12 ?_; unfold qm_X13_makeSimples_12_a
      rw [nI_1]
      refine w_rdI ma97 rfl (by omega) (e97 hf) (w_leT (by omega) (by omega) (H y ?_ (fB_mono hf (fun g hg => by unfold pR at hg; unfold pA; omega))))
      exact eN_fr hf.1 (np _ (by omega)) (np _ (by omega)) hE
    | succ d ih =>
      intro k y hk hp hf
      have hkN : k < gNN n := by omega
      have c13 : ∀ (dd j : Nat) (y : ow_MS), j + dd + 1 = n → pN n k j y → fB pR n z y → Tt (fun K t => q_X13_makeSimples_a K t 13 (nI n) (nI k) (nI j) 0 0 0 0 0 0 0 y) Q := by
        intro dd
        induction dd with
        | zero =>
          intro j y hj hp hf
          refine u_X13_makeSimples_a_13 ?_; unfold qm_X13_makeSimples_13_a
          rw [show nI n - 1 = nI (n - 1) from pk_sub (b := 1) (by omega), nI_1]
          refine w_leT (by omega) (by omega) (ih (k + 1) y (by omega) (fun l i h1 h3 h4 => hp l i ?_ h3 h4) hf)
          omega
        | succ dd ihd =>
          intro j y hj hp hf
          refine u_X13_makeSimples_a_13 ?_; unfold qm_X13_makeSimples_13_a
          rw [show nI n - 1 = nI (n - 1) from pk_sub (b := 1) (by omega), nI_1 j]
          refine w_leF (by omega) (by omega) (w_cs0 (tp_turnRound_a h2 h5 hkN (by omega) (tRz hf)) ?_)
          rintro y1 ⟨⟨r1, r2⟩, r3, r4⟩
          refine ihd (j + 1) y1 (by omega) (fun l i h1 h3 h4 => ?_) (fB_tr hf r4)
          by_cases e : l = k ∧ i = j
          · rw [e.1, e.2]
            exact ⟨r1, r2⟩
          · rw [r3 104 _ (Or.inl rfl) (by omega), r3 105 _ (Or.inr rfl) (by omega)]
            exact hp l i (by omega) h3 h4
      refine u_X13_makeSimples_a_12 ?_; unfold qm_X13_makeSimples_12_a
      exact w_rdI ma97 rfl (by omega) (e97 hf) (w_leF (by omega) (by omega) (c13 (n - 1) 0 y (by omega) hp hf))
  exact c12 (gNN n) 0 z (by omega) (fun l i h1 => by omega) fB_rf
theorem smE_2 {Q : ow_MS → Prop} {n : Nat} {z : ow_MS} (h2 : 2 ≤ n) (h5 : n ≤ 5) (h0 : z.2.1 100 (120 * n) = 0) (H : ∀ y, dE9 n y → fB pA n z y → Tt (fun K t => q_X13_makeSimples_a K t 1 (nI (n + 1)) 0 0 0 0 0 0 0 0 0 y) Q) : Tt (fun K t => q_X13_makeSimples_a K t 2 (nI n) 0 0 0 0 0 0 0 0 0 z) Q := by
  have hN := nn_pos (n := n)
  obtain ⟨z1, z2, z3⟩ := hh9 h2 h5
  have c2 : ∀ (d a : Nat) (y : ow_MS), a + d = n → fB (fun g => g = 98) n z y → (∀ s, s < a → y.2.1 98 (600 * n + s) = nI s) → Tt (fun K t => q_X13_makeSimples_a K t 2 (nI n) (nI a) 0 0 0 0 0 0 0 0 y) Q := by
    intro d
    induction d with
    | zero =>
      intro a y ha hf hy
      have ea : a = n := by omega
      subst ea
      refine u_X13_makeSimples_a_2 ?_; unfold qm_X13_makeSimples_2_a
      refine w_leT (by omega) (by omega) (w_wrI ma97 rfl (by omega) (sm_3 h2 h5 ⟨po_usI_at, fun k hk s hs => ?_⟩ (fun k hk => ⟨?_, fun i hi => ?_⟩) (fun y1 hE hS hM hf1 => w_cs0 (tp_makeTurned_a h2 h5 hE) (fun y2 h9 => ?_))))
      · rw [show k = 0 by omega, z3 s hs, show 5 * (120 * a + 0) + s = 600 * a + s by omega]
        exact rd_ot (by omega) (hy s hs)
      · rw [show k = 0 by omega, z2]
        refine rd_ot (by omega) ?_
        rw [Nat.add_zero, (hf.1 100 (by omega)).2.1]
        exact h0
      · rw [show k = 0 by omega, z2] at hi
        omega
      · obtain ⟨hT, hf2⟩ := h9
        have np : ∀ g, (97 ≤ g ∧ g ≤ 101) → ¬ pTu g := fun g hg h => by unfold pTu at h; omega
        refine smE_12 h2 h5 (eN_fr hf2.1 (np _ (by omega)) (np _ (by omega)) hE) (szN_fr hf2.1 (np _ (by omega)) (np _ (by omega)) hS) (mN_fr hf2.1 (np _ (by omega)) hM) hT (fun y3 hd hf3 => H y3 hd ?_)
        have f1 : fB pA a z (usI y 97 a 1) := fB_I2 (fB_mono hf (fun g hg => by unfold pA; omega)) (by unfold pA; omega) (by unfold inB; omega)
        exact fB_tr (fB_tr (fB_tr f1 (fB_mono hf1 (fun g hg => by unfold pS at hg; unfold pA; omega))) (fB_mono hf2 (fun g hg => by unfold pTu at hg; unfold pA; omega))) hf3
    | succ d ih =>
      intro a y ha hf hy
      refine u_X13_makeSimples_a_2 ?_; unfold qm_X13_makeSimples_2_a
      rw [show (600 : Int32) * nI n + nI a = nI (600 * n + a) from by rw [show (600 : Int32) * nI n = nI (600 * n) from pk_mul 600 _, nI_add], nI_1 a]
      refine w_leF (by omega) (by omega) (w_wrI ma98 rfl (by omega) (ih (a + 1) _ (by omega) (fB_I2 hf rfl (by unfold inB; omega)) (fun s hs => ?_)))
      by_cases e : s = a
      · rw [e]
        exact po_usI_at
      · exact rd_ne (by omega) (hy s (by omega))
  exact c2 n 0 z (by omega) fB_rf (fun s hs => by omega)
theorem tp_simE {z : ow_MS} (hz : ∀ n, n ≤ 5 → z.2.1 100 (120 * n) = 0) : Te (fun K => qe_X13_makeSimples_a K z) (fun z1 => (∀ n, 2 ≤ n → n ≤ 5 → dE9 n z1) ∧ fr pA z z1) := by
  let Q : ow_MS → Prop := fun z1 => (∀ n, 2 ≤ n → n ≤ 5 → dE9 n z1) ∧ fr pA z z1
  have key : ∀ (d n : Nat) (y : ow_MS), n + d = 6 → 2 ≤ n → (∀ m, 2 ≤ m → m < n → dE9 m y) → (∀ m, n ≤ m → m ≤ 5 → y.2.1 100 (120 * m) = 0) → fr pA z y → Tt (fun K t => q_X13_makeSimples_a K t 1 (nI n) 0 0 0 0 0 0 0 0 0 y) Q := by
    intro d
    induction d with
    | zero =>
      intro n y hn h2 hD h0 hf
      refine u_X13_makeSimples_a_1 ?_; unfold qm_X13_makeSimples_1_a
      exact w_ltT (a := 5) (by omega) (by omega) (w_some ⟨fun m h1 h3 => hD m h1 (by omega), hf⟩)
    | succ d ih =>
      intro n y hn h2 hD h0 hf
      refine u_X13_makeSimples_a_1 ?_; unfold qm_X13_makeSimples_1_a
      refine w_ltF (a := 5) (by omega) (by omega) (smE_2 h2 (by omega) (h0 n (by omega) (by omega)) (fun y1 hd hf1 => ih (n + 1) y1 (by omega) (by omega) (fun m h1 h3 => ?_) (fun m h1 h3 => ?_) (fr_tr hf hf1.1)))
      · by_cases e : m = n
        · rw [e]
          exact hd
        · exact dE_fB h1 (by omega) e hf1 (hD m h1 (by omega))
      · rw [hf1.2 100 _ (by unfold inB; omega)]
        exact h0 m (by omega) h3
  refine e_X13_makeSimples_a ?_
  refine u_X13_makeSimples_a_0 ?_; unfold qm_X13_makeSimples_0_a
  exact key 4 2 z (by omega) (by omega) (fun m h1 h3 => by omega) (fun m h1 h3 => hz m h3) fr_rf
