section
/-! 99zzzd.summ -/
/-! addSummand, summands -/
section SUM2
variable {X : (Nat → Nat → Int32) → Prop} {z : ow_MS} {A : rn_L} {sg : Nat → Bool}
def gSumN (z : ow_MS) (L : Nat) : Prop := z.1 36 = nI L ∧ (∀ k, k < L → ∃ j, j < L ∧ z.2.1 39 k = nI j) ∧ ∀ j, j < L → dRow z 35 (32 * j)
theorem u_X13_addSummand_2 {x1 : Int32} {x2 : Int32} {z : ow_MS} {Q : ow_MS → Prop} (H : Tt (fun K k => qm_X13_addSummand_2 K (q_X13_addSummand K k) x1 x2 z) Q) : Tt (fun K k => q_X13_addSummand K k 2 x1 x2 z) Q := w_un (fun _ _ => rfl) H
theorem u_X13_addSummand_3 {x1 : Int32} {x2 : Int32} {z : ow_MS} {Q : ow_MS → Prop} (H : Tt (fun K k => qm_X13_addSummand_3 K (q_X13_addSummand K k) x1 x2 z) Q) : Tt (fun K k => q_X13_addSummand K k 3 x1 x2 z) Q := w_un (fun _ _ => rfl) H
theorem u_X13_addSummand_1 {x1 : Int32} {x2 : Int32} {z : ow_MS} {Q : ow_MS → Prop} (H : Tt (fun K k => qm_X13_addSummand_1 K (q_X13_addSummand K k) x1 x2 z) Q) : Tt (fun K k => q_X13_addSummand K k 1 x1 x2 z) Q := w_un (fun _ _ => rfl) H
theorem e_X13_addSummand {x1 : Int32} {z : ow_MS} {Q : ow_MS → Prop} (H : Tt (fun K k => q_X13_addSummand K k 0 x1 0 z) Q) : Te (fun K => qe_X13_addSummand K x1 z) Q := w_te H
theorem u_X13_addSummand_0 {x1 : Int32} {x2 : Int32} {z : ow_MS} {Q : ow_MS → Prop} (H : Tt (fun K k => qm_X13_addSummand_0 K (q_X13_addSummand K k) x1 x2 z) Q) : Tt (fun K k => q_X13_addSummand K k 0 x1 x2 z) Q := w_un (fun _ _ => rfl) H
theorem tp_addS {S k9 : Nat} (hS : S < 16) (hk9 : k9 < 16) (hG : gSumN z S) (hv : vRow z 37 (32 * k9) A sg) : Te (fun K => qe_X13_addSummand K (nI (32 * k9)) z) (fun z1 => gSumN z1 (S + 1) ∧ fr (fun g => g = 35 ∨ g = 36 ∨ g = 39) z z1) := by
  obtain ⟨g1, g2, g3⟩ := hG
  have hl := hv.1.1
  let Q : ow_MS → Prop := fun z1 => gSumN z1 (S + 1) ∧ fr (fun g => g = 35 ∨ g = 36 ∨ g = 39) z z1
  have l2 : ∀ (k : Nat) (y : ow_MS), k ≤ S → fr (fun g => g = 35 ∨ g = 39) z y → (∀ j, j < S + 1 → dRow y 35 (32 * j)) → (∀ i, i < k → ∃ j, j < S ∧ y.2.1 39 i = nI j) → (∀ i, k < i → i < S + 1 → ∃ j, j < S + 1 ∧ y.2.1 39 i = nI j) → Tt (fun K i => q_X13_addSummand K i 2 (nI (32 * k9)) (nI k) y) Q := by
    intro k
    induction k with
    | zero =>
      intro y hkS hf hR ho1 ho2
      have e36 : y.1 36 = nI S := by rw [(hf 36 (by omega)).1]; exact g1
      refine u_X13_addSummand_2 ?_; unfold qm_X13_addSummand_2
      refine w_leT (b := 0) (by omega) (by omega) ?_
      refine u_X13_addSummand_3 ?_; unfold qm_X13_addSummand_3
      refine w_rdF e36 (w_wrI ml39 rfl (by omega) (w_rdF e36 (w_wrF ?_)))
      rw [nI_1]
      refine w_some ⟨⟨po_usF_at, fun i hi => ?_, fun j hj => dRow_fr (P := fun g => g = 36 ∨ g = 39) (fr_F2 (fr_I (Or.inr rfl)) (Or.inl rfl)) (by omega) (hR j hj)⟩, fr_F2 (fr_I2 (fr_mono (fun g hg => by omega) hf) (by omega)) (by omega)⟩
      by_cases hi0 : i = 0
      · exact ⟨S, by omega, by rw [hi0]; exact po_usI_at⟩
      · obtain ⟨j, hj, e⟩ := ho2 i (by omega) hi
        exact ⟨j, hj, rd_ne hi0 e⟩
    | succ k ih =>
      intro y hkS hf hR ho1 ho2
      have e36 : y.1 36 = nI S := by rw [(hf 36 (by omega)).1]; exact g1
      obtain ⟨j, hj, e⟩ := ho1 k (by omega)
      obtain ⟨B1, t1, v1⟩ := hR S (by omega)
      obtain ⟨B2, t2, v2⟩ := hR j (by omega)
      have l1 := v1.1.1
      have l2 := v2.1.1
      have c3 : Tt (fun K i => q_X13_addSummand K i 3 (nI (32 * k9)) (nI (k + 1)) y) Q := by
        refine u_X13_addSummand_3 ?_; unfold qm_X13_addSummand_3
        refine w_rdF e36 (w_wrI ml39 rfl (by omega) (w_rdF e36 (w_wrF ?_)))
        rw [nI_1]
        refine w_some ⟨⟨po_usF_at, fun i hi => ?_, fun j hj => dRow_fr (P := fun g => g = 36 ∨ g = 39) (fr_F2 (fr_I (Or.inr rfl)) (Or.inl rfl)) (by omega) (hR j hj)⟩, fr_F2 (fr_I2 (fr_mono (fun g hg => by omega) hf) (by omega)) (by omega)⟩
        by_cases hi0 : i = k + 1
        · exact ⟨S, by omega, by rw [hi0]; exact po_usI_at⟩
        · by_cases hik : i < k + 1
          · obtain ⟨j, hj, e⟩ := ho1 i hik
            exact ⟨j, by omega, rd_ne hi0 e⟩
          · obtain ⟨j, hj, e⟩ := ho2 i (by omega) hi
            exact ⟨j, hj, rd_ne hi0 e⟩
      refine u_X13_addSummand_2 ?_; unfold qm_X13_addSummand_2
      rw [nI_pred, pk_m1]
      refine w_leF (b := 0) (by omega) (by omega) (w_rdF e36 (w_rdI ml39 rfl (by omega) e ?_))
      rw [show (32 : Int32) * nI S = nI (32 * S) from pk_mul 32 S, show (32 : Int32) * nI j = nI (32 * j) from pk_mul 32 j]
      refine w_cs1 (tr_lesser ml35 ml35 (by omega) (by omega) (by omega) (by omega) v1.1 v2.1) (fun a y9 e9 => ?_)
      cases e9
      refine w_if (fun _ => c3) (fun _ => w_rdI ml39 rfl (by omega) e (w_wrI ml39 rfl (by omega) (ih _ (by omega) (fr_I2 hf (Or.inr rfl)) (fun j hj => dRow_fr (P := fun g => g = 39) (fr_I rfl) (by omega) (hR j hj)) (fun i hi => ?_) (fun i h1 h2 => ?_))))
      · obtain ⟨j9, hj9, e9⟩ := ho1 i (by omega)
        exact ⟨j9, hj9, rd_ne (by omega) e9⟩
      · by_cases hik : i = k + 1
        · exact ⟨j, by omega, by rw [hik]; exact po_usI_at⟩
        · obtain ⟨j9, hj9, e9⟩ := ho2 i (by omega) h2
          exact ⟨j9, hj9, rd_ne hik e9⟩
  have l1 : ∀ (d k : Nat) (y : ow_MS), k + d = (tk sg A).length + 1 → fr (fun g => g = 35) z y → (∀ i, i < k → y.2.1 35 (32 * S + i) = z.2.1 37 (32 * k9 + i)) → (∀ i, i < 32 * S → y.2.1 35 i = z.2.1 35 i) → Tt (fun K i => q_X13_addSummand K i 1 (nI (32 * k9)) (nI k) y) Q := by
    intro d
    induction d with
    | zero =>
      intro k y hk hf hc hi
      have e36 : y.1 36 = nI S := by rw [(hf 36 (by omega)).1]; exact g1
      refine u_X13_addSummand_1 ?_; unfold qm_X13_addSummand_1
      refine w_rdI ml37 rfl (by omega) (x := nI (tk sg A).length) (by rw [(hf 37 (by omega)).2.1]; exact hv.1.2.2.1) (w_ltT (by omega) (by omega) (w_rdF e36 (l2 S y (Nat.le_refl _) (fr_mono (fun g hg => Or.inl hg) hf) (fun j hj => ?_) (fun i hi9 => by rw [(hf 39 (by omega)).2.1]; exact g2 i hi9) (fun i h1 h2 => by omega))))
      by_cases hjS : j = S
      · rw [hjS]
        refine ⟨A, sg, ⟨hv.1.1, hv.1.2.1, ?_, fun i t hi9 => ?_⟩, hv.2⟩
        · have := hc 0 (by omega)
          rw [Nat.add_zero, Nat.add_zero] at this
          rw [this]
          exact hv.1.2.2.1
        · have := (List.getElem?_eq_some_iff.mp hi9).1
          rw [hc (i + 1) (by omega)]
          exact hv.1.2.2.2 i t hi9
      · exact dRow_eq (fun i h1 h2 => hi i (by omega)) (g3 j (by omega))
    | succ d ih =>
      intro k y hk hf hc hi
      have e36 : y.1 36 = nI S := by rw [(hf 36 (by omega)).1]; exact g1
      refine u_X13_addSummand_1 ?_; unfold qm_X13_addSummand_1
      refine w_rdI ml37 rfl (by omega) (x := nI (tk sg A).length) (by rw [(hf 37 (by omega)).2.1]; exact hv.1.2.2.1) (w_ltF (by omega) (by omega) (w_rdF e36 ?_))
      rw [nI_add, show (32 : Int32) * nI S = nI (32 * S) from pk_mul 32 S, nI_add, nI_1]
      refine w_rdI ml37 rfl (by omega) (by rw [(hf 37 (by omega)).2.1]) (w_wrI ml35 rfl (by omega) (ih (k + 1) _ (by omega) (fr_I2 hf rfl) (fun i hi9 => ?_) (fun i hi9 => rd_ne (by omega) (hi i hi9))))
      by_cases hik : i = k
      · rw [hik, po_usI_at]
      · exact rd_ne (by omega) (hc i (by omega))
  refine e_X13_addSummand ?_
  refine u_X13_addSummand_0 ?_; unfold qm_X13_addSummand_0
  exact l1 _ 0 z (Nat.zero_add _) fr_rf (fun i hi => by omega) (fun i _ => rfl)
/-- the rows that wait: cs says how many crossings each has -/
def wRs (z : ow_MS) (w : Nat) (cs : Nat → Nat) : Prop := ∀ k, k < w → 1 ≤ cs k ∧ ∃ A sg, vRow z 37 (32 * k) A sg ∧ okF A.flatten (cs k)
theorem sN_ge {cs : Nat → Nat} : ∀ w, (∀ k, k < w → 1 ≤ cs k) → w ≤ sN cs w
  | 0, _ => Nat.le_refl _
  | w + 1, h => by
    have := sN_ge w (fun k hk => h k (by omega))
    have := h w (by omega)
    show w + 1 ≤ sN cs w + cs w
    omega
theorem wRs_eq {z1 : ow_MS} {w : Nat} {cs : Nat → Nat} (he : ∀ i, i < 32 * w → z1.2.1 37 i = z.2.1 37 i) (h : wRs z w cs) : wRs z1 w cs := fun k hk => by
  obtain ⟨h1, A, sg, ⟨⟨a1, a2, a3, a4⟩, a5⟩, a6⟩ := h k hk
  refine ⟨h1, A, sg, ⟨⟨a1, a2, by rw [he _ (by omega)]; exact a3, fun i t hi => ?_⟩, a5⟩, a6⟩
  have := (List.getElem?_eq_some_iff.mp hi).1
  rw [he _ (by omega)]
  exact a4 i t hi
theorem cE_01 {r : Nat → Int32} : ∀ V, (∀ v, v < V → r v = 0 ∨ r v = 1) → cE r 0 V + cE r 1 V = V
  | 0, _ => rfl
  | V + 1, h => by
    have ih := cE_01 V (fun v hv => h v (by omega))
    show cE r 0 V + (if r V = 0 then 1 else 0) + (cE r 1 V + if r V = 1 then 1 else 0) = V + 1
    rcases h V (by omega) with e | e
    · rw [e, if_pos rfl, if_neg (by decide)]; omega
    · rw [e, if_neg (by decide), if_pos rfl]; omega
theorem cE_pos {r : Nat → Int32} {x : Int32} {v : Nat} (hr : r v = x) : ∀ V, v < V → 1 ≤ cE r x V
  | 0, h => by omega
  | V + 1, h => by
    show 1 ≤ cE r x V + if r V = x then 1 else 0
    by_cases hv : v = V
    · rw [← hv, hr, if_pos rfl]; omega
    · have := cE_pos hr V (by omega)
      omega
theorem e_X13_summands {x1 : Int32} {z : ow_MS} {Q : (Int32 × ow_MS) → Prop} (H : Tt (fun K k => q_X13_summands K k 0 x1 0 0 0 0 0 0 0 z) Q) : Te (fun K => qe_X13_summands K x1 z) Q := w_te H
theorem u_X13_summands_0 {x1 : Int32} {x2 : Int32} {x3 : Int32} {x4 : Int32} {x5 : Int32} {x6 : Int32} {t0 : Int32} {t1 : Int32} {z : ow_MS} {Q : (Int32 × ow_MS) → Prop} (H : Tt (fun K k => qm_X13_summands_0 K (q_X13_summands K k) x1 x2 x3 x4 x5 x6 t0 t1 z) Q) : Tt (fun K k => q_X13_summands K k 0 x1 x2 x3 x4 x5 x6 t0 t1 z) Q := w_un (fun _ _ => rfl) H
theorem u_X13_summands_5 {x1 : Int32} {x2 : Int32} {x3 : Int32} {x4 : Int32} {x5 : Int32} {x6 : Int32} {t0 : Int32} {t1 : Int32} {z : ow_MS} {Q : (Int32 × ow_MS) → Prop} (H : Tt (fun K k => qm_X13_summands_5 K (q_X13_summands K k) x1 x2 x3 x4 x5 x6 t0 t1 z) Q) : Tt (fun K k => q_X13_summands K k 5 x1 x2 x3 x4 x5 x6 t0 t1 z) Q := w_un (fun _ _ => rfl) H
theorem u_X13_summands_12 {x1 : Int32} {x2 : Int32} {x3 : Int32} {x4 : Int32} {x5 : Int32} {x6 : Int32} {t0 : Int32} {t1 : Int32} {z : ow_MS} {Q : (Int32 × ow_MS) → Prop} (H : Tt (fun K k => qm_X13_summands_12 K (q_X13_summands K k) x1 x2 x3 x4 x5 x6 t0 t1 z) Q) : Tt (fun K k => q_X13_summands K k 12 x1 x2 x3 x4 x5 x6 t0 t1 z) Q := w_un (fun _ _ => rfl) H
theorem u_X13_summands_11 {x1 : Int32} {x2 : Int32} {x3 : Int32} {x4 : Int32} {x5 : Int32} {x6 : Int32} {t0 : Int32} {t1 : Int32} {z : ow_MS} {Q : (Int32 × ow_MS) → Prop} (H : Tt (fun K k => qm_X13_summands_11 K (q_X13_summands K k) x1 x2 x3 x4 x5 x6 t0 t1 z) Q) : Tt (fun K k => q_X13_summands K k 11 x1 x2 x3 x4 x5 x6 t0 t1 z) Q := w_un (fun _ _ => rfl) H
theorem u_X13_summands_6 {x1 : Int32} {x2 : Int32} {x3 : Int32} {x4 : Int32} {x5 : Int32} {x6 : Int32} {t0 : Int32} {t1 : Int32} {z : ow_MS} {Q : (Int32 × ow_MS) → Prop} (H : Tt (fun K k => qm_X13_summands_6 K (q_X13_summands K k) x1 x2 x3 x4 x5 x6 t0 t1 z) Q) : Tt (fun K k => q_X13_summands K k 6 x1 x2 x3 x4 x5 x6 t0 t1 z) Q := w_un (fun _ _ => rfl) H
theorem u_X13_summands_10 {x1 : Int32} {x2 : Int32} {x3 : Int32} {x4 : Int32} {x5 : Int32} {x6 : Int32} {t0 : Int32} {t1 : Int32} {z : ow_MS} {Q : (Int32 × ow_MS) → Prop} (H : Tt (fun K k => qm_X13_summands_10 K (q_X13_summands K k) x1 x2 x3 x4 x5 x6 t0 t1 z) Q) : Tt (fun K k => q_X13_summands K k 10 x1 x2 x3 x4 x5 x6 t0 t1 z) Q := w_un (fun _ _ => rfl) H
theorem u_X13_summands_7 {x1 : Int32} {x2 : Int32} {x3 : Int32} {x4 : Int32} {x5 : Int32} {x6 : Int32} {t0 : Int32} {t1 : Int32} {z : ow_MS} {Q : (Int32 × ow_MS) → Prop} (H : Tt (fun K k => qm_X13_summands_7 K (q_X13_summands K k) x1 x2 x3 x4 x5 x6 t0 t1 z) Q) : Tt (fun K k => q_X13_summands K k 7 x1 x2 x3 x4 x5 x6 t0 t1 z) Q := w_un (fun _ _ => rfl) H
theorem u_X13_summands_9 {x1 : Int32} {x2 : Int32} {x3 : Int32} {x4 : Int32} {x5 : Int32} {x6 : Int32} {t0 : Int32} {t1 : Int32} {z : ow_MS} {Q : (Int32 × ow_MS) → Prop} (H : Tt (fun K k => qm_X13_summands_9 K (q_X13_summands K k) x1 x2 x3 x4 x5 x6 t0 t1 z) Q) : Tt (fun K k => q_X13_summands K k 9 x1 x2 x3 x4 x5 x6 t0 t1 z) Q := w_un (fun _ _ => rfl) H
theorem u_X13_summands_8 {x1 : Int32} {x2 : Int32} {x3 : Int32} {x4 : Int32} {x5 : Int32} {x6 : Int32} {t0 : Int32} {t1 : Int32} {z : ow_MS} {Q : (Int32 × ow_MS) → Prop} (H : Tt (fun K k => qm_X13_summands_8 K (q_X13_summands K k) x1 x2 x3 x4 x5 x6 t0 t1 z) Q) : Tt (fun K k => q_X13_summands K k 8 x1 x2 x3 x4 x5 x6 t0 t1 z) Q := w_un (fun _ _ => rfl) H
theorem u_X13_summands_1 {x1 : Int32} {x2 : Int32} {x3 : Int32} {x4 : Int32} {x5 : Int32} {x6 : Int32} {t0 : Int32} {t1 : Int32} {z : ow_MS} {Q : (Int32 × ow_MS) → Prop} (H : Tt (fun K k => qm_X13_summands_1 K (q_X13_summands K k) x1 x2 x3 x4 x5 x6 t0 t1 z) Q) : Tt (fun K k => q_X13_summands K k 1 x1 x2 x3 x4 x5 x6 t0 t1 z) Q := w_un (fun _ _ => rfl) H
theorem u_X13_summands_4 {x1 : Int32} {x2 : Int32} {x3 : Int32} {x4 : Int32} {x5 : Int32} {x6 : Int32} {t0 : Int32} {t1 : Int32} {z : ow_MS} {Q : (Int32 × ow_MS) → Prop} (H : Tt (fun K k => qm_X13_summands_4 K (q_X13_summands K k) x1 x2 x3 x4 x5 x6 t0 t1 z) Q) : Tt (fun K k => q_X13_summands K k 4 x1 x2 x3 x4 x5 x6 t0 t1 z) Q := w_un (fun _ _ => rfl) H
theorem u_X13_summands_2 {x1 : Int32} {x2 : Int32} {x3 : Int32} {x4 : Int32} {x5 : Int32} {x6 : Int32} {t0 : Int32} {t1 : Int32} {z : ow_MS} {Q : (Int32 × ow_MS) → Prop} (H : Tt (fun K k => qm_X13_summands_2 K (q_X13_summands K k) x1 x2 x3 x4 x5 x6 t0 t1 z) Q) : Tt (fun K k => q_X13_summands K k 2 x1 x2 x3 x4 x5 x6 t0 t1 z) Q := w_un (fun _ _ => rfl) H
theorem u_X13_summands_3 {x1 : Int32} {x2 : Int32} {x3 : Int32} {x4 : Int32} {x5 : Int32} {x6 : Int32} {t0 : Int32} {t1 : Int32} {z : ow_MS} {Q : (Int32 × ow_MS) → Prop} (H : Tt (fun K k => qm_X13_summands_3 K (q_X13_summands K k) x1 x2 x3 x4 x5 x6 t0 t1 z) Q) : Tt (fun K k => q_X13_summands K k 3 x1 x2 x3 x4 x5 x6 t0 t1 z) Q := w_un (fun _ _ => rfl) H
theorem tp_summands {d : Int32} (h : gI X z) : Te (fun K => qe_X13_summands K d z) (fun r => gI X r.2) := by
  have h1 := gI_1 (c := 0) h
  refine e_X13_summands ?_
  refine u_X13_summands_0 ?_; unfold qm_X13_summands_0
  refine w_wrF (w_has h1.2.1 (w_ifT rfl (w_fail h1)) (fun e A sg he hx hv hne => w_ifF (by decide) ?_))
  subst hx
  refine w_cs0 (to_open pn2 he hv) (fun z2 ⟨o1, f1⟩ => w_cs0 (tn_split pn2 (by have := o1.len; omega) (by have := o1.2.2.2; omega) (wkF_ok o1.wk) o1.1) (fun z3 ⟨f3, P, hpt⟩ => ?_))
  have h3 : gI X z3 := gI_net pn2 f3 (fun g hg => by rcases hg with hg | hg <;> omega) (gI_net pn2 f1 (fun g hg => by omega) h1)
  have o3 : oNet z3 2000 A sg := oNet_fr f3 (fun g hg => by rcases hg with hg | hg <;> omega) o1
  have hl := o3.len
  have hC := o3.2.2.2
  have hd := wkF_ok o3.wk
  obtain ⟨m, hk, hmz⟩ := mk_of (by omega) hpt
  have hP := hpt.2.1
  -- the second phase
  let J : ow_MS → Nat → (Nat → Nat) → Nat → Prop := fun y w cs S => gI X y ∧ gSumN y S ∧ wRs y w cs ∧ sN cs w + S ≤ 12
  have ph2 : ∀ (M w S : Nat) (cs : Nat → Nat) (x3 : Int32) (y : ow_MS), 2 * sN cs w ≤ M + w → J y w cs S → Tt (fun K i => q_X13_summands K i 5 (nI e) (nI w) x3 0 0 0 0 0 y) (fun r => gI X r.2) := by
    intro M
    induction M with
    | zero =>
      intro w S cs x3 y hM ⟨j1, j2, j3, j4⟩
      have := sN_ge w (fun k hk9 => (j3 k hk9).1)
      refine u_X13_summands_5 ?_; unfold qm_X13_summands_5
      exact w_leT (b := 0) (by omega) (by omega) (w_rdF rfl (w_some j1))
    | succ M ihM =>
      intro w S cs x3 y hM ⟨j1, j2, j3, j4⟩
      have hws := sN_ge w (fun k hk9 => (j3 k hk9).1)
      by_cases hw0 : w = 0
      · refine u_X13_summands_5 ?_; unfold qm_X13_summands_5
        exact w_leT (b := 0) (by omega) (by omega) (w_rdF rfl (w_some j1))
      · obtain ⟨w1, rfl⟩ : ∃ w1, w = w1 + 1 := ⟨w - 1, by omega⟩
        obtain ⟨hc1, B, sgB, hvB, hokB⟩ := j3 w1 (by omega)
        have hsum : sN cs (w1 + 1) = sN cs w1 + cs w1 := rfl
        have hVB := okF_len hokB
        refine u_X13_summands_5 ?_; unfold qm_X13_summands_5
        rw [pk_m1, show (32 : Int32) * nI w1 = nI (32 * w1) from pk_mul 32 w1]
        refine w_leF (b := 0) (by omega) (by omega) (w_cs0 (to_unpack (by omega) ml37 (by omega) (by omega) hvB) (fun y1 ⟨a1, a2, a3⟩ => w_cs0 (to_link hvB a1 a2) (fun y2 ⟨b1, b2⟩ => ?_)))
        have F2 : fr (fun g => 1001 ≤ g ∧ g ≤ 1011) y y2 := fr_tr (fr_mono (fun g hg => by omega) a3) (fr_mono (fun g hg => by omega) b2)
        have hBl := b1.len
        have hBC := b1.2.2.2
        have hdB := wkF_ok b1.wk
        -- what holds while a gap pair is looked for
        let I : ow_MS → Prop := fun y4 => fr (fun g => g = 38) y2 y4
        have oI : ∀ {y4 : ow_MS}, I y4 → oNet y4 1000 B sgB := fun hI => oNet_fr hI (fun g hg => by omega) b1
        have gIy : ∀ {y4 : ow_MS}, I y4 → gI X y4 := fun hI => gI_fr hI (fun g hg => by rw [hg]; decide) (gI_net pn1 F2 (fun g hg => by omega) j1)
        have e37 : ∀ {y4 : ow_MS}, I y4 → y4.2.1 37 = y.2.1 37 := fun hI => by rw [(hI 37 (by omega)).2.1, (F2 37 (by omega)).2.1]
        have sumI : ∀ {y4 : ow_MS}, I y4 → gSumN y4 S := fun hI => by
          obtain ⟨q1, q2, q3⟩ := j2
          refine ⟨by rw [(hI 36 (by omega)).1, (F2 36 (by omega)).1]; exact q1, fun k hk9 => by rw [(hI 39 (by omega)).2.1, (F2 39 (by omega)).2.1]; exact q2 k hk9, fun j hj => dRow_fr hI (by omega) (dRow_fr F2 (by omega) (q3 j hj))⟩
        let PT : ow_MS → Prop := fun y4 => ∃ c g h9, rEa y4 B c g h9 ∧ c < B.length ∧ rn_b B c ≤ g ∧ g < h9 ∧ h9 < rn_b B (c + 1) ∧ ∀ v, v < B.flatten.length → y4.2.1 38 v = 1 → y4.2.1 38 (mtf B v) = 1
        have c12 : ∀ (x3 x4 : Int32) (w2 S2 : Nat) (cs2 : Nat → Nat) (y5 : ow_MS), 2 * sN cs2 w2 ≤ M + w2 → J y5 w2 cs2 S2 → Tt (fun K i => q_X13_summands K i 12 (nI e) (nI w2) x3 x4 0 0 0 0 y5) (fun r => gI X r.2) := by
          intro x3 x4 w2 S2 cs2 y5 hM2 hJ2
          refine u_X13_summands_12 ?_; unfold qm_X13_summands_12
          exact ihM w2 S2 cs2 x3 y5 hM2 hJ2
        have c11 : ∀ (x3 x4 : Int32) (y4 : ow_MS), I y4 → (x3 = 0 ∨ x3 = 1 ∧ PT y4) → Tt (fun K i => q_X13_summands K i 11 (nI e) (nI w1) x3 x4 0 0 0 0 y4) (fun r => gI X r.2) := by
          intro x3 x4 y4 hI hx
          have hvB4 : vRow y4 37 (32 * w1) B sgB := ⟨⟨hvB.1.1, hvB.1.2.1, by rw [e37 hI]; exact hvB.1.2.2.1, by rw [e37 hI]; exact hvB.1.2.2.2⟩, hvB.2⟩
          have wr4 : wRs y4 w1 cs := wRs_eq (fun i _ => by rw [e37 hI]) (fun k hk9 => j3 k (by omega))
          rcases hx with hx | ⟨hx, c, g, h9, pE, pc, pg, pgh, ph, pcl⟩
          · subst hx
            refine u_X13_summands_11 ?_; unfold qm_X13_summands_11
            rw [show (32 : Int32) * nI w1 = nI (32 * w1) from pk_mul 32 w1]
            refine w_ifT rfl (w_cs0 (tp_addS (by omega) (by omega) (sumI hI) hvB4) (fun y5 ⟨k1, k2⟩ => c12 0 x4 w1 (S + 1) cs y5 (by omega) ⟨?_, k1, wRs_eq (fun i _ => by rw [(k2 37 (by omega)).2.1]) wr4, by omega⟩))
            obtain ⟨i1, i2, i3, i4, i5, i6, i7⟩ := gIy hI
            exact ⟨gTape_fr k2 (by omega) i1, gRows_fr k2 (by omega) i2, gList_fr k2 (by omega) (by omega) (by omega) i3, ⟨S + 1, by omega, k1⟩, gCash_fr k2 (by omega) (by omega) (by omega) (by omega) (by omega) i5, gBrs_fr k2 (by omega) (by omega) (by omega) i6, gX_fr k2 (fun g hg => by omega) i7⟩
          · subst hx
            have r01 : ∀ v, v < B.flatten.length → y4.2.1 38 v = 0 ∨ y4.2.1 38 v = 1 := fun v hv9 => (pE v hv9).1
            have hbl := rn_b_le B (c + 1)
            have cntS := cE_01 (r := y4.2.1 38) B.flatten.length r01
            have hh1 : y4.2.1 38 h9 = 1 := ((pE h9 (by omega)).2 (rn_c_of B c h9 (by omega) ph)).mpr ⟨pgh, Nat.le_refl _⟩
            have hg0 : y4.2.1 38 g = 0 := (r01 g (by omega)).resolve_right (fun e9 => by
              have := ((pE g (by omega)).2 (rn_c_of B c g pg (by omega))).mp e9
              omega)
            have p1 := cE_pos hh1 B.flatten.length (by omega)
            have p0 := cE_pos hg0 B.flatten.length (by omega)
            have pcl0 : ∀ v, v < B.flatten.length → y4.2.1 38 v = 0 → y4.2.1 38 (mtf B v) = 0 := fun v hv9 hv0 => (r01 _ (mtf_lt hdB hv9)).resolve_right (fun e9 => by
              have := pcl _ (mtf_lt hdB hv9) e9
              rw [mtf_mtf hdB hv9, hv0] at this
              exact absurd this (by decide))
            refine u_X13_summands_11 ?_; unfold qm_X13_summands_11
            rw [nI_1, show nI w1 + 2 = nI (w1 + 2) from nI_add w1 2]
            refine w_ifF (by decide) (w_cs0 (tp_waits (b := true) pn1 (by omega) (by omega) (oI hI) pcl) (fun y5 ⟨⟨A5, s5, c5, v5, k5, n5⟩, f5, i5⟩ => ?_))
            have e38 : y5.2.1 38 = y4.2.1 38 := (f5 38 (by omega)).2.1
            have o5 : oNet y5 1000 B sgB := oNet_fr f5 (fun g hg => by omega) (oI hI)
            refine w_cs0 (tp_waits (b := false) (at9 := w1 + 1) pn1 (by omega) (by omega) o5 (by rw [e38]; exact pcl0)) (fun y6 ⟨⟨A6, s6, c6, v6, k6, n6⟩, f6, i6⟩ => ?_)
            rw [e38] at n6
            have n5 : 2 * c5 = cE (y4.2.1 38) 1 B.flatten.length := n5
            have n6 : 2 * c6 = cE (y4.2.1 38) 0 B.flatten.length := n6
            have eqS : ∀ k, k ≤ w1 → sN (fun k => if k < w1 then cs k else if k = w1 then c5 else c6) k = sN cs k := fun k hk9 => sN_congr k (fun p hp => by
              show (if p < w1 then cs p else if p = w1 then c5 else c6) = cs p
              rw [if_pos (by omega)])
            have hs2 : sN (fun k => if k < w1 then cs k else if k = w1 then c5 else c6) (w1 + 2) = sN cs w1 + c5 + c6 := by
              show sN (fun k => if k < w1 then cs k else if k = w1 then c5 else c6) w1 + (if w1 < w1 then cs w1 else if w1 = w1 then c5 else c6) + (if w1 + 1 < w1 then cs (w1 + 1) else if w1 + 1 = w1 then c5 else c6) = _
              rw [eqS w1 (Nat.le_refl _), if_neg (by omega), if_pos rfl, if_neg (by omega), if_neg (by omega)]
            refine c12 1 x4 (w1 + 2) S (fun k => if k < w1 then cs k else if k = w1 then c5 else c6) y6 (by omega) ⟨?_, ?_, fun k hk9 => ?_, by omega⟩
            · exact gI_fr f6 (fun g hg => by unfold per; omega) (gI_fr f5 (fun g hg => by unfold per; omega) (gIy hI))
            · obtain ⟨q1, q2, q3⟩ := sumI hI
              exact ⟨by rw [(f6 36 (by omega)).1, (f5 36 (by omega)).1]; exact q1, fun k hk9 => by rw [(f6 39 (by omega)).2.1, (f5 39 (by omega)).2.1]; exact q2 k hk9, fun j hj => dRow_fr f6 (by omega) (dRow_fr f5 (by omega) (q3 j hj))⟩
            · show 1 ≤ (if k < w1 then cs k else if k = w1 then c5 else c6) ∧ _
              by_cases hk1 : k < w1
              · have := wRs_eq (z1 := y6) (fun i hi => by rw [i6 i (by omega), i5 i (by omega)]) wr4 k hk1
                show 1 ≤ (if k < w1 then cs k else if k = w1 then c5 else c6) ∧ ∃ A sg, vRow y6 37 (32 * k) A sg ∧ okF A.flatten (if k < w1 then cs k else if k = w1 then c5 else c6)
                rw [if_pos hk1]
                exact this
              · by_cases hk2 : k = w1
                · show 1 ≤ (if k < w1 then cs k else if k = w1 then c5 else c6) ∧ ∃ A sg, vRow y6 37 (32 * k) A sg ∧ okF A.flatten (if k < w1 then cs k else if k = w1 then c5 else c6)
                  rw [if_neg hk1, if_pos hk2, hk2]
                  refine ⟨by omega, A5, s5, ⟨⟨v5.1.1, v5.1.2.1, by rw [i6 _ (by omega)]; exact v5.1.2.2.1, fun i t hi => ?_⟩, v5.2⟩, k5⟩
                  have := (List.getElem?_eq_some_iff.mp hi).1
                  have := v5.1.1
                  rw [i6 _ (by omega)]
                  exact v5.1.2.2.2 i t hi
                · show 1 ≤ (if k < w1 then cs k else if k = w1 then c5 else c6) ∧ ∃ A sg, vRow y6 37 (32 * k) A sg ∧ okF A.flatten (if k < w1 then cs k else if k = w1 then c5 else c6)
                  rw [if_neg hk1, if_neg hk2, show k = w1 + 1 by omega]
                  exact ⟨by omega, A6, s6, v6, k6⟩
        -- the search
        have l6 : ∀ (dd c : Nat) (x3 : Int32) (y4 : ow_MS), c + dd = B.length → I y4 → (x3 = 0 ∨ x3 = 1 ∧ PT y4) → Tt (fun K i => q_X13_summands K i 6 (nI e) (nI w1) x3 (nI c) 0 0 0 0 y4) (fun r => gI X r.2) := by
          intro dd
          induction dd with
          | zero =>
            intro c x3 y4 hc hI hx
            refine u_X13_summands_6 ?_; unfold qm_X13_summands_6
            exact w_rdF (lk_C (oI hI).1) (w_leT (by omega) (by omega) (c11 x3 _ y4 hI hx))
          | succ dd ih6 =>
            intro c x3 y4 hc hI hx
            have m1 := rn_b_mono B c
            have m2 := rn_b_le B (c + 1)
            have c10 : ∀ (x5 x3 : Int32) (y4 : ow_MS), I y4 → (x3 = 0 ∨ x3 = 1 ∧ PT y4) → Tt (fun K i => q_X13_summands K i 10 (nI e) (nI w1) x3 (nI c) x5 0 0 0 y4) (fun r => gI X r.2) := by
              intro x5 x3 y4 hI hx
              refine u_X13_summands_10 ?_; unfold qm_X13_summands_10
              rw [nI_1]
              exact ih6 (c + 1) x3 y4 (by omega) hI hx
            have l7 : ∀ (dg g : Nat) (x3 : Int32) (y4 : ow_MS), g + dg = rn_b B (c + 1) → rn_b B c ≤ g → I y4 → (x3 = 0 ∨ x3 = 1 ∧ PT y4) → Tt (fun K i => q_X13_summands K i 7 (nI e) (nI w1) x3 (nI c) (nI g) 0 0 0 y4) (fun r => gI X r.2) := by
              intro dg
              induction dg with
              | zero =>
                intro g x3 y4 hg hlo hI hx
                refine u_X13_summands_7 ?_; unfold qm_X13_summands_7
                rw [nI_1]
                exact w_rdI (pl3 pn1) rfl (by omega) (lk_b (oI hI).1 (by omega)) (w_leT (by omega) (by omega) (c10 _ x3 y4 hI hx))
              | succ dg ih7 =>
                intro g x3 y4 hg hlo hI hx
                have c9 : ∀ (x6 x3 : Int32) (y4 : ow_MS), I y4 → (x3 = 0 ∨ x3 = 1 ∧ PT y4) → Tt (fun K i => q_X13_summands K i 9 (nI e) (nI w1) x3 (nI c) (nI g) x6 0 0 y4) (fun r => gI X r.2) := by
                  intro x6 x3 y4 hI hx
                  refine u_X13_summands_9 ?_; unfold qm_X13_summands_9
                  rw [nI_1]
                  exact ih7 (g + 1) x3 y4 (by omega) (by omega) hI hx
                have l8 : ∀ (dh h9 : Nat) (x3 : Int32) (y4 : ow_MS), h9 + dh = rn_b B (c + 1) → g < h9 → I y4 → (x3 = 0 ∨ x3 = 1 ∧ PT y4) → Tt (fun K i => q_X13_summands K i 8 (nI e) (nI w1) x3 (nI c) (nI g) (nI h9) 0 0 y4) (fun r => gI X r.2) := by
                  intro dh
                  induction dh with
                  | zero =>
                    intro h9 x3 y4 hh hlo8 hI hx
                    refine u_X13_summands_8 ?_; unfold qm_X13_summands_8
                    rw [nI_1]
                    exact w_rdI (pl3 pn1) rfl (by omega) (lk_b (oI hI).1 (by omega)) (w_leT (by omega) (by omega) (c9 _ x3 y4 hI hx))
                  | succ dh ih8 =>
                    intro h9 x3 y4 hh hlo8 hI hx
                    refine u_X13_summands_8 ?_; unfold qm_X13_summands_8
                    rw [nI_1, nI_1]
                    refine w_rdI (pl3 pn1) rfl (by omega) (lk_b (oI hI).1 (by omega)) (w_leF (by omega) (by omega) (w_if (fun _ => w_cs1 (tp_parted (oI hI) (by omega) hlo hlo8 (by omega)) (fun a y5 ⟨r1, r2, r3⟩ => ?_)) (fun _ => c9 _ x3 y4 hI hx)))
                    have r1 : fr (fun i => i = 38) y4 y5 := r1
                    have r2 : a = 0 ∨ a = 1 := r2
                    have r3 : a = 1 → rEa y5 B c g h9 ∧ ∀ v, v < B.flatten.length → y5.2.1 38 v = 1 → y5.2.1 38 (mtf B v) = 1 := r3
                    exact ih8 (h9 + 1) a y5 (by omega) (by omega) (fr_tr hI r1) (r2.imp id (fun e9 => ⟨e9, c, g, h9, (r3 e9).1, by omega, hlo, hlo8, by omega, (r3 e9).2⟩))
                refine u_X13_summands_7 ?_; unfold qm_X13_summands_7
                rw [nI_1, nI_1]
                exact w_rdI (pl3 pn1) rfl (by omega) (lk_b (oI hI).1 (by omega)) (w_leF (by omega) (by omega) (w_if (fun _ => l8 (rn_b B (c + 1) - (g + 1)) (g + 1) x3 y4 (by omega) (by omega) hI hx) (fun _ => c10 _ x3 y4 hI hx)))
            refine u_X13_summands_6 ?_; unfold qm_X13_summands_6
            exact w_rdF (lk_C (oI hI).1) (w_leF (by omega) (by omega) (w_if (fun _ => w_rdI (pl3 pn1) rfl (by omega) (lk_b (oI hI).1 (by omega)) (l7 (rn_b B (c + 1) - rn_b B c) (rn_b B c) x3 y4 (by omega) (Nat.le_refl _) hI hx)) (fun _ => c11 x3 _ y4 hI hx)))
        exact l6 B.length 0 0 y2 (by omega) fr_rf (Or.inl rfl)
  -- the first phase: the parts
  let K1 : ow_MS → Prop := fun y => fr (fun g => 2 ≤ g ∧ g ≤ 9 ∨ g = 37 ∨ g = 38 ∨ 3001 ≤ g ∧ g ≤ 3013) z3 y
  have oK : ∀ {y : ow_MS}, K1 y → oNet y 2000 A sg := fun hf => oNet_fr hf (fun g hg => by omega) o3
  have ph1 : ∀ (k p w : Nat) (cs : Nat → Nat) (y : ow_MS), p + k = P → K1 y → wRs y w cs → 2 * sN cs w ≤ sN (fun q => (pvl A m q A.flatten.length).length) p → Tt (fun K i => q_X13_summands K i 1 (nI e) (nI w) (nI p) 0 0 0 0 0 y) (fun r => gI X r.2) := by
    intro k
    have e1 : sN (fun q => (pvl A m q A.flatten.length).length) P = A.flatten.length := sN_fib (g := fun v => m (rn_c A v)) _ (fun v hv9 => hk.1 _ (rn_c_in A v hv9).1)
    have mon : ∀ a d9, sN (fun q => (pvl A m q A.flatten.length).length) a ≤ sN (fun q => (pvl A m q A.flatten.length).length) (a + d9) := by
      intro a d9
      induction d9 with
      | zero => exact Nat.le_refl _
      | succ d9 ih9 => exact Nat.le_trans ih9 (Nat.le_add_right _ _)
    induction k with
    | zero =>
      intro p w cs y hp hf hw hs
      have hpP : p = P := by omega
      rw [hpP, e1] at hs
      have e13 : y.1 2013 = nI P := by rw [(hf 2013 (by omega)).1]; exact hpt.1
      have hws := sN_ge w (fun k hk9 => (hw k hk9).1)
      refine u_X13_summands_1 ?_; unfold qm_X13_summands_1
      refine w_rdF e13 (w_leT (by omega) (by omega) (w_wrF ?_))
      have f5 : fr (fun g => g = 36) y (usF y 36 0) := fr_F rfl
      have hI5 : gI X y := gI_fr hf (fun g hg => by unfold per; omega) h3
      refine ph2 24 w 0 cs _ _ (by omega) ⟨?_, ⟨po_usF_at, fun k hk9 => by omega, fun j hj => by omega⟩, wRs_eq (fun i _ => rfl) hw, by omega⟩
      obtain ⟨i1, i2, i3, i4, i5, i6, i7⟩ := hI5
      exact ⟨gTape_fr f5 (by omega) i1, gRows_fr f5 (by omega) i2, gList_fr f5 (by omega) (by omega) (by omega) i3, ⟨0, by omega, po_usF_at, fun k hk9 => by omega, fun j hj => by omega⟩, gCash_fr f5 (by omega) (by omega) (by omega) (by omega) (by omega) i5, gBrs_fr f5 (by omega) (by omega) (by omega) i6, gX_fr f5 (fun g hg => by omega) i7⟩
    | succ k ih =>
      intro p w cs y hp hf hw hs
      have e13 : y.1 2013 = nI P := by rw [(hf 2013 (by omega)).1]; exact hpt.1
      have hws := sN_ge w (fun k hk9 => (hw k hk9).1)
      have hsn : sN (fun q => (pvl A m q A.flatten.length).length) (p + 1) = sN (fun q => (pvl A m q A.flatten.length).length) p + (pvl A m p A.flatten.length).length := rfl
      have hpm := mon (p + 1) k
      rw [show p + 1 + k = P by omega, e1] at hpm
      have l2 : ∀ (dd v : Nat) (x4 : Int32) (y : ow_MS), v + dd = A.flatten.length → K1 y → wRs y w cs → (∀ v', v' < v → y.2.1 38 v' = bZ (decide (m (rn_c A v') = p))) → ((x4 = 0 ∧ ∀ v', v' < v → m (rn_c A v') ≠ p) ∨ x4 = 1 ∧ ∃ v', v' < v ∧ m (rn_c A v') = p) → Tt (fun K i => q_X13_summands K i 2 (nI e) (nI w) (nI p) x4 (nI v) 0 0 0 y) (fun r => gI X r.2) := by
        intro dd
        induction dd with
        | zero =>
          intro v x4 y hv9 hf hw hr hx
          have hvV : v = A.flatten.length := by omega
          rw [hvV] at hr hx ⊢
          have c4 : ∀ (x4 : Int32) (w2 : Nat) (cs2 : Nat → Nat) (y2 : ow_MS), K1 y2 → wRs y2 w2 cs2 → 2 * sN cs2 w2 ≤ sN (fun q => (pvl A m q A.flatten.length).length) (p + 1) → Tt (fun K i => q_X13_summands K i 4 (nI e) (nI w2) (nI p) x4 (nI A.flatten.length) 0 0 0 y2) (fun r => gI X r.2) := by
            intro x4 w2 cs2 y2 hf2 hw2 hs2
            refine u_X13_summands_4 ?_; unfold qm_X13_summands_4
            rw [nI_1]
            exact ih (p + 1) w2 cs2 y2 (by omega) hf2 hw2 hs2
          refine u_X13_summands_2 ?_; unfold qm_X13_summands_2
          refine w_rdF (oK hf).1.V (w_leT (by omega) (Nat.le_refl _) ?_)
          rcases hx with ⟨hx, -⟩ | ⟨hx, v0, hv0, hm0⟩
          · subst hx
            exact w_ifT rfl (c4 0 w cs y hf hw (by omega))
          · subst hx
            have hclo : ∀ v', v' < A.flatten.length → y.2.1 38 v' = bZ true → y.2.1 38 (mtf A v') = bZ true := by
              intro v' hv' h9
              have hml := mtf_lt hd hv'
              rw [hr _ hv'] at h9
              have hmp : m (rn_c A v') = p := by
                by_cases h8 : m (rn_c A v') = p
                · exact h8
                · rw [decide_eq_false h8] at h9
                  exact absurd h9 (by decide)
              rw [hr _ hml, ← hk.2.1 _ _ ⟨v', mtf A v', mtf_mt hd hv', rfl, rfl⟩, hmp, decide_eq_true rfl]
            rw [nI_1]
            refine w_ifF (by decide) (w_cs0 (tp_waits (b := true) pn2 (by omega) (by omega) (oK hf) hclo) (fun y5 ⟨⟨A5, s5, c5, v5, k5, n5⟩, f5, i5⟩ => ?_))
            have n5 : 2 * c5 = cE (y.2.1 38) 1 A.flatten.length := n5
            have hcp : cE (y.2.1 38) 1 A.flatten.length = (pvl A m p A.flatten.length).length := by
              rw [← cE_filter]
              unfold pvl
              congr 1
              refine List.filter_congr (fun v' hv' => ?_)
              rw [hr _ (List.mem_range.mp hv')]
              by_cases h8 : m (rn_c A v') = p
              · rw [decide_eq_true h8]; rfl
              · rw [decide_eq_false h8]; rfl
            have hpos : 1 ≤ cE (y.2.1 38) 1 A.flatten.length := cE_pos (v := v0) (by rw [hr v0 hv0, hm0, decide_eq_true rfl]; rfl) _ hv0
            have hs2 : sN (fun k => if k < w then cs k else c5) (w + 1) = sN cs w + c5 := by
              show sN (fun k => if k < w then cs k else c5) w + (if w < w then cs w else c5) = _
              rw [if_neg (by omega), sN_congr w (fun q hq => by show (if q < w then cs q else c5) = cs q; rw [if_pos hq])]
            refine c4 1 (w + 1) (fun k => if k < w then cs k else c5) y5 (fr_tr hf (fr_mono (fun g hg => by omega) f5)) (fun k hk9 => ?_) (by omega)
            show 1 ≤ (if k < w then cs k else c5) ∧ ∃ A sg, vRow y5 37 (32 * k) A sg ∧ okF A.flatten (if k < w then cs k else c5)
            by_cases hk1 : k < w
            · rw [if_pos hk1]
              exact wRs_eq (z1 := y5) (fun i hi => i5 i (by omega)) hw k hk1
            · rw [if_neg hk1, show k = w by omega]
              exact ⟨by omega, A5, s5, v5, k5⟩
        | succ dd ihd =>
          intro v x4 y hv9 hf hw hr hx
          have hvl : v < A.flatten.length := by omega
          have hcl := (rn_c_in A v hvl).1
          have e12 : y.2.1 2012 (rn_c A v) = nI (m (rn_c A v)) := by
            rw [(hf 2012 (by omega)).2.1]
            exact hmz _ hcl
          have hmP := hk.1 _ hcl
          have c3 : ∀ (b : Bool), decide (m (rn_c A v) = p) = b → Tt (fun K i => q_X13_summands K i 3 (nI e) (nI w) (nI p) x4 (nI v) 0 (bZ b) (nI v) y) (fun r => gI X r.2) := by
            intro b hb
            refine u_X13_summands_3 ?_; unfold qm_X13_summands_3
            rw [nI_1]
            refine w_wrZ ml38 rfl (by omega) (w_rdI ml38 rfl (by omega) (x := bZ b) (by rw [po_usI_at]; cases b <;> rfl) ?_)
            have f9 : fr (fun g => g = 38) y (usI y 38 v (vp_nar .boolean (bZ b))) := fr_I rfl
            refine ihd (v + 1) (x4 ||| bZ b) _ (by omega) (fr_tr hf (fr_mono (fun g hg => by omega) f9)) (wRs_eq (fun i _ => by rw [(f9 37 (by omega)).2.1]) hw) (fun v' hv' => ?_) ?_
            · by_cases hvv : v' = v
              · rw [hvv, po_usI_at, hb]
                cases b <;> rfl
              · rw [po_usI_ne hvv]
                exact hr v' (by omega)
            · rcases hx with ⟨e0, hall⟩ | ⟨e0, v0, hv0, hm0⟩
              · subst e0
                cases b with
                | true => exact Or.inr ⟨by decide, v, by omega, of_decide_eq_true hb⟩
                | false =>
                  refine Or.inl ⟨by decide, fun v' hv' => ?_⟩
                  by_cases hvv : v' = v
                  · rw [hvv]; exact of_decide_eq_false hb
                  · exact hall v' (by omega)
              · subst e0
                exact Or.inr ⟨by cases b <;> decide, v0, by omega, hm0⟩
          refine u_X13_summands_2 ?_; unfold qm_X13_summands_2
          exact w_rdF (oK hf).1.V (w_leF (by omega) (by omega) (w_rdI (pl8 pn2) rfl (by omega) (lk_c (oK hf).1 hvl) (w_rdI (pl12 pn2) rfl (by omega) e12 (w_eqN (by omega) (by omega) (fun h9 => c3 true (decide_eq_true h9)) (fun h9 => c3 false (decide_eq_false h9))))))
      refine u_X13_summands_1 ?_; unfold qm_X13_summands_1
      exact w_rdF e13 (w_leF (by omega) (by omega) (l2 A.flatten.length 0 0 y (by omega) hf hw (fun v' hv' => by omega) (Or.inl ⟨rfl, fun v' hv' => by omega⟩)))
  exact ph1 P 0 0 (fun _ => 0) z3 (by omega) fr_rf (fun k hk9 => by omega) (Nat.le_refl _)
end SUM2
end
section
/-! 99zzze.rank -/
/-! rank -/
theorem rk_ix {x : Int64} {y : Int32} (h1 : ¬ lg_cmp x 0 < 0) (h2 : ¬ 0 < lg_cmp x 9) (h3 : ¬ y < -40) (h4 : y < 40) : ∃ i, i < 800 ∧ 80 * x.toInt32 + y + 40 = nI i := by
  obtain ⟨a, ha, rfl⟩ := pk_lOf (fun h => h1 ((lg_cmp_lt _ _).mpr h))
  have h6 : a ≤ 9 := by
    rcases Nat.lt_or_ge 9 a with q | q
    · exact absurd ((lg_cmp_gt _ _).mpr ((pk_lLT (a := 9) (by decide) ha).mpr q)) h2
    · exact q
  have h7 : -40 ≤ y.toInt := Int32.le_iff_toInt_le.mp (Int32.not_lt.mp h3)
  have h8 : y.toInt < 40 := Int32.lt_iff_toInt_lt.mp h4
  have h9 : (y + 40).toInt = y.toInt + 40 := by
    rw [Int32.toInt_add, show (40 : Int32).toInt = 40 from by decide]
    exact Int.bmod_eq_of_le (by omega) (by omega)
  obtain ⟨b, hb, e⟩ := vp_in_of (x := y + 40) (n := 80) (vp_in_iff.mpr ⟨by omega, by omega⟩) (by decide)
  refine ⟨80 * a + b, by omega, ?_⟩
  rw [lN_i, Int32.add_assoc, e]
  have e1 : 80 * nI a = nI (80 * a) := pk_mul 80 a
  rw [e1, nI_add]
section RK
variable {X : (Nat → Nat → Int32) → Prop} {z : ow_MS}
theorem u_X13_rank_1 {x1 : Int32} {x2 : Int32} {w3 : Int64} {z : ow_MS} {Q : (Int32 × ow_MS) → Prop} (H : Tt (fun K k => qm_X13_rank_1 K (q_X13_rank K k) x1 x2 w3 z) Q) : Tt (fun K k => q_X13_rank K k 1 x1 x2 w3 z) Q := w_un (fun _ _ => rfl) H
theorem e_X13_rank {x1 : Int32} {x2 : Int32} {z : ow_MS} {Q : (Int32 × ow_MS) → Prop} (H : Tt (fun K k => q_X13_rank K k 0 x1 x2 0 z) Q) : Te (fun K => qe_X13_rank K x1 x2 z) Q := w_te H
theorem u_X13_rank_0 {x1 : Int32} {x2 : Int32} {w3 : Int64} {z : ow_MS} {Q : (Int32 × ow_MS) → Prop} (H : Tt (fun K k => qm_X13_rank_0 K (q_X13_rank K k) x1 x2 w3 z) Q) : Tt (fun K k => q_X13_rank K k 0 x1 x2 w3 z) Q := w_un (fun _ _ => rfl) H
theorem tp_rank {i q : Int32} (h : gI X z) : Te (fun K => qe_X13_rank K i q z) (fun r => gI X r.2) := by
  have h1 := gI_1 (c := 0) h
  have c1 : ∀ w : Int64, Tt (fun K k => q_X13_rank K k 1 i q w (usF z 1 0)) (fun r => gI X r.2) := by
    intro w
    refine u_X13_rank_1 ?_; unfold qm_X13_rank_1
    exact w_some h1
  refine e_X13_rank ?_
  refine u_X13_rank_0 ?_; unfold qm_X13_rank_0
  refine w_wrF (w_rdF rfl (w_if (fun _ => c1 _) (fun a1 => w_if (fun _ => c1 _) (fun a2 => w_if (fun _ => c1 _) (fun a3 => w_if (fun a4 => ?_) (fun _ => c1 _))))))
  obtain ⟨k, hk, e⟩ := rk_ix a1 a2 a3 a4
  exact w_rdI ml87 e hk rfl (w_some h1)
end RK
end
section
/-! 99zzzf.smooth2 -/
/-! nets that are built, where the first visits keep their places -/
def bm2 (v : Nat) (z : ow_MS) (n : Nat) (A : rn_L) (P : Nat → Prop) (q : Nat) : Prop := ∃ (C : List (List Nat)) (l : List Nat), C.length = q ∧ rn_At z n (C.map (List.map (vAt A))) (l.map (vAt A)) ∧ (C.flatten ++ l).Nodup ∧ (∀ j, j ∈ C.flatten ++ l ↔ P j) ∧ ∀ j, j < v → P j → (C.flatten ++ l)[j]? = some j
def bmE2 (v : Nat) (z : ow_MS) (n : Nat) (A : rn_L) (P : Nat → Prop) (q : Nat) : Prop := ∃ (C : List (List Nat)), C.length = q ∧ rn_At z n (C.map (List.map (vAt A))) [] ∧ C.flatten.Nodup ∧ (∀ j, j ∈ C.flatten ↔ P j) ∧ ∀ j, j < v → P j → C.flatten[j]? = some j
theorem bmE2.b {v : Nat} {z : ow_MS} {n q : Nat} {A : rn_L} {P : Nat → Prop} (h : bmE2 v z n A P q) : bm2 v z n A P q := by
  obtain ⟨C, h1, h2, h3, h4, h5⟩ := h
  exact ⟨C, [], h1, h2, by rw [List.append_nil]; exact h3, by rw [List.append_nil]; exact h4, by rw [List.append_nil]; exact h5⟩
theorem bm2_eq {v : Nat} {z : ow_MS} {n q : Nat} {A : rn_L} {P P2 : Nat → Prop} (h : bm2 v z n A P q) (he : ∀ j, P j ↔ P2 j) : bm2 v z n A P2 q := by
  obtain ⟨C, l, h1, h2, h3, h4, h5⟩ := h
  exact ⟨C, l, h1, h2, h3, fun j => (h4 j).trans (he j), fun j hj h9 => h5 j hj ((he j).mpr h9)⟩
theorem bmE2_eq {v : Nat} {z : ow_MS} {n q : Nat} {A : rn_L} {P P2 : Nat → Prop} (h : bmE2 v z n A P q) (he : ∀ j, P j ↔ P2 j) : bmE2 v z n A P2 q := by
  obtain ⟨C, h1, h2, h3, h4, h5⟩ := h
  exact ⟨C, h1, h2, h3, fun j => (h4 j).trans (he j), fun j hj h9 => h5 j hj ((he j).mpr h9)⟩
theorem bmE2_fr {v : Nat} {F : Nat → Prop} {z z1 : ow_MS} {n q : Nat} {A : rn_L} {P : Nat → Prop} (hf : fr F z z1) (hF : ∀ g, F g → g < n + 1 ∨ n + 5 < g) (h : bmE2 v z n A P q) : bmE2 v z1 n A P q := by
  obtain ⟨C, h1, h2, h3⟩ := h
  exact ⟨C, h1, fr_At hf hF h2, h3⟩
theorem bm2_clear {v n : Nat} {z : ow_MS} {A : rn_L} (hn : mw_net n) : Te (fun K => qe_X12_clear K n z) (fun z1 => bmE2 v z1 n A (fun _ => False) 0 ∧ fr (fun g => g = n + 1 ∨ g = n + 2 ∨ g = n + 3) z z1) := by
  refine w_monoE (tn_clear hn) (fun z1 ⟨h1, h2⟩ => ⟨⟨[], rfl, h1, List.nodup_nil, fun j => by simp, fun j _ h9 => h9.elim⟩, h2⟩)
theorem bm2_add {v n q i : Nat} {x u : Int32} {z : ow_MS} {A : rn_L} {P : Nat → Prop} (hn : mw_net n) (hV : A.flatten.length < 40) (hP : ∀ j, P j → j < A.flatten.length) (hi : ¬ P i) (hpos : i < v → ∀ j, P j ↔ j < i) (hx : x = nI (crs A i)) (hu : u = nI (uns A i)) (h : bm2 v z n A P q) : Te (fun K => qe_X12_add K n x u z) (fun z1 => bm2 v z1 n A (fun j => P j ∨ j = i) q ∧ fr (fun g => g = n + 1 ∨ g = n + 4 ∨ g = n + 5) z z1) := by
  obtain ⟨C, l, h1, h2, h3, h4, h5⟩ := h
  have hlen : (C.flatten ++ l).length ≤ A.flatten.length := by
    have := nodup_le (C.flatten ++ l) (List.range A.flatten.length) h3 (fun j hj => List.mem_range.mpr (hP j ((h4 j).mp hj)))
    rw [List.length_range] at this
    exact this
  rw [hx, hu]
  refine w_monoE (tn_add hn h2 (by rw [fl_map, ← List.map_append, List.length_map]; omega)) (fun z1 ⟨g1, g2⟩ => ⟨⟨C, l ++ [i], h1, by rw [List.map_append]; exact g1, ?_, fun j => ?_, fun j hj hPj => ?_⟩, g2⟩)
  · rw [← List.append_assoc, List.nodup_append]
    refine ⟨h3, by simp, fun a ha b hb e => hi ((h4 i).mp ?_)⟩
    have : b = i := by simpa using hb
    rw [← this, ← e]
    exact ha
  · rw [← List.append_assoc, List.mem_append, h4 j, List.mem_singleton]
  · rw [← List.append_assoc]
    rcases hPj with hPj | hPj
    · have h9 := h5 j hj hPj
      rw [List.getElem?_append_left (List.getElem?_eq_some_iff.mp h9).1]
      exact h9
    · subst hPj
      have hl : (C.flatten ++ l).length = j := by
        have := nodup_eq h3 (List.nodup_range (n := j)) (fun a => by rw [h4 a, hpos hj a, List.mem_range])
        rw [this, List.length_range]
      rw [List.getElem?_append_right (by omega), hl, Nat.sub_self]
      rfl
theorem bm2_end {v n q : Nat} {z : ow_MS} {A : rn_L} {P : Nat → Prop} (hn : mw_net n) (hq : q < 39) (h : bm2 v z n A P q) : Te (fun K => qe_X12_end K n z) (fun z1 => bmE2 v z1 n A P (q + 1) ∧ fr (fun g => g = n + 2 ∨ g = n + 3) z z1) := by
  obtain ⟨C, l, h1, h2, h3, h4, h5⟩ := h
  have e : (C ++ [l]).flatten = C.flatten ++ l := by rw [List.flatten_append]; simp
  refine w_monoE (tn_end hn h2 (by rw [List.length_map]; omega)) (fun z1 ⟨g1, g2⟩ => ⟨⟨C ++ [l], by rw [List.length_append, h1]; rfl, by rw [List.map_append]; exact g1, by rw [e]; exact h3, fun j => by rw [e]; exact h4 j, by rw [e]; exact h5⟩, g2⟩)
theorem tp_smoothIn2 {o n c v w : Nat} {z : ow_MS} {A : rn_L} (ho : mw_net o) (hn : mw_net n) (hon : n ≠ o) (hl : A.flatten.length ≤ 24) (hC : A.length ≤ 37) (hA : rn_At z o A []) (hc : c < A.length) (hv1 : rn_b A c ≤ v) (hv2 : v < rn_b A (c + 1)) (hvw : v < w) (hw : w < A.flatten.length) : Te (fun K => qe_X13_smoothIn K o (nI c) (nI v) (nI w) n z) (fun z1 => (∃ q, q ≤ A.length + 1 ∧ bmE2 v z1 n A (fun j => j < A.flatten.length ∧ j ≠ v ∧ j ≠ w) q) ∧ (∀ x, x < 40 → z1.2.1 (n + 6) x = z.2.1 (o + 6) x) ∧ fr (fun g => n + 1 ≤ g ∧ g ≤ n + 6) z z1) := by
  have hmn := net_mod hn
  have hmo := net_mod ho
  let I : ow_MS → Prop := fun y => fr (fun g => n + 1 ≤ g ∧ g ≤ n + 6) z y ∧ ∀ x, x < 40 → y.2.1 (n + 6) x = z.2.1 (o + 6) x
  let Q : ow_MS → Prop := fun z1 => (∃ q, q ≤ A.length + 1 ∧ bmE2 v z1 n A (fun j => j < A.flatten.length ∧ j ≠ v ∧ j ≠ w) q) ∧ (∀ x, x < 40 → z1.2.1 (n + 6) x = z.2.1 (o + 6) x) ∧ fr (fun g => n + 1 ≤ g ∧ g ≤ n + 6) z z1
  have atI : ∀ {y : ow_MS}, I y → rn_At y o A [] := fun hI => fr_At hI.1 (fun g hg => by omega) hA
  have cuI : ∀ {y : ow_MS} {i : Nat}, I y → i < A.flatten.length → y.2.1 (o + 4) i = nI (crs A i) ∧ y.2.1 (o + 5) i = nI (uns A i) := fun hI hi => at_cu (atI hI) hi
  have bI : ∀ {y : ow_MS} {k : Nat}, I y → k ≤ A.length → y.2.1 (o + 3) k = nI (rn_b A k) := fun hI hk => (atI hI).2.2.1 _ hk
  have addI : ∀ {y y2 : ow_MS}, I y → fr (fun g => g = n + 1 ∨ g = n + 4 ∨ g = n + 5) y y2 → I y2 := fun hI hf => ⟨fr_tr hI.1 (fr_mono (fun g hg => by omega) hf), fun x hx => by rw [(hf (n + 6) (by omega)).2.1]; exact hI.2 x hx⟩
  have endI : ∀ {y y2 : ow_MS}, I y → fr (fun g => g = n + 2 ∨ g = n + 3) y y2 → I y2 := fun hI hf => ⟨fr_tr hI.1 (fr_mono (fun g hg => by omega) hf), fun x hx => by rw [(hf (n + 6) (by omega)).2.1]; exact hI.2 x hx⟩
  have hbl := rn_b_le A (c + 1)
  have hbl2 := fun k => rn_b_le A k
  have hbl3 := hbl2 c
  obtain ⟨hJ1, hJ2, hJ3⟩ := rn_c_in A w hw
  obtain ⟨J, hJ⟩ : ∃ J, J = rn_c A w := ⟨_, rfl⟩
  rw [← hJ] at hJ1 hJ2 hJ3
  have hbJ := hbl2 (J + 1)
  have mono := fun {a b : Nat} (h9 : a ≤ b) => rn_b_mono2 (A := A) h9
  have l13 : ∀ (k i : Nat) (y : ow_MS), i + k = w → v + 1 ≤ i → I y → bm2 v y n A (fun j => j < A.flatten.length ∧ ¬ (v ≤ j ∧ j ≤ w) ∨ v < j ∧ j < i) A.length → (∀ y2, I y2 → bm2 v y2 n A (fun j => j < A.flatten.length ∧ ¬ (v ≤ j ∧ j ≤ w) ∨ v < j ∧ j < w) A.length → Tt (fun K i9 => cs0 (qe_X12_end K n y2) fun z35 => some z35) Q) → Tt (fun K i9 => q_X13_smoothIn K i9 13 (nI c) (nI v) (nI w) 1 (nI i) 0 0 o n 0 y) Q := by
    intro k
    induction k with
    | zero =>
      intro i y hi hlo hI hb hout
      have hie : i = w := by omega
      rw [hie] at hb ⊢
      refine u_X13_smoothIn_13 ?_; unfold qm_X13_smoothIn_13
      exact (w_leT (by omega) (Nat.le_refl _) (hout y hI hb))
    | succ k ih =>
      intro i y hi hlo hI hb hout
      have hil : i < A.flatten.length := by omega
      refine u_X13_smoothIn_13 ?_; unfold qm_X13_smoothIn_13
      refine (w_leF (by omega) (by omega) (w_rdI (pl4 ho) rfl (by omega) (cuI hI hil).1 (w_rdI (pl5 ho) rfl (by omega) (cuI hI hil).2 (w_cs0 (bm2_add hn (by omega) (fun j hj => by omega) (by omega) (fun hv9 j => by omega) rfl rfl hb) (fun y2 ⟨g1, g2⟩ => ?_)))))
      rw [nI_1]
      exact ih (i + 1) y2 (by omega) (by omega) (addI hI g2) (bm2_eq g1 (fun j => by omega)) hout
  have fin1 : ∀ y, I y → bmE2 v y n A (fun j => j < A.flatten.length ∧ ¬ (v ≤ j ∧ j ≤ w)) A.length → Tt (fun K i9 => q_X13_smoothIn K i9 13 (nI c) (nI v) (nI w) 1 (nI (v + 1)) 0 0 o n 0 y) Q := by
    intro y hI hb
    refine l13 (w - (v + 1)) (v + 1) y (by omega) (Nat.le_refl _) hI (bm2_eq hb.b (fun j => by omega)) (fun y2 hI2 hb2 => w_cs0 (bm2_end hn (by omega) hb2) (fun y3 ⟨g1, g2⟩ => w_some ⟨⟨A.length + 1, Nat.le_refl _, bmE2_eq g1 (fun j => by omega)⟩, (endI hI2 g2).2, (endI hI2 g2).1⟩))
  -- a component as it is
  have l11 : ∀ (x5 : Int32) (m q : Nat) (D : Nat → Prop), m < A.length → q < 39 → (∀ j, D j → j < A.flatten.length ∧ ¬ (rn_b A m ≤ j ∧ j < rn_b A (m + 1))) → (rn_b A m < v → ∀ j, D j ↔ j < rn_b A m) → (∀ y2, I y2 → bmE2 v y2 n A (fun j => D j ∨ rn_b A m ≤ j ∧ j < rn_b A (m + 1)) (q + 1) → Tt (fun K i9 => q_X13_smoothIn K i9 12 (nI c) (nI v) (nI w) x5 (nI m) 0 0 o n 0 y2) Q) → ∀ (k i : Nat) (y : ow_MS), i + k = rn_b A (m + 1) → rn_b A m ≤ i → I y → bm2 v y n A (fun j => D j ∨ rn_b A m ≤ j ∧ j < i) q → Tt (fun K i9 => q_X13_smoothIn K i9 11 (nI c) (nI v) (nI w) x5 (nI m) (nI i) 0 o n 0 y) Q := by
    intro x5 m q D hm hq hD hDp hout k
    have hbm := hbl2 (m + 1)
    induction k with
    | zero =>
      intro i y hi hlo hI hb
      have hie : i = rn_b A (m + 1) := by omega
      rw [hie] at hb ⊢
      refine u_X13_smoothIn_11 ?_; unfold qm_X13_smoothIn_11
      rw [nI_1]
      exact w_rdI (pl3 ho) rfl (by omega) (bI hI (by omega)) (w_leT (by omega) (Nat.le_refl _) (w_cs0 (bm2_end hn hq hb) (fun y2 ⟨g1, g2⟩ => hout y2 (endI hI g2) g1)))
    | succ k ih =>
      intro i y hi hlo hI hb
      have hil : i < A.flatten.length := by omega
      refine u_X13_smoothIn_11 ?_; unfold qm_X13_smoothIn_11
      rw [nI_1]
      refine w_rdI (pl3 ho) rfl (by omega) (bI hI (by omega)) (w_leF (by omega) (by omega) (w_rdI (pl4 ho) rfl (by omega) (cuI hI hil).1 (w_rdI (pl5 ho) rfl (by omega) (cuI hI hil).2 (w_cs0 (bm2_add hn (by omega) (fun j hj => ?_) (fun h9 => ?_) (fun hv9 j => ?_) rfl rfl hb) (fun y2 ⟨g1, g2⟩ => ?_)))))
      · rcases hj with hj | hj
        · exact (hD j hj).1
        · omega
      · rcases h9 with h9 | h9
        · exact (hD i h9).2 ⟨by omega, by omega⟩
        · omega
      · have := hDp (by omega) j
        constructor
        · rintro (h8 | h8)
          · have := this.mp h8
            omega
          · omega
        · intro h8
          by_cases h7 : j < rn_b A m
          · exact Or.inl (this.mpr h7)
          · exact Or.inr (by omega)
      · rw [nI_1]
        refine ih (i + 1) y2 (by omega) (by omega) (addI hI g2) (bm2_eq g1 (fun j => ?_))
        constructor
        · rintro ((h9 | h9) | h9)
          · exact Or.inl h9
          · exact Or.inr (by omega)
          · exact Or.inr (by omega)
        · rintro (h9 | h9)
          · exact Or.inl (Or.inl h9)
          · by_cases hji : j = i
            · exact Or.inr hji
            · exact Or.inl (Or.inr (by omega))
  have c10 : ∀ (x5 : Int32) (m q : Nat) (D : Nat → Prop) (y : ow_MS), m < A.length → q < 39 → (∀ j, D j → j < A.flatten.length ∧ ¬ (rn_b A m ≤ j ∧ j < rn_b A (m + 1))) → (rn_b A m < v → ∀ j, D j ↔ j < rn_b A m) → (∀ y2, I y2 → bmE2 v y2 n A (fun j => D j ∨ rn_b A m ≤ j ∧ j < rn_b A (m + 1)) (q + 1) → Tt (fun K i9 => q_X13_smoothIn K i9 12 (nI c) (nI v) (nI w) x5 (nI m) 0 0 o n 0 y2) Q) → I y → bmE2 v y n A D q → Tt (fun K i9 => q_X13_smoothIn K i9 10 (nI c) (nI v) (nI w) x5 (nI m) 0 0 o n 0 y) Q := by
    intro x5 m q D y hm hq hD hDp hout hI hb
    have hmm := rn_b_mono A m
    refine u_X13_smoothIn_10 ?_; unfold qm_X13_smoothIn_10
    refine w_rdI (pl3 ho) rfl (by omega) (bI hI (by omega)) (l11 x5 m q D hm hq hD hDp hout (rn_b A (m + 1) - rn_b A m) (rn_b A m) y (by omega) (Nat.le_refl _) hI (bm2_eq hb.b (fun j => ?_)))
    constructor
    · exact Or.inl
    · rintro (h9 | h9)
      · exact h9
      · omega
  by_cases hone : w < rn_b A (c + 1)
  · -- both visits in one component
    have aft : ∀ (k m : Nat) (y : ow_MS), m + k = A.length → c < m → I y → bmE2 v y n A (fun j => j < rn_b A m ∧ ¬ (v ≤ j ∧ j ≤ w)) m → Tt (fun K i9 => q_X13_smoothIn K i9 2 (nI c) (nI v) (nI w) 1 (nI m) 0 0 o n 0 y) Q := by
      intro k
      induction k with
      | zero =>
        intro m y hm hcm hI hb
        have hme : m = A.length := by omega
        rw [hme, rn_b_len] at hb
        refine u_X13_smoothIn_2 ?_; unfold qm_X13_smoothIn_2
        rw [nI_1 v]
        exact w_rdF (atI hI).2.1 (w_leT (by omega) (by omega) (w_ifF (by decide) (fin1 y hI hb)))
      | succ k ih =>
        intro m y hm hcm hI hb
        have m1 := mono (a := c + 1) (b := m) (by omega)
        have m2 := rn_b_mono A m
        have m3 := hbl2 (m + 1)
        refine u_X13_smoothIn_2 ?_; unfold qm_X13_smoothIn_2
        rw [nI_1 v]
        refine w_rdF (atI hI).2.1 (w_leF (by omega) (by omega) (w_ifF (fun e => by have := (nI_eq (by omega) (by omega)).mp e; omega) (w_ifF (by decide) (c10 1 m m _ y (by omega) (by omega) (fun j hj => by omega) (fun hv9 j => by omega) (fun y2 hI2 hb2 => ?_) hI hb))))
        refine u_X13_smoothIn_12 ?_; unfold qm_X13_smoothIn_12
        rw [nI_1]
        exact ih (m + 1) y2 (by omega) (by omega) hI2 (bmE2_eq hb2 (fun j => by omega))
    have l4 : ∀ (k i : Nat) (y : ow_MS), i + k = rn_b A (c + 1) → w + 1 ≤ i → I y → bm2 v y n A (fun j => j < v ∨ w < j ∧ j < i) c → (∀ y2, I y2 → bm2 v y2 n A (fun j => j < v ∨ w < j ∧ j < rn_b A (c + 1)) c → Tt (fun K i9 => q_X13_smoothIn K i9 9 (nI c) (nI v) (nI w) 1 (nI c) (nI (rn_b A (c + 1))) 0 o n 0 y2) Q) → Tt (fun K i9 => q_X13_smoothIn K i9 4 (nI c) (nI v) (nI w) 1 (nI c) (nI i) 0 o n 0 y) Q := by
      intro k
      induction k with
      | zero =>
        intro i y hi hlo hI hb hout
        have hie : i = rn_b A (c + 1) := by omega
        rw [hie] at hb ⊢
        refine u_X13_smoothIn_4 ?_; unfold qm_X13_smoothIn_4
        exact w_rdI (pl3 ho) (nI_1 _) (by omega) (bI hI (by omega)) (w_leT (by omega) (Nat.le_refl _) (hout y hI hb))
      | succ k ih =>
        intro i y hi hlo hI hb hout
        have hil : i < A.flatten.length := by omega
        refine u_X13_smoothIn_4 ?_; unfold qm_X13_smoothIn_4
        refine w_rdI (pl3 ho) (nI_1 _) (by omega) (bI hI (by omega)) (w_leF (by omega) (by omega) (w_rdI (pl4 ho) rfl (by omega) (cuI hI hil).1 (w_rdI (pl5 ho) rfl (by omega) (cuI hI hil).2 (w_cs0 (bm2_add hn (by omega) (fun j hj => by omega) (by omega) (fun hv9 j => by omega) rfl rfl hb) (fun y2 ⟨g1, g2⟩ => ?_)))))
        rw [nI_1]
        exact ih (i + 1) y2 (by omega) (by omega) (addI hI g2) (bm2_eq g1 (fun j => by omega)) hout
    have l3 : ∀ (k i : Nat) (y : ow_MS), i + k = v → rn_b A c ≤ i → I y → bm2 v y n A (fun j => j < i) c → (∀ y2, I y2 → bm2 v y2 n A (fun j => j < v) c → Tt (fun K i9 => q_X13_smoothIn K i9 4 (nI c) (nI v) (nI w) 1 (nI c) (nI (w + 1)) 0 o n 0 y2) Q) → Tt (fun K i9 => q_X13_smoothIn K i9 3 (nI c) (nI v) (nI w) 1 (nI c) (nI i) 0 o n 0 y) Q := by
      intro k
      induction k with
      | zero =>
        intro i y hi hlo hI hb hout
        have hie : i = v := by omega
        rw [hie] at hb ⊢
        refine u_X13_smoothIn_3 ?_; unfold qm_X13_smoothIn_3
        rw [nI_1 w]
        exact w_leT (by omega) (Nat.le_refl _) (w_ifF (by decide) (hout y hI hb))
      | succ k ih =>
        intro i y hi hlo hI hb hout
        have hil : i < A.flatten.length := by omega
        refine u_X13_smoothIn_3 ?_; unfold qm_X13_smoothIn_3
        rw [nI_1 w]
        refine (w_leF (by omega) (by omega) (w_rdI (pl4 ho) rfl (by omega) (cuI hI hil).1 (w_rdI (pl5 ho) rfl (by omega) (cuI hI hil).2 (w_cs0 (bm2_add hn (by omega) (fun j hj => by omega) (by omega) (fun hv9 j => by omega) rfl rfl hb) (fun y2 ⟨g1, g2⟩ => ?_)))))
        rw [nI_1]
        exact ih (i + 1) y2 (by omega) (by omega) (addI hI g2) (bm2_eq g1 (fun j => by omega)) hout
    have bef : ∀ (k m : Nat) (y : ow_MS), m + k = c → I y → bmE2 v y n A (fun j => j < rn_b A m) m → Tt (fun K i9 => q_X13_smoothIn K i9 2 (nI c) (nI v) (nI w) 1 (nI m) 0 0 o n 0 y) Q := by
      intro k
      induction k with
      | zero =>
        intro m y hm hI hb
        have hme : m = c := by omega
        subst hme
        refine u_X13_smoothIn_2 ?_; unfold qm_X13_smoothIn_2
        refine w_rdF (atI hI).2.1 (w_leF (by omega) (by omega) (w_ifT rfl (w_rdI (pl3 ho) rfl (by omega) (bI hI (by omega)) (l3 (v - rn_b A m) (rn_b A m) y (by omega) (Nat.le_refl _) hI hb.b (fun y2 hI2 hb2 => l4 (rn_b A (m + 1) - (w + 1)) (w + 1) y2 (by omega) (Nat.le_refl _) hI2 (bm2_eq hb2 (fun j => by omega)) (fun y3 hI3 hb3 => ?_))))))
        refine u_X13_smoothIn_9 ?_; unfold qm_X13_smoothIn_9
        refine w_cs0 (bm2_end hn (by omega) hb3) (fun y4 ⟨g1, g2⟩ => ?_)
        refine u_X13_smoothIn_12 ?_; unfold qm_X13_smoothIn_12
        rw [nI_1]
        exact aft (A.length - (m + 1)) (m + 1) y4 (by omega) (by omega) (endI hI3 g2) (bmE2_eq g1 (fun j => by omega))
      | succ k ih =>
        intro m y hm hI hb
        have m1 := mono (a := m + 1) (b := c) (by omega)
        have m2 := rn_b_mono A m
        refine u_X13_smoothIn_2 ?_; unfold qm_X13_smoothIn_2
        rw [nI_1 v]
        refine w_rdF (atI hI).2.1 (w_leF (by omega) (by omega) (w_ifF (fun e => by have := (nI_eq (by omega) (by omega)).mp e; omega) (w_ifF (by decide) (c10 1 m m _ y (by omega) (by omega) (fun j hj => by omega) (fun hv9 j => by omega) (fun y2 hI2 hb2 => ?_) hI hb))))
        refine u_X13_smoothIn_12 ?_; unfold qm_X13_smoothIn_12
        rw [nI_1]
        exact ih (m + 1) y2 (by omega) hI2 (bmE2_eq hb2 (fun j => by omega))
    refine e_X13_smoothIn ?_
    refine u_X13_smoothIn_0 ?_; unfold qm_X13_smoothIn_0
    refine w_cs0 (bm2_clear (A := A) (v := v) hn) (fun z3 ⟨b3, f3⟩ => w_cs0 (tn_signs hn ho hon) (fun z4 ⟨f4, s4⟩ => ?_))
    have hI4 : I z4 := ⟨fr_tr (fr_mono (fun g hg => by omega) f3) (fr_mono (fun g hg => by omega) f4), fun x hx => by rw [s4 x hx, (f3 (o + 6) (by omega)).2.1]⟩
    refine w_rdI (pl3 ho) (nI_1 _) (by omega) (bI hI4 (by omega)) (w_leF (by omega) hone ?_)
    refine u_X13_smoothIn_1 ?_; unfold qm_X13_smoothIn_1
    exact bef c 0 z4 (by omega) hI4 (bmE2_eq (bmE2_fr f4 (fun g hg => by omega) b3) (fun j => ⟨fun h9 => h9.elim, fun h9 => by rw [rn_b0] at h9; omega⟩))
  · -- two components become one
    have hcJ : c < J := by
      rcases Nat.lt_or_ge c J with h9 | h9
      · exact h9
      · have := mono (a := J + 1) (b := c + 1) (by omega)
        omega
    have mJ := mono (a := c + 1) (b := J) (by omega)
    have mJ2 := rn_b_mono A J
    have aft : ∀ (k m q : Nat) (y : ow_MS), m + k = A.length → c < m → q ≤ m → I y → bmE2 v y n A (fun j => (j < rn_b A m ∨ rn_b A J ≤ j ∧ j < rn_b A (J + 1)) ∧ j ≠ v ∧ j ≠ w) q → Tt (fun K i9 => q_X13_smoothIn K i9 2 (nI c) (nI v) (nI w) 0 (nI m) 0 0 o n 0 y) Q := by
      intro k
      induction k with
      | zero =>
        intro m q y hm hcm hq hI hb
        have hme : m = A.length := by omega
        rw [hme, rn_b_len] at hb
        refine u_X13_smoothIn_2 ?_; unfold qm_X13_smoothIn_2
        exact w_rdF (atI hI).2.1 (w_leT (by omega) (by omega) (w_ifT rfl (w_some ⟨⟨q, by omega, bmE2_eq hb (fun j => by omega)⟩, hI.2, hI.1⟩)))
      | succ k ih =>
        intro m q y hm hcm hq hI hb
        have m1 := mono (a := c + 1) (b := m) (by omega)
        have m2 := rn_b_mono A m
        have m3 := hbl2 (m + 1)
        have g10 : (m < J ∨ J < m) → Tt (fun K i9 => q_X13_smoothIn K i9 10 (nI c) (nI v) (nI w) 0 (nI m) 0 0 o n 0 y) Q := by
          intro hmJ
          have hdis : rn_b A (m + 1) ≤ rn_b A J ∨ rn_b A (J + 1) ≤ rn_b A m := by
            rcases hmJ with h9 | h9
            · exact Or.inl (mono (by omega))
            · exact Or.inr (mono (by omega))
          refine c10 0 m q _ y (by omega) (by omega) (fun j hj => by omega) (fun hv9 j => by omega) (fun y2 hI2 hb2 => ?_) hI hb
          refine u_X13_smoothIn_12 ?_; unfold qm_X13_smoothIn_12
          rw [nI_1]
          exact ih (m + 1) (q + 1) y2 (by omega) (by omega) (by omega) hI2 (bmE2_eq hb2 (fun j => by omega))
        refine u_X13_smoothIn_2 ?_; unfold qm_X13_smoothIn_2
        refine w_rdF (atI hI).2.1 (w_leF (by omega) (by omega) (w_ifF (fun e => by have := (nI_eq (by omega) (by omega)).mp e; omega) (w_ifT rfl (w_rdI (pl3 ho) rfl (by omega) (bI hI (by omega)) (w_lt (by omega) (by omega) (fun h9 => g10 ?_) (fun h9 => w_rdI (pl3 ho) (nI_1 _) (by omega) (bI hI (by omega)) (w_lt (by omega) (by omega) (fun h8 => ?_) (fun h8 => g10 ?_))))))))
        · rcases Nat.lt_or_ge J m with h8 | h8
          · exact Or.inr h8
          · have := mono (a := m) (b := J) h8
            omega
        · have hmJ : m = J := by
            have := rn_c_of A m w h9 h8
            rw [hJ]
            exact this.symm
          refine u_X13_smoothIn_12 ?_; unfold qm_X13_smoothIn_12
          rw [nI_1]
          rw [hmJ] at hb ⊢
          exact ih (J + 1) q y (by omega) (by omega) (by omega) hI (bmE2_eq hb (fun j => by omega))
        · rcases Nat.lt_or_ge m J with h7 | h7
          · exact Or.inl h7
          · have := mono (a := J + 1) (b := m + 1) (by omega)
            omega
    have l8 : ∀ (k i : Nat) (y : ow_MS), i + k = rn_b A (c + 1) → v + 1 ≤ i → I y → bm2 v y n A (fun j => j < v ∨ rn_b A J ≤ j ∧ j < rn_b A (J + 1) ∧ j ≠ w ∨ v < j ∧ j < i) c → (∀ y2, I y2 → bm2 v y2 n A (fun j => j < v ∨ rn_b A J ≤ j ∧ j < rn_b A (J + 1) ∧ j ≠ w ∨ v < j ∧ j < rn_b A (c + 1)) c → Tt (fun K i9 => q_X13_smoothIn K i9 9 (nI c) (nI v) (nI w) 0 (nI c) (nI J) 0 o n 0 y2) Q) → Tt (fun K i9 => q_X13_smoothIn K i9 8 (nI c) (nI v) (nI w) 0 (nI c) (nI J) (nI i) o n 0 y) Q := by
      intro k
      induction k with
      | zero =>
        intro i y hi hlo hI hb hout
        have hie : i = rn_b A (c + 1) := by omega
        rw [hie] at hb ⊢
        refine u_X13_smoothIn_8 ?_; unfold qm_X13_smoothIn_8
        exact w_rdI (pl3 ho) (nI_1 _) (by omega) (bI hI (by omega)) (w_leT (by omega) (Nat.le_refl _) (hout y hI hb))
      | succ k ih =>
        intro i y hi hlo hI hb hout
        have hil : i < A.flatten.length := by omega
        refine u_X13_smoothIn_8 ?_; unfold qm_X13_smoothIn_8
        refine w_rdI (pl3 ho) (nI_1 _) (by omega) (bI hI (by omega)) (w_leF (by omega) (by omega) (w_rdI (pl4 ho) rfl (by omega) (cuI hI hil).1 (w_rdI (pl5 ho) rfl (by omega) (cuI hI hil).2 (w_cs0 (bm2_add hn (by omega) (fun j hj => by omega) (by omega) (fun hv9 j => by omega) rfl rfl hb) (fun y2 ⟨g1, g2⟩ => ?_)))))
        rw [nI_1]
        exact ih (i + 1) y2 (by omega) (by omega) (addI hI g2) (bm2_eq g1 (fun j => by omega)) hout
    have l7 : ∀ (k i : Nat) (y : ow_MS), i + k = w → rn_b A J ≤ i → I y → bm2 v y n A (fun j => j < v ∨ w < j ∧ j < rn_b A (J + 1) ∨ rn_b A J ≤ j ∧ j < i) c → (∀ y2, I y2 → bm2 v y2 n A (fun j => j < v ∨ w < j ∧ j < rn_b A (J + 1) ∨ rn_b A J ≤ j ∧ j < w) c → Tt (fun K i9 => q_X13_smoothIn K i9 8 (nI c) (nI v) (nI w) 0 (nI c) (nI J) (nI (v + 1)) o n 0 y2) Q) → Tt (fun K i9 => q_X13_smoothIn K i9 7 (nI c) (nI v) (nI w) 0 (nI c) (nI J) (nI i) o n 0 y) Q := by
      intro k
      induction k with
      | zero =>
        intro i y hi hlo hI hb hout
        have hie : i = w := by omega
        rw [hie] at hb ⊢
        refine u_X13_smoothIn_7 ?_; unfold qm_X13_smoothIn_7
        rw [nI_1 v]
        exact (w_leT (by omega) (Nat.le_refl _) (hout y hI hb))
      | succ k ih =>
        intro i y hi hlo hI hb hout
        have hil : i < A.flatten.length := by omega
        refine u_X13_smoothIn_7 ?_; unfold qm_X13_smoothIn_7
        rw [nI_1 v]
        refine (w_leF (by omega) (by omega) (w_rdI (pl4 ho) rfl (by omega) (cuI hI hil).1 (w_rdI (pl5 ho) rfl (by omega) (cuI hI hil).2 (w_cs0 (bm2_add hn (by omega) (fun j hj => by omega) (by omega) (fun hv9 j => by omega) rfl rfl hb) (fun y2 ⟨g1, g2⟩ => ?_)))))
        rw [nI_1]
        exact ih (i + 1) y2 (by omega) (by omega) (addI hI g2) (bm2_eq g1 (fun j => by omega)) hout
    have l6 : ∀ (k i : Nat) (y : ow_MS), i + k = rn_b A (J + 1) → w + 1 ≤ i → I y → bm2 v y n A (fun j => j < v ∨ w < j ∧ j < i) c → (∀ y2, I y2 → bm2 v y2 n A (fun j => j < v ∨ w < j ∧ j < rn_b A (J + 1)) c → Tt (fun K i9 => q_X13_smoothIn K i9 7 (nI c) (nI v) (nI w) 0 (nI c) (nI J) (nI (rn_b A J)) o n 0 y2) Q) → Tt (fun K i9 => q_X13_smoothIn K i9 6 (nI c) (nI v) (nI w) 0 (nI c) (nI J) (nI i) o n 0 y) Q := by
      intro k
      induction k with
      | zero =>
        intro i y hi hlo hI hb hout
        have hie : i = rn_b A (J + 1) := by omega
        rw [hie] at hb ⊢
        refine u_X13_smoothIn_6 ?_; unfold qm_X13_smoothIn_6
        exact w_rdI (pl3 ho) (nI_1 _) (by omega) (bI hI (by omega)) (w_leT (by omega) (Nat.le_refl _) (w_rdI (pl3 ho) rfl (by omega) (bI hI (by omega)) (hout y hI hb)))
      | succ k ih =>
        intro i y hi hlo hI hb hout
        have hil : i < A.flatten.length := by omega
        refine u_X13_smoothIn_6 ?_; unfold qm_X13_smoothIn_6
        refine w_rdI (pl3 ho) (nI_1 _) (by omega) (bI hI (by omega)) (w_leF (by omega) (by omega) (w_rdI (pl4 ho) rfl (by omega) (cuI hI hil).1 (w_rdI (pl5 ho) rfl (by omega) (cuI hI hil).2 (w_cs0 (bm2_add hn (by omega) (fun j hj => by omega) (by omega) (fun hv9 j => by omega) rfl rfl hb) (fun y2 ⟨g1, g2⟩ => ?_)))))
        rw [nI_1]
        exact ih (i + 1) y2 (by omega) (by omega) (addI hI g2) (bm2_eq g1 (fun j => by omega)) hout
    have l3 : ∀ (k i : Nat) (y : ow_MS), i + k = v → rn_b A c ≤ i → I y → bm2 v y n A (fun j => j < i) c → (∀ y2, I y2 → bm2 v y2 n A (fun j => j < v) c → Tt (fun K i9 => q_X13_smoothIn K i9 5 (nI c) (nI v) (nI w) 0 (nI c) 0 0 o n 0 y2) Q) → Tt (fun K i9 => q_X13_smoothIn K i9 3 (nI c) (nI v) (nI w) 0 (nI c) (nI i) 0 o n 0 y) Q := by
      intro k
      induction k with
      | zero =>
        intro i y hi hlo hI hb hout
        have hie : i = v := by omega
        rw [hie] at hb ⊢
        refine u_X13_smoothIn_3 ?_; unfold qm_X13_smoothIn_3
        exact w_leT (by omega) (Nat.le_refl _) (w_ifT rfl (hout y hI hb))
      | succ k ih =>
        intro i y hi hlo hI hb hout
        have hil : i < A.flatten.length := by omega
        refine u_X13_smoothIn_3 ?_; unfold qm_X13_smoothIn_3
        refine (w_leF (by omega) (by omega) (w_rdI (pl4 ho) rfl (by omega) (cuI hI hil).1 (w_rdI (pl5 ho) rfl (by omega) (cuI hI hil).2 (w_cs0 (bm2_add hn (by omega) (fun j hj => by omega) (by omega) (fun hv9 j => by omega) rfl rfl hb) (fun y2 ⟨g1, g2⟩ => ?_)))))
        rw [nI_1]
        exact ih (i + 1) y2 (by omega) (by omega) (addI hI g2) (bm2_eq g1 (fun j => by omega)) hout
    have mid : ∀ y, I y → bm2 v y n A (fun j => j < v) c → Tt (fun K i9 => q_X13_smoothIn K i9 6 (nI c) (nI v) (nI w) 0 (nI c) (nI J) (nI (w + 1)) o n 0 y) Q := by
      intro y hI hb
      refine l6 (rn_b A (J + 1) - (w + 1)) (w + 1) y (by omega) (Nat.le_refl _) hI (bm2_eq hb (fun j => by omega)) (fun y2 hI2 hb2 => l7 (w - rn_b A J) (rn_b A J) y2 (by omega) (Nat.le_refl _) hI2 (bm2_eq hb2 (fun j => by omega)) (fun y3 hI3 hb3 => l8 (rn_b A (c + 1) - (v + 1)) (v + 1) y3 (by omega) (Nat.le_refl _) hI3 (bm2_eq hb3 (fun j => by omega)) (fun y4 hI4 hb4 => ?_)))
      refine u_X13_smoothIn_9 ?_; unfold qm_X13_smoothIn_9
      refine w_cs0 (bm2_end hn (by omega) hb4) (fun y5 ⟨g1, g2⟩ => ?_)
      refine u_X13_smoothIn_12 ?_; unfold qm_X13_smoothIn_12
      rw [nI_1]
      exact aft (A.length - (c + 1)) (c + 1) (c + 1) y5 (by omega) (by omega) (Nat.le_refl _) (endI hI4 g2) (bmE2_eq g1 (fun j => by omega))
    have l5 : ∀ (k m : Nat) (y : ow_MS), m + k = J → I y → bm2 v y n A (fun j => j < v) c → Tt (fun K i9 => q_X13_smoothIn K i9 5 (nI c) (nI v) (nI w) 0 (nI c) (nI m) 0 o n 0 y) Q := by
      intro k
      induction k with
      | zero =>
        intro m y hm hI hb
        have hme : m = J := by omega
        rw [hme]
        refine u_X13_smoothIn_5 ?_; unfold qm_X13_smoothIn_5
        rw [nI_1 w]
        exact w_rdI (pl3 ho) (nI_1 _) (by omega) (bI hI (by omega)) (w_ltT (by omega) hJ3 (mid y hI hb))
      | succ k ih =>
        intro m y hm hI hb
        have m1 := mono (a := m + 1) (b := J) (by omega)
        refine u_X13_smoothIn_5 ?_; unfold qm_X13_smoothIn_5
        refine w_rdI (pl3 ho) (nI_1 _) (by omega) (bI hI (by omega)) (w_ltF (by omega) (by omega) ?_)
        rw [nI_1]
        exact ih (m + 1) y (by omega) hI hb
    have bef : ∀ (k m : Nat) (y : ow_MS), m + k = c → I y → bmE2 v y n A (fun j => j < rn_b A m) m → Tt (fun K i9 => q_X13_smoothIn K i9 2 (nI c) (nI v) (nI w) 0 (nI m) 0 0 o n 0 y) Q := by
      intro k
      induction k with
      | zero =>
        intro m y hm hI hb
        have hme : m = c := by omega
        subst hme
        refine u_X13_smoothIn_2 ?_; unfold qm_X13_smoothIn_2
        exact w_rdF (atI hI).2.1 (w_leF (by omega) (by omega) (w_ifT rfl (w_rdI (pl3 ho) rfl (by omega) (bI hI (by omega)) (l3 (v - rn_b A m) (rn_b A m) y (by omega) (Nat.le_refl _) hI hb.b (fun y2 hI2 hb2 => l5 J 0 y2 (by omega) hI2 hb2)))))
      | succ k ih =>
        intro m y hm hI hb
        have m1 := mono (a := m + 1) (b := c) (by omega)
        have m2 := rn_b_mono A m
        have m3 := mono (a := m + 1) (b := J) (by omega)
        refine u_X13_smoothIn_2 ?_; unfold qm_X13_smoothIn_2
        have g10 : Tt (fun K i9 => q_X13_smoothIn K i9 10 (nI c) (nI v) (nI w) 0 (nI m) 0 0 o n 0 y) Q := by
          refine c10 0 m m _ y (by omega) (by omega) (fun j hj => by omega) (fun hv9 j => by omega) (fun y2 hI2 hb2 => ?_) hI hb
          refine u_X13_smoothIn_12 ?_; unfold qm_X13_smoothIn_12
          rw [nI_1]
          exact ih (m + 1) y2 (by omega) hI2 (bmE2_eq hb2 (fun j => by omega))
        exact w_rdF (atI hI).2.1 (w_leF (by omega) (by omega) (w_ifF (fun e => by have := (nI_eq (by omega) (by omega)).mp e; omega) (w_ifT rfl (w_rdI (pl3 ho) rfl (by omega) (bI hI (by omega)) (w_lt (by omega) (by omega) (fun _ => g10) (fun _ => w_rdI (pl3 ho) (nI_1 _) (by omega) (bI hI (by omega)) (w_lt (by omega) (by omega) (fun h8 => by omega) (fun _ => g10))))))))
    refine e_X13_smoothIn ?_
    refine u_X13_smoothIn_0 ?_; unfold qm_X13_smoothIn_0
    refine w_cs0 (bm2_clear (A := A) (v := v) hn) (fun z3 ⟨b3, f3⟩ => w_cs0 (tn_signs hn ho hon) (fun z4 ⟨f4, s4⟩ => ?_))
    have hI4 : I z4 := ⟨fr_tr (fr_mono (fun g hg => by omega) f3) (fr_mono (fun g hg => by omega) f4), fun x hx => by rw [s4 x hx, (f3 (o + 6) (by omega)).2.1]⟩
    refine w_rdI (pl3 ho) (nI_1 _) (by omega) (bI hI4 (by omega)) (w_leT (by omega) (by omega) ?_)
    refine u_X13_smoothIn_1 ?_; unfold qm_X13_smoothIn_1
    exact bef c 0 z4 (by omega) hI4 (bmE2_eq (bmE2_fr f4 (fun g hg => by omega) b3) (fun j => ⟨fun h9 => h9.elim, fun h9 => by rw [rn_b0] at h9; omega⟩))
end
section
/-! 99zzzg.leaf -/
/-! leaf -/
theorem i32_as (x y c : Int32) : x + (y - c) = x + y - c := by
  rw [Int32.sub_eq_add_neg, ← Int32.add_assoc, ← Int32.sub_eq_add_neg]
/-- where a term stands -/
theorem lf_ix {j k t a : Nat} (hj : j ≤ 12) (hk : k ≤ j + 5) (ht : t ≤ k) (ha : 16 ≤ a) (ha2 : a ≤ 64) : 129 * (nI j - nI k + 20) + (nI a - 40) + 2 * nI t - nI k + 64 = nI (129 * (j + 20 - k) + a + 2 * t + 24 - k) := by
  have e1 : nI j - nI k + 20 = nI (j + 20 - k) := by
    have h1 : nI j - nI k + 20 = nI j + 20 - nI k := by
      rw [Int32.sub_eq_add_neg, Int32.add_assoc, Int32.add_comm (-nI k) 20, ← Int32.add_assoc, ← Int32.sub_eq_add_neg]
    rw [h1, show nI j + 20 = nI (j + 20) from nI_add j 20]
    exact pk_sub (by omega)
  rw [e1, show (129 : Int32) * nI (j + 20 - k) = nI (129 * (j + 20 - k)) from pk_mul 129 _, i32_as, nI_add, show nI (129 * (j + 20 - k) + a) - 40 = nI (129 * (j + 20 - k) + a - 40) from pk_sub (b := 40) (by omega), rn_mul2, nI_add, pk_sub (by omega), show nI (129 * (j + 20 - k) + a - 40 + 2 * t - k) + 64 = nI (129 * (j + 20 - k) + a - 40 + 2 * t - k + 64) from nI_add _ 64]
  congr 1
  omega
section LF
variable {z : ow_MS}
theorem u_X13_leaf_1 {x1 : Int32} {x4 : Int32} {x5 : Int32} {x6 : Int32} {x9 : Int32} {w2 : Int64} {w7 : Int64} {t2 : Int32} {y0 : Int64} {y1 : Int64} {z : ow_MS} {Q : ow_MS → Prop} (H : Tt (fun K k => qm_X13_leaf_1 K (q_X13_leaf K k) x1 x4 x5 x6 x9 w2 w7 t2 y0 y1 z) Q) : Tt (fun K k => q_X13_leaf K k 1 x1 x4 x5 x6 x9 w2 w7 t2 y0 y1 z) Q := w_un (fun _ _ => rfl) H
theorem u_X13_leaf_2 {x1 : Int32} {x4 : Int32} {x5 : Int32} {x6 : Int32} {x9 : Int32} {w2 : Int64} {w7 : Int64} {t2 : Int32} {y0 : Int64} {y1 : Int64} {z : ow_MS} {Q : ow_MS → Prop} (H : Tt (fun K k => qm_X13_leaf_2 K (q_X13_leaf K k) x1 x4 x5 x6 x9 w2 w7 t2 y0 y1 z) Q) : Tt (fun K k => q_X13_leaf K k 2 x1 x4 x5 x6 x9 w2 w7 t2 y0 y1 z) Q := w_un (fun _ _ => rfl) H
theorem e_X13_leaf {x1 : Int32} {w2 : Int64} {x4 : Int32} {x5 : Int32} {z : ow_MS} {Q : ow_MS → Prop} (H : Tt (fun K k => q_X13_leaf K k 0 x1 x4 x5 0 0 w2 0 0 0 0 z) Q) : Te (fun K => qe_X13_leaf K x1 w2 x4 x5 z) Q := w_te H
theorem u_X13_leaf_0 {x1 : Int32} {x4 : Int32} {x5 : Int32} {x6 : Int32} {x9 : Int32} {w2 : Int64} {w7 : Int64} {t2 : Int32} {y0 : Int64} {y1 : Int64} {z : ow_MS} {Q : ow_MS → Prop} (H : Tt (fun K k => qm_X13_leaf_0 K (q_X13_leaf K k) x1 x4 x5 x6 x9 w2 w7 t2 y0 y1 z) Q) : Tt (fun K k => q_X13_leaf K k 0 x1 x4 x5 x6 x9 w2 w7 t2 y0 y1 z) Q := w_un (fun _ _ => rfl) H
theorem tp_leaf {c j a : Nat} {s : Int64} (hc : 1 ≤ c) (hcj : c ≤ j + 6) (hj : j ≤ 12) (ha : 16 ≤ a) (ha2 : a ≤ 64) : Te (fun K => qe_X13_leaf K (nI c) s (nI a - 40) (nI j) z) (fun z1 => fr (fun g => g = 42 ∨ g = 44) z z1) := by
  have key : ∀ (d t : Nat) (w : Int64) (y : ow_MS), t + d = c → fr (fun g => g = 42 ∨ g = 44) z y → Tt (fun K i => q_X13_leaf K i 1 (nI c) (nI a - 40) (nI j) (nI (c - 1)) (nI t) s w 0 0 0 y) (fun z1 => fr (fun g => g = 42 ∨ g = 44) z z1) := by
    intro d
    induction d with
    | zero =>
      intro t w y ht hf
      refine u_X13_leaf_1 ?_; unfold qm_X13_leaf_1
      exact w_ltT (by omega) (by omega) (w_some hf)
    | succ d ih =>
      intro t w y ht hf
      have ix := lf_ix (j := j) (k := c - 1) (t := t) (a := a) hj (by omega) (by omega) ha ha2
      have hlt : 129 * (j + 20 - (c - 1)) + a + 2 * t + 24 - (c - 1) < 5289 := by omega
      have c2 : ∀ (y0 y1 : Int64), Tt (fun K i => q_X13_leaf K i 2 (nI c) (nI a - 40) (nI j) (nI (c - 1)) (nI t) s w (nI (129 * (j + 20 - (c - 1)) + a + 2 * t + 24 - (c - 1))) y0 y1 y) (fun z1 => fr (fun g => g = 42 ∨ g = 44) z z1) := by
        intro y0 y1
        refine u_X13_leaf_2 ?_; unfold qm_X13_leaf_2
        rw [nI_1]
        have hnz : (nI (t + 1)).toInt64 ≠ 0 := by
          rw [nI_l (by omega)]
          exact fun e => by
            have := (pk_lEQ (a := t + 1) (b := 0) (by omega) (by omega)).mp e
            omega
        exact w_wrJ ml44 rfl hlt (w_nzJ hnz (ih (t + 1) _ _ (by omega) (fr_J2 hf (Or.inr rfl))))
      refine u_X13_leaf_1 ?_; unfold qm_X13_leaf_1
      rw [ix]
      exact w_ltF (by omega) (by omega) (w_rdJ ml44 rfl hlt rfl (w_if (fun _ => c2 _ _) (fun _ => c2 _ _)))
  refine e_X13_leaf ?_
  refine u_X13_leaf_0 ?_; unfold qm_X13_leaf_0
  rw [show nI c - 1 = nI (c - 1) from pk_sub (b := 1) hc]
  exact w_rdF rfl (w_if (fun _ => w_rdJ ml42 rfl (by omega) rfl (w_if (fun _ => w_wrJ ml42 rfl (by omega) (w_some (fr_J (Or.inl rfl)))) (fun _ => w_wrJ ml42 rfl (by omega) (w_some (fr_J (Or.inl rfl)))))) (fun _ => key c 0 s z (by omega) fr_rf))
end LF
end
section
/-! 99zzzh.skein -/
/-! skein: what is left of it -/
theorem w_rdN {O : Type} {Q : O → Prop} {i : Nat} {x : Int32} {E : Nat → Nat → Nat → Option O} (hx : x = nI i) (hi : i < 15) (H : Tt (E (1000 * (i + 4))) Q) : Tt (fun K k => rdN x (fun n => E n K k)) Q := by
  have e : (fun K k => rdN x (fun n => E n K k)) = E (1000 * (i + 4)) := by
    funext K k
    unfold rdN
    rw [hx, nI_clamp (by omega), if_neg (fun h9 => h9.elim (nI_pos (by omega)) (by omega))]
  rw [e]
  exact H
theorem pnL {i : Nat} (hi : i < 15) : mw_net (1000 * (i + 4)) := ⟨i + 3, by omega, by omega⟩
/-- the crossings met before k are met over; f crossings are not met before k -/
def gPre (A : rn_L) (k : Nat) : Prop := ∀ v, v < k → v < A.flatten.length → (∀ w, w < v → crs A w ≠ crs A v) → uns A v = 0
def ouT (A : rn_L) (k f : Nat) : Prop := ∃ R : List Nat, R.length ≤ f ∧ ∀ v, v < A.flatten.length → (∃ w, w < k ∧ w < A.flatten.length ∧ crs A w = crs A v) ∨ crs A v ∈ R
/-- the first bad visit lies behind the prefix, and its crossing is one of those left -/
theorem ou_bad {A : rn_L} {k f v : Nat} (hg : gPre A k) (ho : ouT A k f) (hv : v < A.flatten.length) (hf : ∀ w, w < v → crs A w ≠ crs A v) (hb : uns A v ≠ 0) : k ≤ v ∧ ∃ R : List Nat, R.length + 1 ≤ f ∧ ∀ u, u < A.flatten.length → crs A u ≠ crs A v → (∃ w, w < k ∧ w < A.flatten.length ∧ crs A w = crs A u) ∨ crs A u ∈ R := by
  have hkv : k ≤ v := by
    rcases Nat.lt_or_ge v k with h9 | h9
    · exact absurd (hg v h9 hv hf) hb
    · exact h9
  obtain ⟨R, h1, h2⟩ := ho
  have hx : crs A v ∈ R := by
    rcases h2 v hv with ⟨w, hw1, hw2, hw3⟩ | h9
    · exact absurd hw3 (hf w (by omega))
    · exact h9
  refine ⟨hkv, R.erase (crs A v), ?_, fun u hu hne => (h2 u hu).imp id (fun h9 => (List.mem_erase_of_ne hne).mpr h9)⟩
  have h3 : 0 < R.length := List.length_pos_of_mem hx
  rw [List.length_erase_of_mem hx]
  omega
end
section
/-! 99zzzi.skein2 -/
/-! skein has an answer -/
/-- what stands where the first visits have kept their places -/
theorem sk_pre {A : rn_L} {C : List (List Nat)} {v : Nat} (h : ∀ j, j < v → C.flatten[j]? = some j) {j : Nat} (hj : j < v) : vAt (C.map (List.map (vAt A))) j = vAt A j := by
  refine vAt_eq ?_
  rw [fl_map, List.getElem?_map, h j hj]
  rfl
theorem sk_at {A : rn_L} {C : List (List Nat)} {u : Nat} (hu : u < (C.map (List.map (vAt A))).flatten.length) : ∃ i, i ∈ C.flatten ∧ vAt (C.map (List.map (vAt A))) u = vAt A i := by
  rw [fl_map, List.length_map] at hu
  refine ⟨C.flatten[u], List.getElem_mem hu, vAt_eq ?_⟩
  rw [fl_map, List.getElem?_map, List.getElem?_eq_getElem hu]
  rfl
/-- a crossing has two visits alone -/
theorem sk_two {A : rn_L} {v w i : Nat} (hd : rn_ok A.flatten) (hv : v < A.flatten.length) (hw : w < A.flatten.length) (hi : i < A.flatten.length) (hvw : v ≠ w) (e : crs A w = crs A v) (hiv : i ≠ v) (hiw : i ≠ w) : crs A i ≠ crs A v := fun e9 => by
  have h1 : rn_mt A.flatten v w := ⟨hvw, _, _, vAt_of hv, vAt_of hw, e.symm⟩
  have h2 : rn_mt A.flatten v i := ⟨fun h => hiv h.symm, _, _, vAt_of hv, vAt_of hi, e9.symm⟩
  exact hiw ((mtf_eq hd h2).symm.trans (mtf_eq hd h1))
/-- the net that is smoothed at its first bad visit -/
theorem sk_sm {A : rn_L} {C : List (List Nat)} {k f v w : Nat} (hF : wkF A.flatten) (hg : gPre A k) (ho : ouT A k f) (hv : v < A.flatten.length) (hw : w < A.flatten.length) (hvw : v < w) (e : crs A w = crs A v) (hf : ∀ u, u < v → crs A u ≠ crs A v) (hb : uns A v ≠ 0) (hgood : ∀ u, u < v → (∀ t, t < u → crs A t ≠ crs A u) → uns A u = 0) (hN : C.flatten.Nodup) (hm : ∀ j, j ∈ C.flatten ↔ j < A.flatten.length ∧ j ≠ v ∧ j ≠ w) (hp : ∀ j, j < v → C.flatten[j]? = some j) : ∃ f', f' + 1 ≤ f ∧ wkF (C.map (List.map (vAt A))).flatten ∧ gPre (C.map (List.map (vAt A))) v ∧ ouT (C.map (List.map (vAt A))) v f' ∧ (C.map (List.map (vAt A))).flatten.length ≤ A.flatten.length := by
  have hd := wkF_ok hF
  obtain ⟨hkv, R, hR, hcov⟩ := ou_bad hg ho hv hf hb
  have inj : ∀ i j, i < A.flatten.length → j < A.flatten.length → vAt A i = vAt A j → i = j := fun i j hi hj e => nodup_at hF.1 (vAt_of hi) (by rw [e]; exact vAt_of hj)
  have hlen : C.flatten.length ≤ A.flatten.length := by
    have := nodup_le C.flatten (List.range A.flatten.length) hN (fun j hj => List.mem_range.mpr ((hm j).mp hj).1)
    rw [List.length_range] at this
    exact this
  have hvl : v ≤ C.flatten.length := by
    rcases Nat.lt_or_ge C.flatten.length v with h9 | h9
    · have := hp _ h9
      rw [List.getElem?_eq_none (Nat.le_refl _)] at this
      cases this
    · exact h9
  refine ⟨R.length, by omega, ⟨?_, fun p hp2 => ?_⟩, fun u hu hul hfu => ?_, ⟨R, Nat.le_refl _, fun u hu => ?_⟩, ?_⟩
  · rw [fl_map]
    exact nodup_map hN (fun i j hi hj e => inj i j ((hm i).mp hi).1 ((hm j).mp hj).1 e)
  · rw [fl_map] at hp2 ⊢
    obtain ⟨j, hj, e1⟩ := List.mem_map.mp hp2
    obtain ⟨hjl, hjv, hjw⟩ := (hm j).mp hj
    obtain ⟨g1, g2, -⟩ := hF.2 _ (List.mem_of_getElem? (vAt_of hjl))
    rw [← e1]
    refine ⟨g1, g2, ?_⟩
    obtain ⟨n1, p1, p2, a1, a2, a3⟩ := mtf_mt hd hjl
    rw [vAt_of hjl] at a1
    cases a1
    have hml := mtf_lt hd hjl
    have e2 := vAt_eq a2
    obtain ⟨-, k2, -⟩ := hF.2 _ (List.mem_of_getElem? a2)
    have hcm := crs_mtf hd hjl
    have hnv := sk_two hd hv hw hjl (by omega) e hjv hjw
    refine List.mem_map.mpr ⟨mtf A j, (hm _).mpr ⟨hml, fun e9 => ?_, fun e9 => ?_⟩, ?_⟩
    · rw [e9] at hcm
      exact hnv hcm.symm
    · rw [e9] at hcm
      exact hnv (hcm.symm.trans e)
    · have hne : (vAt A j).2 ≠ p2.2 := fun e9 => n1 (inj j (mtf A j) hjl hml (by rw [e2]; exact Prod.ext a3 e9))
      rw [e2]
      exact Prod.ext a3.symm (by show p2.2 = 1 - (vAt A j).2; omega)
  · have h1 : vAt (C.map (List.map (vAt A))) u = vAt A u := sk_pre hp hu
    have h2 : uns (C.map (List.map (vAt A))) u = uns A u := by unfold uns; rw [h1]
    rw [h2]
    refine hgood u hu (fun t ht e9 => hfu t ht ?_)
    unfold crs at e9 ⊢
    rw [h1, sk_pre hp (by omega)]
    exact e9
  · obtain ⟨i, hi, e1⟩ := sk_at hu
    obtain ⟨hil, hiv, hiw⟩ := (hm i).mp hi
    have e2 : crs (C.map (List.map (vAt A))) u = crs A i := by unfold crs; rw [e1]
    rw [e2]
    rcases hcov i hil (sk_two hd hv hw hil (by omega) e hiv hiw) with ⟨t, ht1, ht2, ht3⟩ | h9
    · refine Or.inl ⟨t, by omega, by rw [fl_map, List.length_map]; omega, ?_⟩
      rw [← ht3]
      unfold crs
      rw [sk_pre hp (by omega)]
    · exact Or.inr h9
  · rw [fl_map, List.length_map]
    exact hlen
theorem flp_vAt {A : rn_L} {b : Nat → Bool} {u : Nat} (hu : u < A.flatten.length) : vAt (A.map (List.map (flp b))) u = flp b (vAt A u) := by
  refine vAt_eq ?_
  rw [fl_map2, List.getElem?_map, vAt_of hu]
  rfl
theorem flp_len {A : rn_L} {b : Nat → Bool} : (A.map (List.map (flp b))).flatten.length = A.flatten.length := by
  rw [fl_map2, List.length_map]
/-- the net that is changed at its first bad visit -/
theorem sk_ch {A : rn_L} {k f v x : Nat} (hF : wkF A.flatten) (hg : gPre A k) (ho : ouT A k f) (hv : v < A.flatten.length) (hx : x = crs A v) (hf : ∀ u, u < v → crs A u ≠ crs A v) (hb : uns A v ≠ 0) (hgood : ∀ u, u < v → (∀ t, t < u → crs A t ≠ crs A u) → uns A u = 0) : ∃ f', f' + 1 ≤ f ∧ wkF (A.map (List.map (flp (fun y => decide (y = x))))).flatten ∧ gPre (A.map (List.map (flp (fun y => decide (y = x))))) (v + 1) ∧ ouT (A.map (List.map (flp (fun y => decide (y = x))))) (v + 1) f' := by
  obtain ⟨hkv, R, hR, hcov⟩ := ou_bad hg ho hv hf hb
  have ec : ∀ {u}, u < A.flatten.length → crs (A.map (List.map (flp (fun y => decide (y = x))))) u = crs A u := fun hu => by
    unfold crs
    rw [flp_vAt hu, flp_1]
  have eu : ∀ {u}, u < A.flatten.length → uns (A.map (List.map (flp (fun y => decide (y = x))))) u = if crs A u = x then 1 - uns A u else uns A u := fun {u} hu => by
    unfold uns
    rw [flp_vAt hu, flp_2]
    by_cases h9 : crs A u = x
    · rw [if_pos h9, if_pos (by exact decide_eq_true h9)]
    · rw [if_neg h9]
      exact if_neg (fun h8 => h9 (of_decide_eq_true h8))
  refine ⟨R.length, by omega, by rw [fl_map2]; exact wkF_flp hF, fun u hu hul hfu => ?_, R, Nat.le_refl _, fun u hu => ?_⟩
  · rw [flp_len] at hul
    rw [eu hul]
    by_cases huv : u = v
    · rw [huv, if_pos hx.symm]
      omega
    · have h1 : u < v := by omega
      rw [if_neg (by rw [hx]; exact hf u h1)]
      refine hgood u h1 (fun t ht e9 => hfu t ht ?_)
      rw [ec (by omega), ec hul]
      exact e9
  · rw [flp_len] at hu
    rw [ec hu]
    by_cases h9 : crs A u = crs A v
    · exact Or.inl ⟨v, by omega, by rw [flp_len]; exact hv, by rw [ec hv]; exact h9.symm⟩
    · rcases hcov u hu h9 with ⟨t, t1, t2, t3⟩ | h8
      · exact Or.inl ⟨t, by omega, by rw [flp_len]; exact t2, by rw [ec t2]; exact t3⟩
      · exact Or.inr h8
/-- no circles at all -/
theorem tp_leaf0 {j : Nat} {a : Int32} {s : Int64} {z : ow_MS} (hj : j ≤ 12) : Te (fun K => qe_X13_leaf K (nI 0) s a (nI j) z) (fun z1 => fr (fun g => g = 42 ∨ g = 44) z z1) := by
  refine e_X13_leaf ?_
  refine u_X13_leaf_0 ?_; unfold qm_X13_leaf_0
  rw [show nI 0 - 1 = -1 from rfl]
  refine w_rdF rfl (w_if (fun _ => w_rdJ ml42 rfl (by omega) rfl (w_if (fun _ => w_wrJ ml42 rfl (by omega) (w_some (fr_J (Or.inl rfl)))) (fun _ => w_wrJ ml42 rfl (by omega) (w_some (fr_J (Or.inl rfl)))))) (fun _ => ?_))
  refine u_X13_leaf_1 ?_; unfold qm_X13_leaf_1
  exact w_ifT (by decide) (w_some fr_rf)
theorem sk_pw {a : Nat} (ha : 1 ≤ a) : nI a - 40 + (-1) = nI (a - 1) - 40 ∧ nI a - 40 + 1 = nI (a + 1) - 40 := by
  constructor
  · rw [Int32.sub_eq_add_neg, Int32.add_assoc, Int32.add_comm (-40) (-1), ← Int32.add_assoc, ← Int32.sub_eq_add_neg, show nI a + (-1) = nI (a - 1) from by rw [← Int32.sub_eq_add_neg]; exact pk_sub (b := 1) ha]
  · rw [Int32.sub_eq_add_neg, Int32.add_assoc, Int32.add_comm (-40) 1, ← Int32.add_assoc, ← Int32.sub_eq_add_neg, nI_1]
theorem sk_pw2 {a : Nat} (ha : 2 ≤ a) : nI a - 40 + (-2) = nI (a - 2) - 40 ∧ nI a - 40 + 2 = nI (a + 2) - 40 := by
  constructor
  · rw [Int32.sub_eq_add_neg, Int32.add_assoc, Int32.add_comm (-40) (-2), ← Int32.add_assoc, ← Int32.sub_eq_add_neg, show nI a + (-2) = nI (a - 2) from by rw [← Int32.sub_eq_add_neg]; exact pk_sub (b := 2) ha]
  · rw [Int32.sub_eq_add_neg, Int32.add_assoc, Int32.add_comm (-40) 2, ← Int32.add_assoc, ← Int32.sub_eq_add_neg, show nI a + 2 = nI (a + 2) from nI_add a 2]
/-- the handles that skein at a depth may change -/
abbrev skH (d g : Nat) : Prop := 1000 * (d + 5) ≤ g ∨ g = 41 ∨ g = 42 ∨ g = 44
def metR (A : rn_L) (v : Nat) (y : ow_MS) : Prop := ∀ x, x < 40 → (y.2.1 41 x = 0 ∧ ∀ u, u < v → crs A u ≠ x) ∨ (y.2.1 41 x = 1 ∧ ∃ u, u < v ∧ crs A u = x)
theorem w_qd {dd : Nat} {x1 x4 x5 : Int32} {w2 : Int64} {z : ow_MS} {Q : ow_MS → Prop} (H : Tt (fun K k => q_X13_skein K (qd_X13_skein K dd) k 0 x1 x4 x5 0 0 0 0 0 w2 0 0 0 0 0 0 0 0 0 z) Q) : Te (fun K => qd_X13_skein K (dd + 1) x1 w2 x4 x5 z) Q := w_te H
theorem u_X13_skein_5 {dd : Nat} {x1 : Int32} {x4 : Int32} {x5 : Int32} {x7 : Int32} {x8 : Int32} {x9 : Int32} {x10 : Int32} {x11 : Int32} {w2 : Int64} {r6 : Nat} {r12 : Nat} {t0 : Int32} {t1 : Int32} {t2 : Int32} {t3 : Int32} {y0 : Int64} {y1 : Int64} {y2 : Int64} {z : ow_MS} {Q : ow_MS → Prop} (H : Tt (fun K k => qm_X13_skein_5 K (qd_X13_skein K dd) (q_X13_skein K (qd_X13_skein K dd) k) x1 x4 x5 x7 x8 x9 x10 x11 w2 r6 r12 t0 t1 t2 t3 y0 y1 y2 z) Q) : Tt (fun K k => q_X13_skein K (qd_X13_skein K dd) k 5 x1 x4 x5 x7 x8 x9 x10 x11 w2 r6 r12 t0 t1 t2 t3 y0 y1 y2 z) Q := w_un (fun _ _ => rfl) H
theorem u_X13_skein_13 {dd : Nat} {x1 : Int32} {x4 : Int32} {x5 : Int32} {x7 : Int32} {x8 : Int32} {x9 : Int32} {x10 : Int32} {x11 : Int32} {w2 : Int64} {r6 : Nat} {r12 : Nat} {t0 : Int32} {t1 : Int32} {t2 : Int32} {t3 : Int32} {y0 : Int64} {y1 : Int64} {y2 : Int64} {z : ow_MS} {Q : ow_MS → Prop} (H : Tt (fun K k => qm_X13_skein_13 K (qd_X13_skein K dd) (q_X13_skein K (qd_X13_skein K dd) k) x1 x4 x5 x7 x8 x9 x10 x11 w2 r6 r12 t0 t1 t2 t3 y0 y1 y2 z) Q) : Tt (fun K k => q_X13_skein K (qd_X13_skein K dd) k 13 x1 x4 x5 x7 x8 x9 x10 x11 w2 r6 r12 t0 t1 t2 t3 y0 y1 y2 z) Q := w_un (fun _ _ => rfl) H
theorem u_X13_skein_8 {dd : Nat} {x1 : Int32} {x4 : Int32} {x5 : Int32} {x7 : Int32} {x8 : Int32} {x9 : Int32} {x10 : Int32} {x11 : Int32} {w2 : Int64} {r6 : Nat} {r12 : Nat} {t0 : Int32} {t1 : Int32} {t2 : Int32} {t3 : Int32} {y0 : Int64} {y1 : Int64} {y2 : Int64} {z : ow_MS} {Q : ow_MS → Prop} (H : Tt (fun K k => qm_X13_skein_8 K (qd_X13_skein K dd) (q_X13_skein K (qd_X13_skein K dd) k) x1 x4 x5 x7 x8 x9 x10 x11 w2 r6 r12 t0 t1 t2 t3 y0 y1 y2 z) Q) : Tt (fun K k => q_X13_skein K (qd_X13_skein K dd) k 8 x1 x4 x5 x7 x8 x9 x10 x11 w2 r6 r12 t0 t1 t2 t3 y0 y1 y2 z) Q := w_un (fun _ _ => rfl) H
theorem u_X13_skein_11 {dd : Nat} {x1 : Int32} {x4 : Int32} {x5 : Int32} {x7 : Int32} {x8 : Int32} {x9 : Int32} {x10 : Int32} {x11 : Int32} {w2 : Int64} {r6 : Nat} {r12 : Nat} {t0 : Int32} {t1 : Int32} {t2 : Int32} {t3 : Int32} {y0 : Int64} {y1 : Int64} {y2 : Int64} {z : ow_MS} {Q : ow_MS → Prop} (H : Tt (fun K k => qm_X13_skein_11 K (qd_X13_skein K dd) (q_X13_skein K (qd_X13_skein K dd) k) x1 x4 x5 x7 x8 x9 x10 x11 w2 r6 r12 t0 t1 t2 t3 y0 y1 y2 z) Q) : Tt (fun K k => q_X13_skein K (qd_X13_skein K dd) k 11 x1 x4 x5 x7 x8 x9 x10 x11 w2 r6 r12 t0 t1 t2 t3 y0 y1 y2 z) Q := w_un (fun _ _ => rfl) H
theorem u_X13_skein_12 {dd : Nat} {x1 : Int32} {x4 : Int32} {x5 : Int32} {x7 : Int32} {x8 : Int32} {x9 : Int32} {x10 : Int32} {x11 : Int32} {w2 : Int64} {r6 : Nat} {r12 : Nat} {t0 : Int32} {t1 : Int32} {t2 : Int32} {t3 : Int32} {y0 : Int64} {y1 : Int64} {y2 : Int64} {z : ow_MS} {Q : ow_MS → Prop} (H : Tt (fun K k => qm_X13_skein_12 K (qd_X13_skein K dd) (q_X13_skein K (qd_X13_skein K dd) k) x1 x4 x5 x7 x8 x9 x10 x11 w2 r6 r12 t0 t1 t2 t3 y0 y1 y2 z) Q) : Tt (fun K k => q_X13_skein K (qd_X13_skein K dd) k 12 x1 x4 x5 x7 x8 x9 x10 x11 w2 r6 r12 t0 t1 t2 t3 y0 y1 y2 z) Q := w_un (fun _ _ => rfl) H
theorem u_X13_skein_9 {dd : Nat} {x1 : Int32} {x4 : Int32} {x5 : Int32} {x7 : Int32} {x8 : Int32} {x9 : Int32} {x10 : Int32} {x11 : Int32} {w2 : Int64} {r6 : Nat} {r12 : Nat} {t0 : Int32} {t1 : Int32} {t2 : Int32} {t3 : Int32} {y0 : Int64} {y1 : Int64} {y2 : Int64} {z : ow_MS} {Q : ow_MS → Prop} (H : Tt (fun K k => qm_X13_skein_9 K (qd_X13_skein K dd) (q_X13_skein K (qd_X13_skein K dd) k) x1 x4 x5 x7 x8 x9 x10 x11 w2 r6 r12 t0 t1 t2 t3 y0 y1 y2 z) Q) : Tt (fun K k => q_X13_skein K (qd_X13_skein K dd) k 9 x1 x4 x5 x7 x8 x9 x10 x11 w2 r6 r12 t0 t1 t2 t3 y0 y1 y2 z) Q := w_un (fun _ _ => rfl) H
theorem u_X13_skein_10 {dd : Nat} {x1 : Int32} {x4 : Int32} {x5 : Int32} {x7 : Int32} {x8 : Int32} {x9 : Int32} {x10 : Int32} {x11 : Int32} {w2 : Int64} {r6 : Nat} {r12 : Nat} {t0 : Int32} {t1 : Int32} {t2 : Int32} {t3 : Int32} {y0 : Int64} {y1 : Int64} {y2 : Int64} {z : ow_MS} {Q : ow_MS → Prop} (H : Tt (fun K k => qm_X13_skein_10 K (qd_X13_skein K dd) (q_X13_skein K (qd_X13_skein K dd) k) x1 x4 x5 x7 x8 x9 x10 x11 w2 r6 r12 t0 t1 t2 t3 y0 y1 y2 z) Q) : Tt (fun K k => q_X13_skein K (qd_X13_skein K dd) k 10 x1 x4 x5 x7 x8 x9 x10 x11 w2 r6 r12 t0 t1 t2 t3 y0 y1 y2 z) Q := w_un (fun _ _ => rfl) H
theorem u_X13_skein_7 {dd : Nat} {x1 : Int32} {x4 : Int32} {x5 : Int32} {x7 : Int32} {x8 : Int32} {x9 : Int32} {x10 : Int32} {x11 : Int32} {w2 : Int64} {r6 : Nat} {r12 : Nat} {t0 : Int32} {t1 : Int32} {t2 : Int32} {t3 : Int32} {y0 : Int64} {y1 : Int64} {y2 : Int64} {z : ow_MS} {Q : ow_MS → Prop} (H : Tt (fun K k => qm_X13_skein_7 K (qd_X13_skein K dd) (q_X13_skein K (qd_X13_skein K dd) k) x1 x4 x5 x7 x8 x9 x10 x11 w2 r6 r12 t0 t1 t2 t3 y0 y1 y2 z) Q) : Tt (fun K k => q_X13_skein K (qd_X13_skein K dd) k 7 x1 x4 x5 x7 x8 x9 x10 x11 w2 r6 r12 t0 t1 t2 t3 y0 y1 y2 z) Q := w_un (fun _ _ => rfl) H
theorem u_X13_skein_6 {dd : Nat} {x1 : Int32} {x4 : Int32} {x5 : Int32} {x7 : Int32} {x8 : Int32} {x9 : Int32} {x10 : Int32} {x11 : Int32} {w2 : Int64} {r6 : Nat} {r12 : Nat} {t0 : Int32} {t1 : Int32} {t2 : Int32} {t3 : Int32} {y0 : Int64} {y1 : Int64} {y2 : Int64} {z : ow_MS} {Q : ow_MS → Prop} (H : Tt (fun K k => qm_X13_skein_6 K (qd_X13_skein K dd) (q_X13_skein K (qd_X13_skein K dd) k) x1 x4 x5 x7 x8 x9 x10 x11 w2 r6 r12 t0 t1 t2 t3 y0 y1 y2 z) Q) : Tt (fun K k => q_X13_skein K (qd_X13_skein K dd) k 6 x1 x4 x5 x7 x8 x9 x10 x11 w2 r6 r12 t0 t1 t2 t3 y0 y1 y2 z) Q := w_un (fun _ _ => rfl) H
theorem u_X13_skein_2 {dd : Nat} {x1 : Int32} {x4 : Int32} {x5 : Int32} {x7 : Int32} {x8 : Int32} {x9 : Int32} {x10 : Int32} {x11 : Int32} {w2 : Int64} {r6 : Nat} {r12 : Nat} {t0 : Int32} {t1 : Int32} {t2 : Int32} {t3 : Int32} {y0 : Int64} {y1 : Int64} {y2 : Int64} {z : ow_MS} {Q : ow_MS → Prop} (H : Tt (fun K k => qm_X13_skein_2 K (qd_X13_skein K dd) (q_X13_skein K (qd_X13_skein K dd) k) x1 x4 x5 x7 x8 x9 x10 x11 w2 r6 r12 t0 t1 t2 t3 y0 y1 y2 z) Q) : Tt (fun K k => q_X13_skein K (qd_X13_skein K dd) k 2 x1 x4 x5 x7 x8 x9 x10 x11 w2 r6 r12 t0 t1 t2 t3 y0 y1 y2 z) Q := w_un (fun _ _ => rfl) H
theorem u_X13_skein_4 {dd : Nat} {x1 : Int32} {x4 : Int32} {x5 : Int32} {x7 : Int32} {x8 : Int32} {x9 : Int32} {x10 : Int32} {x11 : Int32} {w2 : Int64} {r6 : Nat} {r12 : Nat} {t0 : Int32} {t1 : Int32} {t2 : Int32} {t3 : Int32} {y0 : Int64} {y1 : Int64} {y2 : Int64} {z : ow_MS} {Q : ow_MS → Prop} (H : Tt (fun K k => qm_X13_skein_4 K (qd_X13_skein K dd) (q_X13_skein K (qd_X13_skein K dd) k) x1 x4 x5 x7 x8 x9 x10 x11 w2 r6 r12 t0 t1 t2 t3 y0 y1 y2 z) Q) : Tt (fun K k => q_X13_skein K (qd_X13_skein K dd) k 4 x1 x4 x5 x7 x8 x9 x10 x11 w2 r6 r12 t0 t1 t2 t3 y0 y1 y2 z) Q := w_un (fun _ _ => rfl) H
theorem u_X13_skein_3 {dd : Nat} {x1 : Int32} {x4 : Int32} {x5 : Int32} {x7 : Int32} {x8 : Int32} {x9 : Int32} {x10 : Int32} {x11 : Int32} {w2 : Int64} {r6 : Nat} {r12 : Nat} {t0 : Int32} {t1 : Int32} {t2 : Int32} {t3 : Int32} {y0 : Int64} {y1 : Int64} {y2 : Int64} {z : ow_MS} {Q : ow_MS → Prop} (H : Tt (fun K k => qm_X13_skein_3 K (qd_X13_skein K dd) (q_X13_skein K (qd_X13_skein K dd) k) x1 x4 x5 x7 x8 x9 x10 x11 w2 r6 r12 t0 t1 t2 t3 y0 y1 y2 z) Q) : Tt (fun K k => q_X13_skein K (qd_X13_skein K dd) k 3 x1 x4 x5 x7 x8 x9 x10 x11 w2 r6 r12 t0 t1 t2 t3 y0 y1 y2 z) Q := w_un (fun _ _ => rfl) H
theorem u_X13_skein_1 {dd : Nat} {x1 : Int32} {x4 : Int32} {x5 : Int32} {x7 : Int32} {x8 : Int32} {x9 : Int32} {x10 : Int32} {x11 : Int32} {w2 : Int64} {r6 : Nat} {r12 : Nat} {t0 : Int32} {t1 : Int32} {t2 : Int32} {t3 : Int32} {y0 : Int64} {y1 : Int64} {y2 : Int64} {z : ow_MS} {Q : ow_MS → Prop} (H : Tt (fun K k => qm_X13_skein_1 K (qd_X13_skein K dd) (q_X13_skein K (qd_X13_skein K dd) k) x1 x4 x5 x7 x8 x9 x10 x11 w2 r6 r12 t0 t1 t2 t3 y0 y1 y2 z) Q) : Tt (fun K k => q_X13_skein K (qd_X13_skein K dd) k 1 x1 x4 x5 x7 x8 x9 x10 x11 w2 r6 r12 t0 t1 t2 t3 y0 y1 y2 z) Q := w_un (fun _ _ => rfl) H
theorem u_X13_skein_0 {dd : Nat} {x1 : Int32} {x4 : Int32} {x5 : Int32} {x7 : Int32} {x8 : Int32} {x9 : Int32} {x10 : Int32} {x11 : Int32} {w2 : Int64} {r6 : Nat} {r12 : Nat} {t0 : Int32} {t1 : Int32} {t2 : Int32} {t3 : Int32} {y0 : Int64} {y1 : Int64} {y2 : Int64} {z : ow_MS} {Q : ow_MS → Prop} (H : Tt (fun K k => qm_X13_skein_0 K (qd_X13_skein K dd) (q_X13_skein K (qd_X13_skein K dd) k) x1 x4 x5 x7 x8 x9 x10 x11 w2 r6 r12 t0 t1 t2 t3 y0 y1 y2 z) Q) : Tt (fun K k => q_X13_skein K (qd_X13_skein K dd) k 0 x1 x4 x5 x7 x8 x9 x10 x11 w2 r6 r12 t0 t1 t2 t3 y0 y1 y2 z) Q := w_un (fun _ _ => rfl) H
theorem tp_skein : ∀ (f depth dd k j a : Nat) (A : rn_L) (s : Int64) (z : ow_MS), f < dd → depth + f ≤ 12 → j ≤ depth → wkF A.flatten → A.flatten.length ≤ 24 → A.length ≤ 6 + j → rn_At z (1000 * (depth + 4)) A [] → gPre A k → ouT A k f → 40 ≤ a + 2 * depth → a ≤ 40 + 2 * depth → Te (fun K => qd_X13_skein K dd (nI depth) s (nI a - 40) (nI j) z) (fun z1 => fr (skH depth) z z1) := by
  intro f
  induction f using Nat.strongRecOn with
  | ind f ih =>
  intro depth dd k j a A s z hdd hdf hj hF hl hC hA hg ho ha1 ha2
  obtain ⟨dd, rfl⟩ : ∃ d', dd = d' + 1 := ⟨dd - 1, by omega⟩
  have hd := wkF_ok hF
  have hn : mw_net (1000 * (depth + 4)) := pnL (by omega)
  have hn2 : mw_net (1000 * (depth + 1 + 4)) := pnL (by omega)
  have cx : ∀ {i}, i < A.flatten.length → crs A i < 40 ∧ uns A i < 2 := fun hi => by
    obtain ⟨g1, g2, -⟩ := hF.2 _ (List.mem_of_getElem? (vAt_of hi))
    exact ⟨g1, g2⟩
  let Q : ow_MS → Prop := fun z1 => fr (skH depth) z z1
  have mono41 : ∀ {y : ow_MS}, fr (fun g => g = 41) z y → fr (skH depth) z y := fun hf => fr_mono (fun g hg => Or.inr (Or.inl hg)) hf
  have aA : ∀ {y : ow_MS}, fr (fun g => g = 41) z y → rn_At y (1000 * (depth + 4)) A [] := fun hf => fr_At hf (fun g hg => by omega) hA
  have aV : ∀ {y : ow_MS}, fr (fun g => g = 41) z y → y.1 (1000 * (depth + 4) + 1) = nI A.flatten.length := fun hf => by rw [(aA hf).1, List.append_nil]
  have c5 : ∀ (x8 : Int32) (y : ow_MS), fr (fun g => g = 41) z y → Tt (fun K i => q_X13_skein K (qd_X13_skein K dd) i 5 (nI depth) (nI a - 40) (nI j) (-1) x8 0 0 0 s (1000 * (depth + 4)) 0 0 0 0 0 0 0 0 y) Q := by
    intro x8 y hf
    refine u_X13_skein_5 ?_; unfold qm_X13_skein_5
    refine w_ifT rfl (w_rdF (aA hf).2.1 (w_cs0 (R := fun z1 => fr (fun g => g = 42 ∨ g = 44) y z1) ?_ (fun z1 h9 => w_some ?_)))
    · rcases Nat.eq_zero_or_pos A.length with h0 | h0
      · rw [h0]; exact tp_leaf0 (by omega)
      · exact tp_leaf h0 (by omega) (by omega) (by omega) (by omega)
    · exact fr_tr (mono41 hf) (fr_mono (fun g hg => Or.inr (Or.inr hg)) h9)
  have bad : ∀ (v : Nat) (x8 : Int32) (y : ow_MS), fr (fun g => g = 41) z y → v < A.flatten.length → (∀ u, u < v → crs A u ≠ crs A v) → uns A v ≠ 0 → (∀ u, u < v → (∀ t, t < u → crs A t ≠ crs A u) → uns A u = 0) → Tt (fun K i => q_X13_skein K (qd_X13_skein K dd) i 5 (nI depth) (nI a - 40) (nI j) (nI v) x8 0 0 0 s (1000 * (depth + 4)) 0 0 0 0 0 0 0 0 y) Q := by
    intro v x8 y hf hv hfst hb hgood
    have hAy := aA hf
    obtain ⟨g1, g2, g3⟩ := rn_c_in A v hv
    have hml := mtf_lt hd hv
    have hmc := crs_mtf hd hv
    have hmn := mtf_ne hd hv
    have hvm : v < mtf A v := by
      rcases Nat.lt_or_ge (mtf A v) v with h8 | h8
      · exact absurd hmc (hfst _ h8)
      · omega
    obtain ⟨fc, hfc, kF, kg, ko⟩ := sk_ch (x := crs A v) hF hg ho hv rfl hfst hb hgood
    have c13 : ∀ (a' : Nat) (x : Int32) (x11 : Int32) (s1 : Int64) (y5 : ow_MS), x = nI a' - 40 → 40 ≤ a' + 2 * (depth + 1) → a' ≤ 40 + 2 * (depth + 1) → fr (skH depth) z y5 → rn_At y5 (1000 * (depth + 1 + 4)) (A.map (List.map (flp (fun y => decide (y = crs A v))))) [] → Tt (fun K i => q_X13_skein K (qd_X13_skein K dd) i 13 (nI depth) (nI a - 40) (nI j) (nI v) (nI (rn_c A v)) (nI (crs A v)) (nI (mtf A v)) x11 s (1000 * (depth + 4)) (1000 * (depth + 1 + 4)) x 0 (nI (depth + 1)) 0 0 s1 0 y5) Q := by
      intro a' x x11 s1 y5 hx h1 h2 hf5 hA5
      rw [hx]
      refine u_X13_skein_13 ?_; unfold qm_X13_skein_13
      refine w_cs0 (ih fc (by omega) (depth + 1) dd (v + 1) j a' _ s1 y5 (by omega) (by omega) (by omega) kF (by rw [flp_len]; exact hl) (by rw [List.length_map]; exact hC) hA5 kg ko h1 h2) (fun z6 h6 => w_some ?_)
      exact fr_tr hf5 (fr_mono (fun g hg => by unfold skH at hg ⊢; omega) h6)
    have c8 : ∀ (t0 : Int32), Tt (fun K i => q_X13_skein K (qd_X13_skein K dd) i 8 (nI depth) (nI a - 40) (nI j) (nI v) (nI (rn_c A v)) (nI (crs A v)) (nI (mtf A v)) 0 s (1000 * (depth + 4)) 0 t0 0 0 0 0 0 0 y) Q := by
      intro t0
      refine u_X13_skein_8 ?_; unfold qm_X13_skein_8
      rw [show nI depth + 1 = nI (depth + 1) from nI_1 _]
      refine w_rdN rfl (by omega) (w_cs0 (tp_smoothIn2 hn hn2 (by omega) hl (by omega) hAy g1 g2 g3 hvm hml) (fun z2 ⟨⟨q, hq, C, b1, b2, b3, b4, b5⟩, s2, f2⟩ => ?_))
      obtain ⟨fs, hfs, mF, mg, mo, ml⟩ := sk_sm hF hg ho hv hml hvm hmc hfst hb hgood b3 b4 (fun i hi => b5 i hi ⟨by omega, by omega, by omega⟩)
      have hz2 : fr (skH depth) z z2 := fr_tr (mono41 hf) (fr_mono (fun g hg => Or.inl (by omega)) f2)
      have hA2 : rn_At z2 (1000 * (depth + 4)) A [] := fr_At f2 (fun g hg => by omega) hAy
      have c11 : ∀ (a' : Nat) (x : Int32) (s1 : Int64), x = nI a' - 40 → 40 ≤ a' + 2 * (depth + 1) → a' ≤ 40 + 2 * (depth + 1) → Tt (fun K i => q_X13_skein K (qd_X13_skein K dd) i 11 (nI depth) (nI a - 40) (nI j) (nI v) (nI (rn_c A v)) (nI (crs A v)) (nI (mtf A v)) t0 s (1000 * (depth + 4)) (1000 * (depth + 1 + 4)) x 0 (nI (depth + 1)) 0 0 s1 0 z2) Q := by
        intro a' x s1 hx h1 h2
        rw [hx]
        refine u_X13_skein_11 ?_; unfold qm_X13_skein_11
        rw [show nI depth + 1 = nI (depth + 1) from nI_1 _, show nI j + 1 = nI (j + 1) from nI_1 _]
        refine w_cs0 (ih fs (by omega) (depth + 1) dd v (j + 1) a' _ s1 z2 (by omega) (by omega) (by omega) mF (by omega) (by rw [List.length_map, b1]; omega) b2 mg mo h1 h2) (fun z3 h3 => ?_)
        have hA3 : rn_At z3 (1000 * (depth + 4)) A [] := fr_At h3 (fun g hg => by unfold skH at hg; omega) hA2
        refine w_cs0 (tn_copy hn2 hn (by omega) (by omega) (by omega) hA3) (fun z4 ⟨hA4, f4, _⟩ => w_cs0 (tp_changeIn hn2 (by omega) (cx hv).1 (fun u hu => ⟨(cx hu).2, (cx hu).1⟩) hA4) (fun z5 ⟨hA5, f5, _⟩ => ?_))
        have hz5 : fr (skH depth) z z5 := fr_tr hz2 (fr_tr (fr_mono (fun g hg => by unfold skH at hg ⊢; omega) h3) (fr_tr (fr_mono (fun g hg => Or.inl (by omega)) f4) (fr_mono (fun g hg => Or.inl (by omega)) f5)))
        refine w_rdF rfl (w_if (fun _ => c13 40 _ _ _ z5 rfl (by omega) (by omega) hz5 hA5) (fun _ => w_if (fun _ => ?_) (fun _ => ?_)))
        · refine u_X13_skein_12 ?_; unfold qm_X13_skein_12
          exact c13 (a - 2) _ _ _ z5 (sk_pw2 (by omega)).1 (by omega) (by omega) hz5 hA5
        · refine u_X13_skein_12 ?_; unfold qm_X13_skein_12
          exact c13 (a + 2) _ _ _ z5 (sk_pw2 (by omega)).2 (by omega) (by omega) hz5 hA5
      have c9 : ∀ (y0 : Int64), Tt (fun K i => q_X13_skein K (qd_X13_skein K dd) i 9 (nI depth) (nI a - 40) (nI j) (nI v) (nI (rn_c A v)) (nI (crs A v)) (nI (mtf A v)) t0 s (1000 * (depth + 4)) (1000 * (depth + 1 + 4)) 0 (nI (depth + 1)) 0 0 y0 0 0 z2) Q := by
        intro y0
        refine u_X13_skein_9 ?_; unfold qm_X13_skein_9
        refine w_rdF rfl (w_if (fun _ => c11 40 _ _ rfl (by omega) (by omega)) (fun _ => w_if (fun _ => ?_) (fun _ => ?_)))
        · refine u_X13_skein_10 ?_; unfold qm_X13_skein_10
          exact c11 (a - 1) _ _ (sk_pw (by omega)).1 (by omega) (by omega)
        · refine u_X13_skein_10 ?_; unfold qm_X13_skein_10
          exact c11 (a + 1) _ _ (sk_pw (by omega)).2 (by omega) (by omega)
      exact w_if (fun _ => c9 _) (fun _ => c9 _)
    have c7 : ∀ (d w : Nat), w + d = mtf A v → v < w → Tt (fun K i => q_X13_skein K (qd_X13_skein K dd) i 7 (nI depth) (nI a - 40) (nI j) (nI v) (nI (rn_c A v)) (nI (crs A v)) (nI w) 0 s (1000 * (depth + 4)) 0 0 0 0 0 0 0 0 y) Q := by
      intro d
      induction d with
      | zero =>
        intro w hw hvw
        have hw : w = mtf A v := by omega
        subst hw
        refine u_X13_skein_7 ?_; unfold qm_X13_skein_7
        exact w_rdI (pl4 hn) rfl (by omega) (at_cu hAy hml).1 (w_ifT (by rw [hmc]) (w_rdI (pl6 hn) rfl (cx hv).1 rfl (w_if (fun _ => c8 _) (fun _ => c8 _))))
      | succ d ih7 =>
        intro w hw hvw
        have hwl : w < A.flatten.length := by omega
        refine u_X13_skein_7 ?_; unfold qm_X13_skein_7
        rw [show nI w + 1 = nI (w + 1) from nI_1 _]
        refine w_rdI (pl4 hn) rfl (by omega) (at_cu hAy hwl).1 (w_ifF (fun e9 => ?_) (ih7 (w + 1) (by omega) (by omega)))
        have e8 := (nI_eq (by have := (cx hwl).1; omega) (by have := (cx hv).1; omega)).mp e9
        exact sk_two hd hv hml hwl (by omega) hmc (by omega) (by omega) e8
    have c6 : ∀ (d c : Nat), c + d = rn_c A v → Tt (fun K i => q_X13_skein K (qd_X13_skein K dd) i 6 (nI depth) (nI a - 40) (nI j) (nI v) (nI c) 0 0 0 s (1000 * (depth + 4)) 0 0 0 0 0 0 0 0 y) Q := by
      intro d
      induction d with
      | zero =>
        intro c hc
        have hc : c = rn_c A v := by omega
        subst hc
        refine u_X13_skein_6 ?_; unfold qm_X13_skein_6
        rw [show nI (rn_c A v) + 1 = nI (rn_c A v + 1) from nI_1 _, show nI v + 1 = nI (v + 1) from nI_1 _]
        exact w_rdI (pl3 hn) rfl (by omega) (hAy.2.2.1 _ (by omega)) (w_ltT (by have := rn_b_le A (rn_c A v + 1); unfold rn_b at this; omega) g3 (w_rdI (pl4 hn) rfl (by omega) (at_cu hAy hv).1 (c7 (mtf A v - (v + 1)) (v + 1) (by omega) (by omega))))
      | succ d ih6 =>
        intro c hc
        refine u_X13_skein_6 ?_; unfold qm_X13_skein_6
        rw [show nI c + 1 = nI (c + 1) from nI_1 _]
        have hle : rn_b A (c + 1) ≤ rn_b A (rn_c A v) := rn_b_mono2 (by omega)
        exact w_rdI (pl3 hn) rfl (by omega) (hAy.2.2.1 _ (by omega)) (w_ltF (by omega) (show rn_b A (c + 1) ≤ v by omega) (ih6 (c + 1) (by omega)))
    refine u_X13_skein_5 ?_; unfold qm_X13_skein_5
    exact w_ifF (rn_neg1 (by omega)) (c6 (rn_c A v) 0 (by omega))
  have scan : ∀ (d v : Nat) (y : ow_MS), v + d = A.flatten.length → fr (fun g => g = 41) z y → metR A v y → (∀ u, u < v → (∀ t, t < u → crs A t ≠ crs A u) → uns A u = 0) → Tt (fun K i => q_X13_skein K (qd_X13_skein K dd) i 2 (nI depth) (nI a - 40) (nI j) (-1) (nI v) 0 0 0 s (1000 * (depth + 4)) 0 0 0 0 0 0 0 0 y) Q := by
    intro d
    induction d with
    | zero =>
      intro v y hv hf hm hgd
      refine u_X13_skein_2 ?_; unfold qm_X13_skein_2
      exact w_rdF (aV hf) (w_leT (by omega) (by omega) (c5 _ y hf))
    | succ d ihs =>
      intro v y hv hf hm hgd
      have hvl : v < A.flatten.length := by omega
      have hcv := cx hvl
      have next : ∀ (y2 : ow_MS), fr (fun g => g = 41) z y2 → metR A (v + 1) y2 → (∀ u, u < v + 1 → (∀ t, t < u → crs A t ≠ crs A u) → uns A u = 0) → Tt (fun K i => q_X13_skein K (qd_X13_skein K dd) i 4 (nI depth) (nI a - 40) (nI j) (-1) (nI v) (nI (crs A v)) 0 0 s (1000 * (depth + 4)) 0 0 0 0 0 0 0 0 y2) Q := by
        intro y2 hf2 hm2 hg2
        refine u_X13_skein_4 ?_; unfold qm_X13_skein_4
        rw [show nI v + 1 = nI (v + 1) from nI_1 _]
        exact ihs (v + 1) y2 (by omega) hf2 hm2 hg2
      refine u_X13_skein_2 ?_; unfold qm_X13_skein_2
      refine w_rdF (aV hf) (w_leF (by omega) hvl (w_ifT rfl (w_rdI (pl4 hn) rfl (by omega) (at_cu (aA hf) hvl).1 (w_rdI ml41 rfl hcv.1 rfl ?_))))
      rcases hm _ hcv.1 with ⟨e0, hno⟩ | ⟨e1, u, hu, hue⟩
      · rw [e0]
        have hf2 : fr (fun g => g = 41) z (usI y 41 (crs A v) (vp_nar .boolean 1)) := fr_I2 hf rfl
        refine w_ifT rfl (w_wrZ ml41 rfl hcv.1 (w_rdI (pl5 hn) rfl (by omega) (at_cu (aA hf2) hvl).2 (w_if (fun h9 => ?_) (fun h9 => ?_))))
        · have hb : uns A v ≠ 0 := fun e => by rw [e] at h9; exact absurd h9 (by decide)
          refine u_X13_skein_3 ?_; unfold qm_X13_skein_3
          refine u_X13_skein_4 ?_; unfold qm_X13_skein_4
          rw [show nI v + 1 = nI (v + 1) from nI_1 _]
          refine u_X13_skein_2 ?_; unfold qm_X13_skein_2
          exact w_rdF (aV hf2) (w_le (by omega) (by omega) (fun _ => bad v _ _ hf2 hvl hno hb hgd) (fun _ => w_ifF (rn_neg1 (by omega)) (bad v _ _ hf2 hvl hno hb hgd)))
        · have hb : uns A v = 0 := by
            rcases Nat.eq_zero_or_pos (uns A v) with h8 | h8
            · exact h8
            · exact absurd (show nI (uns A v) = 1 by rw [show uns A v = 1 by omega]; rfl) h9
          refine u_X13_skein_3 ?_; unfold qm_X13_skein_3
          refine next _ hf2 (fun x hx => ?_) (fun u hu hfu => ?_)
          · by_cases hxv : x = crs A v
            · rw [hxv]
              exact Or.inr ⟨po_usI_at.trans (by decide), v, by omega, rfl⟩
            · rcases hm x hx with ⟨a1, a2⟩ | ⟨a1, u, hu, a2⟩
              · refine Or.inl ⟨rd_ne hxv a1, fun u hu e => ?_⟩
                by_cases huv : u = v
                · rw [huv] at e
                  exact hxv e.symm
                · exact a2 u (by omega) e
              · exact Or.inr ⟨rd_ne hxv a1, u, by omega, a2⟩
          · by_cases huv : u = v
            · rw [huv]; exact hb
            · exact hgd u (by omega) hfu
      · rw [e1]
        refine w_ifF (by decide) (next y hf (fun x hx => ?_) (fun t ht hft => ?_))
        · rcases hm x hx with ⟨a1, a2⟩ | ⟨a1, t, ht, a2⟩
          · refine Or.inl ⟨a1, fun t ht e => ?_⟩
            by_cases htv : t = v
            · rw [htv] at e
              exact a2 u hu (hue.trans e)
            · exact a2 t (by omega) e
          · exact Or.inr ⟨a1, t, by omega, a2⟩
        · by_cases htv : t = v
          · rw [htv] at hft
            exact absurd hue (hft u hu)
          · exact hgd t (by omega) hft
  have clr : ∀ (d i : Nat) (y : ow_MS), i + d = 40 → fr (fun g => g = 41) z y → (∀ x, x < i → y.2.1 41 x = 0) → Tt (fun K t => q_X13_skein K (qd_X13_skein K dd) t 1 (nI depth) (nI a - 40) (nI j) (nI i) 0 0 0 0 s (1000 * (depth + 4)) 0 0 0 0 0 0 0 0 y) Q := by
    intro d
    induction d with
    | zero =>
      intro i y hi hf hx
      refine u_X13_skein_1 ?_; unfold qm_X13_skein_1
      exact w_leT (a := 40) (by omega) (by omega) (scan A.flatten.length 0 y (by omega) hf (fun x h9 => Or.inl ⟨hx x (by omega), fun u hu => absurd hu (by omega)⟩) (fun u hu => absurd hu (by omega)))
    | succ d ihc =>
      intro i y hi hf hx
      refine u_X13_skein_1 ?_; unfold qm_X13_skein_1
      rw [show nI i + 1 = nI (i + 1) from nI_1 _]
      refine w_leF (a := 40) (by omega) (by omega) (w_wrZ ml41 rfl (by omega) (ihc (i + 1) _ (by omega) (fr_I2 hf rfl) (fun x h9 => ?_)))
      by_cases hxi : x = i
      · rw [hxi]
        exact po_usI_at.trans (by decide)
      · exact rd_ne hxi (hx x (by omega))
  refine w_qd ?_
  refine u_X13_skein_0 ?_; unfold qm_X13_skein_0
  exact w_rdN rfl (by omega) (clr 40 0 z (by omega) fr_rf (fun x hx => absurd hx (by omega)))
end
