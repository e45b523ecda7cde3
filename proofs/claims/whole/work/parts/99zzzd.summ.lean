/-! addSummand, summands -/
section SUM2
variable {X : (Nat → Nat → Int32) → Prop} {z : ow_MS} {A : rn_L} {sg : Nat → Bool}
def gSumN (z : ow_MS) (L : Nat) : Prop := z.1 36 = nI L ∧ (∀ k, k < L → ∃ j, j < L ∧ z.2.1 39 k = nI j) ∧ ∀ j, j < L → dRow z 35 (32 * j)
theorem u_X13_addSummand_2 {x1 : Int32} {x2 : Int32} {z : ow_MS} {Q : ow_MS → Prop} (H : Tt (fun K k => qm_X13_addSummand_2 K (q_X13_addSummand K k) x1 x2 z) Q) : Tt (fun K k => q_X13_addSummand K k 2 x1 x2 z) Q := w_un (fun _ _ => rfl) H
theorem u_X13_addSummand_3 {x1 : Int32} {x2 : Int32} {z : ow_MS} {Q : ow_MS → Prop} (H : Tt (fun K k => qm_X13_addSummand_3 K (q_X13_addSummand K k) x1 x2 z) Q) : Tt (fun K k => q_X13_addSummand K k 3 x1 x2 z) Q := w_un (fun _ _ => rfl) H
theorem u_X13_addSummand_1 {x1 : Int32} {x2 : Int32} {z : ow_MS} {Q : ow_MS → Prop} (H : Tt (fun K k => qm_X13_addSummand_1 K (q_X13_addSummand K k) x1 x2 z) Q) : Tt (fun K k => q_X13_addSummand K k 1 x1 x2 z) Q := w_un (fun _ _ => rfl) H
theorem e_X13_addSummand {x1 : Int32} {z : ow_MS} {Q : ow_MS → Prop} (H : Tt (fun K k => q_X13_addSummand K k 0 x1 0 z) Q) : Te (fun K => qe_X13_addSummand K x1 z) Q := w_te H
theorem u_X13_addSummand_0 {x1 : Int32} {x2 : Int32} {z : ow_MS} {Q : ow_MS → Prop} (H : Tt (fun K k => qm_X13_addSummand_0 K (q_X13_addSummand K k) x1 x2 z) Q) : Tt (fun K k => q_X13_addSummand K k 0 x1 x2 z) Q := w_un (fun _ _ => rfl) H
theorem tp_addS {S k9 : Nat} (hS : S < 16) (hk9 : k9 < 16) (hG : gSumN z S) (hv : vRow z 37 (32 * k9) A sg) : Te (fun K => qe_X13_addSummand K (nI (32 * k9)) z) (fun z1 => gSumN z1 (S + 1) ∧ fr (fun g => g = 35 ∨ g = 36 ∨ g = 39) z z1) := by
  obtain ⟨g1, g2, g3⟩ := hG
  have hl := hv.1.1
  let Q : ow_MS → Prop := fun z1 => gSumN z1 (S + 1) ∧ fr (fun g => g = 35 ∨ g = 36 ∨ g = 39) z z1
  have l2 : ∀ (k : Nat) (y : ow_MS), k ≤ S → fr (fun g => g = 35 ∨ g = 39) z y → (∀ j, j < S + 1 → dRow y 35 (32 * j)) → (∀ i, i < k → ∃ j, j < S ∧ y.2.1 39 i = nI j) → (∀ i, k < i → i < S + 1 → ∃ j, j < S + 1 ∧ y.2.1 39 i = nI j) → Tt (fun K i => q_X13_addSummand K i 2 (nI (32 * k9)) (nI k) y) Q := by
    intro k
    induction k with
    | zero =>
      intro y hkS hf hR ho1 ho2
      have e36 : y.1 36 = nI S := by rw [(hf 36 (by omega)).1]; exact g1
      refine u_X13_addSummand_2 ?_; unfold qm_X13_addSummand_2
      refine w_leT (b := 0) (by omega) (by omega) ?_
      refine u_X13_addSummand_3 ?_; unfold qm_X13_addSummand_3
      refine w_rdF e36 (w_wrI ml39 rfl (by omega) (w_rdF e36 (w_wrF ?_)))
      rw [nI_1]
      refine w_some ⟨⟨po_usF_at, fun i hi => ?_, fun j hj => dRow_fr (P := fun g => g = 36 ∨ g = 39) (fr_F2 (fr_I (Or.inr rfl)) (Or.inl rfl)) (by omega) (hR j hj)⟩, fr_F2 (fr_I2 (fr_mono (fun g hg => by omega) hf) (by omega)) (by omega)⟩
      by_cases hi0 : i = 0
      · exact ⟨S, by omega, by rw [hi0]; exact po_usI_at⟩
      · obtain ⟨j, hj, e⟩ := ho2 i (by omega) hi
        exact ⟨j, hj, rd_ne hi0 e⟩
    | succ k ih =>
      intro y hkS hf hR ho1 ho2
      have e36 : y.1 36 = nI S := by rw [(hf 36 (by omega)).1]; exact g1
      obtain ⟨j, hj, e⟩ := ho1 k (by omega)
      obtain ⟨B1, t1, v1⟩ := hR S (by omega)
      obtain ⟨B2, t2, v2⟩ := hR j (by omega)
      have l1 := v1.1.1
      have l2 := v2.1.1
      have c3 : Tt (fun K i => q_X13_addSummand K i 3 (nI (32 * k9)) (nI (k + 1)) y) Q := by
        refine u_X13_addSummand_3 ?_; unfold qm_X13_addSummand_3
        refine w_rdF e36 (w_wrI ml39 rfl (by omega) (w_rdF e36 (w_wrF ?_)))
        rw [nI_1]
        refine w_some ⟨⟨po_usF_at, fun i hi => ?_, fun j hj => dRow_fr (P := fun g => g = 36 ∨ g = 39) (fr_F2 (fr_I (Or.inr rfl)) (Or.inl rfl)) (by omega) (hR j hj)⟩, fr_F2 (fr_I2 (fr_mono (fun g hg => by omega) hf) (by omega)) (by omega)⟩
        by_cases hi0 : i = k + 1
        · exact ⟨S, by omega, by rw [hi0]; exact po_usI_at⟩
        · by_cases hik : i < k + 1
          · obtain ⟨j, hj, e⟩ := ho1 i hik
            exact ⟨j, by omega, rd_ne hi0 e⟩
          · obtain ⟨j, hj, e⟩ := ho2 i (by omega) hi
            exact ⟨j, hj, rd_ne hi0 e⟩
      refine u_X13_addSummand_2 ?_; unfold qm_X13_addSummand_2
      rw [nI_pred, pk_m1]
      refine w_leF (b := 0) (by omega) (by omega) (w_rdF e36 (w_rdI ml39 rfl (by omega) e ?_))
      rw [show (32 : Int32) * nI S = nI (32 * S) from pk_mul 32 S, show (32 : Int32) * nI j = nI (32 * j) from pk_mul 32 j]
      refine w_cs1 (tr_lesser ml35 ml35 (by omega) (by omega) (by omega) (by omega) v1.1 v2.1) (fun a y9 e9 => ?_)
      cases e9
      refine w_if (fun _ => c3) (fun _ => w_rdI ml39 rfl (by omega) e (w_wrI ml39 rfl (by omega) (ih _ (by omega) (fr_I2 hf (Or.inr rfl)) (fun j hj => dRow_fr (P := fun g => g = 39) (fr_I rfl) (by omega) (hR j hj)) (fun i hi => ?_) (fun i h1 h2 => ?_))))
      · obtain ⟨j9, hj9, e9⟩ := ho1 i (by omega)
        exact ⟨j9, hj9, rd_ne (by omega) e9⟩
      · by_cases hik : i = k + 1
        · exact ⟨j, by omega, by rw [hik]; exact po_usI_at⟩
        · obtain ⟨j9, hj9, e9⟩ := ho2 i (by omega) h2
          exact ⟨j9, hj9, rd_ne hik e9⟩
  have l1 : ∀ (d k : Nat) (y : ow_MS), k + d = (tk sg A).length + 1 → fr (fun g => g = 35) z y → (∀ i, i < k → y.2.1 35 (32 * S + i) = z.2.1 37 (32 * k9 + i)) → (∀ i, i < 32 * S → y.2.1 35 i = z.2.1 35 i) → Tt (fun K i => q_X13_addSummand K i 1 (nI (32 * k9)) (nI k) y) Q := by
    intro d
    induction d with
    | zero =>
      intro k y hk hf hc hi
      have e36 : y.1 36 = nI S := by rw [(hf 36 (by omega)).1]; exact g1
      refine u_X13_addSummand_1 ?_; unfold qm_X13_addSummand_1
      refine w_rdI ml37 rfl (by omega) (x := nI (tk sg A).length) (by rw [(hf 37 (by omega)).2.1]; exact hv.1.2.2.1) (w_ltT (by omega) (by omega) (w_rdF e36 (l2 S y (Nat.le_refl _) (fr_mono (fun g hg => Or.inl hg) hf) (fun j hj => ?_) (fun i hi9 => by rw [(hf 39 (by omega)).2.1]; exact g2 i hi9) (fun i h1 h2 => by omega))))
      by_cases hjS : j = S
      · rw [hjS]
        refine ⟨A, sg, ⟨hv.1.1, hv.1.2.1, ?_, fun i t hi9 => ?_⟩, hv.2⟩
        · have := hc 0 (by omega)
          rw [Nat.add_zero, Nat.add_zero] at this
          rw [this]
          exact hv.1.2.2.1
        · have := (List.getElem?_eq_some_iff.mp hi9).1
          rw [hc (i + 1) (by omega)]
          exact hv.1.2.2.2 i t hi9
      · exact dRow_eq (fun i h1 h2 => hi i (by omega)) (g3 j (by omega))
    | succ d ih =>
      intro k y hk hf hc hi
      have e36 : y.1 36 = nI S := by rw [(hf 36 (by omega)).1]; exact g1
      refine u_X13_addSummand_1 ?_; unfold qm_X13_addSummand_1
      refine w_rdI ml37 rfl (by omega) (x := nI (tk sg A).length) (by rw [(hf 37 (by omega)).2.1]; exact hv.1.2.2.1) (w_ltF (by omega) (by omega) (w_rdF e36 ?_))
      rw [nI_add, show (32 : Int32) * nI S = nI (32 * S) from pk_mul 32 S, nI_add, nI_1]
      refine w_rdI ml37 rfl (by omega) (by rw [(hf 37 (by omega)).2.1]) (w_wrI ml35 rfl (by omega) (ih (k + 1) _ (by omega) (fr_I2 hf rfl) (fun i hi9 => ?_) (fun i hi9 => rd_ne (by omega) (hi i hi9))))
      by_cases hik : i = k
      · rw [hik, po_usI_at]
      · exact rd_ne (by omega) (hc i (by omega))
  refine e_X13_addSummand ?_
  refine u_X13_addSummand_0 ?_; unfold qm_X13_addSummand_0
  exact l1 _ 0 z (Nat.zero_add _) fr_rf (fun i hi => by omega) (fun i _ => rfl)
/-- the rows that wait: cs says how many crossings each has -/
def wRs (z : ow_MS) (w : Nat) (cs : Nat → Nat) : Prop := ∀ k, k < w → 1 ≤ cs k ∧ ∃ A sg, vRow z 37 (32 * k) A sg ∧ okF A.flatten (cs k)
theorem sN_ge {cs : Nat → Nat} : ∀ w, (∀ k, k < w → 1 ≤ cs k) → w ≤ sN cs w
  | 0, _ => Nat.le_refl _
  | w + 1, h => by
    have := sN_ge w (fun k hk => h k (by omega))
    have := h w (by omega)
    show w + 1 ≤ sN cs w + cs w
    omega
theorem wRs_eq {z1 : ow_MS} {w : Nat} {cs : Nat → Nat} (he : ∀ i, i < 32 * w → z1.2.1 37 i = z.2.1 37 i) (h : wRs z w cs) : wRs z1 w cs := fun k hk => by
  obtain ⟨h1, A, sg, ⟨⟨a1, a2, a3, a4⟩, a5⟩, a6⟩ := h k hk
  refine ⟨h1, A, sg, ⟨⟨a1, a2, by rw [he _ (by omega)]; exact a3, fun i t hi => ?_⟩, a5⟩, a6⟩
  have := (List.getElem?_eq_some_iff.mp hi).1
  rw [he _ (by omega)]
  exact a4 i t hi
theorem cE_01 {r : Nat → Int32} : ∀ V, (∀ v, v < V → r v = 0 ∨ r v = 1) → cE r 0 V + cE r 1 V = V
  | 0, _ => rfl
  | V + 1, h => by
    have ih := cE_01 V (fun v hv => h v (by omega))
    show cE r 0 V + (if r V = 0 then 1 else 0) + (cE r 1 V + if r V = 1 then 1 else 0) = V + 1
    rcases h V (by omega) with e | e
    · rw [e, if_pos rfl, if_neg (by decide)]; omega
    · rw [e, if_neg (by decide), if_pos rfl]; omega
theorem cE_pos {r : Nat → Int32} {x : Int32} {v : Nat} (hr : r v = x) : ∀ V, v < V → 1 ≤ cE r x V
  | 0, h => by omega
  | V + 1, h => by
    show 1 ≤ cE r x V + if r V = x then 1 else 0
    by_cases hv : v = V
    · rw [← hv, hr, if_pos rfl]; omega
    · have := cE_pos hr V (by omega)
      omega
theorem e_X13_summands {x1 : Int32} {z : ow_MS} {Q : (Int32 × ow_MS) → Prop} (H : Tt (fun K k => q_X13_summands K k 0 x1 0 0 0 0 0 0 0 z) Q) : Te (fun K => qe_X13_summands K x1 z) Q := w_te H
theorem u_X13_summands_0 {x1 : Int32} {x2 : Int32} {x3 : Int32} {x4 : Int32} {x5 : Int32} {x6 : Int32} {t0 : Int32} {t1 : Int32} {z : ow_MS} {Q : (Int32 × ow_MS) → Prop} (H : Tt (fun K k => qm_X13_summands_0 K (q_X13_summands K k) x1 x2 x3 x4 x5 x6 t0 t1 z) Q) : Tt (fun K k => q_X13_summands K k 0 x1 x2 x3 x4 x5 x6 t0 t1 z) Q := w_un (fun _ _ => rfl) H
theorem u_X13_summands_5 {x1 : Int32} {x2 : Int32} {x3 : Int32} {x4 : Int32} {x5 : Int32} {x6 : Int32} {t0 : Int32} {t1 : Int32} {z : ow_MS} {Q : (Int32 × ow_MS) → Prop} (H : Tt (fun K k => qm_X13_summands_5 K (q_X13_summands K k) x1 x2 x3 x4 x5 x6 t0 t1 z) Q) : Tt (fun K k => q_X13_summands K k 5 x1 x2 x3 x4 x5 x6 t0 t1 z) Q := w_un (fun _ _ => rfl) H
theorem u_X13_summands_12 {x1 : Int32} {x2 : Int32} {x3 : Int32} {x4 : Int32} {x5 : Int32} {x6 : Int32} {t0 : Int32} {t1 : Int32} {z : ow_MS} {Q : (Int32 × ow_MS) → Prop} (H : Tt (fun K k => qm_X13_summands_12 K (q_X13_summands K k) x1 x2 x3 x4 x5 x6 t0 t1 z) Q) : Tt (fun K k => q_X13_summands K k 12 x1 x2 x3 x4 x5 x6 t0 t1 z) Q := w_un (fun _ _ => rfl) H
theorem u_X13_summands_11 {x1 : Int32} {x2 : Int32} {x3 : Int32} {x4 : Int32} {x5 : Int32} {x6 : Int32} {t0 : Int32} {t1 : Int32} {z : ow_MS} {Q : (Int32 × ow_MS) → Prop} (H : Tt (fun K k => qm_X13_summands_11 K (q_X13_summands K k) x1 x2 x3 x4 x5 x6 t0 t1 z) Q) : Tt (fun K k => q_X13_summands K k 11 x1 x2 x3 x4 x5 x6 t0 t1 z) Q := w_un (fun _ _ => rfl) H
theorem u_X13_summands_6 {x1 : Int32} {x2 : Int32} {x3 : Int32} {x4 : Int32} {x5 : Int32} {x6 : Int32} {t0 : Int32} {t1 : Int32} {z : ow_MS} {Q : (Int32 × ow_MS) → Prop} (H : Tt (fun K k => qm_X13_summands_6 K (q_X13_summands K k) x1 x2 x3 x4 x5 x6 t0 t1 z) Q) : Tt (fun K k => q_X13_summands K k 6 x1 x2 x3 x4 x5 x6 t0 t1 z) Q := w_un (fun _ _ => rfl) H
theorem u_X13_summands_10 {x1 : Int32} {x2 : Int32} {x3 : Int32} {x4 : Int32} {x5 : Int32} {x6 : Int32} {t0 : Int32} {t1 : Int32} {z : ow_MS} {Q : (Int32 × ow_MS) → Prop} (H : Tt (fun K k => qm_X13_summands_10 K (q_X13_summands K k) x1 x2 x3 x4 x5 x6 t0 t1 z) Q) : Tt (fun K k => q_X13_summands K k 10 x1 x2 x3 x4 x5 x6 t0 t1 z) Q := w_un (fun _ _ => rfl) H
theorem u_X13_summands_7 {x1 : Int32} {x2 : Int32} {x3 : Int32} {x4 : Int32} {x5 : Int32} {x6 : Int32} {t0 : Int32} {t1 : Int32} {z : ow_MS} {Q : (Int32 × ow_MS) → Prop} (H : Tt (fun K k => qm_X13_summands_7 K (q_X13_summands K k) x1 x2 x3 x4 x5 x6 t0 t1 z) Q) : Tt (fun K k => q_X13_summands K k 7 x1 x2 x3 x4 x5 x6 t0 t1 z) Q := w_un (fun _ _ => rfl) H
theorem u_X13_summands_9 {x1 : Int32} {x2 : Int32} {x3 : Int32} {x4 : Int32} {x5 : Int32} {x6 : Int32} {t0 : Int32} {t1 : Int32} {z : ow_MS} {Q : (Int32 × ow_MS) → Prop} (H : Tt (fun K k => qm_X13_summands_9 K (q_X13_summands K k) x1 x2 x3 x4 x5 x6 t0 t1 z) Q) : Tt (fun K k => q_X13_summands K k 9 x1 x2 x3 x4 x5 x6 t0 t1 z) Q := w_un (fun _ _ => rfl) H
theorem u_X13_summands_8 {x1 : Int32} {x2 : Int32} {x3 : Int32} {x4 : Int32} {x5 : Int32} {x6 : Int32} {t0 : Int32} {t1 : Int32} {z : ow_MS} {Q : (Int32 × ow_MS) → Prop} (H : Tt (fun K k => qm_X13_summands_8 K (q_X13_summands K k) x1 x2 x3 x4 x5 x6 t0 t1 z) Q) : Tt (fun K k => q_X13_summands K k 8 x1 x2 x3 x4 x5 x6 t0 t1 z) Q := w_un (fun _ _ => rfl) H
theorem u_X13_summands_1 {x1 : Int32} {x2 : Int32} {x3 : Int32} {x4 : Int32} {x5 : Int32} {x6 : Int32} {t0 : Int32} {t1 : Int32} {z : ow_MS} {Q : (Int32 × ow_MS) → Prop} (H : Tt (fun K k => qm_X13_summands_1 K (q_X13_summands K k) x1 x2 x3 x4 x5 x6 t0 t1 z) Q) : Tt (fun K k => q_X13_summands K k 1 x1 x2 x3 x4 x5 x6 t0 t1 z) Q := w_un (fun _ _ => rfl) H
theorem u_X13_summands_4 {x1 : Int32} {x2 : Int32} {x3 : Int32} {x4 : Int32} {x5 : Int32} {x6 : Int32} {t0 : Int32} {t1 : Int32} {z : ow_MS} {Q : (Int32 × ow_MS) → Prop} (H : Tt (fun K k => qm_X13_summands_4 K (q_X13_summands K k) x1 x2 x3 x4 x5 x6 t0 t1 z) Q) : Tt (fun K k => q_X13_summands K k 4 x1 x2 x3 x4 x5 x6 t0 t1 z) Q := w_un (fun _ _ => rfl) H
theorem u_X13_summands_2 {x1 : Int32} {x2 : Int32} {x3 : Int32} {x4 : Int32} {x5 : Int32} {x6 : Int32} {t0 : Int32} {t1 : Int32} {z : ow_MS} {Q : (Int32 × ow_MS) → Prop} (H : Tt (fun K k => qm_X13_summands_2 K (q_X13_summands K k) x1 x2 x3 x4 x5 x6 t0 t1 z) Q) : Tt (fun K k => q_X13_summands K k 2 x1 x2 x3 x4 x5 x6 t0 t1 z) Q := w_un (fun _ _ => rfl) H
theorem u_X13_summands_3 {x1 : Int32} {x2 : Int32} {x3 : Int32} {x4 : Int32} {x5 : Int32} {x6 : Int32} {t0 : Int32} {t1 : Int32} {z : ow_MS} {Q : (Int32 × ow_MS) → Prop} (H : Tt (fun K k => qm_X13_summands_3 K (q_X13_summands K k) x1 x2 x3 x4 x5 x6 t0 t1 z) Q) : Tt (fun K k => q_X13_summands K k 3 x1 x2 x3 x4 x5 x6 t0 t1 z) Q := w_un (fun _ _ => rfl) H
theorem tp_summands {d : Int32} (h : gI X z) : Te (fun K => qe_X13_summands K d z) (fun r => gI X r.2) := by
  have h1 := gI_1 (c := 0) h
  refine e_X13_summands ?_
  refine u_X13_summands_0 ?_; unfold qm_X13_summands_0
  refine w_wrF (w_has h1.2.1 (w_ifT rfl (w_fail h1)) (fun e A sg he hx hv hne => w_ifF (by decide) ?_))
  subst hx
  refine w_cs0 (to_open pn2 he hv) (fun z2 ⟨o1, f1⟩ => w_cs0 (tn_split pn2 (by have := o1.len; omega) (by have := o1.2.2.2; omega) (wkF_ok o1.wk) o1.1) (fun z3 ⟨f3, P, hpt⟩ => ?_))
  have h3 : gI X z3 := gI_net pn2 f3 (fun g hg => by rcases hg with hg | hg <;> omega) (gI_net pn2 f1 (fun g hg => by omega) h1)
  have o3 : oNet z3 2000 A sg := oNet_fr f3 (fun g hg => by rcases hg with hg | hg <;> omega) o1
  have hl := o3.len
  have hC := o3.2.2.2
  have hd := wkF_ok o3.wk
  obtain ⟨m, hk, hmz⟩ := mk_of (by omega) hpt
  have hP := hpt.2.1
  -- the second phase
  let J : ow_MS → Nat → (Nat → Nat) → Nat → Prop := fun y w cs S => gI X y ∧ gSumN y S ∧ wRs y w cs ∧ sN cs w + S ≤ 12
  have ph2 : ∀ (M w S : Nat) (cs : Nat → Nat) (x3 : Int32) (y : ow_MS), 2 * sN cs w ≤ M + w → J y w cs S → Tt (fun K i => q_X13_summands K i 5 (nI e) (nI w) x3 0 0 0 0 0 y) (fun r => gI X r.2) := by
    intro M
    induction M with
    | zero =>
      intro w S cs x3 y hM ⟨j1, j2, j3, j4⟩
      have := sN_ge w (fun k hk9 => (j3 k hk9).1)
      refine u_X13_summands_5 ?_; unfold qm_X13_summands_5
      exact w_leT (b := 0) (by omega) (by omega) (w_rdF rfl (w_some j1))
    | succ M ihM =>
      intro w S cs x3 y hM ⟨j1, j2, j3, j4⟩
      have hws := sN_ge w (fun k hk9 => (j3 k hk9).1)
      by_cases hw0 : w = 0
      · refine u_X13_summands_5 ?_; unfold qm_X13_summands_5
        exact w_leT (b := 0) (by omega) (by omega) (w_rdF rfl (w_some j1))
      · obtain ⟨w1, rfl⟩ : ∃ w1, w = w1 + 1 := ⟨w - 1, by omega⟩
        obtain ⟨hc1, B, sgB, hvB, hokB⟩ := j3 w1 (by omega)
        have hsum : sN cs (w1 + 1) = sN cs w1 + cs w1 := rfl
        have hVB := okF_len hokB
        refine u_X13_summands_5 ?_; unfold qm_X13_summands_5
        rw [pk_m1, show (32 : Int32) * nI w1 = nI (32 * w1) from pk_mul 32 w1]
        refine w_leF (b := 0) (by omega) (by omega) (w_cs0 (to_unpack (by omega) ml37 (by omega) (by omega) hvB) (fun y1 ⟨a1, a2, a3⟩ => w_cs0 (to_link hvB a1 a2) (fun y2 ⟨b1, b2⟩ => ?_)))
        have F2 : fr (fun g => 1001 ≤ g ∧ g ≤ 1011) y y2 := fr_tr (fr_mono (fun g hg => by omega) a3) (fr_mono (fun g hg => by omega) b2)
        have hBl := b1.len
        have hBC := b1.2.2.2
        have hdB := wkF_ok b1.wk
        -- what holds while a gap pair is looked for
        let I : ow_MS → Prop := fun y4 => fr (fun g => g = 38) y2 y4
        have oI : ∀ {y4 : ow_MS}, I y4 → oNet y4 1000 B sgB := fun hI => oNet_fr hI (fun g hg => by omega) b1
        have gIy : ∀ {y4 : ow_MS}, I y4 → gI X y4 := fun hI => gI_fr hI (fun g hg => by rw [hg]; decide) (gI_net pn1 F2 (fun g hg => by omega) j1)
        have e37 : ∀ {y4 : ow_MS}, I y4 → y4.2.1 37 = y.2.1 37 := fun hI => by rw [(hI 37 (by omega)).2.1, (F2 37 (by omega)).2.1]
        have sumI : ∀ {y4 : ow_MS}, I y4 → gSumN y4 S := fun hI => by
          obtain ⟨q1, q2, q3⟩ := j2
          refine ⟨by rw [(hI 36 (by omega)).1, (F2 36 (by omega)).1]; exact q1, fun k hk9 => by rw [(hI 39 (by omega)).2.1, (F2 39 (by omega)).2.1]; exact q2 k hk9, fun j hj => dRow_fr hI (by omega) (dRow_fr F2 (by omega) (q3 j hj))⟩
        let PT : ow_MS → Prop := fun y4 => ∃ c g h9, rEa y4 B c g h9 ∧ c < B.length ∧ rn_b B c ≤ g ∧ g < h9 ∧ h9 < rn_b B (c + 1) ∧ ∀ v, v < B.flatten.length → y4.2.1 38 v = 1 → y4.2.1 38 (mtf B v) = 1
        have c12 : ∀ (x3 x4 : Int32) (w2 S2 : Nat) (cs2 : Nat → Nat) (y5 : ow_MS), 2 * sN cs2 w2 ≤ M + w2 → J y5 w2 cs2 S2 → Tt (fun K i => q_X13_summands K i 12 (nI e) (nI w2) x3 x4 0 0 0 0 y5) (fun r => gI X r.2) := by
          intro x3 x4 w2 S2 cs2 y5 hM2 hJ2
          refine u_X13_summands_12 ?_; unfold qm_X13_summands_12
          exact ihM w2 S2 cs2 x3 y5 hM2 hJ2
        have c11 : ∀ (x3 x4 : Int32) (y4 : ow_MS), I y4 → (x3 = 0 ∨ x3 = 1 ∧ PT y4) → Tt (fun K i => q_X13_summands K i 11 (nI e) (nI w1) x3 x4 0 0 0 0 y4) (fun r => gI X r.2) := by
          intro x3 x4 y4 hI hx
          have hvB4 : vRow y4 37 (32 * w1) B sgB := ⟨⟨hvB.1.1, hvB.1.2.1, by rw [e37 hI]; exact hvB.1.2.2.1, by rw [e37 hI]; exact hvB.1.2.2.2⟩, hvB.2⟩
          have wr4 : wRs y4 w1 cs := wRs_eq (fun i _ => by rw [e37 hI]) (fun k hk9 => j3 k (by omega))
          rcases hx with hx | ⟨hx, c, g, h9, pE, pc, pg, pgh, ph, pcl⟩
          · subst hx
            refine u_X13_summands_11 ?_; unfold qm_X13_summands_11
            rw [show (32 : Int32) * nI w1 = nI (32 * w1) from pk_mul 32 w1]
            refine w_ifT rfl (w_cs0 (tp_addS (by omega) (by omega) (sumI hI) hvB4) (fun y5 ⟨k1, k2⟩ => c12 0 x4 w1 (S + 1) cs y5 (by omega) ⟨?_, k1, wRs_eq (fun i _ => by rw [(k2 37 (by omega)).2.1]) wr4, by omega⟩))
            obtain ⟨i1, i2, i3, i4, i5, i6, i7⟩ := gIy hI
            exact ⟨gTape_fr k2 (by omega) i1, gRows_fr k2 (by omega) i2, gList_fr k2 (by omega) (by omega) (by omega) i3, ⟨S + 1, by omega, k1⟩, gCash_fr k2 (by omega) (by omega) (by omega) (by omega) (by omega) i5, gBrs_fr k2 (by omega) (by omega) (by omega) i6, gX_fr k2 (fun g hg => by omega) i7⟩
          · subst hx
            have r01 : ∀ v, v < B.flatten.length → y4.2.1 38 v = 0 ∨ y4.2.1 38 v = 1 := fun v hv9 => (pE v hv9).1
            have hbl := rn_b_le B (c + 1)
            have cntS := cE_01 (r := y4.2.1 38) B.flatten.length r01
            have hh1 : y4.2.1 38 h9 = 1 := ((pE h9 (by omega)).2 (rn_c_of B c h9 (by omega) ph)).mpr ⟨pgh, Nat.le_refl _⟩
            have hg0 : y4.2.1 38 g = 0 := (r01 g (by omega)).resolve_right (fun e9 => by
              have := ((pE g (by omega)).2 (rn_c_of B c g pg (by omega))).mp e9
              omega)
            have p1 := cE_pos hh1 B.flatten.length (by omega)
            have p0 := cE_pos hg0 B.flatten.length (by omega)
            have pcl0 : ∀ v, v < B.flatten.length → y4.2.1 38 v = 0 → y4.2.1 38 (mtf B v) = 0 := fun v hv9 hv0 => (r01 _ (mtf_lt hdB hv9)).resolve_right (fun e9 => by
              have := pcl _ (mtf_lt hdB hv9) e9
              rw [mtf_mtf hdB hv9, hv0] at this
              exact absurd this (by decide))
            refine u_X13_summands_11 ?_; unfold qm_X13_summands_11
            rw [nI_1, show nI w1 + 2 = nI (w1 + 2) from nI_add w1 2]
            refine w_ifF (by decide) (w_cs0 (tp_waits (b := true) pn1 (by omega) (by omega) (oI hI) pcl) (fun y5 ⟨⟨A5, s5, c5, v5, k5, n5⟩, f5, i5⟩ => ?_))
            have e38 : y5.2.1 38 = y4.2.1 38 := (f5 38 (by omega)).2.1
            have o5 : oNet y5 1000 B sgB := oNet_fr f5 (fun g hg => by omega) (oI hI)
            refine w_cs0 (tp_waits (b := false) (at9 := w1 + 1) pn1 (by omega) (by omega) o5 (by rw [e38]; exact pcl0)) (fun y6 ⟨⟨A6, s6, c6, v6, k6, n6⟩, f6, i6⟩ => ?_)
            rw [e38] at n6
            have n5 : 2 * c5 = cE (y4.2.1 38) 1 B.flatten.length := n5
            have n6 : 2 * c6 = cE (y4.2.1 38) 0 B.flatten.length := n6
            have eqS : ∀ k, k ≤ w1 → sN (fun k => if k < w1 then cs k else if k = w1 then c5 else c6) k = sN cs k := fun k hk9 => sN_congr k (fun p hp => by
              show (if p < w1 then cs p else if p = w1 then c5 else c6) = cs p
              rw [if_pos (by omega)])
            have hs2 : sN (fun k => if k < w1 then cs k else if k = w1 then c5 else c6) (w1 + 2) = sN cs w1 + c5 + c6 := by
              show sN (fun k => if k < w1 then cs k else if k = w1 then c5 else c6) w1 + (if w1 < w1 then cs w1 else if w1 = w1 then c5 else c6) + (if w1 + 1 < w1 then cs (w1 + 1) else if w1 + 1 = w1 then c5 else c6) = _
              rw [eqS w1 (Nat.le_refl _), if_neg (by omega), if_pos rfl, if_neg (by omega), if_neg (by omega)]
            refine c12 1 x4 (w1 + 2) S (fun k => if k < w1 then cs k else if k = w1 then c5 else c6) y6 (by omega) ⟨?_, ?_, fun k hk9 => ?_, by omega⟩
            · exact gI_fr f6 (fun g hg => by unfold per; omega) (gI_fr f5 (fun g hg => by unfold per; omega) (gIy hI))
            · obtain ⟨q1, q2, q3⟩ := sumI hI
              exact ⟨by rw [(f6 36 (by omega)).1, (f5 36 (by omega)).1]; exact q1, fun k hk9 => by rw [(f6 39 (by omega)).2.1, (f5 39 (by omega)).2.1]; exact q2 k hk9, fun j hj => dRow_fr f6 (by omega) (dRow_fr f5 (by omega) (q3 j hj))⟩
            · show 1 ≤ (if k < w1 then cs k else if k = w1 then c5 else c6) ∧ _
              by_cases hk1 : k < w1
              · have := wRs_eq (z1 := y6) (fun i hi => by rw [i6 i (by omega), i5 i (by omega)]) wr4 k hk1
                show 1 ≤ (if k < w1 then cs k else if k = w1 then c5 else c6) ∧ ∃ A sg, vRow y6 37 (32 * k) A sg ∧ okF A.flatten (if k < w1 then cs k else if k = w1 then c5 else c6)
                rw [if_pos hk1]
                exact this
              · by_cases hk2 : k = w1
                · show 1 ≤ (if k < w1 then cs k else if k = w1 then c5 else c6) ∧ ∃ A sg, vRow y6 37 (32 * k) A sg ∧ okF A.flatten (if k < w1 then cs k else if k = w1 then c5 else c6)
                  rw [if_neg hk1, if_pos hk2, hk2]
                  refine ⟨by omega, A5, s5, ⟨⟨v5.1.1, v5.1.2.1, by rw [i6 _ (by omega)]; exact v5.1.2.2.1, fun i t hi => ?_⟩, v5.2⟩, k5⟩
                  have := (List.getElem?_eq_some_iff.mp hi).1
                  have := v5.1.1
                  rw [i6 _ (by omega)]
                  exact v5.1.2.2.2 i t hi
                · show 1 ≤ (if k < w1 then cs k else if k = w1 then c5 else c6) ∧ ∃ A sg, vRow y6 37 (32 * k) A sg ∧ okF A.flatten (if k < w1 then cs k else if k = w1 then c5 else c6)
                  rw [if_neg hk1, if_neg hk2, show k = w1 + 1 by omega]
                  exact ⟨by omega, A6, s6, v6, k6⟩
        -- the search
        have l6 : ∀ (dd c : Nat) (x3 : Int32) (y4 : ow_MS), c + dd = B.length → I y4 → (x3 = 0 ∨ x3 = 1 ∧ PT y4) → Tt (fun K i => q_X13_summands K i 6 (nI e) (nI w1) x3 (nI c) 0 0 0 0 y4) (fun r => gI X r.2) := by
          intro dd
          induction dd with
          | zero =>
            intro c x3 y4 hc hI hx
            refine u_X13_summands_6 ?_; unfold qm_X13_summands_6
            exact w_rdF (lk_C (oI hI).1) (w_leT (by omega) (by omega) (c11 x3 _ y4 hI hx))
          | succ dd ih6 =>
            intro c x3 y4 hc hI hx
            have m1 := rn_b_mono B c
            have m2 := rn_b_le B (c + 1)
            have c10 : ∀ (x5 x3 : Int32) (y4 : ow_MS), I y4 → (x3 = 0 ∨ x3 = 1 ∧ PT y4) → Tt (fun K i => q_X13_summands K i 10 (nI e) (nI w1) x3 (nI c) x5 0 0 0 y4) (fun r => gI X r.2) := by
              intro x5 x3 y4 hI hx
              refine u_X13_summands_10 ?_; unfold qm_X13_summands_10
              rw [nI_1]
              exact ih6 (c + 1) x3 y4 (by omega) hI hx
            have l7 : ∀ (dg g : Nat) (x3 : Int32) (y4 : ow_MS), g + dg = rn_b B (c + 1) → rn_b B c ≤ g → I y4 → (x3 = 0 ∨ x3 = 1 ∧ PT y4) → Tt (fun K i => q_X13_summands K i 7 (nI e) (nI w1) x3 (nI c) (nI g) 0 0 0 y4) (fun r => gI X r.2) := by
              intro dg
              induction dg with
              | zero =>
                intro g x3 y4 hg hlo hI hx
                refine u_X13_summands_7 ?_; unfold qm_X13_summands_7
                rw [nI_1]
                exact w_rdI (pl3 pn1) rfl (by omega) (lk_b (oI hI).1 (by omega)) (w_leT (by omega) (by omega) (c10 _ x3 y4 hI hx))
              | succ dg ih7 =>
                intro g x3 y4 hg hlo hI hx
                have c9 : ∀ (x6 x3 : Int32) (y4 : ow_MS), I y4 → (x3 = 0 ∨ x3 = 1 ∧ PT y4) → Tt (fun K i => q_X13_summands K i 9 (nI e) (nI w1) x3 (nI c) (nI g) x6 0 0 y4) (fun r => gI X r.2) := by
                  intro x6 x3 y4 hI hx
                  refine u_X13_summands_9 ?_; unfold qm_X13_summands_9
                  rw [nI_1]
                  exact ih7 (g + 1) x3 y4 (by omega) (by omega) hI hx
                have l8 : ∀ (dh h9 : Nat) (x3 : Int32) (y4 : ow_MS), h9 + dh = rn_b B (c + 1) → g < h9 → I y4 → (x3 = 0 ∨ x3 = 1 ∧ PT y4) → Tt (fun K i => q_X13_summands K i 8 (nI e) (nI w1) x3 (nI c) (nI g) (nI h9) 0 0 y4) (fun r => gI X r.2) := by
                  intro dh
                  induction dh with
                  | zero =>
                    intro h9 x3 y4 hh hlo8 hI hx
                    refine u_X13_summands_8 ?_; unfold qm_X13_summands_8
                    rw [nI_1]
                    exact w_rdI (pl3 pn1) rfl (by omega) (lk_b (oI hI).1 (by omega)) (w_leT (by omega) (by omega) (c9 _ x3 y4 hI hx))
                  | succ dh ih8 =>
                    intro h9 x3 y4 hh hlo8 hI hx
                    refine u_X13_summands_8 ?_; unfold qm_X13_summands_8
                    rw [nI_1, nI_1]
                    refine w_rdI (pl3 pn1) rfl (by omega) (lk_b (oI hI).1 (by omega)) (w_leF (by omega) (by omega) (w_if (fun _ => w_cs1 (tp_parted (oI hI) (by omega) hlo hlo8 (by omega)) (fun a y5 ⟨r1, r2, r3⟩ => ?_)) (fun _ => c9 _ x3 y4 hI hx)))
                    have r1 : fr (fun i => i = 38) y4 y5 := r1
                    have r2 : a = 0 ∨ a = 1 := r2
                    have r3 : a = 1 → rEa y5 B c g h9 ∧ ∀ v, v < B.flatten.length → y5.2.1 38 v = 1 → y5.2.1 38 (mtf B v) = 1 := r3
                    exact ih8 (h9 + 1) a y5 (by omega) (by omega) (fr_tr hI r1) (r2.imp id (fun e9 => ⟨e9, c, g, h9, (r3 e9).1, by omega, hlo, hlo8, by omega, (r3 e9).2⟩))
                refine u_X13_summands_7 ?_; unfold qm_X13_summands_7
                rw [nI_1, nI_1]
                exact w_rdI (pl3 pn1) rfl (by omega) (lk_b (oI hI).1 (by omega)) (w_leF (by omega) (by omega) (w_if (fun _ => l8 (rn_b B (c + 1) - (g + 1)) (g + 1) x3 y4 (by omega) (by omega) hI hx) (fun _ => c10 _ x3 y4 hI hx)))
            refine u_X13_summands_6 ?_; unfold qm_X13_summands_6
            exact w_rdF (lk_C (oI hI).1) (w_leF (by omega) (by omega) (w_if (fun _ => w_rdI (pl3 pn1) rfl (by omega) (lk_b (oI hI).1 (by omega)) (l7 (rn_b B (c + 1) - rn_b B c) (rn_b B c) x3 y4 (by omega) (Nat.le_refl _) hI hx)) (fun _ => c11 x3 _ y4 hI hx)))
        exact l6 B.length 0 0 y2 (by omega) fr_rf (Or.inl rfl)
  -- the first phase: the parts
  let K1 : ow_MS → Prop := fun y => fr (fun g => 2 ≤ g ∧ g ≤ 9 ∨ g = 37 ∨ g = 38 ∨ 3001 ≤ g ∧ g ≤ 3013) z3 y
  have oK : ∀ {y : ow_MS}, K1 y → oNet y 2000 A sg := fun hf => oNet_fr hf (fun g hg => by omega) o3
  have ph1 : ∀ (k p w : Nat) (cs : Nat → Nat) (y : ow_MS), p + k = P → K1 y → wRs y w cs → 2 * sN cs w ≤ sN (fun q => (pvl A m q A.flatten.length).length) p → Tt (fun K i => q_X13_summands K i 1 (nI e) (nI w) (nI p) 0 0 0 0 0 y) (fun r => gI X r.2) := by
    intro k
    have e1 : sN (fun q => (pvl A m q A.flatten.length).length) P = A.flatten.length := sN_fib (g := fun v => m (rn_c A v)) _ (fun v hv9 => hk.1 _ (rn_c_in A v hv9).1)
    have mon : ∀ a d9, sN (fun q => (pvl A m q A.flatten.length).length) a ≤ sN (fun q => (pvl A m q A.flatten.length).length) (a + d9) := by
      intro a d9
      induction d9 with
      | zero => exact Nat.le_refl _
      | succ d9 ih9 => exact Nat.le_trans ih9 (Nat.le_add_right _ _)
    induction k with
    | zero =>
      intro p w cs y hp hf hw hs
      have hpP : p = P := by omega
      rw [hpP, e1] at hs
      have e13 : y.1 2013 = nI P := by rw [(hf 2013 (by omega)).1]; exact hpt.1
      have hws := sN_ge w (fun k hk9 => (hw k hk9).1)
      refine u_X13_summands_1 ?_; unfold qm_X13_summands_1
      refine w_rdF e13 (w_leT (by omega) (by omega) (w_wrF ?_))
      have f5 : fr (fun g => g = 36) y (usF y 36 0) := fr_F rfl
      have hI5 : gI X y := gI_fr hf (fun g hg => by unfold per; omega) h3
      refine ph2 24 w 0 cs _ _ (by omega) ⟨?_, ⟨po_usF_at, fun k hk9 => by omega, fun j hj => by omega⟩, wRs_eq (fun i _ => rfl) hw, by omega⟩
      obtain ⟨i1, i2, i3, i4, i5, i6, i7⟩ := hI5
      exact ⟨gTape_fr f5 (by omega) i1, gRows_fr f5 (by omega) i2, gList_fr f5 (by omega) (by omega) (by omega) i3, ⟨0, by omega, po_usF_at, fun k hk9 => by omega, fun j hj => by omega⟩, gCash_fr f5 (by omega) (by omega) (by omega) (by omega) (by omega) i5, gBrs_fr f5 (by omega) (by omega) (by omega) i6, gX_fr f5 (fun g hg => by omega) i7⟩
    | succ k ih =>
      intro p w cs y hp hf hw hs
      have e13 : y.1 2013 = nI P := by rw [(hf 2013 (by omega)).1]; exact hpt.1
      have hws := sN_ge w (fun k hk9 => (hw k hk9).1)
      have hsn : sN (fun q => (pvl A m q A.flatten.length).length) (p + 1) = sN (fun q => (pvl A m q A.flatten.length).length) p + (pvl A m p A.flatten.length).length := rfl
      have hpm := mon (p + 1) k
      rw [show p + 1 + k = P by omega, e1] at hpm
      have l2 : ∀ (dd v : Nat) (x4 : Int32) (y : ow_MS), v + dd = A.flatten.length → K1 y → wRs y w cs → (∀ v', v' < v → y.2.1 38 v' = bZ (decide (m (rn_c A v') = p))) → ((x4 = 0 ∧ ∀ v', v' < v → m (rn_c A v') ≠ p) ∨ x4 = 1 ∧ ∃ v', v' < v ∧ m (rn_c A v') = p) → Tt (fun K i => q_X13_summands K i 2 (nI e) (nI w) (nI p) x4 (nI v) 0 0 0 y) (fun r => gI X r.2) := by
        intro dd
        induction dd with
        | zero =>
          intro v x4 y hv9 hf hw hr hx
          have hvV : v = A.flatten.length := by omega
          rw [hvV] at hr hx ⊢
          have c4 : ∀ (x4 : Int32) (w2 : Nat) (cs2 : Nat → Nat) (y2 : ow_MS), K1 y2 → wRs y2 w2 cs2 → 2 * sN cs2 w2 ≤ sN (fun q => (pvl A m q A.flatten.length).length) (p + 1) → Tt (fun K i => q_X13_summands K i 4 (nI e) (nI w2) (nI p) x4 (nI A.flatten.length) 0 0 0 y2) (fun r => gI X r.2) := by
            intro x4 w2 cs2 y2 hf2 hw2 hs2
            refine u_X13_summands_4 ?_; unfold qm_X13_summands_4
            rw [nI_1]
            exact ih (p + 1) w2 cs2 y2 (by omega) hf2 hw2 hs2
          refine u_X13_summands_2 ?_; unfold qm_X13_summands_2
          refine w_rdF (oK hf).1.V (w_leT (by omega) (Nat.le_refl _) ?_)
          rcases hx with ⟨hx, -⟩ | ⟨hx, v0, hv0, hm0⟩
          · subst hx
            exact w_ifT rfl (c4 0 w cs y hf hw (by omega))
          · subst hx
            have hclo : ∀ v', v' < A.flatten.length → y.2.1 38 v' = bZ true → y.2.1 38 (mtf A v') = bZ true := by
              intro v' hv' h9
              have hml := mtf_lt hd hv'
              rw [hr _ hv'] at h9
              have hmp : m (rn_c A v') = p := by
                by_cases h8 : m (rn_c A v') = p
                · exact h8
                · rw [decide_eq_false h8] at h9
                  exact absurd h9 (by decide)
              rw [hr _ hml, ← hk.2.1 _ _ ⟨v', mtf A v', mtf_mt hd hv', rfl, rfl⟩, hmp, decide_eq_true rfl]
            rw [nI_1]
            refine w_ifF (by decide) (w_cs0 (tp_waits (b := true) pn2 (by omega) (by omega) (oK hf) hclo) (fun y5 ⟨⟨A5, s5, c5, v5, k5, n5⟩, f5, i5⟩ => ?_))
            have n5 : 2 * c5 = cE (y.2.1 38) 1 A.flatten.length := n5
            have hcp : cE (y.2.1 38) 1 A.flatten.length = (pvl A m p A.flatten.length).length := by
              rw [← cE_filter]
              unfold pvl
              congr 1
              refine List.filter_congr (fun v' hv' => ?_)
              rw [hr _ (List.mem_range.mp hv')]
              by_cases h8 : m (rn_c A v') = p
              · rw [decide_eq_true h8]; rfl
              · rw [decide_eq_false h8]; rfl
            have hpos : 1 ≤ cE (y.2.1 38) 1 A.flatten.length := cE_pos (v := v0) (by rw [hr v0 hv0, hm0, decide_eq_true rfl]; rfl) _ hv0
            have hs2 : sN (fun k => if k < w then cs k else c5) (w + 1) = sN cs w + c5 := by
              show sN (fun k => if k < w then cs k else c5) w + (if w < w then cs w else c5) = _
              rw [if_neg (by omega), sN_congr w (fun q hq => by show (if q < w then cs q else c5) = cs q; rw [if_pos hq])]
            refine c4 1 (w + 1) (fun k => if k < w then cs k else c5) y5 (fr_tr hf (fr_mono (fun g hg => by omega) f5)) (fun k hk9 => ?_) (by omega)
            show 1 ≤ (if k < w then cs k else c5) ∧ ∃ A sg, vRow y5 37 (32 * k) A sg ∧ okF A.flatten (if k < w then cs k else c5)
            by_cases hk1 : k < w
            · rw [if_pos hk1]
              exact wRs_eq (z1 := y5) (fun i hi => i5 i (by omega)) hw k hk1
            · rw [if_neg hk1, show k = w by omega]
              exact ⟨by omega, A5, s5, v5, k5⟩
        | succ dd ihd =>
          intro v x4 y hv9 hf hw hr hx
          have hvl : v < A.flatten.length := by omega
          have hcl := (rn_c_in A v hvl).1
          have e12 : y.2.1 2012 (rn_c A v) = nI (m (rn_c A v)) := by
            rw [(hf 2012 (by omega)).2.1]
            exact hmz _ hcl
          have hmP := hk.1 _ hcl
          have c3 : ∀ (b : Bool), decide (m (rn_c A v) = p) = b → Tt (fun K i => q_X13_summands K i 3 (nI e) (nI w) (nI p) x4 (nI v) 0 (bZ b) (nI v) y) (fun r => gI X r.2) := by
            intro b hb
            refine u_X13_summands_3 ?_; unfold qm_X13_summands_3
            rw [nI_1]
            refine w_wrZ ml38 rfl (by omega) (w_rdI ml38 rfl (by omega) (x := bZ b) (by rw [po_usI_at]; cases b <;> rfl) ?_)
            have f9 : fr (fun g => g = 38) y (usI y 38 v (vp_nar .boolean (bZ b))) := fr_I rfl
            refine ihd (v + 1) (x4 ||| bZ b) _ (by omega) (fr_tr hf (fr_mono (fun g hg => by omega) f9)) (wRs_eq (fun i _ => by rw [(f9 37 (by omega)).2.1]) hw) (fun v' hv' => ?_) ?_
            · by_cases hvv : v' = v
              · rw [hvv, po_usI_at, hb]
                cases b <;> rfl
              · rw [po_usI_ne hvv]
                exact hr v' (by omega)
            · rcases hx with ⟨e0, hall⟩ | ⟨e0, v0, hv0, hm0⟩
              · subst e0
                cases b with
                | true => exact Or.inr ⟨by decide, v, by omega, of_decide_eq_true hb⟩
                | false =>
                  refine Or.inl ⟨by decide, fun v' hv' => ?_⟩
                  by_cases hvv : v' = v
                  · rw [hvv]; exact of_decide_eq_false hb
                  · exact hall v' (by omega)
              · subst e0
                exact Or.inr ⟨by cases b <;> decide, v0, by omega, hm0⟩
          refine u_X13_summands_2 ?_; unfold qm_X13_summands_2
          exact w_rdF (oK hf).1.V (w_leF (by omega) (by omega) (w_rdI (pl8 pn2) rfl (by omega) (lk_c (oK hf).1 hvl) (w_rdI (pl12 pn2) rfl (by omega) e12 (w_eqN (by omega) (by omega) (fun h9 => c3 true (decide_eq_true h9)) (fun h9 => c3 false (decide_eq_false h9))))))
      refine u_X13_summands_1 ?_; unfold qm_X13_summands_1
      exact w_rdF e13 (w_leF (by omega) (by omega) (l2 A.flatten.length 0 0 y (by omega) hf hw (fun v' hv' => by omega) (Or.inl ⟨rfl, fun v' hv' => by omega⟩)))
  exact ph1 P 0 0 (fun _ => 0) z3 (by omega) fr_rf (fun k hk9 => by omega) (Nat.le_refl _)
end SUM2
