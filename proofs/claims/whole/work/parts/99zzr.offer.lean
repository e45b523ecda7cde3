/-! offers: a made net goes into a list -/
def gNear (b : Nat) (z : ow_MS) : Prop := ∃ N, (b ≤ N ∧ N ≤ 1000) ∧ z.1 24 = nI N ∧ ∀ j, j < N → dRow z 23 (32 * j)
def gSeen (b : Nat) (z : ow_MS) : Prop := ∃ N, (b ≤ N ∧ N ≤ 310) ∧ z.1 26 = nI N ∧ ∀ j, j < N → dRow z 25 (32 * j)
def gTarg (z : ow_MS) : Prop := (∃ T, rc_At z 28 0 T) ∧ (z.1 29 = 0 ∨ z.1 29 = 1)
/-- what an offer of kind m (asks) needs; L bounds the list -/
def oF (X : (Nat → Nat → Int32) → Prop) (b m L : Nat) (z : ow_MS) : Prop := gI X z ∧ z.1 30 = nI m ∧ m ≤ 3 ∧ (m = 0 → ∃ l, l ≤ L ∧ z.1 22 = nI l) ∧ (m = 1 → gTarg z ∧ gNear b z) ∧ (m = 2 → gNear b z) ∧ (m = 3 → gSeen b z)
theorem gNear_fr {b : Nat} {P : Nat → Prop} {z z1 : ow_MS} (hf : fr P z z1) (h3 : ¬ P 23) (h4 : ¬ P 24) (h : gNear b z) : gNear b z1 := by
  obtain ⟨N, h1, h2, h5⟩ := h
  exact ⟨N, h1, by rw [(hf 24 h4).1]; exact h2, fun j hj => dRow_fr hf h3 (h5 j hj)⟩
theorem gSeen_fr {b : Nat} {P : Nat → Prop} {z z1 : ow_MS} (hf : fr P z z1) (h3 : ¬ P 25) (h4 : ¬ P 26) (h : gSeen b z) : gSeen b z1 := by
  obtain ⟨N, h1, h2, h5⟩ := h
  exact ⟨N, h1, by rw [(hf 26 h4).1]; exact h2, fun j hj => dRow_fr hf h3 (h5 j hj)⟩
theorem gTarg_fr {P : Nat → Prop} {z z1 : ow_MS} (hf : fr P z z1) (h3 : ¬ P 28) (h4 : ¬ P 29) (h : gTarg z) : gTarg z1 := by
  obtain ⟨⟨T, h1⟩, h2⟩ := h
  exact ⟨⟨T, rc_fr hf h3 h1⟩, by rw [(hf 29 h4).1]; exact h2⟩
theorem oF_fr {X : (Nat → Nat → Int32) → Prop} {b m L : Nat} {P : Nat → Prop} {z z1 : ow_MS} (hf : fr P z z1) (hP : ∀ g, P g → ¬ per g ∧ ¬ (22 ≤ g ∧ g ≤ 26) ∧ ¬ (28 ≤ g ∧ g ≤ 30)) (h : oF X b m L z) : oF X b m L z1 := by
  obtain ⟨h1, h2, h3, h4, h5, h6, h7⟩ := h
  have no : ∀ g, (22 ≤ g ∧ g ≤ 26 ∨ 28 ≤ g ∧ g ≤ 30) → ¬ P g := fun g hg h9 => by have := hP g h9; omega
  exact ⟨gI_fr hf (fun g hg => (hP g hg).1) h1, by rw [(hf 30 (no 30 (by omega))).1]; exact h2, h3, fun e => by rw [(hf 22 (no 22 (by omega))).1]; exact h4 e, fun e => ⟨gTarg_fr hf (no 28 (by omega)) (no 29 (by omega)) (h5 e).1, gNear_fr hf (no 23 (by omega)) (no 24 (by omega)) (h5 e).2⟩, fun e => gNear_fr hf (no 23 (by omega)) (no 24 (by omega)) (h6 e), fun e => gSeen_fr hf (no 25 (by omega)) (no 26 (by omega)) (h7 e)⟩
/-- a row is copied out of fresh -/
theorem dRow_cp {z z1 : ow_MS} {h o : Nat} {A : rn_L} {sg : Nat → Bool} (hv : vRow z 27 0 A sg) (hc : ∀ i, i < (tk sg A).length + 1 → z1.2.1 h (o + i) = z.2.1 27 i) : dRow z1 h o := by
  refine ⟨A, sg, ⟨hv.1.1, hv.1.2.1, ?_, fun i t hi => ?_⟩, hv.2⟩
  · have := hc 0 (by omega)
    rw [Nat.add_zero] at this
    rw [this]
    exact hv.1.2.2.1
  · have := (List.getElem?_eq_some_iff.mp hi).1
    rw [hc (i + 1) (by omega)]
    have := hv.1.2.2.2 i t hi
    rw [Nat.zero_add] at this
    exact this
theorem u_X13_offerRow_2 {x2 : Int32} {x3 : Int32} {x4 : Int32} {r1 : Nat} {z : ow_MS} {Q : (Int32 × ow_MS) → Prop} (H : Tt (fun K k => qm_X13_offerRow_2 K (q_X13_offerRow K k) x2 x3 x4 r1 z) Q) : Tt (fun K k => q_X13_offerRow K k 2 x2 x3 x4 r1 z) Q := w_un (fun _ _ => rfl) H
theorem u_X13_offerRow_1 {x2 : Int32} {x3 : Int32} {x4 : Int32} {r1 : Nat} {z : ow_MS} {Q : (Int32 × ow_MS) → Prop} (H : Tt (fun K k => qm_X13_offerRow_1 K (q_X13_offerRow K k) x2 x3 x4 r1 z) Q) : Tt (fun K k => q_X13_offerRow K k 1 x2 x3 x4 r1 z) Q := w_un (fun _ _ => rfl) H
theorem e_X13_offerRow {r1 : Nat} {x2 : Int32} {x3 : Int32} {z : ow_MS} {Q : (Int32 × ow_MS) → Prop} (H : Tt (fun K k => q_X13_offerRow K k 0 x2 x3 0 r1 z) Q) : Te (fun K => qe_X13_offerRow K r1 x2 x3 z) Q := w_te H
theorem u_X13_offerRow_0 {x2 : Int32} {x3 : Int32} {x4 : Int32} {r1 : Nat} {z : ow_MS} {Q : (Int32 × ow_MS) → Prop} (H : Tt (fun K k => qm_X13_offerRow_0 K (q_X13_offerRow K k) x2 x3 x4 r1 z) Q) : Tt (fun K k => q_X13_offerRow K k 0 x2 x3 x4 r1 z) Q := w_un (fun _ _ => rfl) H
theorem tm_offerRow {z : ow_MS} {h N M la : Nat} (hla : (mX.2 h).2.1 = la) (ha : la < 2 ^ 30) (hh : h ≠ 27) (hM : N ≤ M) (hMl : 32 * M ≤ la) (hF : dRow z 27 0) (hR : ∀ j, j < N → dRow z h (32 * j)) : Te (fun K => qe_X13_offerRow K h (nI N) (nI M) z) (fun r => ∃ N2, (N ≤ N2 ∧ N2 ≤ M) ∧ r.1 = nI N2 ∧ fr (fun g => g = h) z r.2 ∧ ∀ j, j < N2 → dRow r.2 h (32 * j)) := by
  obtain ⟨A, sg, hv⟩ := hF
  have hl := hv.1.1
  have cp : N < M → ∀ (d k : Nat) (z1 : ow_MS), k + d = (tk sg A).length + 1 → fr (fun g => g = h) z z1 → (∀ i, i < k → z1.2.1 h (32 * N + i) = z.2.1 27 i) → (∀ i, i < 32 * N → z1.2.1 h i = z.2.1 h i) → Tt (fun K i => q_X13_offerRow K i 2 (nI N) (nI M) (nI k) h z1) (fun r => ∃ N2, (N ≤ N2 ∧ N2 ≤ M) ∧ r.1 = nI N2 ∧ fr (fun g => g = h) z r.2 ∧ ∀ j, j < N2 → dRow r.2 h (32 * j)) := by
    intro hNM d
    induction d with
    | zero =>
      intro k z1 hk hf hc hi
      refine u_X13_offerRow_2 ?_; unfold qm_X13_offerRow_2
      refine w_rdI ml27 nI_0.symm (by omega) (x := nI (tk sg A).length) (by rw [(hf 27 (fun e => hh e.symm)).2.1]; exact hv.1.2.2.1) (w_ltT (by omega) (by omega) (w_some ⟨N + 1, ⟨by omega, by omega⟩, nI_1 N, hf, fun j hj => ?_⟩))
      by_cases hjN : j = N
      · rw [hjN]
        exact dRow_cp hv (fun i hi9 => hc i (by omega))
      · exact dRow_eq (fun i h1 h2 => hi i (by omega)) (hR j (by omega))
    | succ d ih =>
      intro k z1 hk hf hc hi
      refine u_X13_offerRow_2 ?_; unfold qm_X13_offerRow_2
      rw [show (32 : Int32) * nI N = nI (32 * N) from pk_mul 32 N, nI_add, nI_1 k]
      refine w_rdI ml27 nI_0.symm (by omega) (x := nI (tk sg A).length) (by rw [(hf 27 (fun e => hh e.symm)).2.1]; exact hv.1.2.2.1) (w_ltF (by omega) (by omega) (w_rdI ml27 rfl (by omega) (by rw [(hf 27 (fun e => hh e.symm)).2.1]) (w_wrI hla rfl (by omega) ?_)))
      refine ih (k + 1) _ (by omega) (fr_I2 hf rfl) (fun i hi9 => ?_) (fun i hi9 => rd_ne (by omega) (hi i hi9))
      by_cases hik : i = k
      · rw [hik, po_usI_at]
      · exact rd_ne (by omega) (hc i (by omega))
  have look : ∀ (d k : Nat), k + d = N → Tt (fun K i => q_X13_offerRow K i 1 (nI N) (nI M) (nI k) h z) (fun r => ∃ N2, (N ≤ N2 ∧ N2 ≤ M) ∧ r.1 = nI N2 ∧ fr (fun g => g = h) z r.2 ∧ ∀ j, j < N2 → dRow r.2 h (32 * j)) := by
    intro d
    induction d with
    | zero =>
      intro k hk
      refine u_X13_offerRow_1 ?_; unfold qm_X13_offerRow_1
      exact w_leT (by omega) (by omega) (w_eqN (by omega) (by omega) (fun _ => w_some ⟨N, ⟨Nat.le_refl _, hM⟩, rfl, fr_rf, hR⟩) (fun h9 => cp (by omega) _ 0 z (Nat.zero_add _) fr_rf (fun i hi => by omega) (fun i _ => rfl)))
    | succ d ih =>
      intro k hk
      obtain ⟨B, sg2, hw⟩ := hR k (by omega)
      refine u_X13_offerRow_1 ?_; unfold qm_X13_offerRow_1
      rw [show (32 : Int32) * nI k = nI (32 * k) from pk_mul 32 k, nI_1]
      refine w_leF (by omega) (by omega) (w_cs1 (tr_same (o := 0) ml27 hla (by omega) ha (by omega) (by omega) hv.1 hw.1) (fun a z1 e => ?_))
      cases e
      exact w_if (fun _ => ih (k + 1) (by omega)) (fun _ => w_some ⟨N, ⟨Nat.le_refl _, hM⟩, rfl, fr_rf, hR⟩)
  refine e_X13_offerRow ?_
  refine u_X13_offerRow_0 ?_; unfold qm_X13_offerRow_0
  exact look N 0 (by omega)
theorem u_X13_offerList_5 {x1 : Int32} {x2 : Int32} {x3 : Int32} {z : ow_MS} {Q : ow_MS → Prop} (H : Tt (fun K k => qm_X13_offerList_5 K (q_X13_offerList K k) x1 x2 x3 z) Q) : Tt (fun K k => q_X13_offerList K k 5 x1 x2 x3 z) Q := w_un (fun _ _ => rfl) H
theorem u_X13_offerList_4 {x1 : Int32} {x2 : Int32} {x3 : Int32} {z : ow_MS} {Q : ow_MS → Prop} (H : Tt (fun K k => qm_X13_offerList_4 K (q_X13_offerList K k) x1 x2 x3 z) Q) : Tt (fun K k => q_X13_offerList K k 4 x1 x2 x3 z) Q := w_un (fun _ _ => rfl) H
theorem u_X13_offerList_3 {x1 : Int32} {x2 : Int32} {x3 : Int32} {z : ow_MS} {Q : ow_MS → Prop} (H : Tt (fun K k => qm_X13_offerList_3 K (q_X13_offerList K k) x1 x2 x3 z) Q) : Tt (fun K k => q_X13_offerList K k 3 x1 x2 x3 z) Q := w_un (fun _ _ => rfl) H
theorem u_X13_offerList_1 {x1 : Int32} {x2 : Int32} {x3 : Int32} {z : ow_MS} {Q : ow_MS → Prop} (H : Tt (fun K k => qm_X13_offerList_1 K (q_X13_offerList K k) x1 x2 x3 z) Q) : Tt (fun K k => q_X13_offerList K k 1 x1 x2 x3 z) Q := w_un (fun _ _ => rfl) H
theorem u_X13_offerList_2 {x1 : Int32} {x2 : Int32} {x3 : Int32} {z : ow_MS} {Q : ow_MS → Prop} (H : Tt (fun K k => qm_X13_offerList_2 K (q_X13_offerList K k) x1 x2 x3 z) Q) : Tt (fun K k => q_X13_offerList K k 2 x1 x2 x3 z) Q := w_un (fun _ _ => rfl) H
theorem e_X13_offerList {z : ow_MS} {Q : ow_MS → Prop} (H : Tt (fun K k => q_X13_offerList K k 0 0 0 0 z) Q) : Te (fun K => qe_X13_offerList K z) Q := w_te H
theorem u_X13_offerList_0 {x1 : Int32} {x2 : Int32} {x3 : Int32} {z : ow_MS} {Q : ow_MS → Prop} (H : Tt (fun K k => qm_X13_offerList_0 K (q_X13_offerList K k) x1 x2 x3 z) Q) : Tt (fun K k => q_X13_offerList K k 0 x1 x2 x3 z) Q := w_un (fun _ _ => rfl) H
theorem tm_offerList {z : ow_MS} {L : Nat} (hL : L < 2700) (h22 : z.1 22 = nI L) (ho : ∀ k, k < L → ∃ j, j < L ∧ z.2.1 21 k = nI j) (hF : dRow z 27 0) (hR : ∀ j, j < L → dRow z 20 (32 * j)) : Te (fun K => qe_X13_offerList K z) (fun z1 => gList z1 ∧ (∃ l, l ≤ L + 1 ∧ z1.1 22 = nI l) ∧ fr (fun g => 20 ≤ g ∧ g ≤ 22) z z1) := by
  obtain ⟨A, sg, hv⟩ := hF
  have hl := hv.1.1
  let Q : ow_MS → Prop := fun z1 => gList z1 ∧ (∃ l, l ≤ L + 1 ∧ z1.1 22 = nI l) ∧ fr (fun g => 20 ≤ g ∧ g ≤ 22) z z1
  have c5 : ∀ (x1 x2 : Int32) (d k : Nat) (z1 : ow_MS), k + d = (tk sg A).length + 1 → fr (fun g => 20 ≤ g ∧ g ≤ 21) z z1 → (∀ k, k < L + 1 → ∃ j, j < L + 1 ∧ z1.2.1 21 k = nI j) → (∀ i, i < k → z1.2.1 20 (32 * L + i) = z.2.1 27 i) → (∀ i, i < 32 * L → z1.2.1 20 i = z.2.1 20 i) → Tt (fun K i => q_X13_offerList K i 5 x1 x2 (nI k) z1) Q := by
    intro x1 x2 d
    induction d with
    | zero =>
      intro k z1 hk hf hor hc hi
      have e22 : z1.1 22 = nI L := by rw [(hf 22 (by omega)).1]; exact h22
      refine u_X13_offerList_5 ?_; unfold qm_X13_offerList_5
      refine w_rdI ml27 nI_0.symm (by omega) (x := nI (tk sg A).length) (by rw [(hf 27 (by omega)).2.1]; exact hv.1.2.2.1) (w_ltT (by omega) (by omega) (w_rdF e22 (w_wrF ?_)))
      rw [nI_1]
      refine w_some ⟨⟨L + 1, by omega, po_usF_at, hor, fun j hj => ?_⟩, ⟨L + 1, Nat.le_refl _, po_usF_at⟩, fr_F2 (fr_mono (fun g hg => by omega) hf) (by omega)⟩
      by_cases hjL : j = L
      · rw [hjL]
        exact dRow_cp hv (fun i hi9 => hc i (by omega))
      · exact dRow_eq (fun i h1 h2 => hi i (by omega)) (hR j (by omega))
    | succ d ih =>
      intro k z1 hk hf hor hc hi
      have e22 : z1.1 22 = nI L := by rw [(hf 22 (by omega)).1]; exact h22
      refine u_X13_offerList_5 ?_; unfold qm_X13_offerList_5
      refine w_rdI ml27 nI_0.symm (by omega) (x := nI (tk sg A).length) (by rw [(hf 27 (by omega)).2.1]; exact hv.1.2.2.1) (w_ltF (by omega) (by omega) (w_rdF e22 (w_rdI ml27 rfl (by omega) (by rw [(hf 27 (by omega)).2.1]) ?_)))
      rw [show (32 : Int32) * nI L = nI (32 * L) from pk_mul 32 L, nI_add, nI_1]
      refine w_wrI ml20 rfl (by omega) (ih (k + 1) _ (by omega) (fr_I2 hf (by omega)) (fun k9 hk9 => ?_) (fun i hi9 => ?_) (fun i hi9 => rd_ne (by omega) (hi i hi9)))
      · rw [po_usI_ot (by omega)]
        exact hor k9 hk9
      · by_cases hik : i = k
        · rw [hik, po_usI_at]
        · exact rd_ne (by omega) (hc i (by omega))
  have c4 : ∀ (lo : Nat) (x2 : Int32), lo ≤ L → ∀ (d k : Nat) (z1 : ow_MS), lo + d = k → k ≤ L → fr (fun g => g = 21) z z1 → (∀ i, i ≤ L → i ≠ k → ∃ j, j < L + 1 ∧ z1.2.1 21 i = nI j) → Tt (fun K i => q_X13_offerList K i 4 (nI lo) x2 (nI k) z1) Q := by
    intro lo x2 hlo d
    induction d with
    | zero =>
      intro k z1 hk hkL hf hor
      have e22 : z1.1 22 = nI L := by rw [(hf 22 (by omega)).1]; exact h22
      refine u_X13_offerList_4 ?_; unfold qm_X13_offerList_4
      refine w_leT (by omega) (by omega) (w_rdF e22 (w_wrI ml21 rfl (by omega) (c5 _ _ ((tk sg A).length + 1) 0 _ (by omega) (fr_I2 (fr_mono (fun g hg => by omega) hf) (by omega)) (fun i hi => ?_) (fun i hi => by omega) (fun i hi => ?_))))
      · by_cases hil : i = lo
        · exact ⟨L, by omega, by rw [hil, po_usI_at]⟩
        · obtain ⟨j, hj, e⟩ := hor i (by omega) (by omega)
          exact ⟨j, hj, rd_ne hil e⟩
      · rw [po_usI_ot (by omega), (hf 20 (by omega)).2.1]
    | succ d ih =>
      intro k z1 hk hkL hf hor
      obtain ⟨j, hj, e⟩ := hor (k - 1) (by omega) (by omega)
      refine u_X13_offerList_4 ?_; unfold qm_X13_offerList_4
      rw [show nI k - 1 = nI (k - 1) from pk_sub (b := 1) (by omega), show nI k + -1 = nI (k - 1) from by
        obtain ⟨k9, rfl⟩ : ∃ k9, k = k9 + 1 := ⟨k - 1, by omega⟩
        rw [pk_m1]
        rfl]
      refine w_leF (by omega) (by omega) (w_rdI ml21 rfl (by omega) e (w_wrI ml21 rfl (by omega) (ih (k - 1) _ (by omega) (by omega) (fr_I2 hf rfl) (fun i hi hne => ?_))))
      by_cases hik : i = k
      · exact ⟨j, hj, by rw [hik, po_usI_at]⟩
      · obtain ⟨j9, hj9, e9⟩ := hor i hi hik
        exact ⟨j9, hj9, rd_ne hik e9⟩
  have c3 : ∀ (lo : Nat) (x2 : Int32), lo ≤ L → Tt (fun K i => q_X13_offerList K i 3 (nI lo) x2 0 z) Q := by
    intro lo x2 hlo
    refine u_X13_offerList_3 ?_; unfold qm_X13_offerList_3
    refine w_rdF h22 (c4 lo x2 hlo (L - lo) L z (by omega) (Nat.le_refl _) fr_rf (fun i hi hne => ?_))
    obtain ⟨j, hj, e⟩ := ho i (by omega)
    exact ⟨j, by omega, e⟩
  have srch : ∀ (u lo hi : Nat), hi - lo ≤ u → lo ≤ hi → hi ≤ L → Tt (fun K i => q_X13_offerList K i 1 (nI lo) (nI hi) 0 z) Q := by
    intro u
    induction u with
    | zero =>
      intro lo hi hu hlh hhL
      refine u_X13_offerList_1 ?_; unfold qm_X13_offerList_1
      refine w_leT (by omega) (by omega) (w_rdF h22 (w_le (by omega) (by omega) (fun _ => c3 _ _ (by omega)) (fun h9 => ?_)))
      obtain ⟨j, hj, e⟩ := ho lo h9
      obtain ⟨B, sg2, hw⟩ := hR j hj
      refine w_rdI ml21 rfl (by omega) e ?_
      rw [show (32 : Int32) * nI j = nI (32 * j) from pk_mul 32 j]
      refine w_cs1 (tr_same (o := 0) ml27 ml20 (by omega) (by omega) (by omega) (by omega) hv.1 hw.1) (fun a z1 e => ?_)
      cases e
      exact w_if (fun _ => c3 _ _ (by omega)) (fun _ => w_some ⟨⟨L, by omega, h22, ho, hR⟩, ⟨L, by omega, h22⟩, fr_rf⟩)
    | succ u ih =>
      intro lo hi hu hlh hhL
      refine u_X13_offerList_1 ?_; unfold qm_X13_offerList_1
      refine w_le (by omega) (by omega) (fun hle => w_rdF h22 (w_le (by omega) (by omega) (fun _ => c3 _ _ (by omega)) (fun h9 => ?_))) (fun hlt => w_nzI (by decide) ?_)
      · obtain ⟨j, hj, e⟩ := ho lo h9
        obtain ⟨B, sg2, hw⟩ := hR j hj
        refine w_rdI ml21 rfl (by omega) e ?_
        rw [show (32 : Int32) * nI j = nI (32 * j) from pk_mul 32 j]
        refine w_cs1 (tr_same (o := 0) ml27 ml20 (by omega) (by omega) (by omega) (by omega) hv.1 hw.1) (fun a z1 e => ?_)
        cases e
        exact w_if (fun _ => c3 _ _ (by omega)) (fun _ => w_some ⟨⟨L, by omega, h22, ho, hR⟩, ⟨L, by omega, h22⟩, fr_rf⟩)
      · rw [nI_add, show nI (lo + hi) / 2 = nI ((lo + hi) / 2) from pk_div (d := 2) (by omega) (by omega) (by omega)]
        obtain ⟨j, hj, e⟩ := ho ((lo + hi) / 2) (by omega)
        obtain ⟨B, sg2, hw⟩ := hR j hj
        have hwl := hw.1.1
        refine w_rdI ml21 rfl (by omega) e ?_
        rw [show (32 : Int32) * nI j = nI (32 * j) from pk_mul 32 j]
        refine w_cs1 (tr_lesser (p := 0) ml20 ml27 (by omega) (by omega) (by omega) (by omega) hw.1 hv.1) (fun a z1 e => ?_)
        cases e
        refine w_if (fun _ => ?_) (fun _ => ?_)
        · refine u_X13_offerList_2 ?_; unfold qm_X13_offerList_2
          exact ih lo ((lo + hi) / 2) (by omega) (by omega) (by omega)
        · refine u_X13_offerList_2 ?_; unfold qm_X13_offerList_2
          rw [nI_1]
          exact ih ((lo + hi) / 2 + 1) hi (by omega) (by omega) (by omega)
  refine e_X13_offerList ?_
  refine u_X13_offerList_0 ?_; unfold qm_X13_offerList_0
  exact w_rdF h22 (srch L 0 L (by omega) (by omega) (Nat.le_refl _))
abbrev frO (g : Nat) : Prop := g < 1000 ∧ g ≠ 12 ∧ g ≠ 28 ∨ 3007 ≤ g ∧ g ≤ 3013
theorem bor01 {x y : Int32} (hx : x = 0 ∨ x = 1) (hy : y = 0 ∨ y = 1) : x ||| y = 0 ∨ x ||| y = 1 := by
  rcases hx with hx | hx <;> rcases hy with hy | hy <;> rw [hx, hy] <;> decide
theorem e_X13_offer {z : ow_MS} {Q : ow_MS → Prop} (H : Tt (fun K _ => qm_X13_offer_0 K z) Q) : Te (fun K => qe_X13_offer K z) Q := w_te0 H
theorem tm_offer {X : (Nat → Nat → Int32) → Prop} {b m L : Nat} {z : ow_MS} (hL : L < 2700) (h : oF X b m L z) (hM : mNet z 3000) : Te (fun K => qe_X13_offer K z) (fun z1 => oF X b m (L + 1) z1 ∧ fr frO z z1) := by
  refine e_X13_offer ?_; unfold qm_X13_offer_0
  refine w_cs0 (tm_pack (o := 0) pn3 (by omega) ml27 (by omega) (by omega) hM) (fun z1 ⟨d1, f1, _⟩ => ?_)
  have h1 : oF X b m L z1 := oF_fr f1 (fun g hg => by unfold frQ at hg; unfold per; omega) h
  have f1' : fr frO z z1 := fr_mono (fun g hg => by unfold frQ at hg; unfold frO; omega) f1
  obtain ⟨i1, i2, i3, i4, i5, i6, i7⟩ := h1
  have mono : (m = 0 → ∃ l, l ≤ L + 1 ∧ z1.1 22 = nI l) := fun e => by
    obtain ⟨l, h8, h9⟩ := i4 e
    exact ⟨l, by omega, h9⟩
  refine w_rdF i2 ?_
  have hmt : (nI m).toInt = (m : Int) := nI_toInt (by omega)
  have hm4 : m = 0 ∨ m = 1 ∨ m = 2 ∨ m = 3 := by omega
  rcases hm4 with e | e | e | e
  · subst e
    obtain ⟨l, h8, h9⟩ := i4 rfl
    obtain ⟨L9, a1, a2, a3, a4⟩ := i1.2.2.1
    have hlL : L9 = l := by
      rw [h9] at a2
      exact ((nI_eq (by omega) (by omega)).mp a2).symm
    subst hlL
    refine w_ifF (by rw [hmt]; omega) (w_ifT rfl (w_cs0 (tm_offerList (by omega) h9 a3 d1 a4) (fun z2 ⟨g1, ⟨l2, g2, g3⟩, g4⟩ => w_some ⟨⟨?_, by rw [(g4 30 (by omega)).1]; exact i2, by omega, fun _ => ⟨l2, by omega, g3⟩, fun e => by omega, fun e => by omega, fun e => by omega⟩, fr_tr f1' (fr_mono (fun g hg => Or.inl (by omega)) g4)⟩)))
    obtain ⟨j1, j2, j3, j4, j5, j6, j7⟩ := i1
    exact ⟨gTape_fr g4 (by omega) j1, gRows_fr g4 (by omega) j2, g1, gSum_fr g4 (by omega) (by omega) (by omega) j4, gCash_fr g4 (by omega) (by omega) (by omega) (by omega) (by omega) j5, gBrs_fr g4 (by omega) (by omega) (by omega) j6, gX_fr g4 (fun g hg => by omega) j7⟩
  · subst e
    obtain ⟨⟨⟨T, hT⟩, hfd⟩, hne⟩ := i5 rfl
    obtain ⟨A, sg, hv⟩ := d1
    have hvl := hv.1.1
    refine w_ifF (by rw [hmt]; omega) (w_ifF (by decide) (w_ifT rfl (w_rdF rfl (w_cs1 (tr_same (o := 0) (p := 0) ml27 ml28 (by omega) (by omega) (by omega) (by omega) hv.1 hT) (fun a z2 e => ?_)))))
    cases e
    have hor := bor01 hfd (bZ_01 (decide (tk sg A = T)))
    refine w_okZ hor (w_wrF (w_some ⟨⟨?_, rf_ot (by omega) i2, by omega, fun e => by omega, fun _ => ⟨⟨⟨T, hT⟩, ?_⟩, gNear_fr (P := fun g => g = 29) (fr_F rfl) (by omega) (by omega) hne⟩, fun e => by omega, fun e => by omega⟩, fr_F2 f1' (Or.inl (by omega))⟩))
    · exact gI_fr (P := fun g => g = 29) (fr_F rfl) (fun g hg => by rw [hg]; decide) i1
    · rw [po_usF_at]
      exact hor
  · subst e
    obtain ⟨N, n1, n2, n3⟩ := i6 rfl
    refine w_ifF (by rw [hmt]; omega) (w_ifF (by decide) (w_ifF (by decide) (w_ifT rfl (w_rdF n2 (w_cs1 (tm_offerRow (M := 1000) ml23 (by omega) (by omega) n1.2 (by omega) d1 n3) (fun a z2 hz => ?_)))))) 
    obtain ⟨N2, q1, q2, q3, q4⟩ := hz
    have q2 : a = nI N2 := q2
    have q3 : fr (fun g => g = 23) z1 z2 := q3
    refine w_wrF (w_some ⟨⟨?_, ?_, by omega, fun e => by omega, fun e => by omega, fun _ => ⟨N2, ⟨by omega, q1.2⟩, by rw [po_usF_at]; exact q2, q4⟩, fun e => by omega⟩, fr_F2 (fr_tr f1' (fr_mono (fun g hg => Or.inl (by omega)) q3)) (Or.inl (by omega))⟩)
    · exact gI_fr (P := fun g => g = 23 ∨ g = 24) (fr_F2 (fr_mono (fun g hg => Or.inl hg) q3) (Or.inr rfl)) (fun g hg => by rcases hg with hg | hg <;> rw [hg] <;> decide) i1
    · refine rf_ot (by omega) ?_
      rw [(q3 30 (by omega)).1]
      exact i2
  · subst e
    obtain ⟨N, n1, n2, n3⟩ := i7 rfl
    refine w_ifT (by rw [hmt]; omega) (w_rdF n2 (w_cs1 (tm_offerRow (M := 310) ml25 (by omega) (by omega) n1.2 (by omega) d1 n3) (fun a z2 hz => ?_)))
    obtain ⟨N2, q1, q2, q3, q4⟩ := hz
    have q2 : a = nI N2 := q2
    have q3 : fr (fun g => g = 25) z1 z2 := q3
    refine w_wrF (w_some ⟨⟨?_, ?_, by omega, fun e => by omega, fun e => by omega, fun e => by omega, fun _ => ⟨N2, ⟨by omega, q1.2⟩, by rw [po_usF_at]; exact q2, q4⟩⟩, fr_F2 (fr_tr f1' (fr_mono (fun g hg => Or.inl (by omega)) q3)) (Or.inl (by omega))⟩)
    · exact gI_fr (P := fun g => g = 25 ∨ g = 26) (fr_F2 (fr_mono (fun g hg => Or.inl hg) q3) (Or.inr rfl)) (fun g hg => by rcases hg with hg | hg <;> rw [hg] <;> decide) i1
    · refine rf_ot (by omega) ?_
      rw [(q3 30 (by omega)).1]
      exact i2
