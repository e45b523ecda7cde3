/-! addSummand, exactly -/
section XSZ
variable {z : ow_MS} {A : rn_L} {sg : Nat → Bool}
theorem ins_at {α : Type} {l : List α} {x : α} {k i : Nat} (hk : k ≤ l.length) : (l.take k ++ x :: l.drop k)[i]? = if i < k then l[i]? else if i = k then some x else l[i - 1]? := by
  have hl : (l.take k).length = k := by rw [List.length_take]; omega
  by_cases h1 : i < k
  · rw [if_pos h1, List.getElem?_append_left (by omega), List.getElem?_take_of_lt h1]
  · rw [if_neg h1, List.getElem?_append_right (by omega), hl]
    by_cases h2 : i = k
    · rw [if_pos h2, h2, Nat.sub_self]
      rfl
    · rw [if_neg h2, show i - k = (i - k - 1) + 1 by omega, List.getElem?_cons_succ, List.getElem?_drop, show k + (i - k - 1) = i - 1 by omega]
theorem vRow_fr9 {F : Nat → Prop} {z z1 : ow_MS} {h o : Nat} {B : rn_L} {t : Nat → Bool} (hf : fr F z z1) (hF : ¬ F h) (hv : vRow z h o B t) : vRow z1 h o B t := by
  have e := (hf h hF).2.1
  obtain ⟨⟨a1, a2, a3, a4⟩, a5⟩ := hv
  exact ⟨⟨a1, a2, by rw [e]; exact a3, fun i t hi => by rw [e]; exact a4 i t hi⟩, a5⟩
theorem vRow_eq9 {z z1 : ow_MS} {h o : Nat} {B : rn_L} {t : Nat → Bool} (he : ∀ i, o ≤ i → i < o + 32 → z1.2.1 h i = z.2.1 h i) (hv : vRow z h o B t) : vRow z1 h o B t := by
  obtain ⟨⟨a1, a2, a3, a4⟩, a5⟩ := hv
  refine ⟨⟨a1, a2, by rw [he o (by omega) (by omega)]; exact a3, fun i t hi => ?_⟩, a5⟩
  have := (List.getElem?_eq_some_iff.mp hi).1
  rw [he _ (by omega) (by omega)]
  exact a4 i t hi
theorem xp_addS {Ms : List (rn_L × (Nat → Bool))} {k9 : Nat} (hS : Ms.length < 16) (hk9 : k9 < 16) (hG : rlR 35 39 36 16 z Ms) (hne : A ≠ []) (hv : vRow z 37 (32 * k9) A sg) : Te (fun K => qe_X13_addSummand K (nI (32 * k9)) z) (fun z1 => (∃ k, k ≤ Ms.length ∧ rlR 35 39 36 16 z1 (Ms.take k ++ (A, sg) :: Ms.drop k) ∧ (∀ i B t, i + 1 = k → Ms[i]? = some (B, t) → lsr (tk sg A) (tk t B) = false) ∧ ∀ i B t, k ≤ i → Ms[i]? = some (B, t) → lsr (tk sg A) (tk t B) = true) ∧ fr (fun g => g = 35 ∨ g = 36 ∨ g = 39) z z1) := by
  obtain ⟨g0, g1, g2⟩ := hG
  generalize hSe : Ms.length = S at g0 g1 g2 hS
  have hl := hv.1.1
  let Q : ow_MS → Prop := fun z1 => (∃ k, k ≤ S ∧ rlR 35 39 36 16 z1 (Ms.take k ++ (A, sg) :: Ms.drop k) ∧ (∀ i B t, i + 1 = k → Ms[i]? = some (B, t) → lsr (tk sg A) (tk t B) = false) ∧ ∀ i B t, k ≤ i → Ms[i]? = some (B, t) → lsr (tk sg A) (tk t B) = true) ∧ fr (fun g => g = 35 ∨ g = 36 ∨ g = 39) z z1
  have fin : ∀ (k : Nat) (y : ow_MS), k ≤ S → fr (fun g => g = 35 ∨ g = 39) z y → vRow y 35 (32 * S) A sg → (∀ i B t, Ms[i]? = some (B, t) → i < k → ∃ j, j < S ∧ y.2.1 39 i = nI j ∧ B ≠ [] ∧ vRow y 35 (32 * j) B t) → (∀ i B t, Ms[i]? = some (B, t) → k ≤ i → (∃ j, j < S ∧ y.2.1 39 (i + 1) = nI j ∧ B ≠ [] ∧ vRow y 35 (32 * j) B t) ∧ lsr (tk sg A) (tk t B) = true) → (∀ i B t, i + 1 = k → Ms[i]? = some (B, t) → lsr (tk sg A) (tk t B) = false) → ∀ z1 : ow_MS, z1.1 36 = nI (S + 1) → z1.2.1 39 k = nI S → (∀ i, i ≠ k → z1.2.1 39 i = y.2.1 39 i) → fr (fun g => g = 36 ∨ g = 39) y z1 → Q z1 := by
    intro k y hkS hf hR h1 h2 h3 z1 u1 u2 u3 f9
    have hlen : (Ms.take k ++ (A, sg) :: Ms.drop k).length = S + 1 := by
      rw [List.length_append, List.length_cons, List.length_take, List.length_drop]
      omega
    refine ⟨⟨k, hkS, ⟨by omega, by rw [hlen]; exact u1, fun i B t hi => ?_⟩, h3, fun i B t hi hm => (h2 i B t hm hi).2⟩, fr_tr (fr_mono (fun g hg => by omega) hf) (fr_mono (fun g hg => by omega) f9)⟩
    rw [ins_at (by omega)] at hi
    rw [hlen]
    by_cases c1 : i < k
    · rw [if_pos c1] at hi
      obtain ⟨j, j1, j2, j3, j4⟩ := h1 i B t hi c1
      exact ⟨j, by omega, (u3 i (by omega)).trans j2, j3, vRow_fr9 f9 (by omega) j4⟩
    · rw [if_neg c1] at hi
      by_cases c2 : i = k
      · rw [if_pos c2] at hi
        have hi := Option.some.inj hi
        have e1 : A = B := congrArg Prod.fst hi
        have e2 : sg = t := congrArg Prod.snd hi
        rw [← e1, ← e2, c2]
        exact ⟨S, by omega, u2, hne, vRow_fr9 f9 (by omega) hR⟩
      · rw [if_neg c2] at hi
        obtain ⟨⟨j, j1, j2, j3, j4⟩, _⟩ := h2 (i - 1) B t hi (by omega)
        rw [show i - 1 + 1 = i by omega] at j2
        exact ⟨j, by omega, (u3 i c2).trans j2, j3, vRow_fr9 f9 (by omega) j4⟩
  have l2 : ∀ (k : Nat) (y : ow_MS), k ≤ S → fr (fun g => g = 35 ∨ g = 39) z y → vRow y 35 (32 * S) A sg → (∀ i B t, Ms[i]? = some (B, t) → i < k → ∃ j, j < S ∧ y.2.1 39 i = nI j ∧ B ≠ [] ∧ vRow y 35 (32 * j) B t) → (∀ i B t, Ms[i]? = some (B, t) → k ≤ i → (∃ j, j < S ∧ y.2.1 39 (i + 1) = nI j ∧ B ≠ [] ∧ vRow y 35 (32 * j) B t) ∧ lsr (tk sg A) (tk t B) = true) → Tt (fun K i => q_X13_addSummand K i 2 (nI (32 * k9)) (nI k) y) Q := by
    intro k
    induction k with
    | zero =>
      intro y hkS hf hR ho1 ho2
      have e36 : y.1 36 = nI S := by rw [(hf 36 (by omega)).1]; exact g1
      refine u_X13_addSummand_2 ?_; unfold qm_X13_addSummand_2
      refine w_leT (b := 0) (by omega) (by omega) ?_
      refine u_X13_addSummand_3 ?_; unfold qm_X13_addSummand_3
      refine w_rdF e36 (w_wrI ml39 rfl (by omega) (w_rdF e36 (w_wrF ?_)))
      rw [nI_1]
      exact w_some (fin 0 y hkS hf hR ho1 ho2 (fun i B t hi => by omega) _ po_usF_at po_usI_at (fun i hi => po_usI_ne hi) (fr_F2 (fr_I (Or.inr rfl)) (Or.inl rfl)))
    | succ k ih =>
      intro y hkS hf hR ho1 ho2
      have e36 : y.1 36 = nI S := by rw [(hf 36 (by omega)).1]; exact g1
      have hkl : k < Ms.length := by omega
      rcases hB : Ms[k] with ⟨B2, t2⟩
      have hM : Ms[k]? = some (B2, t2) := by rw [List.getElem?_eq_getElem hkl, hB]
      obtain ⟨j, hj, e, nB, v2⟩ := ho1 k B2 t2 hM (by omega)
      have l1 := hR.1.1
      have l2 := v2.1.1
      refine u_X13_addSummand_2 ?_; unfold qm_X13_addSummand_2
      rw [nI_pred, pk_m1]
      refine w_leF (b := 0) (by omega) (by omega) (w_rdF e36 (w_rdI ml39 rfl (by omega) e ?_))
      rw [show (32 : Int32) * nI S = nI (32 * S) from pk_mul 32 S, show (32 : Int32) * nI j = nI (32 * j) from pk_mul 32 j]
      refine w_cs1 (tr_lesser ml35 ml35 (by omega) (by omega) (by omega) (by omega) hR.1 v2.1) (fun a y9 e9 => ?_)
      cases e9
      cases hls : lsr (tk sg A) (tk t2 B2) with
      | false =>
        refine w_ifT rfl ?_
        refine u_X13_addSummand_3 ?_; unfold qm_X13_addSummand_3
        refine w_rdF e36 (w_wrI ml39 rfl (by omega) (w_rdF e36 (w_wrF ?_)))
        rw [nI_1]
        exact w_some (fin (k + 1) y hkS hf hR ho1 ho2 (fun i B t hi hm => by
          rw [show i = k by omega, hM] at hm
          have hm := Option.some.inj hm
          have e1 : B2 = B := congrArg Prod.fst hm
          have e2 : t2 = t := congrArg Prod.snd hm
          rw [← e1, ← e2]
          exact hls) _ po_usF_at po_usI_at (fun i hi => po_usI_ne hi) (fr_F2 (fr_I (Or.inr rfl)) (Or.inl rfl)))
      | true =>
        refine w_ifF (by decide) (w_rdI ml39 rfl (by omega) e (w_wrI ml39 rfl (by omega) (ih _ (by omega) (fr_I2 hf (Or.inr rfl)) (vRow_fr9 (F := fun g => g = 39) (fr_I rfl) (by omega) hR) (fun i B t hm hi => ?_) (fun i B t hm hi => ?_))))
        · obtain ⟨j9, q1, q2, q3, q4⟩ := ho1 i B t hm (by omega)
          exact ⟨j9, q1, rd_ne (by omega) q2, q3, vRow_fr9 (F := fun g => g = 39) (fr_I rfl) (by omega) q4⟩
        · by_cases hik : i = k
          · rw [hik, hM] at hm
            have hm := Option.some.inj hm
            have e1 : B2 = B := congrArg Prod.fst hm
            have e2 : t2 = t := congrArg Prod.snd hm
            rw [← e1, ← e2, hik]
            exact ⟨⟨j, hj, po_usI_at, nB, vRow_fr9 (F := fun g => g = 39) (fr_I rfl) (by omega) v2⟩, hls⟩
          · obtain ⟨⟨j9, q1, q2, q3, q4⟩, q5⟩ := ho2 i B t hm (by omega)
            exact ⟨⟨j9, q1, rd_ne (by omega) q2, q3, vRow_fr9 (F := fun g => g = 39) (fr_I rfl) (by omega) q4⟩, q5⟩
  have l1 : ∀ (d k : Nat) (y : ow_MS), k + d = (tk sg A).length + 1 → fr (fun g => g = 35) z y → (∀ i, i < k → y.2.1 35 (32 * S + i) = z.2.1 37 (32 * k9 + i)) → (∀ i, i < 32 * S → y.2.1 35 i = z.2.1 35 i) → Tt (fun K i => q_X13_addSummand K i 1 (nI (32 * k9)) (nI k) y) Q := by
    intro d
    induction d with
    | zero =>
      intro k y hk hf hc hi
      have e36 : y.1 36 = nI S := by rw [(hf 36 (by omega)).1]; exact g1
      refine u_X13_addSummand_1 ?_; unfold qm_X13_addSummand_1
      refine w_rdI ml37 rfl (by omega) (x := nI (tk sg A).length) (by rw [(hf 37 (by omega)).2.1]; exact hv.1.2.2.1) (w_ltT (by omega) (by omega) (w_rdF e36 (l2 S y (Nat.le_refl _) (fr_mono (fun g hg => Or.inl hg) hf) ?_ (fun i B t hm hi9 => ?_) (fun i B t hm hi9 => ?_))))
      · refine ⟨⟨hv.1.1, hv.1.2.1, ?_, fun i t hi9 => ?_⟩, hv.2⟩
        · have := hc 0 (by omega)
          rw [Nat.add_zero, Nat.add_zero] at this
          rw [this]
          exact hv.1.2.2.1
        · have := (List.getElem?_eq_some_iff.mp hi9).1
          rw [hc (i + 1) (by omega)]
          exact hv.1.2.2.2 i t hi9
      · obtain ⟨j, j1, j2, j3, j4⟩ := g2 i B t hm
        exact ⟨j, j1, by rw [(hf 39 (by omega)).2.1]; exact j2, j3, vRow_eq9 (fun i h1 h2 => hi i (by omega)) j4⟩
      · have := (List.getElem?_eq_some_iff.mp hm).1
        omega
    | succ d ih =>
      intro k y hk hf hc hi
      have e36 : y.1 36 = nI S := by rw [(hf 36 (by omega)).1]; exact g1
      refine u_X13_addSummand_1 ?_; unfold qm_X13_addSummand_1
      refine w_rdI ml37 rfl (by omega) (x := nI (tk sg A).length) (by rw [(hf 37 (by omega)).2.1]; exact hv.1.2.2.1) (w_ltF (by omega) (by omega) (w_rdF e36 ?_))
      rw [nI_add, show (32 : Int32) * nI S = nI (32 * S) from pk_mul 32 S, nI_add, nI_1]
      refine w_rdI ml37 rfl (by omega) (by rw [(hf 37 (by omega)).2.1]) (w_wrI ml35 rfl (by omega) (ih (k + 1) _ (by omega) (fr_I2 hf rfl) (fun i hi9 => ?_) (fun i hi9 => rd_ne (by omega) (hi i hi9))))
      by_cases hik : i = k
      · rw [hik, po_usI_at]
      · exact rd_ne (by omega) (hc i (by omega))
  refine e_X13_addSummand ?_
  refine u_X13_addSummand_0 ?_; unfold qm_X13_addSummand_0
  exact l1 _ 0 z (Nat.zero_add _) fr_rf (fun i hi => by omega) (fun i _ => rfl)
end XSZ
