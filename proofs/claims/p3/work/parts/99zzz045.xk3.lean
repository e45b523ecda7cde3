section
/-! 99zzzzzzzzzzzb.xk3 -/
/-! exact: moves of kind 3 of the reference, all places -/
def O3L (A : rn_L) (sg : Nat → Bool) (c g0 h0 k0 : Nat) (A' : rn_L) (sg' : Nat → Bool) : Prop := ∃ g h k, isG A g ∧ isG A h ∧ (k < 4 ∨ g = h ∧ k < 8) ∧ (g < g0 ∨ g = g0 ∧ (h < h0 ∨ h = h0 ∧ k < k0)) ∧ A' = t3A A c g h k ∧ sg' = t3S sg c ∧ plnA A' sg'
section XK3
variable {Φ : ow_MS → (List Nat → Prop) → Nat → Prop} {n L c : Nat} {z : ow_MS} {A : rn_L} {sg : Nat → Bool} {S : List Nat → Prop} {A' : rn_L} {sg' : Nat → Bool} {g h t : Nat}
theorem O3L_end : O3L A sg c (A.flatten.length + A.length) 0 0 A' sg' ↔ O3 A sg c A' sg' := by
  constructor
  · rintro ⟨g, h, k, h1, h2, h3, -, h5⟩
    exact ⟨g, h, k, h1, h2, h3, h5⟩
  · rintro ⟨g, h, k, h1, h2, h3, h5⟩
    exact ⟨g, h, k, h1, h2, h3, Or.inl (isG_lt h1), h5⟩
theorem O3L_row : O3L A sg c g (A.flatten.length + A.length) 0 A' sg' ↔ O3L A sg c (g + 1) 0 0 A' sg' := by
  constructor
  · rintro ⟨g1, h, k, h1, h2, h3, h4, h5⟩
    exact ⟨g1, h, k, h1, h2, h3, by omega, h5⟩
  · rintro ⟨g1, h, k, h1, h2, h3, h4, h5⟩
    have := isG_lt h2
    exact ⟨g1, h, k, h1, h2, h3, by omega, h5⟩
theorem O3L_cell : O3L A sg c g h (if g = h then 8 else 4) A' sg' ↔ O3L A sg c g (h + 1) 0 A' sg' := by
  constructor
  · rintro ⟨g1, h1, k, a1, a2, a3, a4, a5⟩
    exact ⟨g1, h1, k, a1, a2, a3, by omega, a5⟩
  · rintro ⟨g1, h1, k, a1, a2, a3, a4, a5⟩
    refine ⟨g1, h1, k, a1, a2, a3, ?_, a5⟩
    by_cases e : g = h
    · rw [if_pos e]
      omega
    · rw [if_neg e]
      omega
theorem O3L_no (hno : ¬ (isG A g ∧ isG A h)) : O3L A sg c g h t A' sg' ↔ O3L A sg c g (h + 1) 0 A' sg' := by
  constructor
  · rintro ⟨g1, h1, k, a1, a2, a3, a4, a5⟩
    exact ⟨g1, h1, k, a1, a2, a3, by omega, a5⟩
  · rintro ⟨g1, h1, k, a1, a2, a3, a4, a5⟩
    refine ⟨g1, h1, k, a1, a2, a3, ?_, a5⟩
    by_cases e : g1 = g ∧ h1 = h
    · rw [e.1] at a1
      rw [e.2] at a2
      exact absurd ⟨a1, a2⟩ hno
    · omega
theorem O3L_step (hg : isG A g) (hh : isG A h) (ht : t < 4 ∨ g = h ∧ t < 8) : (O3L A sg c g h t A' sg' ∨ (A' = t3A A c g h t ∧ sg' = t3S sg c ∧ plnA A' sg')) ↔ O3L A sg c g h (t + 1) A' sg' := by
  constructor
  · rintro (⟨g1, h1, k, a1, a2, a3, a4, a5⟩ | a5)
    · exact ⟨g1, h1, k, a1, a2, a3, by omega, a5⟩
    · exact ⟨g, h, t, hg, hh, ht, by omega, a5⟩
  · rintro ⟨g1, h1, k, a1, a2, a3, a4, a5⟩
    by_cases e : g1 = g ∧ h1 = h ∧ k = t
    · rw [e.1, e.2.1, e.2.2] at a5
      exact Or.inr a5
    · exact Or.inl ⟨g1, h1, k, a1, a2, a3, by omega, a5⟩
theorem xr_twoCome (hΦ : snkF Φ) (hn : mw_net n) (hn3 : n ≠ 3000) (hok : okF A.flatten c) (hV : A.flatten.length ≤ 20) (hO : oNet z n A sg) (h : Φ z S 0) : Te (fun K => qe_X13_twoCome K n z) (fun z1 => (∃ S', adS S S' (O3 A sg c) ∧ Φ z1 S' 2700) ∧ fr frC z z1) := by
  have hC := hO.2.2.2
  have hG := gcn_25 hV hC
  obtain ⟨N, hN⟩ : ∃ N, N = A.flatten.length + A.length := ⟨_, rfl⟩
  rw [← hN] at hG
  have hN26 : N ≤ 26 := by omega
  obtain ⟨W, hW⟩ : ∃ W, W = 4 * gcn A N + 4 := ⟨_, rfl⟩
  have hGW : gcn A N * W ≤ 2600 := by
    have := Nat.mul_le_mul hG (show W ≤ 104 by omega)
    omega
  let Q : ow_MS → Prop := fun z1 => (∃ S', adS S S' (O3 A sg c) ∧ Φ z1 S' 2700) ∧ fr frC z z1
  have out : ∀ (k g : Nat) (y : ow_MS), g + k = N → fr frC z y → (∃ L2, L2 ≤ gcn A g * W ∧ ∃ S1, adS S S1 (O3L A sg c g 0 0) ∧ Φ y S1 L2) → Tt (fun K i => q_X13_twoCome K i 1 (nI g) 0 0 n 0 0 y) Q := by
    intro k
    induction k with
    | zero =>
      intro g y hg hf ⟨L2, hL2, S1, hS1, ho⟩
      have o2 := oNet_C hn hn3 hf hO
      have : g = N := by omega
      rw [this] at hL2
      refine u_X13_twoCome_1 ?_; unfold qm_X13_twoCome_1
      refine w_rdF o2.1.V (w_rdF (lk_C o2.1) ?_)
      rw [nI_add]
      exact w_leT (by omega) (by omega) (w_some ⟨⟨S1, adS_eq hS1 (fun A' sg' => by rw [this, hN]; exact O3L_end), hΦ.2.2 _ _ _ _ (by omega) ho⟩, hf⟩)
    | succ k ih =>
      intro g y hg hf hLo
      have hgN : g < A.flatten.length + A.length := by omega
      have hmon := gcn_mono (A := A) (a := g + 1) (b := N) (by omega)
      obtain ⟨M, hM⟩ : ∃ M, M = gcn A g * W := ⟨_, rfl⟩
      -- the bound while h runs
      have mid : ∀ (k h9 : Nat) (y : ow_MS), h9 + k = N → fr frC z y → (∃ L2, L2 ≤ M + (if isGb : gcn A (g + 1) = gcn A g + 1 then 4 * gcn A h9 + (if g < h9 then 4 else 0) else 0) ∧ ∃ S1, adS S S1 (O3L A sg c g h9 0) ∧ Φ y S1 L2) → Tt (fun K i => q_X13_twoCome K i 2 (nI g) (nI h9) 0 n 0 0 y) Q := by
        intro k
        induction k with
        | zero =>
          intro h9 y hh hf ⟨L2, hL2, S1, hS1, ho⟩
          have o2 := oNet_C hn hn3 hf hO
          have hhN : h9 = N := by omega
          rw [hhN] at hL2 ⊢
          refine u_X13_twoCome_2 ?_; unfold qm_X13_twoCome_2
          refine w_rdF o2.1.V (w_rdF (lk_C o2.1) ?_)
          rw [nI_add, nI_1]
          refine w_leT (by omega) (by omega) (ih (g + 1) y (by omega) hf ⟨L2, ?_, S1, adS_eq hS1 (fun A' sg' => by rw [hhN, hN]; exact O3L_row), ho⟩)
          by_cases hig : gcn A (g + 1) = gcn A g + 1
          · rw [dif_pos hig, if_pos (by omega)] at hL2
            rw [hig, Nat.succ_mul, ← hM]
            omega
          · rw [dif_neg hig] at hL2
            have := Nat.mul_le_mul_right W (gcn_s A g)
            omega
        | succ k ihk =>
          intro h9 y hh hf hLh
          have hhN : h9 < A.flatten.length + A.length := by omega
          have hmonh := gcn_mono (A := A) (a := h9 + 1) (b := N) (by omega)
          have c5 : ∀ (x4 : Int32) (y : ow_MS), fr frC z y → (∃ L2, L2 ≤ M + (if isGb : gcn A (g + 1) = gcn A g + 1 then 4 * gcn A (h9 + 1) + (if g < h9 + 1 then 4 else 0) else 0) ∧ ∃ S1, adS S S1 (O3L A sg c g (h9 + 1) 0) ∧ Φ y S1 L2) → Tt (fun K i => q_X13_twoCome K i 5 (nI g) (nI h9) x4 n 0 0 y) Q := by
            intro x4 y hf ho
            refine u_X13_twoCome_5 ?_; unfold qm_X13_twoCome_5
            rw [nI_1]
            exact ihk (h9 + 1) y (by omega) hf ho
          have inn : ∀ (k t : Nat) (y : ow_MS), t + k = (if g = h9 then 8 else 4) → fr frC z y → (∃ L2, L2 ≤ M + (if isGb : gcn A (g + 1) = gcn A g + 1 then 4 * gcn A h9 + (if g < h9 then 4 else 0) else 0) + (if isG2 : gcn A (g + 1) = gcn A g + 1 ∧ gcn A (h9 + 1) = gcn A h9 + 1 then t else 0) ∧ ∃ S1, adS S S1 (O3L A sg c g h9 t) ∧ Φ y S1 L2) → Tt (fun K i => q_X13_twoCome K i 3 (nI g) (nI h9) (nI t) n 0 0 y) Q := by
            intro k
            induction k with
            | zero =>
              intro t y ht hf ⟨L2, hL2, S1, hS1, ho⟩
              have fin : Tt (fun K i => q_X13_twoCome K i 5 (nI g) (nI h9) (nI t) n 0 0 y) Q := by
                refine c5 _ y hf ⟨L2, ?_, S1, adS_eq hS1 (fun A' sg' => by rw [show t = if g = h9 then 8 else 4 by omega]; exact O3L_cell), ho⟩
                have ms := gcn_s A h9
                by_cases hig : gcn A (g + 1) = gcn A g + 1
                · rw [dif_pos hig] at hL2 ⊢
                  by_cases hih : gcn A (h9 + 1) = gcn A h9 + 1
                  · rw [dif_pos ⟨hig, hih⟩] at hL2
                    by_cases hgh : g = h9
                    · rw [if_pos hgh] at ht
                      rw [if_neg (by omega)] at hL2
                      rw [if_pos (by omega)]
                      omega
                    · rw [if_neg hgh] at ht
                      by_cases hlt : g < h9
                      · rw [if_pos hlt] at hL2
                        rw [if_pos (by omega)]
                        omega
                      · rw [if_neg hlt] at hL2
                        rw [if_neg (by omega)]
                        omega
                  · rw [dif_neg (fun h8 => hih h8.2)] at hL2
                    by_cases hlt : g < h9
                    · rw [if_pos hlt] at hL2
                      rw [if_pos (by omega)]
                      omega
                    · rw [if_neg hlt] at hL2
                      omega
                · rw [dif_neg hig] at hL2 ⊢
                  rw [dif_neg (fun h8 => hig h8.1)] at hL2
                  omega
              refine u_X13_twoCome_3 ?_; unfold qm_X13_twoCome_3
              refine w_eqN (by omega) (by omega) (fun h8 => ?_) (fun h8 => ?_)
              · rw [if_pos h8] at ht
                refine u_X13_twoCome_4 ?_; unfold qm_X13_twoCome_4
                exact w_leT (a := 8) (by omega) (by omega) fin
              · rw [if_neg h8] at ht
                refine u_X13_twoCome_4 ?_; unfold qm_X13_twoCome_4
                exact w_leT (a := 4) (by omega) (by omega) fin
            | succ k ihi =>
              intro t y ht hf ⟨L2, hL2, S1, hS1, ho⟩
              have o2 := oNet_C hn hn3 hf hO
              have t8 : t < 8 := by
                by_cases h8 : g = h9
                · rw [if_pos h8] at ht; omega
                · rw [if_neg h8] at ht; omega
              have t48 : t < 4 ∨ g = h9 ∧ t < 8 := by
                by_cases h8 : g = h9
                · exact Or.inr ⟨h8, t8⟩
                · rw [if_neg h8] at ht
                  exact Or.inl (by omega)
              have ms := gcn_s A h9
              -- leaving early: no gap
              have early : ¬ (isG A g ∧ isG A h9) → Tt (fun K i => q_X13_twoCome K i 5 (nI g) (nI h9) (nI t) n 0 0 y) Q := by
                intro hno
                refine c5 _ y hf ⟨L2, ?_, S1, adS_eq hS1 (fun A' sg' => O3L_no hno), ho⟩
                have hn2 : ¬ (gcn A (g + 1) = gcn A g + 1 ∧ gcn A (h9 + 1) = gcn A h9 + 1) := by
                  intro ⟨e1, e2⟩
                  apply hno
                  constructor
                  · rcases Classical.em (isG A g) with h7 | h7
                    · exact h7
                    · rw [gcn_n hgN h7] at e1; omega
                  · rcases Classical.em (isG A h9) with h7 | h7
                    · exact h7
                    · rw [gcn_n hhN h7] at e2; omega
                rw [dif_neg hn2] at hL2
                by_cases hig : gcn A (g + 1) = gcn A g + 1
                · rw [dif_pos hig] at hL2 ⊢
                  by_cases hlt : g < h9
                  · rw [if_pos hlt] at hL2
                    rw [if_pos (by omega)]
                    omega
                  · rw [if_neg hlt] at hL2
                    omega
                · rw [dif_neg hig] at hL2 ⊢
                  omega
              have go : Tt (fun K i => cs1 (qe_X13_isGap K n (nI g) y) fun v6 z5 => (if v6 = 0 then q_X13_twoCome K i 5 (nI g) (nI h9) (nI t) n 0 0 z5 else cs1 (qe_X13_isGap K n (nI h9) z5) fun v8 z7 => (if v8 = 0 then q_X13_twoCome K i 5 (nI g) (nI h9) (nI t) n 0 0 z7 else cs0 (qe_X13_twoAt K n (nI g) (nI h9) (nI t) z7) fun z9 => q_X13_twoCome K i 3 (nI g) (nI h9) (nI t + 1) n 0 0 z9))) Q := by
                refine w_cs1 (tp_isGap hn o2 (by omega)) (fun a y9 ⟨e, h7⟩ => ?_)
                have e : y9 = y := e
                subst e
                rcases h7 with ⟨h7, hng⟩ | ⟨h7, hig⟩
                · have h7 : a = 0 := h7
                  exact w_ifT h7 (early (fun h6 => hng h6.1))
                · have h7 : a = 1 := h7
                  refine w_ifF (by rw [h7]; decide) (w_cs1 (tp_isGap hn o2 (by omega)) (fun a2 y8 ⟨e2, h5⟩ => ?_))
                  have e2 : y8 = y9 := e2
                  subst e2
                  rcases h5 with ⟨h5, hng⟩ | ⟨h5, hih⟩
                  · have h5 : a2 = 0 := h5
                    exact w_ifT h5 (early (fun h6 => hng h6.2))
                  · have h5 : a2 = 1 := h5
                    have e1 := gcn_g hig
                    have e3 := gcn_g hih
                    rw [dif_pos e1, dif_pos ⟨e1, e3⟩] at hL2
                    have hMW : M + W ≤ gcn A N * W := by
                      rw [hM, ← Nat.succ_mul]
                      exact Nat.mul_le_mul_right W (by omega)
                    have hlim : L2 < 2700 := by
                      have : 4 * gcn A h9 + 4 + 8 ≤ W + 8 := by omega
                      by_cases hlt : g < h9
                      · rw [if_pos hlt] at hL2; omega
                      · rw [if_neg hlt] at hL2; omega
                    rw [nI_1]
                    refine w_ifF (by rw [h5]; decide) (w_cs0 (xr_twoAt hΦ hn hn3 hok hV hlim hig hih t8 o2 ho) (fun y7 ⟨⟨S3, k1, k2⟩, k3⟩ => ihi (t + 1) y7 (by omega) (fr_tr hf k3) ⟨L2 + 1, ?_, S3, adS_eq (adS_tr hS1 k1) (fun A' sg' => O3L_step hig hih t48), k2⟩))
                    rw [dif_pos e1, dif_pos ⟨e1, e3⟩]
                    omega
              refine u_X13_twoCome_3 ?_; unfold qm_X13_twoCome_3
              refine w_eqN (by omega) (by omega) (fun h8 => ?_) (fun h8 => ?_)
              · rw [if_pos h8] at ht
                refine u_X13_twoCome_4 ?_; unfold qm_X13_twoCome_4
                exact w_leF (a := 8) (by omega) (by omega) go
              · rw [if_neg h8] at ht
                refine u_X13_twoCome_4 ?_; unfold qm_X13_twoCome_4
                exact w_leF (a := 4) (by omega) (by omega) go
          have o2 := oNet_C hn hn3 hf hO
          obtain ⟨L2, hL2, S1, hS1, ho⟩ := hLh
          refine u_X13_twoCome_2 ?_; unfold qm_X13_twoCome_2
          refine w_rdF o2.1.V (w_rdF (lk_C o2.1) ?_)
          rw [nI_add]
          refine w_leF (by omega) (by omega) (inn _ 0 y (Nat.zero_add _) hf ⟨L2, ?_, S1, hS1, ho⟩)
          omega
      have o2 := oNet_C hn hn3 hf hO
      obtain ⟨L2, hL2, S1, hS1, ho⟩ := hLo
      refine u_X13_twoCome_1 ?_; unfold qm_X13_twoCome_1
      refine w_rdF o2.1.V (w_rdF (lk_C o2.1) ?_)
      rw [nI_add]
      exact w_leF (by omega) (by omega) (mid N 0 y (by omega) hf ⟨L2, by omega, S1, hS1, ho⟩)
  refine e_X13_twoCome ?_
  refine u_X13_twoCome_0 ?_; unfold qm_X13_twoCome_0
  exact out N 0 z (by omega) fr_rf ⟨0, Nat.zero_le _, S, adS_eq adS_rf (fun A' sg' => ⟨fun h9 => h9.elim, fun ⟨g1, h1, k1, _, _, _, h5, _⟩ => by omega⟩), h⟩
end XK3
end
