/-! the moves: twoCome, twoGo -/
abbrev frC (g : Nat) : Prop := g < 1000 ∧ g ≠ 12 ∧ g ≠ 28 ∨ 3001 ≤ g ∧ g ≤ 3016
theorem oNet_C {z z1 : ow_MS} {n : Nat} {A : rn_L} {sg : Nat → Bool} (hn : mw_net n) (hn3 : n ≠ 3000) (hf : fr frC z z1) (h : oNet z n A sg) : oNet z1 n A sg := oNet_fr hf (fun g hg => by
  have := net_mod hn
  unfold frC at hg
  omega) h
/-- how many gaps there are below k -/
def gcn (A : rn_L) : Nat → Nat
  | 0 => 0
  | k + 1 => gcn A k + if k < A.flatten.length then 1 else if rn_b A (k - A.flatten.length) = rn_b A (k - A.flatten.length + 1) then 1 else 0
theorem gcn_S (A : rn_L) (k : Nat) : gcn A (k + 1) = gcn A k + if k < A.flatten.length then 1 else if rn_b A (k - A.flatten.length) = rn_b A (k - A.flatten.length + 1) then 1 else 0 := rfl
theorem gcn_g {A : rn_L} {k : Nat} (h : isG A k) : gcn A (k + 1) = gcn A k + 1 := by
  rw [gcn_S]
  rcases h with h | ⟨h1, h2, h3⟩
  · rw [if_pos h]
  · rw [if_neg (by omega), if_pos h3]
theorem gcn_n {A : rn_L} {k : Nat} (hk : k < A.flatten.length + A.length) (h : ¬ isG A k) : gcn A (k + 1) = gcn A k := by
  rw [gcn_S]
  by_cases h1 : k < A.flatten.length
  · exact absurd (Or.inl h1) h
  · rw [if_neg h1, if_neg (fun h3 => h (Or.inr ⟨by omega, by omega, h3⟩))]
    rfl
theorem gcn_s (A : rn_L) (k : Nat) : gcn A k ≤ gcn A (k + 1) := by
  show _ ≤ gcn A k + _
  omega
theorem gcn_mono {A : rn_L} {a b : Nat} (h : a ≤ b) : gcn A a ≤ gcn A b := by
  obtain ⟨d, rfl⟩ : ∃ d, b = a + d := ⟨b - a, by omega⟩
  induction d with
  | zero => exact Nat.le_refl _
  | succ d ih => exact Nat.le_trans (ih (by omega)) (gcn_s A (a + d))
theorem gcn_le (A : rn_L) : ∀ k, gcn A k ≤ k
  | 0 => Nat.le_refl _
  | k + 1 => by
    have := gcn_le A k
    show gcn A k + _ ≤ _
    by_cases h1 : k < A.flatten.length
    · rw [if_pos h1]; omega
    · rw [if_neg h1]
      by_cases h2 : rn_b A (k - A.flatten.length) = rn_b A (k - A.flatten.length + 1)
      · rw [if_pos h2]; omega
      · rw [if_neg h2]; omega
theorem gcn_no {A : rn_L} {k0 : Nat} (h0 : k0 < A.flatten.length + A.length) (h : ¬ isG A k0) : ∀ k, k0 < k → gcn A k + 1 ≤ k
  | 0, h9 => by omega
  | k + 1, h9 => by
    by_cases hk : k0 = k
    · subst hk
      rw [gcn_n h0 h]
      have := gcn_le A k0
      omega
    · have := gcn_no h0 h k (by omega)
      have h8 : gcn A (k + 1) ≤ gcn A k + 1 := by
        show gcn A k + _ ≤ _
        by_cases h1 : k < A.flatten.length
        · rw [if_pos h1]; exact Nat.le_refl _
        · rw [if_neg h1]
          by_cases h2 : rn_b A (k - A.flatten.length) = rn_b A (k - A.flatten.length + 1)
          · rw [if_pos h2]; exact Nat.le_refl _
          · rw [if_neg h2]; omega
      omega
theorem gcn_25 {A : rn_L} (hV : A.flatten.length ≤ 20) (hC : A.length ≤ 6) : gcn A (A.flatten.length + A.length) ≤ 25 := by
  by_cases h0 : A.flatten.length = 0
  · have := gcn_le A (A.flatten.length + A.length)
    omega
  · obtain ⟨h1, h2, h3⟩ := rn_c_in A 0 (by omega)
    have := gcn_no (A := A) (k0 := A.flatten.length + rn_c A 0) (by omega) (fun h9 => by
      rcases h9 with h9 | ⟨-, -, h9⟩
      · omega
      · rw [Nat.add_sub_cancel_left] at h9
        omega) (A.flatten.length + A.length) (by omega)
    omega
section MV3
variable {X : (Nat → Nat → Int32) → Prop} {bb m n : Nat} {z : ow_MS} {A : rn_L} {sg : Nat → Bool}
theorem u_X13_twoCome_1 {x2 : Int32} {x3 : Int32} {x4 : Int32} {r1 : Nat} {t0 : Int32} {t1 : Int32} {z : ow_MS} {Q : ow_MS → Prop} (H : Tt (fun K k => qm_X13_twoCome_1 K (q_X13_twoCome K k) x2 x3 x4 r1 t0 t1 z) Q) : Tt (fun K k => q_X13_twoCome K k 1 x2 x3 x4 r1 t0 t1 z) Q := w_un (fun _ _ => rfl) H
theorem u_X13_twoCome_2 {x2 : Int32} {x3 : Int32} {x4 : Int32} {r1 : Nat} {t0 : Int32} {t1 : Int32} {z : ow_MS} {Q : ow_MS → Prop} (H : Tt (fun K k => qm_X13_twoCome_2 K (q_X13_twoCome K k) x2 x3 x4 r1 t0 t1 z) Q) : Tt (fun K k => q_X13_twoCome K k 2 x2 x3 x4 r1 t0 t1 z) Q := w_un (fun _ _ => rfl) H
theorem u_X13_twoCome_5 {x2 : Int32} {x3 : Int32} {x4 : Int32} {r1 : Nat} {t0 : Int32} {t1 : Int32} {z : ow_MS} {Q : ow_MS → Prop} (H : Tt (fun K k => qm_X13_twoCome_5 K (q_X13_twoCome K k) x2 x3 x4 r1 t0 t1 z) Q) : Tt (fun K k => q_X13_twoCome K k 5 x2 x3 x4 r1 t0 t1 z) Q := w_un (fun _ _ => rfl) H
theorem u_X13_twoCome_3 {x2 : Int32} {x3 : Int32} {x4 : Int32} {r1 : Nat} {t0 : Int32} {t1 : Int32} {z : ow_MS} {Q : ow_MS → Prop} (H : Tt (fun K k => qm_X13_twoCome_3 K (q_X13_twoCome K k) x2 x3 x4 r1 t0 t1 z) Q) : Tt (fun K k => q_X13_twoCome K k 3 x2 x3 x4 r1 t0 t1 z) Q := w_un (fun _ _ => rfl) H
theorem u_X13_twoCome_4 {x2 : Int32} {x3 : Int32} {x4 : Int32} {r1 : Nat} {t0 : Int32} {t1 : Int32} {z : ow_MS} {Q : ow_MS → Prop} (H : Tt (fun K k => qm_X13_twoCome_4 K (q_X13_twoCome K k) x2 x3 x4 r1 t0 t1 z) Q) : Tt (fun K k => q_X13_twoCome K k 4 x2 x3 x4 r1 t0 t1 z) Q := w_un (fun _ _ => rfl) H
theorem e_X13_twoCome {r1 : Nat} {z : ow_MS} {Q : ow_MS → Prop} (H : Tt (fun K k => q_X13_twoCome K k 0 0 0 0 r1 0 0 z) Q) : Te (fun K => qe_X13_twoCome K r1 z) Q := w_te H
theorem u_X13_twoCome_0 {x2 : Int32} {x3 : Int32} {x4 : Int32} {r1 : Nat} {t0 : Int32} {t1 : Int32} {z : ow_MS} {Q : ow_MS → Prop} (H : Tt (fun K k => qm_X13_twoCome_0 K (q_X13_twoCome K k) x2 x3 x4 r1 t0 t1 z) Q) : Tt (fun K k => q_X13_twoCome K k 0 x2 x3 x4 r1 t0 t1 z) Q := w_un (fun _ _ => rfl) H
theorem tp_twoCome (hn : mw_net n) (hn3 : n ≠ 3000) (hV : A.flatten.length ≤ 20) (hO : oNet z n A sg) (h : oF X bb m 0 z) : Te (fun K => qe_X13_twoCome K n z) (fun z1 => (∃ L2, L2 ≤ 2700 ∧ oF X bb m L2 z1) ∧ fr frC z z1) := by
  have hC := hO.2.2.2
  have hG := gcn_25 hV hC
  obtain ⟨N, hN⟩ : ∃ N, N = A.flatten.length + A.length := ⟨_, rfl⟩
  rw [← hN] at hG
  have hN26 : N ≤ 26 := by omega
  obtain ⟨W, hW⟩ : ∃ W, W = 4 * gcn A N + 4 := ⟨_, rfl⟩
  have hGW : gcn A N * W ≤ 2600 := by
    have := Nat.mul_le_mul hG (show W ≤ 104 by omega)
    omega
  let Q : ow_MS → Prop := fun z1 => (∃ L2, L2 ≤ 2700 ∧ oF X bb m L2 z1) ∧ fr frC z z1
  have out : ∀ (k g : Nat) (y : ow_MS), g + k = N → fr frC z y → (∃ L2, L2 ≤ gcn A g * W ∧ oF X bb m L2 y) → Tt (fun K i => q_X13_twoCome K i 1 (nI g) 0 0 n 0 0 y) Q := by
    intro k
    induction k with
    | zero =>
      intro g y hg hf ⟨L2, hL2, ho⟩
      have o2 := oNet_C hn hn3 hf hO
      have : g = N := by omega
      rw [this] at hL2
      refine u_X13_twoCome_1 ?_; unfold qm_X13_twoCome_1
      refine w_rdF o2.1.V (w_rdF (lk_C o2.1) ?_)
      rw [nI_add]
      exact w_leT (by omega) (by omega) (w_some ⟨⟨L2, by omega, ho⟩, hf⟩)
    | succ k ih =>
      intro g y hg hf hLo
      have hgN : g < A.flatten.length + A.length := by omega
      have hmon := gcn_mono (A := A) (a := g + 1) (b := N) (by omega)
      obtain ⟨M, hM⟩ : ∃ M, M = gcn A g * W := ⟨_, rfl⟩
      -- the bound while h runs
      have mid : ∀ (k h9 : Nat) (y : ow_MS), h9 + k = N → fr frC z y → (∃ L2, L2 ≤ M + (if isGb : gcn A (g + 1) = gcn A g + 1 then 4 * gcn A h9 + (if g < h9 then 4 else 0) else 0) ∧ oF X bb m L2 y) → Tt (fun K i => q_X13_twoCome K i 2 (nI g) (nI h9) 0 n 0 0 y) Q := by
        intro k
        induction k with
        | zero =>
          intro h9 y hh hf ⟨L2, hL2, ho⟩
          have o2 := oNet_C hn hn3 hf hO
          have hhN : h9 = N := by omega
          rw [hhN] at hL2 ⊢
          refine u_X13_twoCome_2 ?_; unfold qm_X13_twoCome_2
          refine w_rdF o2.1.V (w_rdF (lk_C o2.1) ?_)
          rw [nI_add, nI_1]
          refine w_leT (by omega) (by omega) (ih (g + 1) y (by omega) hf ⟨L2, ?_, ho⟩)
          by_cases hig : gcn A (g + 1) = gcn A g + 1
          · rw [dif_pos hig, if_pos (by omega)] at hL2
            rw [hig, Nat.succ_mul, ← hM]
            omega
          · rw [dif_neg hig] at hL2
            have := Nat.mul_le_mul_right W (gcn_s A g)
            omega
        | succ k ihk =>
          intro h9 y hh hf hLh
          have hhN : h9 < A.flatten.length + A.length := by omega
          have hmonh := gcn_mono (A := A) (a := h9 + 1) (b := N) (by omega)
          have c5 : ∀ (x4 : Int32) (y : ow_MS), fr frC z y → (∃ L2, L2 ≤ M + (if isGb : gcn A (g + 1) = gcn A g + 1 then 4 * gcn A (h9 + 1) + (if g < h9 + 1 then 4 else 0) else 0) ∧ oF X bb m L2 y) → Tt (fun K i => q_X13_twoCome K i 5 (nI g) (nI h9) x4 n 0 0 y) Q := by
            intro x4 y hf ho
            refine u_X13_twoCome_5 ?_; unfold qm_X13_twoCome_5
            rw [nI_1]
            exact ihk (h9 + 1) y (by omega) hf ho
          have inn : ∀ (k t : Nat) (y : ow_MS), t + k = (if g = h9 then 8 else 4) → fr frC z y → (∃ L2, L2 ≤ M + (if isGb : gcn A (g + 1) = gcn A g + 1 then 4 * gcn A h9 + (if g < h9 then 4 else 0) else 0) + (if isG2 : gcn A (g + 1) = gcn A g + 1 ∧ gcn A (h9 + 1) = gcn A h9 + 1 then t else 0) ∧ oF X bb m L2 y) → Tt (fun K i => q_X13_twoCome K i 3 (nI g) (nI h9) (nI t) n 0 0 y) Q := by
            intro k
            induction k with
            | zero =>
              intro t y ht hf ⟨L2, hL2, ho⟩
              have fin : Tt (fun K i => q_X13_twoCome K i 5 (nI g) (nI h9) (nI t) n 0 0 y) Q := by
                refine c5 _ y hf ⟨L2, ?_, ho⟩
                have ms := gcn_s A h9
                by_cases hig : gcn A (g + 1) = gcn A g + 1
                · rw [dif_pos hig] at hL2 ⊢
                  by_cases hih : gcn A (h9 + 1) = gcn A h9 + 1
                  · rw [dif_pos ⟨hig, hih⟩] at hL2
                    by_cases hgh : g = h9
                    · rw [if_pos hgh] at ht
                      rw [if_neg (by omega)] at hL2
                      rw [if_pos (by omega)]
                      omega
                    · rw [if_neg hgh] at ht
                      by_cases hlt : g < h9
                      · rw [if_pos hlt] at hL2
                        rw [if_pos (by omega)]
                        omega
                      · rw [if_neg hlt] at hL2
                        rw [if_neg (by omega)]
                        omega
                  · rw [dif_neg (fun h8 => hih h8.2)] at hL2
                    by_cases hlt : g < h9
                    · rw [if_pos hlt] at hL2
                      rw [if_pos (by omega)]
                      omega
                    · rw [if_neg hlt] at hL2
                      omega
                · rw [dif_neg hig] at hL2 ⊢
                  rw [dif_neg (fun h8 => hig h8.1)] at hL2
                  omega
              refine u_X13_twoCome_3 ?_; unfold qm_X13_twoCome_3
              refine w_eqN (by omega) (by omega) (fun h8 => ?_) (fun h8 => ?_)
              · rw [if_pos h8] at ht
                refine u_X13_twoCome_4 ?_; unfold qm_X13_twoCome_4
                exact w_leT (a := 8) (by omega) (by omega) fin
              · rw [if_neg h8] at ht
                refine u_X13_twoCome_4 ?_; unfold qm_X13_twoCome_4
                exact w_leT (a := 4) (by omega) (by omega) fin
            | succ k ihi =>
              intro t y ht hf ⟨L2, hL2, ho⟩
              have o2 := oNet_C hn hn3 hf hO
              have t8 : t < 8 := by
                by_cases h8 : g = h9
                · rw [if_pos h8] at ht; omega
                · rw [if_neg h8] at ht; omega
              have ms := gcn_s A h9
              -- leaving early: no gap
              have early : ¬ (isG A g ∧ isG A h9) → Tt (fun K i => q_X13_twoCome K i 5 (nI g) (nI h9) (nI t) n 0 0 y) Q := by
                intro hno
                refine c5 _ y hf ⟨L2, ?_, ho⟩
                have hn2 : ¬ (gcn A (g + 1) = gcn A g + 1 ∧ gcn A (h9 + 1) = gcn A h9 + 1) := by
                  intro ⟨e1, e2⟩
                  apply hno
                  constructor
                  · rcases Classical.em (isG A g) with h7 | h7
                    · exact h7
                    · rw [gcn_n hgN h7] at e1; omega
                  · rcases Classical.em (isG A h9) with h7 | h7
                    · exact h7
                    · rw [gcn_n hhN h7] at e2; omega
                rw [dif_neg hn2] at hL2
                by_cases hig : gcn A (g + 1) = gcn A g + 1
                · rw [dif_pos hig] at hL2 ⊢
                  by_cases hlt : g < h9
                  · rw [if_pos hlt] at hL2
                    rw [if_pos (by omega)]
                    omega
                  · rw [if_neg hlt] at hL2
                    omega
                · rw [dif_neg hig] at hL2 ⊢
                  omega
              have go : Tt (fun K i => cs1 (qe_X13_isGap K n (nI g) y) fun v6 z5 => (if v6 = 0 then q_X13_twoCome K i 5 (nI g) (nI h9) (nI t) n 0 0 z5 else cs1 (qe_X13_isGap K n (nI h9) z5) fun v8 z7 => (if v8 = 0 then q_X13_twoCome K i 5 (nI g) (nI h9) (nI t) n 0 0 z7 else cs0 (qe_X13_twoAt K n (nI g) (nI h9) (nI t) z7) fun z9 => q_X13_twoCome K i 3 (nI g) (nI h9) (nI t + 1) n 0 0 z9))) Q := by
                refine w_cs1 (tp_isGap hn o2 (by omega)) (fun a y9 ⟨e, h7⟩ => ?_)
                have e : y9 = y := e
                subst e
                rcases h7 with ⟨h7, hng⟩ | ⟨h7, hig⟩
                · have h7 : a = 0 := h7
                  exact w_ifT h7 (early (fun h6 => hng h6.1))
                · have h7 : a = 1 := h7
                  refine w_ifF (by rw [h7]; decide) (w_cs1 (tp_isGap hn o2 (by omega)) (fun a2 y8 ⟨e2, h5⟩ => ?_))
                  have e2 : y8 = y9 := e2
                  subst e2
                  rcases h5 with ⟨h5, hng⟩ | ⟨h5, hih⟩
                  · have h5 : a2 = 0 := h5
                    exact w_ifT h5 (early (fun h6 => hng h6.2))
                  · have h5 : a2 = 1 := h5
                    have e1 := gcn_g hig
                    have e3 := gcn_g hih
                    rw [dif_pos e1, dif_pos ⟨e1, e3⟩] at hL2
                    have hMW : M + W ≤ gcn A N * W := by
                      rw [hM, ← Nat.succ_mul]
                      exact Nat.mul_le_mul_right W (by omega)
                    have hlim : L2 < 2700 := by
                      have : 4 * gcn A h9 + 4 + 8 ≤ W + 8 := by omega
                      by_cases hlt : g < h9
                      · rw [if_pos hlt] at hL2; omega
                      · rw [if_neg hlt] at hL2; omega
                    rw [nI_1]
                    refine w_ifF (by rw [h5]; decide) (w_cs0 (tp_twoAt hn hn3 hV hlim hig hih t8 o2 ho) (fun y7 ⟨⟨L3, k1, k2⟩, k3⟩ => ihi (t + 1) y7 (by omega) (fr_tr hf k3) ⟨L3, ?_, k2⟩))
                    rw [dif_pos e1, dif_pos ⟨e1, e3⟩]
                    omega
              refine u_X13_twoCome_3 ?_; unfold qm_X13_twoCome_3
              refine w_eqN (by omega) (by omega) (fun h8 => ?_) (fun h8 => ?_)
              · rw [if_pos h8] at ht
                refine u_X13_twoCome_4 ?_; unfold qm_X13_twoCome_4
                exact w_leF (a := 8) (by omega) (by omega) go
              · rw [if_neg h8] at ht
                refine u_X13_twoCome_4 ?_; unfold qm_X13_twoCome_4
                exact w_leF (a := 4) (by omega) (by omega) go
          have o2 := oNet_C hn hn3 hf hO
          obtain ⟨L2, hL2, ho⟩ := hLh
          refine u_X13_twoCome_2 ?_; unfold qm_X13_twoCome_2
          refine w_rdF o2.1.V (w_rdF (lk_C o2.1) ?_)
          rw [nI_add]
          refine w_leF (by omega) (by omega) (inn _ 0 y (Nat.zero_add _) hf ⟨L2, ?_, ho⟩)
          omega
      have o2 := oNet_C hn hn3 hf hO
      obtain ⟨L2, hL2, ho⟩ := hLo
      refine u_X13_twoCome_1 ?_; unfold qm_X13_twoCome_1
      refine w_rdF o2.1.V (w_rdF (lk_C o2.1) ?_)
      rw [nI_add]
      exact w_leF (by omega) (by omega) (mid N 0 y (by omega) hf ⟨L2, by omega, ho⟩)
  refine e_X13_twoCome ?_
  refine u_X13_twoCome_0 ?_; unfold qm_X13_twoCome_0
  exact out N 0 z (by omega) fr_rf ⟨0, Nat.zero_le _, h⟩
theorem u_X13_twoGo_1 {x2 : Int32} {x3 : Int32} {x4 : Int32} {x5 : Int32} {r1 : Nat} {z : ow_MS} {Q : ow_MS → Prop} (H : Tt (fun K k => qm_X13_twoGo_1 K (q_X13_twoGo K k) x2 x3 x4 x5 r1 z) Q) : Tt (fun K k => q_X13_twoGo K k 1 x2 x3 x4 x5 r1 z) Q := w_un (fun _ _ => rfl) H
theorem u_X13_twoGo_3 {x2 : Int32} {x3 : Int32} {x4 : Int32} {x5 : Int32} {r1 : Nat} {z : ow_MS} {Q : ow_MS → Prop} (H : Tt (fun K k => qm_X13_twoGo_3 K (q_X13_twoGo K k) x2 x3 x4 x5 r1 z) Q) : Tt (fun K k => q_X13_twoGo K k 3 x2 x3 x4 x5 r1 z) Q := w_un (fun _ _ => rfl) H
theorem u_X13_twoGo_2 {x2 : Int32} {x3 : Int32} {x4 : Int32} {x5 : Int32} {r1 : Nat} {z : ow_MS} {Q : ow_MS → Prop} (H : Tt (fun K k => qm_X13_twoGo_2 K (q_X13_twoGo K k) x2 x3 x4 x5 r1 z) Q) : Tt (fun K k => q_X13_twoGo K k 2 x2 x3 x4 x5 r1 z) Q := w_un (fun _ _ => rfl) H
theorem e_X13_twoGo {r1 : Nat} {z : ow_MS} {Q : ow_MS → Prop} (H : Tt (fun K k => q_X13_twoGo K k 0 0 0 0 0 r1 z) Q) : Te (fun K => qe_X13_twoGo K r1 z) Q := w_te H
theorem u_X13_twoGo_0 {x2 : Int32} {x3 : Int32} {x4 : Int32} {x5 : Int32} {r1 : Nat} {z : ow_MS} {Q : ow_MS → Prop} (H : Tt (fun K k => qm_X13_twoGo_0 K (q_X13_twoGo K k) x2 x3 x4 x5 r1 z) Q) : Tt (fun K k => q_X13_twoGo K k 0 x2 x3 x4 x5 r1 z) Q := w_un (fun _ _ => rfl) H
theorem tp_twoGo (hn : mw_net n) (hn3 : n ≠ 3000) (hO : oNet z n A sg) (h : oF X bb m 0 z) : Te (fun K => qe_X13_twoGo K n z) (fun z1 => (∃ L2, L2 ≤ 2700 ∧ oF X bb m L2 z1) ∧ fr frC z z1) := by
  have hl := hO.len
  have hd := wkF_ok hO.wk
  have key : ∀ (k v : Nat) (y : ow_MS), v + k = A.flatten.length → fr frC z y → (∃ L2, L2 ≤ v ∧ oF X bb m L2 y) → Tt (fun K i => q_X13_twoGo K i 1 (nI v) 0 0 0 n y) (fun z1 => (∃ L2, L2 ≤ 2700 ∧ oF X bb m L2 z1) ∧ fr frC z z1) := by
    intro k
    induction k with
    | zero =>
      intro v y hv hf ⟨L2, hL2, ho⟩
      have o2 := oNet_C hn hn3 hf hO
      refine u_X13_twoGo_1 ?_; unfold qm_X13_twoGo_1
      exact w_rdF o2.1.V (w_leT (by omega) (by omega) (w_some ⟨⟨L2, by omega, ho⟩, hf⟩))
    | succ k ih =>
      intro v y hv hf ⟨L2, hL2, ho⟩
      have o2 := oNet_C hn hn3 hf hO
      have hvl : v < A.flatten.length := by omega
      have hnl := rn_nx_lt (A := A) hvl
      have hm1 := mtf_lt hd hvl
      have hm2 := mtf_lt hd hnl
      have x1 := (o2.cx hvl).1
      have x2 := (o2.cx hnl).1
      have c3 : ∀ (y2 : ow_MS) (a b c : Int32), fr frC z y2 → (∃ L3, L3 ≤ v + 1 ∧ oF X bb m L3 y2) → Tt (fun K i => q_X13_twoGo K i 3 (nI v) a b c n y2) (fun z1 => (∃ L2, L2 ≤ 2700 ∧ oF X bb m L2 z1) ∧ fr frC z z1) := by
        intro y2 a b c hf2 ho2
        refine u_X13_twoGo_3 ?_; unfold qm_X13_twoGo_3
        rw [nI_1]
        exact ih (v + 1) y2 (by omega) hf2 ho2
      have c2 : ∀ (a b : Int32), Tt (fun K i => q_X13_twoGo K i 2 (nI v) (nI (rn_nx A v)) a b n y) (fun z1 => (∃ L2, L2 ≤ 2700 ∧ oF X bb m L2 z1) ∧ fr frC z z1) := by
        intro a b
        refine u_X13_twoGo_2 ?_; unfold qm_X13_twoGo_2
        exact w_rdI (pl4 hn) rfl (by omega) (lk_cu o2.1 hvl).1 (w_rdI (pl4 hn) rfl (by omega) (lk_cu o2.1 hnl).1 (w_cs0 (tp_without hn hn3 (by omega) (by omega) (by omega) o2 ho) (fun y2 ⟨k1, k2⟩ => c3 y2 _ _ _ (fr_tr hf (fr_mono (fun g hg => by unfold frB at hg; unfold frC; omega) k2)) ⟨L2 + 1, by omega, k1⟩)))
      have c33 : ∀ a b c : Int32, Tt (fun K i => q_X13_twoGo K i 3 (nI v) a b c n y) (fun z1 => (∃ L2, L2 ≤ 2700 ∧ oF X bb m L2 z1) ∧ fr frC z z1) := fun a b c => c3 y a b c hf ⟨L2, by omega, ho⟩
      have e4 := (lk_cu o2.1 hvl).1
      have e4n := (lk_cu o2.1 hnl).1
      refine u_X13_twoGo_1 ?_; unfold qm_X13_twoGo_1
      exact w_rdF o2.1.V (w_leF (by omega) hvl (w_rdI (pl9 hn) rfl (by omega) (lk_n o2.1 hvl) (w_rdI (pl5 hn) rfl (by omega) rfl (w_if (fun _ => w_rdI (pl5 hn) rfl (by omega) rfl (w_if (fun _ => w_rdI (pl4 hn) rfl (by omega) e4 (w_rdI (pl4 hn) rfl (by omega) e4n (w_if (fun _ => c33 _ _ _) (fun _ => w_rdI (pl4 hn) rfl (by omega) e4 (w_rdI (pl6 hn) rfl (by omega) rfl (w_rdI (pl4 hn) rfl (by omega) e4n (w_rdI (pl6 hn) rfl (by omega) rfl (w_if (fun _ => c33 _ _ _) (fun _ => w_rdI (pl7 hn) rfl (by omega) (lk_m hd o2.1 hvl) (w_rdI (pl7 hn) rfl (by omega) (lk_m hd o2.1 hnl) (w_rdI (pl9 hn) rfl (by omega) rfl (w_if (fun _ => c2 _ _) (fun _ => w_rdI (pl9 hn) rfl (by omega) rfl (w_if (fun _ => c2 _ _) (fun _ => c33 _ _ _)))))))))))))) ) (fun _ => c33 _ _ _))) (fun _ => c33 _ _ _)))))
  refine e_X13_twoGo ?_
  refine u_X13_twoGo_0 ?_; unfold qm_X13_twoGo_0
  exact key _ 0 z (Nat.zero_add _) fr_rf ⟨0, Nat.zero_le _, h⟩
end MV3
