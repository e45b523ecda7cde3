/-! close, closure -/
section CLO2
variable {X : (Nat → Nat → Int32) → Prop} {z : ow_MS}
/-- the visits of the strands in D -/
def pD (w : Nat → Nat) (lp : Nat → Bool) (n l : Nat) (D : Nat → Prop) (j : Nat) : Prop := ∃ s i, s < n ∧ D s ∧ i < l ∧ onL w s i ∧ j = 2 * i + ubn w lp s i
def fD (z : ow_MS) (n : Nat) (D : Nat → Prop) : Prop := ∀ s, s < n → (z.2.1 120 s = 1 ∧ D s) ∨ (z.2.1 120 s = 0 ∧ ¬ D s)
abbrev frK (g : Nat) : Prop := g = 120 ∨ 3001 ≤ g ∧ g ≤ 3006
theorem hBr_fr {P : Nat → Prop} {z z1 : ow_MS} {b n l : Nat} (hf : fr P z z1) (h0 : ¬ P 94) (h1 : ¬ P 95) (h2 : ¬ P 96) (h : hBr z b n l) : hBr z1 b n l := hBr_eq h (by rw [(hf 96 h2).2.1]) (by rw [(hf 95 h1).2.1]) (fun i _ => by rw [(hf 94 h0).2.1])
theorem u_X13_close_2 {x1 : Int32} {x2 : Int32} {x3 : Int32} {z : ow_MS} {Q : ow_MS → Prop} (H : Tt (fun K k => qm_X13_close_2 K (q_X13_close K k) x1 x2 x3 z) Q) : Tt (fun K k => q_X13_close K k 2 x1 x2 x3 z) Q := w_un (fun _ _ => rfl) H
theorem u_X13_close_4 {x1 : Int32} {x2 : Int32} {x3 : Int32} {z : ow_MS} {Q : ow_MS → Prop} (H : Tt (fun K k => qm_X13_close_4 K (q_X13_close K k) x1 x2 x3 z) Q) : Tt (fun K k => q_X13_close K k 4 x1 x2 x3 z) Q := w_un (fun _ _ => rfl) H
theorem u_X13_close_3 {x1 : Int32} {x2 : Int32} {x3 : Int32} {z : ow_MS} {Q : ow_MS → Prop} (H : Tt (fun K k => qm_X13_close_3 K (q_X13_close K k) x1 x2 x3 z) Q) : Tt (fun K k => q_X13_close K k 3 x1 x2 x3 z) Q := w_un (fun _ _ => rfl) H
theorem u_X13_close_1 {x1 : Int32} {x2 : Int32} {x3 : Int32} {z : ow_MS} {Q : ow_MS → Prop} (H : Tt (fun K k => qm_X13_close_1 K (q_X13_close K k) x1 x2 x3 z) Q) : Tt (fun K k => q_X13_close K k 1 x1 x2 x3 z) Q := w_un (fun _ _ => rfl) H
theorem e_X13_close {x1 : Int32} {z : ow_MS} {Q : ow_MS → Prop} (H : Tt (fun K k => q_X13_close K k 0 x1 0 0 z) Q) : Te (fun K => qe_X13_close K x1 z) Q := w_te H
theorem u_X13_close_0 {x1 : Int32} {x2 : Int32} {x3 : Int32} {z : ow_MS} {Q : ow_MS → Prop} (H : Tt (fun K k => qm_X13_close_0 K (q_X13_close K k) x1 x2 x3 z) Q) : Tt (fun K k => q_X13_close K k 0 x1 x2 x3 z) Q := w_un (fun _ _ => rfl) H
theorem tp_close {b n l : Nat} (hb : b < 20) (hB : hBr z b n l) : Te (fun K => qe_X13_close K (nI b) z) (fun z1 => (∃ q, q ≤ n ∧ bmE z1 3000 (aL l) (fun j => j < 2 * l) q) ∧ (∀ j, j < 2 * l → s1 (z1.2.1 3006 (j / 2))) ∧ fr frK z z1) := by
  obtain ⟨w, lp, hw⟩ := br_let hB
  have p1 := hB.1
  have p2 := hB.2.1
  have p3 := hB.2.2.1
  have hwn : ∀ i, i < l → w i + 1 < n := fun i hi => (hw i hi).1
  have hub := fun (s i : Nat) => ubn_lt (w := w) (lp := lp) (s := s) (i := i)
  let Q : ow_MS → Prop := fun z1 => (∃ q, q ≤ n ∧ bmE z1 3000 (aL l) (fun j => j < 2 * l) q) ∧ (∀ j, j < 2 * l → s1 (z1.2.1 3006 (j / 2))) ∧ fr frK z z1
  have pDlt : ∀ {D : Nat → Prop} {j : Nat}, pD w lp n l D j → j < 2 * l := by
    rintro D j ⟨s, i, h1, h2, h3, h4, h5⟩
    have := hub s i
    omega
  have bY : ∀ {y : ow_MS}, fr frK z y → hBr y b n l := fun hf => hBr_fr hf (by unfold frK; omega) (by unfold frK; omega) (by unfold frK; omega) hB
  have wY : ∀ {y : ow_MS}, fr frK z y → ∀ i, i < l → w i + 1 < n ∧ y.2.1 94 (16 * b + i) = if lp i then nI (w i + 1) else -1 - nI (w i) := fun hf i hi => ⟨(hw i hi).1, by rw [(hf 94 (by unfold frK; omega)).2.1]; exact (hw i hi).2⟩
  have l2 : ∀ (k j q : Nat) (D : Nat → Prop) (y : ow_MS), j + k = n → q ≤ j → fr frK z y → fD y n D → (∀ s, s < n → (D s ↔ D (psn w s l))) → (∀ s, s < j → D s) → bmE y 3000 (aL l) (pD w lp n l D) q → (∀ j, pD w lp n l D j → s1 (y.2.1 3006 (j / 2))) → Tt (fun K i => q_X13_close K i 2 (nI b) (nI j) 0 y) Q := by
    intro k
    induction k with
    | zero =>
      intro j q D y hj hq hf hfd hcl hall hbm hsg
      have all : ∀ j, pD w lp n l D j ↔ j < 2 * l := by
        intro j9
        constructor
        · exact pDlt
        · intro h9
          -- the two strands at letter j / 2
          have hi : j9 / 2 < l := by omega
          have hwi := hwn _ hi
          obtain ⟨s0, a0, e0⟩ := psn_sur (w := w) (n := n) (j9 / 2) (w (j9 / 2)) (by omega) (fun i hi9 => hwn i (by omega))
          obtain ⟨s1, a1, e1⟩ := psn_sur (w := w) (n := n) (j9 / 2) (w (j9 / 2) + 1) hwi (fun i hi9 => hwn i (by omega))
          have hne : s0 ≠ s1 := fun e => by rw [e, e1] at e0; omega
          have o0 : onL w s0 (j9 / 2) := Or.inl e0
          have o1 : onL w s1 (j9 / 2) := Or.inr e1
          have hd := ubn_ne (lp := lp) hne o0 o1
          have u0 := hub s0 (j9 / 2)
          have u1 := hub s1 (j9 / 2)
          by_cases hu : j9 % 2 = ubn w lp s0 (j9 / 2)
          · exact ⟨s0, j9 / 2, a0, hall s0 (by omega), hi, o0, by omega⟩
          · exact ⟨s1, j9 / 2, a1, hall s1 (by omega), hi, o1, by omega⟩
      refine u_X13_close_2 ?_; unfold qm_X13_close_2
      exact w_rdI ml96 rfl (by omega) (bY hf).2.2.2.1 (w_leT (by omega) (by omega) (w_some ⟨⟨q, by omega, bmE_eq hbm all⟩, fun j9 h9 => hsg j9 ((all j9).mpr h9), hf⟩))
    | succ k ih =>
      intro j q D y hj hq hf hfd hcl hall hbm hsg
      have hjn : j < n := by omega
      have itlt : ∀ i, itf (fun s => psn w s l) i j < n := by
        intro i
        induction i with
        | zero => exact hjn
        | succ i ih9 => exact psn_lt ih9 l (fun i9 hi9 => hwn i9 hi9)
      have c4 : ∀ (q2 : Nat) (D2 : Nat → Prop) (y2 : ow_MS), q2 ≤ j + 1 → fr frK z y2 → fD y2 n D2 → (∀ s, s < n → (D2 s ↔ D2 (psn w s l))) → (∀ s, s < j + 1 → D2 s) → bmE y2 3000 (aL l) (pD w lp n l D2) q2 → (∀ j, pD w lp n l D2 j → s1 (y2.2.1 3006 (j / 2))) → Tt (fun K i => q_X13_close K i 4 (nI b) (nI j) 0 y2) Q := by
        intro q2 D2 y2 hq2 hf2 hfd2 hcl2 hall2 hbm2 hsg2
        refine u_X13_close_4 ?_; unfold qm_X13_close_4
        rw [nI_1]
        exact ih (j + 1) q2 D2 y2 (by omega) hq2 hf2 hfd2 hcl2 hall2 hbm2 hsg2
      -- round one ring of strands
      have l3 : ¬ D j → ∀ (d t : Nat) (y : ow_MS), t + d = n → (∀ i i2, i < i2 → i2 ≤ t → itf (fun s => psn w s l) i j ≠ itf (fun s => psn w s l) i2 j) → (∀ i, i ≤ t → ¬ D (itf (fun s => psn w s l) i j)) → fr frK z y → fD y n (fun s => D s ∨ ∃ i, i < t ∧ s = itf (fun s => psn w s l) i j) → bm y 3000 (aL l) (pD w lp n l (fun s => D s ∨ ∃ i, i < t ∧ s = itf (fun s => psn w s l) i j)) q → (∀ j9, pD w lp n l (fun s => D s ∨ ∃ i, i < t ∧ s = itf (fun s => psn w s l) i j) j9 → s1 (y.2.1 3006 (j9 / 2))) → Tt (fun K i => q_X13_close K i 3 (nI b) (nI j) (nI (itf (fun s => psn w s l) t j)) y) Q := by
        intro hDj d
        induction d with
        | zero =>
          intro t y ht hdi hfre hf hfd hbm hsg
          exfalso
          have nd : ((List.range (t + 1)).map (fun i => itf (fun s => psn w s l) i j)).Nodup := nodup_map List.nodup_range (fun a c ha hc e => by
            have ha := List.mem_range.mp ha
            have hc := List.mem_range.mp hc
            rcases Nat.lt_trichotomy a c with h9 | h9 | h9
            · exact absurd e (hdi a c h9 (by omega))
            · exact h9
            · exact absurd e.symm (hdi c a h9 (by omega)))
          have := nodup_le _ (List.range n) nd (fun a ha => by
            obtain ⟨i, -, e⟩ := List.mem_map.mp ha
            rw [← e]
            exact List.mem_range.mpr (itlt i))
          rw [List.length_map, List.length_range, List.length_range] at this
          omega
        | succ d ihd =>
          intro t y ht hdi hfre hf hfd hbm hsg
          obtain ⟨a, ha⟩ : ∃ a, a = itf (fun s => psn w s l) t j := ⟨_, rfl⟩
          have han : a < n := by rw [ha]; exact itlt t
          have hnotin : ¬ (D a ∨ ∃ i, i < t ∧ a = itf (fun s => psn w s l) i j) := by
            rintro (h9 | ⟨i, h1, h2⟩)
            · rw [ha] at h9
              exact hfre t (Nat.le_refl _) h9
            · rw [ha] at h2
              exact hdi i t h1 (Nat.le_refl _) h2.symm
          have f1 : fr (fun g => g = 120) y (usI y 120 a (vp_nar .boolean 1)) := fr_I rfl
          have hf1 : fr frK z (usI y 120 a (vp_nar .boolean 1)) := fr_tr hf (fr_mono (fun g hg => Or.inl hg) f1)
          have hno : ∀ i, i < l → onL w a i → ¬ pD w lp n l (fun s => D s ∨ ∃ i, i < t ∧ s = itf (fun s => psn w s l) i j) (2 * i + ubn w lp a i) := by
            rintro i hi hon ⟨s, i2, h1, h2, h3, h4, h5⟩
            have u1 := hub a i
            have u2 := hub s i2
            have hii : i2 = i := by omega
            subst hii
            have hsa : s ≠ a := fun e => hnotin (by rw [← e]; exact h2)
            exact ubn_ne (lp := lp) hsa h4 hon (by omega)
          rw [← ha]
          refine u_X13_close_3 ?_; unfold qm_X13_close_3
          refine w_wrZ ml120 rfl (by omega) (w_cs1 (tp_run hb (bY hf1) (wY hf1) han (fun j9 h9 => pDlt h9) hno (bm_fr f1 (fun g hg => by omega) hbm) (fun j9 h9 => by rw [po_usI_ot (by decide)]; exact hsg j9 h9)) (fun v y2 ⟨r1, r2, r3, r4⟩ => ?_))
          have r1 : v = nI (psn w a l) := r1
          have r2 : fr (fun g => 3001 ≤ g ∧ g ≤ 3006) (usI y 120 a (vp_nar .boolean 1)) y2 := r2
          have hf2 : fr frK z y2 := fr_tr hf1 (fr_mono (fun g hg => Or.inr hg) r2)
          have e1 : psn w a l = itf (fun s => psn w s l) (t + 1) j := by rw [ha]; rfl
          have hal := itlt (t + 1)
          -- the strands that are done now
          have eqD : ∀ s, ((D s ∨ ∃ i, i < t ∧ s = itf (fun s => psn w s l) i j) ∨ s = a) ↔ (D s ∨ ∃ i, i < t + 1 ∧ s = itf (fun s => psn w s l) i j) := by
            intro s
            constructor
            · rintro ((h9 | ⟨i, h1, h2⟩) | h9)
              · exact Or.inl h9
              · exact Or.inr ⟨i, by omega, h2⟩
              · exact Or.inr ⟨t, by omega, by rw [h9, ha]⟩
            · rintro (h9 | ⟨i, h1, h2⟩)
              · exact Or.inl (Or.inl h9)
              · by_cases hit : i = t
                · rw [hit, ← ha] at h2
                  exact Or.inr h2
                · exact Or.inl (Or.inr ⟨i, by omega, h2⟩)
          have eqP : ∀ j9, (pD w lp n l (fun s => D s ∨ ∃ i, i < t ∧ s = itf (fun s => psn w s l) i j) j9 ∨ ∃ i, i < l ∧ onL w a i ∧ j9 = 2 * i + ubn w lp a i) ↔ pD w lp n l (fun s => D s ∨ ∃ i, i < t + 1 ∧ s = itf (fun s => psn w s l) i j) j9 := by
            intro j9
            constructor
            · rintro (⟨s, i, h1, h2, h3⟩ | ⟨i, h1, h2, h3⟩)
              · exact ⟨s, i, h1, (eqD s).mp (Or.inl h2), h3⟩
              · exact ⟨a, i, han, (eqD a).mp (Or.inr rfl), h1, h2, h3⟩
            · rintro ⟨s, i, h1, h2, h3, h4, h5⟩
              rcases (eqD s).mpr h2 with h9 | h9
              · exact Or.inl ⟨s, i, h1, h9, h3, h4, h5⟩
              · rw [h9] at h4 h5
                exact Or.inr ⟨i, h3, h4, h5⟩
          have hfd2 : fD y2 n (fun s => D s ∨ ∃ i, i < t + 1 ∧ s = itf (fun s => psn w s l) i j) := by
            intro s hs
            rw [(r2 120 (by omega)).2.1]
            by_cases hsa : s = a
            · exact Or.inl ⟨by rw [hsa]; exact po_usI_at, (eqD s).mp (Or.inr hsa)⟩
            · rw [po_usI_ne hsa]
              rcases hfd s hs with ⟨g1, g2⟩ | ⟨g1, g2⟩
              · exact Or.inl ⟨g1, (eqD s).mp (Or.inl g2)⟩
              · exact Or.inr ⟨g1, fun h9 => ((eqD s).mpr h9).elim g2 hsa⟩
          have hb2 := bm_eq r3 eqP
          have hs2 : ∀ j9, pD w lp n l (fun s => D s ∨ ∃ i, i < t + 1 ∧ s = itf (fun s => psn w s l) i j) j9 → s1 (y2.2.1 3006 (j9 / 2)) := fun j9 h9 => r4 j9 ((eqP j9).mpr h9)
          rw [r1, e1]
          refine w_eqN (by omega) (by omega) (fun hret => w_cs0 (bm_end pn3 (by omega) hb2) (fun y3 ⟨k1, k2⟩ => ?_)) (fun hret => ihd (t + 1) y2 (by omega) (fun i i2 h1 h2 => ?_) (fun i hi => ?_) hf2 hfd2 hb2 hs2)
          · refine c4 (q + 1) _ y3 (by omega) (fr_tr hf2 (fr_mono (fun g hg => Or.inr (by omega)) k2)) (fun s hs => by rw [(k2 120 (by omega)).2.1]; exact hfd2 s hs) (fun s hs => ?_) (fun s hs => ?_) k1 (fun j9 h9 => by rw [(k2 3006 (by omega)).2.1]; exact hs2 j9 h9)
            · constructor
              · rintro (h9 | ⟨i, h1, h2⟩)
                · exact Or.inl ((hcl s hs).mp h9)
                · by_cases hit : i = t
                  · refine Or.inr ⟨0, by omega, ?_⟩
                    rw [h2, hit]
                    exact hret
                  · exact Or.inr ⟨i + 1, by omega, by rw [h2]; rfl⟩
              · rintro (h9 | ⟨i, h1, h2⟩)
                · exact Or.inl ((hcl s hs).mpr h9)
                · rcases Nat.eq_zero_or_pos i with e0 | e0
                  · refine Or.inr ⟨t, by omega, psn_inj (w := w) l ?_⟩
                    rw [h2, e0]
                    exact hret.symm
                  · obtain ⟨i1, rfl⟩ : ∃ i1, i = i1 + 1 := ⟨i - 1, by omega⟩
                    exact Or.inr ⟨i1, by omega, psn_inj (w := w) l h2⟩
            · by_cases hsj : s = j
              · exact Or.inr ⟨0, by omega, hsj⟩
              · exact Or.inl (hall s (by omega))
          · by_cases hi2 : i2 = t + 1
            · rw [hi2]
              intro e
              rcases Nat.eq_zero_or_pos i with e0 | e0
              · rw [e0] at e
                exact hret e.symm
              · obtain ⟨i1, rfl⟩ : ∃ i1, i = i1 + 1 := ⟨i - 1, by omega⟩
                have e9 := psn_inj (w := w) (s := itf (fun s => psn w s l) i1 j) (t := itf (fun s => psn w s l) t j) l e
                exact hdi i1 t (by omega) (Nat.le_refl _) e9
            · exact hdi i i2 h1 (by omega)
          · by_cases hit : i = t + 1
            · rw [hit]
              intro h9
              have := (hcl a han).mpr (by rw [e1]; exact h9)
              exact hnotin (Or.inl this)
            · exact hfre i (by omega)
      refine u_X13_close_2 ?_; unfold qm_X13_close_2
      refine w_rdI ml96 rfl (by omega) (bY hf).2.2.2.1 (w_leF (by omega) (by omega) (w_rdI ml120 rfl (by omega) rfl ?_))
      rcases hfd j hjn with ⟨g1, g2⟩ | ⟨g1, g2⟩
      · refine w_ifF (by rw [g1]; decide) (c4 q D y (by omega) hf hfd hcl (fun s hs => ?_) hbm hsg)
        by_cases hsj : s = j
        · rw [hsj]; exact g2
        · exact hall s (by omega)
      · have eq0 : ∀ s, D s ↔ (D s ∨ ∃ i, i < 0 ∧ s = itf (fun s => psn w s l) i j) := fun s => ⟨Or.inl, fun h9 => h9.elim id (fun ⟨i, h8, _⟩ => by omega)⟩
        have eqP0 : ∀ j9, pD w lp n l D j9 ↔ pD w lp n l (fun s => D s ∨ ∃ i, i < 0 ∧ s = itf (fun s => psn w s l) i j) j9 := fun j9 => ⟨fun ⟨s, i, h1, h2, h3⟩ => ⟨s, i, h1, (eq0 s).mp h2, h3⟩, fun ⟨s, i, h1, h2, h3⟩ => ⟨s, i, h1, (eq0 s).mpr h2, h3⟩⟩
        refine w_ifT g1 (l3 g2 n 0 y (by omega) (fun i i2 h1 h2 => by omega) (fun i hi => ?_) hf (fun s hs => ?_) (bm_eq hbm.b eqP0) (fun j9 h9 => hsg j9 ((eqP0 j9).mpr h9)))
        · have : i = 0 := by omega
          rw [this]
          exact g2
        · rcases hfd s hs with ⟨k1, k2⟩ | ⟨k1, k2⟩
          · exact Or.inl ⟨k1, Or.inl k2⟩
          · exact Or.inr ⟨k1, fun h9 => k2 ((eq0 s).mpr h9)⟩
  have l1 : ∀ (k j : Nat) (y : ow_MS), j + k = 5 → fr frK z y → bmE y 3000 (aL l) (fun _ => False) 0 → (∀ s, s < j → y.2.1 120 s = 0) → Tt (fun K i => q_X13_close K i 1 (nI b) (nI j) 0 y) Q := by
    intro k
    induction k with
    | zero =>
      intro j y hj hf hbm h0
      refine u_X13_close_1 ?_; unfold qm_X13_close_1
      refine w_leT (a := 5) (by omega) (by omega) (l2 n 0 0 (fun _ => False) y (by omega) (Nat.le_refl _) hf (fun s hs => Or.inr ⟨h0 s (by omega), fun h9 => h9⟩) (fun s _ => Iff.rfl) (fun s hs => by omega) (bmE_eq hbm (fun j9 => ⟨fun h9 => h9.elim, fun ⟨s, i, h1, h2, h3⟩ => h2⟩)) (fun j9 ⟨s, i, h1, h2, h3⟩ => h2.elim))
    | succ k ih =>
      intro j y hj hf hbm h0
      refine u_X13_close_1 ?_; unfold qm_X13_close_1
      rw [nI_1]
      refine w_leF (a := 5) (by omega) (by omega) (w_wrZ ml120 rfl (by omega) (ih (j + 1) _ (by omega) (fr_I2 hf (Or.inl rfl)) (bmE_fr (F := fun g => g = 120) (fr_I rfl) (fun g hg => by omega) hbm) (fun s hs => ?_)))
      by_cases hsj : s = j
      · rw [hsj]
        exact po_usI_at
      · exact rd_ne hsj (h0 s (by omega))
  refine e_X13_close ?_
  refine u_X13_close_0 ?_; unfold qm_X13_close_0
  exact w_cs0 (bm_clear (A := aL l) pn3) (fun y ⟨g1, g2⟩ => l1 5 0 y (by omega) (fr_mono (fun g hg => Or.inr (by omega)) g2) g1 (fun s hs => by omega))
theorem close_net {z1 : ow_MS} {l q n : Nat} (hl : l ≤ 12) (hn : n ≤ 5) (hq : q ≤ n) (hb : bmE z1 3000 (aL l) (fun j => j < 2 * l) q) (hs : ∀ j, j < 2 * l → s1 (z1.2.1 3006 (j / 2))) : mNet z1 3000 := by
  have hlen := aL_len l
  have wk := okF_wk (by omega) (aL_ok l)
  have hP : ∀ j, j < 2 * l → j < (aL l).flatten.length := fun j hj => by omega
  have hc : ∀ j, j < 2 * l → mtf (aL l) j < 2 * l := fun j hj => by
    have := mtf_lt (wkF_ok wk) (hP j hj)
    omega
  refine bmE_net wk (by omega) (by omega) hP hc (fun j hj => ?_) hb
  have hv := aL_at (l := l) (i := j / 2) (u := j % 2) (by omega) (by omega)
  rw [show 2 * (j / 2) + j % 2 = j by omega] at hv
  show s1 (z1.2.1 3006 (crs (aL l) j))
  unfold crs
  rw [hv]
  exact hs j hj
theorem e_X13_closure {x1 : Int32} {z : ow_MS} {Q : (Int32 × ow_MS) → Prop} (H : Tt (fun K _ => qm_X13_closure_0 K x1 z) Q) : Te (fun K => qe_X13_closure K x1 z) Q := w_te0 H
theorem tp_closure {b : Int32} (h : gI X z) : Te (fun K => qe_X13_closure K b z) (fun r => gI X r.2) := by
  have h1 := gI_1 (c := 0) h
  refine e_X13_closure ?_; unfold qm_X13_closure_0
  refine w_wrF (w_hasB h1.2.2.2.2.2.1 (w_ifT rfl (w_fail h1)) (fun c n l hc hx hh => w_ifF (by decide) ?_))
  subst hx
  have p2 := hh.2.1
  have p3 := hh.2.2.1
  refine w_rdI ml95 rfl (by omega) hh.2.2.2.2.1 (w_le (b := 12) (by omega) (by omega) (fun h12 => w_free (w_ifT rfl (w_fail h1)) (fun f hf hfr => w_ifF (rn_neg1 (by omega)) (w_cs0 (tp_close hc hh) (fun y ⟨⟨q, q1, q2⟩, q3, q4⟩ => w_keep (gI_fr q4 (fun g hg => by unfold frK at hg; unfold per; omega) h1) (frD_eq (q4 12 (by unfold frK; omega)).2.1 hfr) (close_net h12 p2 q1 q2 q3))))) (fun _ => w_fail h1))
end CLO2
