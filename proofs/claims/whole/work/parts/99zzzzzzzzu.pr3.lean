/-! three sides passed: plane nets stay plane -/
theorem mtd (d : Nat) : mt d / 2 = d / 2 ∧ mt d % 2 = 1 - d % 2 := by
  unfold mt
  split <;> omega
section R3
variable {c : Nat} {S S' : ow_NP} {b : Nat → Bool} {τ : Nat → Nat} {g h : Nat → Nat}
theorem rt_sq (hb : pn_fl b) (d : Nat) : pn_rt b (pn_rt b d) = mt d := by
  have := mtd d
  rcases (show d = 2 * (d / 2) ∨ d = 2 * (d / 2) + 1 by omega) with e | e
  · have h := (pn_sq hb (d / 2)).1
    rw [← e] at h
    rw [h]
    omega
  · have h := (pn_sq hb (d / 2)).2
    rw [← e] at h
    rw [h]
    omega
/-- three gaps around a face with three sides, in a net and in the net with the visits at their ends changed; indices by 3 -/
theorem pl_three (hv : vn c S) (hv' : vn c S') (hb : pn_fl b) (hp : pn_pl c S b)
  (g4 : ∀ i, i < 3 → g i < 4 * c) (hh : ∀ i, i < 3 → h i = pn_al S (g i)) (hg : ∀ i, i < 3 → pn_rt b (h i) = g ((i + 1) % 3))
  (dis : ∀ i j, i < 3 → j < 3 → i ≠ j → h i / 4 ≠ h j / 4)
  (τi : ∀ d, τ (τ d) = d) (τg : ∀ i, i < 3 → τ (g i) = mt (h i)) (τh : ∀ i, i < 3 → τ (h i) = mt (g i)) (τo : ∀ d, (∀ i, i < 3 → d / 2 ≠ g i / 2 ∧ d / 2 ≠ h i / 2) → τ d = d) (τl : ∀ d, d < 4 * c → τ d < 4 * c)
  (hal : ∀ d, d < 4 * c → pn_al S' d = τ (pn_al S (τ d))) : pn_pl c S' b := by
  obtain ⟨R, hR, f, X, f1, f2, f3, f4⟩ := hp
  have h4 : ∀ i, i < 3 → h i < 4 * c := fun i hi => by rw [hh i hi]; exact pn_al_lt hv (g4 i hi)
  have alh : ∀ i, i < 3 → pn_al S (h i) = g i := fun i hi => by rw [hh i hi, pn_al_inv hv (g4 i hi)]
  have sq := rt_sq hb
  have rtl : ∀ d, d < 4 * c → pn_rt b d < 4 * c := fun d hd => pn_rt_lt hd
  -- around the crossings: h i, g (i + 1), mt (h i), mt (g (i + 1))
  have c1 : ∀ i, i < 3 → pn_rt b (g ((i + 1) % 3)) = mt (h i) := fun i hi => by rw [← hg i hi, sq]
  have c2 : ∀ i, i < 3 → pn_rt b (mt (h i)) = mt (g ((i + 1) % 3)) := fun i hi => by rw [← c1 i hi, sq]
  have c3 : ∀ i, i < 3 → pn_rt b (mt (g ((i + 1) % 3))) = h i := fun i hi => by rw [← c2 i hi, sq, mt_mt]
  have gq : ∀ i, i < 3 → g ((i + 1) % 3) / 4 = h i / 4 := fun i hi => by
    have := pn_rt_h (b := b) (h i)
    rw [hg i hi] at this
    have h2 := mt_h2 (h i / 2)
    omega
  have gv : ∀ i, i < 3 → g ((i + 1) % 3) / 2 = mt (h i / 2) := fun i hi => by
    have := pn_rt_h (b := b) (h i)
    rw [hg i hi] at this
    exact this
  have up : ∀ i, i < 3 → ((i + 2) % 3 + 1) % 3 = i := fun i hi => by omega
  -- distinct darts, by visits
  have gh : ∀ i j, i < 3 → j < 3 → g i / 2 ≠ h j / 2 := fun i j hi hj e => by
    have e1 := gv ((i + 2) % 3) (by omega)
    rw [up i hi] at e1
    have e2 := gq ((i + 2) % 3) (by omega)
    rw [up i hi] at e2
    by_cases ej : (i + 2) % 3 = j
    · rw [ej] at e1
      rw [e1] at e
      unfold mt at e
      split at e <;> omega
    · exact dis _ j (by omega) hj ej (by omega)
  have hhd : ∀ i j, i < 3 → j < 3 → i ≠ j → h i / 2 ≠ h j / 2 := fun i j hi hj hne e => dis i j hi hj hne (by omega)
  have ggd : ∀ i j, i < 3 → j < 3 → i ≠ j → g i / 2 ≠ g j / 2 := fun i j hi hj hne e => by
    have e1 := gq ((i + 2) % 3) (by omega)
    rw [up i hi] at e1
    have e2 := gq ((j + 2) % 3) (by omega)
    rw [up j hj] at e2
    exact dis ((i + 2) % 3) ((j + 2) % 3) (by omega) (by omega) (by omega) (by omega)
  have τmg : ∀ i, i < 3 → τ (mt (g i)) = h i := fun i hi => by rw [← τh i hi, τi]
  have τmh : ∀ i, i < 3 → τ (mt (h i)) = g i := fun i hi => by rw [← τg i hi, τi]
  have mg2 : ∀ i, mt (g i) / 2 = g i / 2 := fun i => (mtd _).1
  have mh2 : ∀ i, mt (h i) / 2 = h i / 2 := fun i => (mtd _).1
  have fgt : ∀ i, i < 3 → f (g i) = f (g 0) := by
    have st : ∀ i, i < 3 → f (g ((i + 1) % 3)) = f (g i) := fun i hi => by
      have := f1 (g i) (g4 i hi)
      unfold pn_ph at this
      rw [← hh i hi, hg i hi] at this
      exact this
    intro i hi
    have s0 := st 0 (by omega)
    have s1 := st 1 (by omega)
    rcases (show i = 0 ∨ i = 1 ∨ i = 2 by omega) with e | e | e <;> rw [e]
    · exact s0
    · exact s1.trans s0
  have fh : ∀ i, i < 3 → f (h i) = f (mt (h ((i + 2) % 3))) := fun i hi => by
    have := f1 (h i) (h4 i hi)
    unfold pn_ph at this
    rw [alh i hi] at this
    have e1 := c1 ((i + 2) % 3) (by omega)
    rw [up i hi] at e1
    rw [e1] at this
    exact this.symm
  -- the new label
  have lab : ∀ d, ∃ y, (∀ i, i < 3 → d = mt (h i) → y = f (mt (g ((i + 2) % 3)))) ∧ (∀ i, i < 3 → d = mt (g i) → y = f (g 0)) ∧ ((∀ i, i < 3 → d ≠ mt (h i) ∧ d ≠ mt (g i)) → y = f (τ d)) := fun d => by
    by_cases e1 : ∃ i, i < 3 ∧ d = mt (h i)
    · obtain ⟨i, i1, i2⟩ := e1
      refine ⟨f (mt (g ((i + 2) % 3))), fun j hj ej => ?_, fun j hj ej => ?_, fun h9 => absurd i2 (h9 i i1).1⟩
      · by_cases hij : i = j
        · rw [hij]
        · exact absurd (by rw [← mh2 i, ← mh2 j, ← i2, ← ej]) (hhd i j i1 hj hij)
      · exact absurd (by rw [← mg2 j, ← mh2 i, ← i2, ← ej]) (gh j i hj i1)
    · by_cases e2 : ∃ i, i < 3 ∧ d = mt (g i)
      · obtain ⟨i, i1, i2⟩ := e2
        exact ⟨f (g 0), fun j hj ej => absurd ⟨j, hj, ej⟩ e1, fun _ _ _ => rfl, fun h9 => absurd i2 (h9 i i1).2⟩
      · exact ⟨f (τ d), fun j hj ej => absurd ⟨j, hj, ej⟩ e1, fun j hj ej => absurd ⟨j, hj, ej⟩ e2, fun _ => rfl⟩
  obtain ⟨f', hf'⟩ := Classical.skolem.mp lab
  have Lh : ∀ i, i < 3 → f' (mt (h i)) = f (mt (g ((i + 2) % 3))) := fun i hi => (hf' _).1 i hi rfl
  have Lg : ∀ i, i < 3 → f' (mt (g i)) = f (g 0) := fun i hi => (hf' _).2.1 i hi rfl
  have Lo : ∀ d, (∀ i, i < 3 → d ≠ mt (h i) ∧ d ≠ mt (g i)) → f' d = f (τ d) := fun d => (hf' d).2.2
  have nmh : ∀ i j, i < 3 → j < 3 → g i ≠ mt (h j) ∧ g i ≠ mt (g j) := fun i j hi hj => by
    refine ⟨fun e => gh i j hi hj (by rw [e, mh2]), fun e => ?_⟩
    by_cases hij : i = j
    · rw [hij] at e
      unfold mt at e
      split at e <;> omega
    · exact ggd i j hi hj hij (by rw [e, mg2])
  have nmg : ∀ i j, i < 3 → j < 3 → h i ≠ mt (h j) ∧ h i ≠ mt (g j) := fun i j hi hj => by
    refine ⟨fun e => ?_, fun e => gh j i hj hi (by rw [e, mg2])⟩
    by_cases hij : i = j
    · rw [hij] at e
      unfold mt at e
      split at e <;> omega
    · exact hhd i j hi hj hij (by rw [e, mh2])
  have Fg : ∀ i, i < 3 → f' (g i) = f (mt (h i)) := fun i hi => by rw [Lo _ (fun j hj => nmh i j hi hj), τg i hi]
  have Fh : ∀ i, i < 3 → f' (h i) = f (mt (g i)) := fun i hi => by rw [Lo _ (fun j hj => nmg i j hi hj), τh i hi]
  have down2 : ∀ i, i < 3 → ((i + 2) % 3 + 2) % 3 = (i + 1) % 3 := fun i hi => by omega
  have inv : ∀ d, d < 4 * c → f' (pn_ph S' b d) = f' d := by
    intro d hd
    unfold pn_ph
    rw [hal d hd]
    by_cases e1 : ∃ i, i < 3 ∧ d = mt (h i)
    · obtain ⟨i, i1, i2⟩ := e1
      have r3 := c3 ((i + 2) % 3) (by omega)
      rw [up i i1] at r3
      rw [i2, τmh i i1, ← hh i i1, τh i i1, r3, Fh _ (by omega), Lh i i1]
    · by_cases e2 : ∃ i, i < 3 ∧ d = mt (g i)
      · obtain ⟨i, i1, i2⟩ := e2
        rw [i2, τmg i i1, alh i i1, τg i i1, c2 i i1, Lg _ (by omega), Lg i i1]
      · have nd : ∀ i, i < 3 → d ≠ mt (h i) ∧ d ≠ mt (g i) := fun i hi => ⟨fun e => e1 ⟨i, hi, e⟩, fun e => e2 ⟨i, hi, e⟩⟩
        rw [Lo d nd]
        have hτd := τl d hd
        have fe := f1 (τ d) hτd
        unfold pn_ph at fe
        rw [← fe]
        have ae := pn_al_inv hv hτd
        generalize he : pn_al S (τ d) = e at *
        have ng : ∀ i, i < 3 → e ≠ g i ∧ e ≠ h i := fun i hi => by
          refine ⟨fun e9 => ?_, fun e9 => ?_⟩
          · rw [e9, ← hh i hi] at ae
            have := congrArg τ ae
            rw [τi, τh i hi] at this
            exact (nd i hi).2 this.symm
          · rw [e9, alh i hi] at ae
            have := congrArg τ ae
            rw [τi, τg i hi] at this
            exact (nd i hi).1 this.symm
        by_cases k1 : ∃ i, i < 3 ∧ e = mt (h i)
        · obtain ⟨i, i1, i2⟩ := k1
          have r1 := c1 ((i + 2) % 3) (by omega)
          rw [up i i1] at r1
          rw [i2, τmh i i1, r1, Lh _ (by omega), c2 i i1, down2 i i1]
        · by_cases k2 : ∃ i, i < 3 ∧ e = mt (g i)
          · obtain ⟨i, i1, i2⟩ := k2
            have r3 := c3 ((i + 2) % 3) (by omega)
            rw [up i i1] at r3
            rw [i2, τmg i i1, hg i i1, Fg _ (by omega), r3, fh _ (by omega), down2 i i1]
          · have far : ∀ i, i < 3 → e / 2 ≠ g i / 2 ∧ e / 2 ≠ h i / 2 := fun i hi => by
              have m1 := mtd (g i)
              have m2 := mtd (h i)
              refine ⟨fun e9 => ?_, fun e9 => ?_⟩
              · rcases (show e = g i ∨ e = mt (g i) by omega) with h9 | h9
                · exact (ng i hi).1 h9
                · exact k2 ⟨i, hi, h9⟩
              · rcases (show e = h i ∨ e = mt (h i) by omega) with h9 | h9
                · exact (ng i hi).2 h9
                · exact k1 ⟨i, hi, h9⟩
            have hr := pn_rt_h (b := b) e
            have far2 : ∀ i, i < 3 → pn_rt b e / 2 ≠ g i / 2 ∧ pn_rt b e / 2 ≠ h i / 2 := fun i hi => by
              rw [hr]
              refine ⟨fun e9 => ?_, fun e9 => ?_⟩
              · have e8 := gv ((i + 2) % 3) (by omega)
                rw [up i hi] at e8
                rw [e8] at e9
                have := congrArg mt e9
                rw [mt_mt, mt_mt] at this
                exact (far ((i + 2) % 3) (by omega)).2 this
              · have e8 := gv i hi
                rw [← e9, mt_mt] at e8
                exact (far ((i + 1) % 3) (by omega)).1 e8.symm
            have far3 : ∀ i, i < 3 → pn_rt b e ≠ mt (h i) ∧ pn_rt b e ≠ mt (g i) := fun i hi => ⟨fun e9 => (far2 i hi).2 (by rw [e9, mh2]), fun e9 => (far2 i hi).1 (by rw [e9, mg2])⟩
            rw [τo e far, Lo _ far3, τo _ far2]
  -- every value is taken again
  have ch : ∀ x, ∃ d, x < 4 * c → d < 4 * c ∧ f' d = f x := fun x => by
    by_cases hx : x < 4 * c
    · by_cases k1 : ∃ i, i < 3 ∧ x = mt (h i)
      · obtain ⟨i, i1, i2⟩ := k1
        exact ⟨g i, fun _ => ⟨g4 i i1, by rw [Fg i i1, i2]⟩⟩
      · by_cases k2 : ∃ i, i < 3 ∧ x = mt (g i)
        · obtain ⟨i, i1, i2⟩ := k2
          exact ⟨h i, fun _ => ⟨h4 i i1, by rw [Fh i i1, i2]⟩⟩
        · by_cases k3 : ∃ i, i < 3 ∧ x = h i
          · obtain ⟨i, i1, i2⟩ := k3
            exact ⟨g ((i + 2) % 3), fun _ => ⟨g4 _ (by omega), by rw [Fg _ (by omega), i2, fh i i1]⟩⟩
          · by_cases k4 : ∃ i, i < 3 ∧ x = g i
            · obtain ⟨i, i1, i2⟩ := k4
              have hm := (mtd (g 0)).1
              exact ⟨mt (g 0), fun _ => ⟨by have := g4 0 (by omega); omega, by rw [Lg 0 (by omega), i2, fgt i i1]⟩⟩
            · have far : ∀ i, i < 3 → x / 2 ≠ g i / 2 ∧ x / 2 ≠ h i / 2 := fun i hi => by
                have m1 := mtd (g i)
                have m2 := mtd (h i)
                refine ⟨fun e9 => ?_, fun e9 => ?_⟩
                · rcases (show x = g i ∨ x = mt (g i) by omega) with h9 | h9
                  · exact k4 ⟨i, hi, h9⟩
                  · exact k2 ⟨i, hi, h9⟩
                · rcases (show x = h i ∨ x = mt (h i) by omega) with h9 | h9
                  · exact k3 ⟨i, hi, h9⟩
                  · exact k1 ⟨i, hi, h9⟩
              exact ⟨x, fun _ => ⟨hx, by rw [Lo x (fun i hi => ⟨fun e => k1 ⟨i, hi, e⟩, fun e => k2 ⟨i, hi, e⟩⟩), τo x far]⟩⟩
    · exact ⟨0, fun h9 => absurd h9 hx⟩
  obtain ⟨χ, hχ⟩ := Classical.skolem.mp ch
  -- parts
  have tv : ∀ v e, v < 2 * c → e < 2 → τ (2 * v + e) / 2 = τ (2 * v) / 2 := by
    intro v e hvl he
    rcases (show e = 0 ∨ e = 1 by omega) with rfl | rfl
    · rfl
    · by_cases k : ∃ i, i < 3 ∧ (v = g i / 2 ∨ v = h i / 2)
      · obtain ⟨i, i1, i2⟩ := k
        have m1 := mtd (g i)
        have m2 := mtd (h i)
        have q1 := τg i i1
        have q2 := τmg i i1
        have q3 := τh i i1
        have q4 := τmh i i1
        rcases i2 with i2 | i2
        · rcases (show g i = 2 * v ∧ mt (g i) = 2 * v + 1 ∨ g i = 2 * v + 1 ∧ mt (g i) = 2 * v by omega) with ⟨e1, e2⟩ | ⟨e1, e2⟩
          · rw [e1] at q1
            rw [e2] at q2
            rw [q1, q2, m2.1]
          · rw [e1] at q1
            rw [e2] at q2
            rw [q1, q2, m2.1]
        · rcases (show h i = 2 * v ∧ mt (h i) = 2 * v + 1 ∨ h i = 2 * v + 1 ∧ mt (h i) = 2 * v by omega) with ⟨e1, e2⟩ | ⟨e1, e2⟩
          · rw [e1] at q3
            rw [e2] at q4
            rw [q3, q4, m1.1]
          · rw [e1] at q3
            rw [e2] at q4
            rw [q3, q4, m1.1]
      · have far : ∀ e, e < 2 → ∀ i, i < 3 → (2 * v + e) / 2 ≠ g i / 2 ∧ (2 * v + e) / 2 ≠ h i / 2 := fun e he i hi => by
          rw [show (2 * v + e) / 2 = v by omega]
          exact ⟨fun e9 => k ⟨i, hi, Or.inl e9⟩, fun e9 => k ⟨i, hi, Or.inr e9⟩⟩
        rw [τo (2 * v + 1) (far 1 (by omega)), τo (2 * v) (far 0 (by omega))]
        omega
  -- a dart and the one across are in one part
  have nb : ∀ d, d < 4 * c → rch c S' (d / 2) (pn_al S' d / 2) := fun d hd => by
    unfold pn_al
    by_cases e : d % 2 = 0
    · rw [if_pos e, show (2 * S'.1 (d / 2) + 1) / 2 = S'.1 (d / 2) by omega]
      exact rch_n (rch_rf _ _ _) (by omega)
    · rw [if_neg e, show 2 * S'.2 (d / 2) / 2 = S'.2 (d / 2) by omega]
      obtain ⟨q1, q2, q3, q4⟩ := hv' (d / 2) (by omega)
      have := rch_n (rch_rf c S' (S'.2 (d / 2))) q2
      rw [q4] at this
      exact rch_sy hv' q2 this
  have in1 : ∀ i, i < 3 → rch c S' (h i / 2) (g i / 2) := fun i hi => by
    have hl : mt (h i) < 4 * c := by have := h4 i hi; have := (mtd (h i)).1; omega
    have := nb (mt (h i)) hl
    rw [hal _ hl, τmh i hi, ← hh i hi, τh i hi, mh2, mg2] at this
    exact this
  have same : ∀ v, v < 2 * c → rch c S' v (τ (2 * v) / 2) := by
    intro v hvl
    by_cases k : ∃ i, i < 3 ∧ (v = g i / 2 ∨ v = h i / 2)
    · obtain ⟨i, i1, i2⟩ := k
      have m1 := mtd (g i)
      have m2 := mtd (h i)
      have hgl := g4 i i1
      have hhl := h4 i i1
      have back := rch_sy hv' (show h i / 2 < 2 * c by omega) (in1 i i1)
      rcases i2 with i2 | i2
      · have e9 : τ (2 * v) / 2 = h i / 2 := by
          rcases (show g i = 2 * v ∨ mt (g i) = 2 * v by omega) with e1 | e1
          · rw [← e1, τg i i1, m2.1]
          · rw [← e1, τmg i i1]
        rw [e9, i2]
        exact back
      · have e9 : τ (2 * v) / 2 = g i / 2 := by
          rcases (show h i = 2 * v ∨ mt (h i) = 2 * v by omega) with e1 | e1
          · rw [← e1, τh i i1, m1.1]
          · rw [← e1, τmh i i1]
        rw [e9, i2]
        exact in1 i i1
    · have : τ (2 * v) = 2 * v := τo _ (fun i hi => by
        rw [show 2 * v / 2 = v by omega]
        exact ⟨fun e9 => k ⟨i, hi, Or.inl e9⟩, fun e9 => k ⟨i, hi, Or.inr e9⟩⟩)
      rw [this, show 2 * v / 2 = v by omega]
      exact rch_rf _ _ _
  have keep : ∀ r v, rch c S r v → rch c S' r v := fun r v hr => hr (fun v => rch c S' r v) (rch_rf _ _ _) (fun j hj hp => by
    obtain ⟨q1, q2, q3, q4⟩ := hv j hj
    have t1 := τl (2 * j) (by omega)
    have k1 := nb (τ (2 * j)) t1
    rw [hal _ t1, τi, pn_al0, tv _ 1 q1 (by omega)] at k1
    exact rch_tr hp (rch_tr (same j hj) (rch_tr k1 (rch_sy hv' q1 (same _ q1))))) (fun j hj hp => rch_m hp hj)
  refine ⟨R, fun v hvl => ?_, f', X.map χ, inv, fun x hx => ?_, ?_, by rw [List.length_map]; exact f4⟩
  · obtain ⟨r, r1, r2, r3⟩ := hR v hvl
    exact ⟨r, r1, r2, keep r v r3⟩
  · obtain ⟨q, q1, q2⟩ := List.mem_map.mp hx
    rw [← q2]
    exact (hχ q (f2 q q1)).1
  · unfold pm_dv
    rw [List.map_map]
    have : X.map (f' ∘ χ) = X.map f := List.map_congr_left (fun q hq => (hχ q (f2 q hq)).2)
    rw [this]
    exact f3
end R3
