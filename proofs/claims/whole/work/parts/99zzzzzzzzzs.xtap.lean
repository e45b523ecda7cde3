/-! exact calls: feed and end of the reference; the tape of both -/
def sel5 (a b c d e : Int32) (i : Nat) : Int32 := if i < 4 then a else if i < 8 then b else if i < 12 then c else if i < 16 then d else e
theorem sh4 : ∀ i : Fin 20, (24 - 8 * (nI i.1 &&& 3) : Int32) = nI (24 - 8 * (i.1 % 4)) := by decide +kernel
theorem usF_n9 {z : ow_MS} {h g : Nat} {x : Int32} (e : g ≠ h) : (usF z h x).1 g = z.1 g := if_neg e
def tpR (g : Nat) : Prop := g = 1 ∨ g = 10 ∨ g = 11
section XT
variable {X : (Nat → Nat → Int32) → Prop} {z : ow_MS}
theorem xq_feed {a b c d e : Int32} {t : Nat} (h : gI X z) (ht : t ≤ 400) (h11 : z.1 11 = nI t) : Te (fun K => qe_X13_feed K a b c d e z) (fun r => t + 20 ≤ 400 ∧ r.1 = nI (t + 20) ∧ gI X r.2 ∧ r.2.1 1 = 0 ∧ r.2.1 11 = nI (t + 20) ∧ (∀ i, i < 20 → r.2.2.1 10 (t + i) = bT (sel5 a b c d e i) (i % 4)) ∧ (∀ k, k < t → r.2.2.1 10 k = z.2.1 10 k) ∧ fr tpR z r.2 ∨ 400 < t + 20 ∧ rFl X z 1 r) := by
  let Q : Int32 × ow_MS → Prop := fun r => t + 20 ≤ 400 ∧ r.1 = nI (t + 20) ∧ gI X r.2 ∧ r.2.1 1 = 0 ∧ r.2.1 11 = nI (t + 20) ∧ (∀ i, i < 20 → r.2.2.1 10 (t + i) = bT (sel5 a b c d e i) (i % 4)) ∧ (∀ k, k < t → r.2.2.1 10 k = z.2.1 10 k) ∧ fr tpR z r.2 ∨ 400 < t + 20 ∧ rFl X z 1 r
  have key : ∀ (k i : Nat) (z1 : ow_MS), i + k = 20 → t + 20 ≤ 400 → z1.1 11 = nI (t + i) → z1.1 1 = 0 → (∀ j, j < i → z1.2.1 10 (t + j) = bT (sel5 a b c d e j) (j % 4)) → (∀ k, k < t → z1.2.1 10 k = z.2.1 10 k) → fr tpR z z1 → gI X z1 → Tt (fun K j => q_X13_feed K j 1 a b c d e (nI i) 0 z1) Q := by
    intro k
    induction k with
    | zero =>
      intro i z1 hi h400 q11 q1 qb qk qf hI
      have hi20 : i = 20 := by omega
      subst hi20
      refine u_X13_feed_1 ?_; unfold qm_X13_feed_1
      exact w_leT (a := 20) (by omega) (by omega) (w_rdF q11 (w_some (Or.inl ⟨h400, rfl, hI, q1, q11, qb, qk, qf⟩)))
    | succ k ih =>
      intro i z1 hi h400 q11 q1 qb qk qf hI
      have c2 : ∀ w : Int32, w = sel5 a b c d e i → Tt (fun K j => q_X13_feed K j 2 a b c d e (nI i) w z1) Q := by
        intro w hw
        refine u_X13_feed_2 ?_; unfold qm_X13_feed_2
        rw [nI_1]
        refine w_rdF q11 (w_wrB ml10 rfl (by omega) (w_rdF q11 (w_wrF ?_)))
        rw [nI_1]
        have e4 := sh4 ⟨i, by omega⟩
        dsimp only at e4
        rw [e4]
        have h1 : gI X (usI z1 10 (t + i) (vp_nar .byte (w >>> ((nI (24 - 8 * (i % 4))) &&& 31)).toInt8.toInt32)) := gI_fr (P := fun g => g = 10) (fr_I rfl) (fun g hg => by rw [hg]; decide) hI
        refine ih (i + 1) _ (by omega) h400 po_usF_at (show (usF _ 11 _).1 1 = 0 from (usF_n9 (by decide)).trans q1) (fun j hj => ?_) (fun k hk => ?_) (fr_F2 (fr_I2 qf (Or.inr (Or.inl rfl))) (Or.inr (Or.inr rfl))) (gI_t (t := t + i + 1) rfl (by omega) h1)
        · by_cases ej : j = i
          · rw [ej, ← hw]
            exact po_usI_at
          · exact rd_ne (by omega) (qb j (by omega))
        · exact rd_ne (by omega) (qk k hk)
      refine u_X13_feed_1 ?_; unfold qm_X13_feed_1
      refine w_leF (a := 20) (by omega) (by omega) (w_le (a := 4) (by omega) (by omega) (fun g4 => w_le (a := 8) (by omega) (by omega) (fun g8 => w_le (a := 12) (by omega) (by omega) (fun g12 => w_le (a := 16) (by omega) (by omega) (fun g16 => c2 _ ?_) (fun g16 => c2 _ ?_)) (fun g12 => c2 _ ?_)) (fun g8 => c2 _ ?_)) (fun g4 => c2 _ ?_))
      · unfold sel5
        rw [if_neg (by omega), if_neg (by omega), if_neg (by omega), if_neg (by omega)]
      · unfold sel5
        rw [if_neg (by omega), if_neg (by omega), if_neg (by omega), if_pos (by omega)]
      · unfold sel5
        rw [if_neg (by omega), if_neg (by omega), if_pos (by omega)]
      · unfold sel5
        rw [if_neg (by omega), if_pos (by omega)]
      · unfold sel5
        rw [if_pos (by omega)]
  have f1 : fr tpR z (usF z 1 0) := fr_F (Or.inl rfl)
  refine e_X13_feed ?_
  refine u_X13_feed_0 ?_; unfold qm_X13_feed_0
  refine w_wrF (w_rdF (x := nI t) (rf_ot (by omega) h11) ?_)
  rw [show nI t + 20 = nI (t + 20) from nI_add t 20]
  exact w_le (b := 400) (by omega) (by omega) (fun h9 => key 20 0 _ (by omega) h9 (rf_ot (by omega) h11) po_usF_at (fun j hj => by omega) (fun k _ => rfl) f1 (gI_1 h)) (fun h9 => w_mono (w_failX (k := 1) (gI_1 h) fr_1) (fun r hr => Or.inr ⟨h9, hr⟩))
theorem xq_end {n : Int32} {t : Nat} (h : gI X z) (ht : t ≤ 400) (h11 : z.1 11 = nI t) : Te (fun K => qe_X13_end K n z) (fun r => (∃ u, u ≤ t ∧ n = nI u ∧ gI X r ∧ r.1 1 = 0 ∧ r.1 11 = nI u ∧ r.2.1 10 = z.2.1 10 ∧ fr tpR z r) ∨ (∀ u, u ≤ t → n ≠ nI u) ∧ rFl X z 1 (0, r)) := by
  let Q : ow_MS → Prop := fun r => (∃ u, u ≤ t ∧ n = nI u ∧ gI X r ∧ r.1 1 = 0 ∧ r.1 11 = nI u ∧ r.2.1 10 = z.2.1 10 ∧ fr tpR z r) ∨ (∀ u, u ≤ t → n ≠ nI u) ∧ rFl X z 1 (0, r)
  have c1 : (∀ u, u ≤ t → n ≠ nI u) → Tt (fun K k => q_X13_end K k 1 n (usF z 1 0)) Q := by
    intro hno
    refine u_X13_end_1 ?_; unfold qm_X13_end_1
    refine w_cs1 tm_fails (fun a z1 e => ?_)
    cases e
    exact w_some (Or.inr ⟨hno, gI_1 (gI_1 h), po_usF_at, fr_F2 fr_1 (Or.inl rfl)⟩)
  refine e_X13_end ?_
  refine u_X13_end_0 ?_; unfold qm_X13_end_0
  refine w_wrF (w_if (fun h9 => c1 (fun u hu eu => ?_)) (fun h0 => w_rdF (x := nI t) (rf_ot (by omega) h11) (w_if (fun h1 => w_wrF (w_some ?_)) (fun h1 => c1 (fun u hu eu => ?_)))))
  · rw [eu] at h9
    exact nI_pos (by omega) h9
  · obtain ⟨j, hj, rfl⟩ := nI_of h0
    have hjt : j ≤ t := (nI_leI (by omega) (by omega)).mp h1
    exact Or.inl ⟨j, hjt, rfl, gI_t rfl (by omega) (gI_1 h), (usF_n9 (by decide)).trans po_usF_at, po_usF_at, rfl, fr_F2 (fr_F (Or.inl rfl)) (Or.inr (Or.inr rfl))⟩
  · rw [eu] at h1
    exact h1 ((nI_leI (by omega) (by omega)).mpr hu)
end XT
/-- the tape of the reference and of the class -/
def relT (z y : ow_MS) : Prop := ∃ t, t ≤ 400 ∧ z.1 11 = nI t ∧ y.1 11001 = nI t ∧ ∀ k, k < t → z.2.1 10 k = y.2.1 11002 k
theorem feed_jn {X : (Nat → Nat → Int32) → Prop} {z y : ow_MS} {a b c d e : Int32} {t : Nat} {rr : Int32 × ow_MS} {rc : Nat × Int32 × ow_MS} (ht : t ≤ 400) (h1 : z.1 11 = nI t) (h2 : y.1 11001 = nI t) (h3 : ∀ k, k < t → z.2.1 10 k = y.2.1 11002 k) (hr : t + 20 ≤ 400 ∧ rr.1 = nI (t + 20) ∧ gI X rr.2 ∧ rr.2.1 1 = 0 ∧ rr.2.1 11 = nI (t + 20) ∧ (∀ i, i < 20 → rr.2.2.1 10 (t + i) = bT (sel5 a b c d e i) (i % 4)) ∧ (∀ k, k < t → rr.2.2.1 10 k = z.2.1 10 k) ∧ fr tpR z rr.2 ∨ 400 < t + 20 ∧ rFl X z 1 rr) (hc : (t + 20 ≤ 400 ∧ rc.1 = 0 ∧ rc.2.1 = nI (t + 20) ∧ rc.2.2.1 11001 = nI (t + 20) ∧ (∀ i, i < 4 → rc.2.2.2.1 11002 (t + i) = bT a i ∧ rc.2.2.2.1 11002 (t + 4 + i) = bT b i ∧ rc.2.2.2.1 11002 (t + 8 + i) = bT c i ∧ rc.2.2.2.1 11002 (t + 12 + i) = bT d i ∧ rc.2.2.2.1 11002 (t + 16 + i) = bT e i) ∧ (∀ k, k < t → rc.2.2.2.1 11002 k = y.2.1 11002 k) ∨ 400 < t + 20 ∧ rc.1 = 3 ∧ rc.2.2 = y) ∧ fr tpP y rc.2.2) : relT rr.2 rc.2.2 ∧ (rr.2.1 1 = 0 ∧ rc.1 = 0 ∧ rr.1 = rc.2.1 ∨ rr.2.1 1 = nI 1 ∧ rc.1 = 3) := by
  rcases hr with ⟨r0, r1, r2, r3, r4, r5, r6, r7⟩ | ⟨r0, r1, r2, r3⟩
  · rcases hc.1 with ⟨c0, c1, c2, c3, c4, c5⟩ | ⟨c0, -⟩
    · refine ⟨⟨t + 20, r0, r4, c3, fun k hk => ?_⟩, Or.inl ⟨r3, c1, r1.trans c2.symm⟩⟩
      by_cases hkt : k < t
      · rw [r6 k hkt, c5 k hkt, h3 k hkt]
      · obtain ⟨i, rfl⟩ : ∃ i, k = t + i := ⟨k - t, by omega⟩
        have hi : i < 20 := by omega
        rw [r5 i hi]
        obtain ⟨p0, p1, p2, p3, p4⟩ := c4 (i % 4) (Nat.mod_lt _ (by omega))
        unfold sel5
        have : i / 4 = 0 ∨ i / 4 = 1 ∨ i / 4 = 2 ∨ i / 4 = 3 ∨ i / 4 = 4 := by omega
        rcases this with q | q | q | q | q
        · rw [if_pos (by omega), ← p0]
          exact congrArg _ (by omega)
        · rw [if_neg (by omega), if_pos (by omega), ← p1]
          exact congrArg _ (by omega)
        · rw [if_neg (by omega), if_neg (by omega), if_pos (by omega), ← p2]
          exact congrArg _ (by omega)
        · rw [if_neg (by omega), if_neg (by omega), if_neg (by omega), if_pos (by omega), ← p3]
          exact congrArg _ (by omega)
        · rw [if_neg (by omega), if_neg (by omega), if_neg (by omega), if_neg (by omega), ← p4]
          exact congrArg _ (by omega)
    · omega
  · rcases hc.1 with ⟨c0, -⟩ | ⟨c0, c1, c2⟩
    · omega
    · have e11 := (r3 11 (by unfold rPs rSc; omega)).1
      have e10 := (r3 10 (by unfold rPs rSc; omega)).2.1
      refine ⟨⟨t, ht, by rw [e11]; exact h1, by rw [c2]; exact h2, fun k hk => by rw [e10, c2]; exact h3 k hk⟩, Or.inr ⟨r2, c1⟩⟩
theorem end_jn {X : (Nat → Nat → Int32) → Prop} {z y rr : ow_MS} {x : Int32} {t : Nat} {rc : Nat × ow_MS} (ht : t ≤ 400) (h1 : z.1 11 = nI t) (h2 : y.1 11001 = nI t) (h3 : ∀ k, k < t → z.2.1 10 k = y.2.1 11002 k) (hr : (∃ u, u ≤ t ∧ x = nI u ∧ gI X rr ∧ rr.1 1 = 0 ∧ rr.1 11 = nI u ∧ rr.2.1 10 = z.2.1 10 ∧ fr tpR z rr) ∨ (∀ u, u ≤ t → x ≠ nI u) ∧ rFl X z 1 (0, rr)) (hc : ((∃ u, u ≤ t ∧ x = nI u ∧ rc.1 = 0 ∧ rc.2.1 11001 = nI u) ∨ (∀ u, u ≤ t → x ≠ nI u) ∧ rc.1 = 2 ∧ rc.2 = y) ∧ fr (fun q => q = 11001) y rc.2) : relT rr rc.2 ∧ (rr.1 1 = 0 ∧ rc.1 = 0 ∨ rr.1 1 = nI 1 ∧ rc.1 = 2) := by
  have e2 := (hc.2 11002 (by omega)).2.1
  rcases hr with ⟨u, r0, r1, r2, r3, r4, r5, r6⟩ | ⟨r0, r1, r2, r3⟩
  · rcases hc.1 with ⟨w, c0, c1, c2, c3⟩ | ⟨c0, -⟩
    · have e : u = w := nI_inj9 (by omega) (by omega) (r1.symm.trans c1)
      subst e
      exact ⟨⟨u, by omega, r4, c3, fun k hk => by rw [r5, e2]; exact h3 k (by omega)⟩, Or.inl ⟨r3, c2⟩⟩
    · exact absurd r1 (c0 u r0)
  · rcases hc.1 with ⟨w, c0, c1, -⟩ | ⟨c0, c1, c2⟩
    · exact absurd c1 (r0 w c0)
    · have e11 : rr.1 11 = z.1 11 := (r3 11 (by unfold rPs rSc; omega)).1
      have e10 : rr.2.1 10 = z.2.1 10 := (r3 10 (by unfold rPs rSc; omega)).2.1
      exact ⟨⟨t, ht, by rw [e11]; exact h1, by rw [c2]; exact h2, fun k hk => by rw [e10, c2]; exact h3 k hk⟩, Or.inr ⟨r2, c1⟩⟩
