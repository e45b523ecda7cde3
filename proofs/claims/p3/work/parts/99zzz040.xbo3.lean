section
/-! 99zzzzzzzzzy.xbo3 -/
/-! both sides: product, dropBraid -/
section XB3
variable {X : (Nat → Nat → Int32) → Prop} {z y : ow_MS} {vl : Nat → Nat} {x x' : Int32}
theorem relB_fail {k : Nat} {rr : Int32 × ow_MS} (h : relB z y) (hf : rFl X z k rr) : relB rr.2 y := fun b hb => by
  have e6 := (hf.2.2 96 (by unfold rPs rSc; omega)).2.1
  have e5 := (hf.2.2 95 (by unfold rPs rSc; omega)).2.1
  have e4 := (hf.2.2 94 (by unfold rPs rSc; omega)).2.1
  rw [e6, e5, e4]
  exact h b hb
/-- what is known of one braid on both sides -/
theorem relB_at {a n l n' l' : Nat} (h : relB z y) (ha : a < 20) (h1 : hBr z a n l) (n2 : 2 ≤ n') (n5 : n' ≤ 5) (e15 : y.2.1 15 a = nI n') (l16 : l' ≤ 16) (e14 : y.2.1 14 a = nI l') : n = n' ∧ l = l' ∧ ∀ i, i < l → z.2.1 94 (16 * a + i) = y.2.1 13 (16 * a + i) := by
  obtain ⟨p1, p2, p3, p4, p5, p6⟩ := h1
  obtain ⟨k1, k2⟩ := h a ha
  have en : n = n' := nI_inj9 (by omega) (by omega) (p4.symm.trans (k1.trans e15))
  obtain ⟨k3, k4⟩ := k2 (by rw [p4]; exact nI_ne0 (by omega) (by omega))
  exact ⟨en, nI_inj9 (by omega) (by omega) (p5.symm.trans (k3.trans e14)), k4 l p3 p5⟩
theorem b_product (hz : gI X z) (hB : brC y) (h : relB z y) : Te (fun K => qe_X13_product K x x' z) (fun rr => Te (fun K => ce_X11_product vl K 0 x x' y) (fun rc => relB rr.2 rc.2.2 ∧ gI X rr.2 ∧ brC rc.2.2 ∧ fr (fun g => rPs g ∨ 94 ≤ g ∧ g ≤ 96) z rr.2 ∧ fr bdQ y rc.2.2 ∧ ansI [(1, 1), (2, 2), (3, 4), (4, 3)] rr rc)) := by
  refine te_two (xq_product hz) (xc_product hB) (fun rr rc hr hc => ?_)
  have fail : ∀ {j k : Nat}, rFl X z j rr → (j, k) ∈ [(1, 1), (2, 2), (3, 4), (4, 3)] → rc.1 = k → rc.2.2 = y → relB rr.2 rc.2.2 ∧ gI X rr.2 ∧ brC rc.2.2 ∧ fr (fun g => rPs g ∨ 94 ≤ g ∧ g ≤ 96) z rr.2 ∧ fr bdQ y rc.2.2 ∧ ansI [(1, 1), (2, 2), (3, 4), (4, 3)] rr rc := fun {j k} hf hm e1 e2 => ⟨by rw [e2]; exact relB_fail h hf, hf.1, by rw [e2]; exact hB, fr_mono (fun g hg => Or.inl hg) hf.2.2, by rw [e2]; exact fr_rf, Or.inr ⟨j, k, hm, hf.2.1, e1⟩⟩
  have nz : ∀ {b n : Nat} {x : Int32}, b < 20 → x = nI b → 2 ≤ n → n ≤ 5 → y.2.1 15 b = nI n → ¬ noB (z.2.1 96) x := fun {b n x} b1 b2 b3 b4 b5 hn => by
    have := noB_iff h hn b b1 b2
    rw [b5] at this
    exact absurd this (nI_ne0 (by omega) (by omega))
  have ny : ∀ {b n l : Nat} {x : Int32}, b < 20 → x = nI b → hBr z b n l → ¬ noB (y.2.1 15) x := fun {b n l x} b1 b2 b3 hn => by
    have := hn b b1 b2
    rw [← (h b b1).1, b3.2.2.2.1] at this
    exact absurd this (nI_ne0 (by have := b3.1; omega) (by have := b3.2.1; omega))
  rcases hr with ⟨r1, r2⟩ | ⟨a, n, l, b, m, k, a1, a2, a3, b1, b2, b3, hr⟩
  · rcases hc with ⟨c1, c2, -⟩ | ⟨a, n, l, b, m, k, a1, a2, a3, a4, a5, a6, a7, b1, b2, b3, b4, b5, -⟩
    · exact fail r1 (by simp) c1 c2
    · rcases r2 with r2 | r2
      · exact absurd r2 (nz a1 a2 a3 a4 a5)
      · exact absurd r2 (nz b1 b2 b3 b4 b5)
  · rcases hc with ⟨-, -, c3⟩ | ⟨a', n', l', b', m', k', a1', a2', a3', a4', a5', a6', a7', b1', b2', b3', b4', b5', b6', b7', hc⟩
    · rcases c3 with c3 | c3
      · exact absurd c3 (ny a1 a2 a3)
      · exact absurd c3 (ny b1 b2 b3)
    · have ea : a = a' := nI_inj9 (by omega) (by omega) (a2.symm.trans a2')
      subst ea
      have eb : b = b' := nI_inj9 (by omega) (by omega) (b2.symm.trans b2')
      subst eb
      obtain ⟨q1, q2, q3⟩ := relB_at h a1 a3 a3' a4' a5' a6' a7'
      subst q1
      subst q2
      obtain ⟨q1, q2, q4⟩ := relB_at h b1 b3 b3' b4' b5' b6' b7'
      subst q1
      subst q2
      rcases hr with ⟨r1, r2⟩ | ⟨r2, hr⟩
      · rcases hc with ⟨c1, c2, -⟩ | ⟨c3, -⟩
        · exact fail r1 (by simp) c1 c2
        · exact absurd c3 r2
      · rcases hc with ⟨-, -, c3⟩ | ⟨-, hc⟩
        · exact absurd r2 c3
        · rcases hr with ⟨r1, r3⟩ | ⟨r3, hr⟩
          · rcases hc with ⟨c1, c2, -⟩ | ⟨c3, -⟩
            · exact fail r1 (by simp) c1 c2
            · omega
          · rcases hc with ⟨-, -, c3⟩ | ⟨-, hc⟩
            · omega
            · rcases hr with ⟨r1, r4⟩ | ⟨c, r1, r4, r5, r6, r7, r8⟩
              · rcases hc with ⟨c1, c2, -⟩ | ⟨-, c, c1, -⟩
                · exact fail r1 (by simp) c1 c2
                · exact absurd ((h c c1.1).1.trans c1.2.1) (r4 c c1.1)
              · rcases hc with ⟨-, -, c3⟩ | ⟨c0, c', c1, c2, c3, c4, c5⟩
                · exact absurd ((h c r1.1).1.symm.trans r1.2.1) (c3 c r1.1)
                · have ec := lfB_uni (fun b hb => (h b hb).1) r1 c1
                  subst ec
                  refine ⟨relB_new h r3 r8 c5 (fun i hi => ?_), r5, c3, fr_mono (fun g hg => ?_) r7, c4, Or.inl ⟨r6, c0, r4.trans c2.symm⟩⟩
                  · unfold wpr
                    split
                    · exact q3 i (by omega)
                    · exact q4 (i - l) (by omega)
                  · rcases hg with hg | hg
                    · exact Or.inl (Or.inl hg)
                    · exact Or.inr hg
theorem xc_dropBraid (hB : brC y) : Te (fun K => ce_X11_dropBraid vl K 0 x y) (fun r => brC r.2 ∧ (r.1 = 0 ∧ r.2 = y ∧ noB (y.2.1 15) x ∨ r.1 = 1 ∧ ∃ b n, b < 20 ∧ x = nI b ∧ 1 ≤ n ∧ n ≤ 5 ∧ y.2.1 15 b = nI n ∧ r.2 = usI y 15 b 0)) := by
  refine e_X11_dropBraid ?_; unfold cm_X11_dropBraid_0
  refine w_cs1 (tc_hasBraid (brC_E hB)) ?_
  rintro v y1 ⟨hv, e2⟩
  dsimp only at hv e2
  subst e2
  rcases hv with ⟨rfl, h1⟩ | ⟨rfl, h1⟩
  · obtain ⟨d, n, hd, rfl, k1, k2, k3⟩ := h1
    refine w_ifF (by decide) (w_ctI ch_15 rfl hd (w_okZ (Or.inr rfl) (w_some ⟨fun e he => ?_, Or.inr ⟨rfl, d, n, hd, rfl, k2, k3, k1, rfl⟩⟩)))
    by_cases ed : e = d
    · rw [ed]
      exact ⟨0, 0, by omega, by omega, po_usI_at, fun h9 => by omega⟩
    · obtain ⟨m, l, q1, q2, q3, q4⟩ := hB e he
      refine ⟨m, l, q1, q2, rd_ne ed q3, fun h9 => ?_⟩
      obtain ⟨s1, s2, s3⟩ := q4 h9
      refine ⟨s1, rd_ot (by omega) s2, fun i hi => ?_⟩
      obtain ⟨w, w1, w2, w3⟩ := s3 i hi
      exact ⟨w, rd_ot (by omega) w1, w2, w3⟩
  · exact w_ifT rfl (w_okZ (Or.inl rfl) (w_some ⟨hB, Or.inl ⟨rfl, rfl, h1⟩⟩))
theorem xq_dropBraid (h : gI X z) : Te (fun K => qe_X13_dropBraid K x z) (fun r => gI X r.2 ∧ (r.1 = 0 ∧ r.2 = usF z 1 0 ∧ noB (z.2.1 96) x ∨ r.1 = 1 ∧ ∃ b n l, b < 20 ∧ x = nI b ∧ hBr z b n l ∧ r.2 = usI (usF z 1 0) 96 b 0)) := by
  have h1 := gI_1 (c := 0) h
  refine e_X13_dropBraid ?_; unfold qm_X13_dropBraid_0
  refine w_wrF (w_hasBX h1.2.2.2.2.2.1 (fun h0 => w_ifT rfl (w_okZ (Or.inl rfl) (w_some ⟨h1, Or.inl ⟨rfl, rfl, h0⟩⟩))) (fun c n l hc hx hh => w_ifF (by decide) ?_))
  subst hx
  refine w_wrI ml96 rfl (by omega) (w_okZ (Or.inr rfl) (w_some ⟨?_, Or.inr ⟨rfl, c, n, l, hc, rfl, hh, rfl⟩⟩))
  refine gI_br (P := fun g => g = 96) (fr_I rfl) (fun g hg => Or.inl (by omega)) (fun d hd => ?_) h1
  by_cases hdc : d = c
  · rw [hdc]
    exact ⟨0, 0, by omega, by omega, po_usI_at, fun h9 => by omega⟩
  · rcases gBr_h (h1.2.2.2.2.2.1 d hd) with e | ⟨n2, l2, hh2⟩
    · exact ⟨0, 0, by omega, by omega, rd_ne hdc e, fun h9 => by omega⟩
    · exact hBr_g (hBr_eq hh2 (po_usI_ne hdc) (congrFun (po_usI_ot (by decide)) _) (fun i _ => congrFun (po_usI_ot (by decide)) _))
theorem b_dropBraid (hz : gI X z) (hB : brC y) (h : relB z y) : Te (fun K => qe_X13_dropBraid K x z) (fun rr => Te (fun K => ce_X11_dropBraid vl K 0 x y) (fun rc => relB rr.2 rc.2 ∧ gI X rr.2 ∧ brC rc.2 ∧ fr (fun g => rPs g ∨ 94 ≤ g ∧ g ≤ 96) z rr.2 ∧ fr bdQ y rc.2 ∧ rr.2.1 1 = 0 ∧ rr.1 = rc.1)) := by
  refine te_two (xq_dropBraid hz) (xc_dropBraid hB) (fun rr rc hr hc => ?_)
  obtain ⟨hI, hr⟩ := hr
  obtain ⟨hB2, hc⟩ := hc
  rcases hr with ⟨r1, r2, r3⟩ | ⟨r1, b, n, l, b1, b2, b3, r2⟩
  · rcases hc with ⟨c1, c2, c3⟩ | ⟨c1, b, n, b1, b2, b3, b4, b5, c2⟩
    · refine ⟨?_, hI, hB2, ?_, by rw [c2]; exact fr_rf, by rw [r2]; exact po_usF_at, r1.trans c1.symm⟩
      · rw [r2, c2]
        exact h
      · rw [r2]
        exact fr_F (Or.inl (Or.inl rfl))
    · have := noB_iff h r3 b b1 b2
      rw [b5] at this
      exact absurd this (nI_ne0 (by omega) (by omega))
  · rcases hc with ⟨c1, c2, c3⟩ | ⟨c1, b', n', b1', b2', b3', b4', b5', c2⟩
    · have := c3 b b1 b2
      rw [← (h b b1).1, b3.2.2.2.1] at this
      exact absurd this (nI_ne0 (by have := b3.1; omega) (by have := b3.2.1; omega))
    · have eb : b = b' := nI_inj9 (by omega) (by omega) (b2.symm.trans b2')
      subst eb
      refine ⟨fun d hd => ?_, hI, hB2, ?_, ?_, ?_, r1.trans c1.symm⟩
      · rw [r2, c2]
        by_cases ed : d = b
        · rw [ed]
          have e0 : (usI (usF z 1 0) 96 b 0).2.1 96 b = 0 := po_usI_at
          exact ⟨e0.trans po_usI_at.symm, fun h9 => absurd e0 h9⟩
        · obtain ⟨k1, k2⟩ := h d hd
          have e6 : (usI (usF z 1 0) 96 b 0).2.1 96 d = z.2.1 96 d := po_usI_ne ed
          have e5 : (usI (usF z 1 0) 96 b 0).2.1 95 = z.2.1 95 := po_usI_ot (by decide)
          have e4 : (usI (usF z 1 0) 96 b 0).2.1 94 = z.2.1 94 := po_usI_ot (by decide)
          have f6 : (usI y 15 b 0).2.1 15 d = y.2.1 15 d := po_usI_ne ed
          have f5 : (usI y 15 b 0).2.1 14 = y.2.1 14 := po_usI_ot (by decide)
          have f4 : (usI y 15 b 0).2.1 13 = y.2.1 13 := po_usI_ot (by decide)
          rw [e6, e5, e4, f6, f5, f4]
          exact ⟨k1, k2⟩
      · rw [r2]
        exact fr_I2 (fr_F (Or.inl (Or.inl rfl))) (Or.inr (by omega))
      · rw [c2]
        exact fr_I (by unfold bdQ; omega)
      · rw [r2]
        exact (show (usF z 1 0).1 1 = 0 from po_usF_at)
end XB3
end
section
/-! 99zzzzzzzzzz.xbd -/
/-! exact calls: braid, of the reference -/
/-- a letter of the tape, as a generator -/
def lwd (n : Nat) (v w : Int32) : Prop := (∃ a, a < n - 1 ∧ v - 97 = nI a ∧ w = nI (a + 1)) ∨ ¬ in9 (v - 97) (n - 1) ∧ ∃ a, a < n - 1 ∧ v - 65 = nI a ∧ w = -1 - nI a
def lbad (n : Nat) (v : Int32) : Prop := ¬ in9 (v - 97) (n - 1) ∧ ¬ in9 (v - 65) (n - 1)
/-- nothing kept was written but at the free place c -/
def sbB (g : Nat) (z z1 : ow_MS) (c : Nat) : Prop := z1.2.1 (g + 2) = z.2.1 (g + 2) ∧ z1.2.1 (g + 1) = z.2.1 (g + 1) ∧ ∀ d, d ≠ c → ∀ i, i < 16 → z1.2.1 g (16 * d + i) = z.2.1 g (16 * d + i)
section XBD
variable {X : (Nat → Nat → Int32) → Prop} {z : ow_MS}
theorem xq_braid {x : Int32} {t : Nat} (h : gI X z) (ht : t ≤ 400) (h11 : z.1 11 = nI t) : Te (fun K => qe_X13_braid K x z) (fun r => (rFl X z 1 r ∧ ¬ (∃ n, 2 ≤ n ∧ n ≤ 5 ∧ x = nI n) ∨ ∃ n, 2 ≤ n ∧ n ≤ 5 ∧ x = nI n ∧ (rFl X z 2 r ∧ (∀ c, c < 20 → z.2.1 96 c ≠ 0) ∨ ∃ c, lfB (z.2.1 96) c ∧ (gI X r.2 ∧ r.2.1 1 = 0 ∧ r.2.1 11 = 0 ∧ fr (fun g => g = 1 ∨ g = 11 ∨ 94 ≤ g ∧ g ≤ 96) z r.2 ∧ (t ≤ 16 ∧ r.1 = nI c ∧ (∃ w, (∀ i, i < t → lwd n (z.2.1 10 i) (w i)) ∧ nwB 94 z r.2 c n t w) ∨ ∃ i, i < t ∧ i ≤ 16 ∧ (∀ j, j < i → ∃ w, lwd n (z.2.1 10 j) w) ∧ (i = 16 ∨ lbad n (z.2.1 10 i)) ∧ r.1 = -1 - nI i ∧ sbB 94 z r.2 c))))) := by
  let Q : Int32 × ow_MS → Prop := fun r => (rFl X z 1 r ∧ ¬ (∃ n, 2 ≤ n ∧ n ≤ 5 ∧ x = nI n) ∨ ∃ n, 2 ≤ n ∧ n ≤ 5 ∧ x = nI n ∧ (rFl X z 2 r ∧ (∀ c, c < 20 → z.2.1 96 c ≠ 0) ∨ ∃ c, lfB (z.2.1 96) c ∧ (gI X r.2 ∧ r.2.1 1 = 0 ∧ r.2.1 11 = 0 ∧ fr (fun g => g = 1 ∨ g = 11 ∨ 94 ≤ g ∧ g ≤ 96) z r.2 ∧ (t ≤ 16 ∧ r.1 = nI c ∧ (∃ w, (∀ i, i < t → lwd n (z.2.1 10 i) (w i)) ∧ nwB 94 z r.2 c n t w) ∨ ∃ i, i < t ∧ i ≤ 16 ∧ (∀ j, j < i → ∃ w, lwd n (z.2.1 10 j) w) ∧ (i = 16 ∨ lbad n (z.2.1 10 i)) ∧ r.1 = -1 - nI i ∧ sbB 94 z r.2 c))))
  have h1 := gI_1 (c := 0) h
  have c1 : ¬ (∃ n, 2 ≤ n ∧ n ≤ 5 ∧ x = nI n) → Tt (fun K k => q_X13_braid K k 1 x 0 0 0 0 0 0 0 0 (usF z 1 0)) Q := by
    intro hno
    refine u_X13_braid_1 ?_; unfold qm_X13_braid_1
    exact w_mono (w_failX (k := 1) h1 fr_1) (fun r hr => Or.inl ⟨hr, hno⟩)
  have no2 : x < 2 → ¬ (∃ n, 2 ≤ n ∧ n ≤ 5 ∧ x = nI n) := fun h9 ⟨n, n2, n5, e⟩ => by
    rw [e] at h9
    have := (nI_ltI (a := n) (b := 2) (by omega) (by omega)).mp h9
    omega
  have no5 : ¬ x ≤ 5 → ¬ (∃ n, 2 ≤ n ∧ n ≤ 5 ∧ x = nI n) := fun h9 ⟨n, n2, n5, e⟩ => by
    rw [e] at h9
    exact h9 ((nI_leI (a := n) (b := 5) (by omega) (by omega)).mpr n5)
  refine e_X13_braid ?_
  refine u_X13_braid_0 ?_; unfold qm_X13_braid_0
  refine w_wrF (w_if (fun h9 => c1 (no2 h9)) (fun h2 => w_if (fun h5 => ?_) (fun h9 => c1 (no5 h9))))
  obtain ⟨n, hn, rfl⟩ : ∃ n, n ≤ 5 ∧ x = nI n := by
    have h0 : ¬ x < 0 := fun h9 => h2 (Int32.lt_trans h9 (by decide))
    exact nI_of2 (M := 5) (n := 5) (by decide) h0 h5
  have hn2 : 2 ≤ n := by
    rcases Nat.lt_or_ge n 2 with h9 | h9
    · exact absurd (nI_lt h9 (by omega)) h2
    · exact h9
  refine w_freeBX h1.2.2.2.2.2.1 (fun h0 => w_ifT rfl (w_mono (w_failX (k := 2) h1 fr_1) (fun r hr => Or.inr ⟨n, hn2, hn, rfl, Or.inl ⟨hr, h0⟩⟩))) (fun c hlf => w_ifF (rn_neg1 (by have := hlf.1; omega)) ?_)
  have hc := hlf.1
  have hc0 := hlf.2.1
  have fin : ∀ {r}, (gI X r.2 ∧ r.2.1 1 = 0 ∧ r.2.1 11 = 0 ∧ fr (fun g => g = 1 ∨ g = 11 ∨ 94 ≤ g ∧ g ≤ 96) z r.2 ∧ (t ≤ 16 ∧ r.1 = nI c ∧ (∃ w, (∀ i, i < t → lwd n (z.2.1 10 i) (w i)) ∧ nwB 94 z r.2 c n t w) ∨ ∃ i, i < t ∧ i ≤ 16 ∧ (∀ j, j < i → ∃ w, lwd n (z.2.1 10 j) w) ∧ (i = 16 ∨ lbad n (z.2.1 10 i)) ∧ r.1 = -1 - nI i ∧ sbB 94 z r.2 c)) → Q r := fun hr => Or.inr ⟨n, hn2, hn, rfl, Or.inr ⟨c, hlf, hr⟩⟩
  have en1 : nI n - 1 = nI (n - 1) := pk_sub (b := 1) (by omega)
  let W : Nat → ow_MS → Prop := fun i y => fr (fun g => g = 94) (usF z 1 0) y ∧ (∀ d, d ≠ c → ∀ j, j < 16 → y.2.1 94 (16 * d + j) = (usF z 1 0).2.1 94 (16 * d + j)) ∧ ∀ j, j < i → ltr n (y.2.1 94 (16 * c + j)) ∧ lwd n (z.2.1 10 j) (y.2.1 94 (16 * c + j))
  have wI : ∀ {i : Nat} {y : ow_MS}, W i y → gI X y := fun hW => gI_br hW.1 (fun g hg => Or.inl (by omega)) (gBrs_wr h1.2.2.2.2.2.1 hc0 (hW.1 96 (by omega)).2.1 (hW.1 95 (by omega)).2.1 hW.2.1) h1
  have y11 : ∀ {i : Nat} {y : ow_MS}, W i y → y.1 11 = nI t := fun hW => by rw [(hW.1 11 (by omega)).1]; exact (show (usF z 1 0).1 11 = nI t from (usF_n9 (by decide)).trans h11)
  -- the end
  have fall : ∀ {i : Nat} {y y1 : ow_MS}, W i y → fr (fun g => g = 11 ∨ g = 95 ∨ g = 96) y y1 → fr (fun g => g = 1 ∨ g = 11 ∨ 94 ≤ g ∧ g ≤ 96) z y1 ∧ y1.1 1 = 0 := fun hW hf => ⟨fr_tr (fr_F (Or.inl rfl)) (fr_tr (fr_mono (fun g hg => by omega) hW.1) (fr_mono (fun g hg => by omega) hf)), by
    rw [(hf 1 (by omega)).1, (hW.1 1 (by omega)).1]
    exact po_usF_at⟩
  have l10 : ∀ (x4 : Int32) (i : Nat) (y : ow_MS), W i y → t ≤ i → i ≤ 16 → Tt (fun K k => q_X13_braid K k 10 (nI n) (nI c) (-1) x4 0 0 0 0 0 y) Q := by
    intro x4 i y hW t1 t2
    have hI := gI_t (t := 0) (x := 0) rfl (by omega) (wI hW)
    refine u_X13_braid_10 ?_; unfold qm_X13_braid_10
    refine w_rdF (y11 hW) (w_wrF (w_ifT rfl ?_))
    refine w_wrI ml95 rfl (by omega) (w_wrI ml96 rfl (by omega) (w_some ?_))
    have f3 : fr (fun g => g = 95 ∨ g = 96) (usF y 11 0) (usI (usI (usF y 11 0) 95 c (nI t)) 96 c (nI n)) := fr_I2 (fr_I (Or.inl rfl)) (Or.inr rfl)
    have f4 : fr (fun g => g = 11 ∨ g = 95 ∨ g = 96) y (usI (usI (usF y 11 0) 95 c (nI t)) 96 c (nI n)) := fr_tr (fr_F (Or.inl rfl)) (fr_mono (fun g hg => Or.inr hg) f3)
    have e4 : (usI (usI (usF y 11 0) 95 c (nI t)) 96 c (nI n)).2.1 94 = y.2.1 94 := by
      rw [po_usI_ot (by decide), po_usI_ot (by decide)]
      rfl
    have e11 : (usI (usI (usF y 11 0) 95 c (nI t)) 96 c (nI n)).1 11 = 0 := (show (usF y 11 0).1 11 = 0 from po_usF_at)
    have e5 := (hW.1 95 (by omega)).2.1
    have e6 := (hW.1 96 (by omega)).2.1
    refine fin ⟨gI_br f3 (fun g hg => Or.inl (by omega)) (gBrs_new hI.2.2.2.2.2.1 (c := c) (n := n) (l := t) ⟨hn2, hn, by omega, po_usI_at, rd_ot (by decide) po_usI_at, fun j hj => ?_⟩ (fun d hd => po_usI_ne hd) (fun d hd => ?_) (fun d hd j hj => ?_)) hI, (fall hW f4).2, e11, (fall hW f4).1, Or.inl ⟨by omega, rfl, fun j => y.2.1 94 (16 * c + j), fun j hj => (hW.2.2 j (by omega)).2, po_usI_at, rd_ot (by decide) po_usI_at, fun j hj => congrFun e4 _, fun d hd => ⟨?_, ?_, fun j hj => ?_⟩⟩⟩
    · rw [e4]
      exact (hW.2.2 j (by omega)).1
    · rw [po_usI_ot (by decide), po_usI_ne hd]
    · rw [po_usI_ot (by decide), po_usI_ot (by decide)]
    · show (usI (usI (usF y 11 0) 95 c (nI t)) 96 c (nI n)).2.1 96 d = _
      rw [po_usI_ne hd, po_usI_ot (by decide)]
      exact congrFun e6 d
    · show (usI (usI (usF y 11 0) 95 c (nI t)) 96 c (nI n)).2.1 95 d = _
      rw [po_usI_ot (by decide), po_usI_ne hd]
      exact congrFun e5 d
    · show (usI (usI (usF y 11 0) 95 c (nI t)) 96 c (nI n)).2.1 94 (16 * d + j) = _
      rw [e4]
      exact hW.2.1 d hd j hj
  have l10b : ∀ (x4 : Int32) (a : Nat) (y : ow_MS), W a y → a < t → a ≤ 16 → (a = 16 ∨ lbad n (z.2.1 10 a)) → Tt (fun K k => q_X13_braid K k 10 (nI n) (nI c) (nI a) x4 0 0 0 0 0 y) Q := by
    intro x4 a y hW t1 t2 hbad
    have hI := gI_t (t := 0) (x := 0) rfl (by omega) (wI hW)
    have f4 : fr (fun g => g = 11 ∨ g = 95 ∨ g = 96) y (usF y 11 0) := fr_F (Or.inl rfl)
    refine u_X13_braid_10 ?_; unfold qm_X13_braid_10
    refine w_rdF (y11 hW) (w_wrF (w_ifF (rn_neg1 (by omega)) (w_some (fin ⟨hI, (fall hW f4).2, po_usF_at, (fall hW f4).1, Or.inr ⟨a, t1, t2, fun j hj => ⟨_, (hW.2.2 j hj).2⟩, hbad, rfl, ?_⟩⟩))))
    exact ⟨(hW.1 96 (by omega)).2.1, (hW.1 95 (by omega)).2.1, fun d hd j hj => hW.2.1 d hd j hj⟩
  have bad : ∀ (i a : Nat) (y : ow_MS), W a y → a < t → a ≤ 16 → (a = 16 ∨ lbad n (z.2.1 10 a)) → Tt (fun K k9 => q_X13_braid K k9 2 (nI n) (nI c) (nI a) (nI i) 0 0 0 0 0 y) Q := by
    intro i a y hW t1 t2 hb
    have e10 := l10b (nI i) a y hW t1 t2 hb
    refine u_X13_braid_2 ?_; unfold qm_X13_braid_2
    exact w_rdF (y11 hW) (w_if (fun _ => e10) (fun _ => w_ifF (rn_neg1 (by omega)) e10))
  have main : ∀ (k i : Nat) (y : ow_MS), i + k = 16 → W i y → Tt (fun K k9 => q_X13_braid K k9 2 (nI n) (nI c) (-1) (nI i) 0 0 0 0 0 y) Q := by
    intro k
    induction k using Nat.strongRecOn with
    | ind k ih =>
      intro i y hi hW
      refine u_X13_braid_2 ?_; unfold qm_X13_braid_2
      refine w_rdF (y11 hW) (w_le (by omega) (by omega) (fun hti => l10 (nI i) i y hW hti (by omega)) (fun hti => w_ifT rfl (w_rdI ml10 rfl (by omega) rfl (w_rdI ml10 rfl (by omega) rfl ?_))))
      obtain ⟨v, hv⟩ : ∃ v, v = y.2.1 10 i := ⟨_, rfl⟩
      rw [← hv]
      have hvz : v = z.2.1 10 i := by rw [hv, (hW.1 10 (by omega)).2.1]; rfl
      have c7 : ∀ x5 x6 x7 : Int32, (i = 16 ∨ lbad n (z.2.1 10 i)) → Tt (fun K k9 => q_X13_braid K k9 7 (nI n) (nI c) (-1) (nI i) x5 x6 x7 0 0 y) Q := by
        intro x5 x6 x7 hb
        refine u_X13_braid_7 ?_; unfold qm_X13_braid_7
        refine u_X13_braid_9 ?_; unfold qm_X13_braid_9
        rw [nI_1]
        exact bad (i + 1) i y hW (by omega) (by omega) hb
      have c8 : ∀ (x5 x6 x7 t0 : Int32), i < 16 → ltr n t0 → lwd n (z.2.1 10 i) t0 → Tt (fun K k9 => q_X13_braid K k9 8 (nI n) (nI c) (-1) (nI i) x5 x6 x7 t0 (nI (16 * c + i)) y) Q := by
        intro x5 x6 x7 t0 hi16 hl hlw
        refine u_X13_braid_8 ?_; unfold qm_X13_braid_8
        refine w_wrI ml94 rfl (by omega) ?_
        refine u_X13_braid_9 ?_; unfold qm_X13_braid_9
        rw [nI_1]
        refine ih (k - 1) (by omega) (i + 1) _ (by omega) ⟨fr_I2 hW.1 rfl, fun d hd j hj => rd_ne (by omega) (hW.2.1 d hd j hj), fun j hj => ?_⟩
        by_cases hji : j = i
        · rw [hji, po_usI_at]
          exact ⟨hl, hlw⟩
        · rw [po_usI_ne (by omega)]
          exact hW.2.2 j (by omega)
      have c5 : ∀ x5 x6 : Int32, lbad n (z.2.1 10 i) → Tt (fun K k9 => q_X13_braid K k9 5 (nI n) (nI c) (-1) (nI i) x5 x6 0 0 0 y) Q := by
        intro x5 x6 hb
        refine u_X13_braid_5 ?_; unfold qm_X13_braid_5
        refine u_X13_braid_6 ?_; unfold qm_X13_braid_6
        exact w_if (fun _ => c7 _ _ _ (Or.inr hb)) (fun _ => w_ifT rfl (c7 _ _ _ (Or.inr hb)))
      have c4 : ∀ x5 x6 : Int32, x5 = v - 97 → x6 = v - 65 → ((∃ a, a < n - 1 ∧ x5 = nI a) ∨ x5 < 0 ∧ ∃ a, a < n - 1 ∧ x6 = nI a) → Tt (fun K k9 => q_X13_braid K k9 4 (nI n) (nI c) (-1) (nI i) x5 x6 0 0 0 y) Q := by
        intro x5 x6 hx5 hx6 hok
        refine u_X13_braid_4 ?_; unfold qm_X13_braid_4
        refine u_X13_braid_6 ?_; unfold qm_X13_braid_6
        rw [show (16 : Int32) * nI c = nI (16 * c) from pk_mul 16 c, nI_add]
        refine w_eqN (b := 16) (by omega) (by omega) (fun e16 => c7 _ _ _ (Or.inl e16)) (fun h16 => w_ifF (by decide) ?_)
        rcases hok with ⟨a, ha, e⟩ | ⟨h0, a, ha, e⟩
        · rw [e, nI_1]
          exact w_ifF (nI_pos (by omega)) (c8 _ _ _ _ (by omega) ⟨a, by omega, Or.inl rfl⟩ (Or.inl ⟨a, ha, by rw [← hvz, ← hx5, e], rfl⟩))
        · rw [e]
          exact w_ifT h0 (c8 _ _ _ _ (by omega) ⟨a, by omega, Or.inr rfl⟩ (Or.inr ⟨fun ⟨a', q1, q2⟩ => by rw [← hvz, ← hx5] at q2; rw [q2] at h0; exact nI_pos (by omega) h0, a, ha, by rw [← hvz, ← hx6, e], rfl⟩))
      rw [en1]
      have c3 : ¬ in9 (v - 97) (n - 1) → Tt (fun K k9 => q_X13_braid K k9 3 (nI n) (nI c) (-1) (nI i) (v - 97) (v - 65) 0 0 0 y) Q := by
        intro hna
        refine u_X13_braid_3 ?_; unfold qm_X13_braid_3
        rw [en1]
        refine w_if (fun h9 => c5 _ _ (by rw [← hvz]; exact ⟨hna, fun h8 => ((in9_iff (by omega)).mp h8).1 h9⟩)) (fun h0 => w_if (fun h9 => c5 _ _ (by rw [← hvz]; exact ⟨hna, fun h8 => absurd ((in9_iff (by omega)).mp h8).2 (Int32.not_lt.mpr h9)⟩)) (fun h1 => c4 _ _ rfl rfl (Or.inr ?_)))
        obtain ⟨a, ha, e⟩ : ∃ a, a < n - 1 ∧ v - 65 = nI a := by
          rcases pk_ix (v - 65) (n := n - 1) (by omega) with h9 | h9 | h9
          · exact absurd h9 h0
          · exact absurd h9 h1
          · exact h9
        refine ⟨?_, a, ha, e⟩
        have ev : v = nI (a + 65) := by
          have : v = v - 65 + 65 := (Int32.sub_add_cancel v 65).symm
          rw [this, e]
          exact nI_add a 65
        rw [ev]
        exact pk_sneg (b := 97) (by omega) (by omega)
      refine w_if (fun h9 => c3 (fun h8 => ((in9_iff (by omega)).mp h8).1 h9)) (fun h0 => w_if (fun h1 => c4 _ _ rfl rfl (Or.inl ?_)) (fun h9 => c3 (fun h8 => h9 ((in9_iff (by omega)).mp h8).2)))
      exact (in9_iff (by omega)).mpr ⟨h0, h1⟩
  exact main 16 0 (usF z 1 0) (by omega) ⟨fr_rf, fun d hd j hj => rfl, fun j hj => by omega⟩
end XBD
end
section
/-! 99zzzzzzzzzza.xbe -/
/-! exact calls: braid, of the class -/
section XBE
variable {vl : Nat → Nat} {y : ow_MS} {x x' : Int32}
theorem xc_readBraid {t n d : Nat} (ht : y.1 11001 = nI t) (h400 : t ≤ 400) (hn : 2 ≤ n) (hn5 : n ≤ 5) (hd : d < 20) : Te (fun K => ce_X9_readBraid vl K 11000 (nI n) 13 (nI (16 * d)) y) (fun r => fr (fun g => g = 13) y r.2 ∧ (∀ k, k < 16 * d ∨ 16 * d + 16 ≤ k → r.2.2.1 13 k = y.2.1 13 k) ∧ (r.1 = -1 ∧ t ≤ 16 ∧ wdB r.2 d n t ∧ (∀ j, j < t → lwd n (y.2.1 11002 j) (r.2.2.1 13 (16 * d + j))) ∨ ∃ b, b < t ∧ b ≤ 16 ∧ r.1 = nI b ∧ (∀ j, j < b → ∃ w, lwd n (y.2.1 11002 j) w) ∧ (b = 16 ∨ lbad n (y.2.1 11002 b)))) := by
  let Q : Int32 × ow_MS → Prop := fun r => fr (fun g => g = 13) y r.2 ∧ (∀ k, k < 16 * d ∨ 16 * d + 16 ≤ k → r.2.2.1 13 k = y.2.1 13 k) ∧ (r.1 = -1 ∧ t ≤ 16 ∧ wdB r.2 d n t ∧ (∀ j, j < t → lwd n (y.2.1 11002 j) (r.2.2.1 13 (16 * d + j))) ∨ ∃ b, b < t ∧ b ≤ 16 ∧ r.1 = nI b ∧ (∀ j, j < b → ∃ w, lwd n (y.2.1 11002 j) w) ∧ (b = 16 ∨ lbad n (y.2.1 11002 b)))
  have c1 : ∀ (k i : Nat) (z : ow_MS), i + k = t → i ≤ 16 → fr (fun g => g = 13) y z → (∀ k, k < 16 * d ∨ 16 * d + 16 ≤ k → z.2.1 13 k = y.2.1 13 k) → wdB z d n i → (∀ j, j < i → lwd n (y.2.1 11002 j) (z.2.1 13 (16 * d + j))) → Tt (fun K t => c_X9_readBraid vl K t 1 (nI n) (nI (16 * d)) (nI i) 0 0 11000 13 z) Q := by
    intro k
    induction k with
    | zero =>
      intro i z hi h16 hf hk hw hl
      have e : i = t := by omega
      subst e
      refine u_X9_readBraid_1 ?_; unfold cm_X9_readBraid_1
      exact w_rdF ((hf 11001 (by omega)).1.trans ht) (w_leT (by omega) (by omega) (w_some ⟨hf, hk, Or.inl ⟨rfl, h16, hw, hl⟩⟩))
    | succ k ih =>
      intro i z hi h16 hf hk hw hl
      have c3 : ∀ (a : Int) (x5 x6 : Int32), 1 ≤ a.natAbs → a.natAbs < n → i < 16 → lwd n (y.2.1 11002 i) (iI a) → Tt (fun K t => c_X9_readBraid vl K t 3 (nI n) (nI (16 * d)) (nI i) x5 x6 11000 13 (usI z 13 (16 * d + i) (iI a))) Q := by
        intro a x5 x6 a1 a2 hi16 hlw
        refine u_X9_readBraid_3 ?_; unfold cm_X9_readBraid_3
        rw [nI_1]
        refine ih (i + 1) _ (by omega) (by omega) (fr_I2 hf rfl) (fun j hj => rd_ne (by omega) (hk j hj)) (fun j hj => ?_) (fun j hj => ?_)
        · by_cases e : j = i
          · rw [e]
            exact ⟨a, po_usI_at, a1, a2⟩
          · obtain ⟨a', q1, q2, q3⟩ := hw j (by omega)
            exact ⟨a', rd_ne (by omega) q1, q2, q3⟩
        · by_cases e : j = i
          · rw [e, po_usI_at]
            exact hlw
          · rw [po_usI_ne (by omega)]
            exact hl j (by omega)
      have etp : z.2.1 11002 i = y.2.1 11002 i := congrFun (hf 11002 (by omega)).2.1 i
      have fault : (i = 16 ∨ lbad n (y.2.1 11002 i)) → Tt (fun _ _ => some (nI i, z)) Q := fun hb => w_some ⟨hf, hk, Or.inr ⟨i, by omega, h16, rfl, fun j hj => ⟨_, hl j hj⟩, hb⟩⟩
      have em1 : nI n - 1 = nI (n - 1) := pk_sub (b := 1) (by omega)
      have c2 : ∀ (x5 x6 : Int32), x6 = y.2.1 11002 i - 65 → ¬ in9 (y.2.1 11002 i - 97) (n - 1) → i < 16 → Tt (fun K t => c_X9_readBraid vl K t 2 (nI n) (nI (16 * d)) (nI i) x5 x6 11000 13 z) Q := by
        intro x5 x6 hx6 hna hi16
        refine u_X9_readBraid_2 ?_; unfold cm_X9_readBraid_2
        rw [em1, nI_add]
        refine w_if (fun h9 => fault (Or.inr ⟨hna, fun h8 => by rw [← hx6] at h8; exact ((in9_iff (by omega)).mp h8).1 h9⟩)) (fun h0 => w_if (fun h9 => fault (Or.inr ⟨hna, fun h8 => by rw [← hx6] at h8; exact absurd ((in9_iff (by omega)).mp h8).2 (Int32.not_lt.mpr h9)⟩)) (fun h1 => ?_))
        obtain ⟨s, s1, rfl⟩ := ltr_of hn hn5 h0 h1
        have ea : -(nI s + 1) = iI (-((s : Int) + 1)) := by
          rw [nI_1, nI_iI, (lt_a (a := ((s + 1 : Nat) : Int)) (by omega)).2.2]
          congr 1
        rw [ea]
        refine w_ctB ch_13 rfl (show 16 * d + i < 320 by omega) ?_
        rw [(lt_a (a := -((s : Int) + 1)) (by omega)).1]
        refine c3 _ _ _ (by omega) (by omega) hi16 (Or.inr ⟨hna, s, s1, hx6.symm, ?_⟩)
        rw [← ea, ← Int32.zero_sub]
        exact i32_a (nI s)
      refine u_X9_readBraid_1 ?_; unfold cm_X9_readBraid_1
      rw [em1, nI_add]
      refine w_rdF ((hf 11001 (by omega)).1.trans ht) (w_leF (by omega) (by omega) (w_crI ch_11002 rfl (show i < 400 by omega) rfl (w_crI ch_11002 rfl (show i < 400 by omega) rfl (w_lt (b := 16) (by omega) (by omega) (fun hi16 => w_if (fun h9 => c2 _ _ (by rw [etp]) (fun h8 => by rw [← etp] at h8; exact ((in9_iff (by omega)).mp h8).1 h9) hi16) (fun h0 => w_if (fun h9 => c2 _ _ (by rw [etp]) (fun h8 => by rw [← etp] at h8; exact absurd ((in9_iff (by omega)).mp h8).2 (Int32.not_lt.mpr h9)) hi16) (fun h1 => ?_))) (fun h9 => fault (Or.inl (by omega)))))))
      obtain ⟨s, s1, es⟩ := ltr_of hn hn5 h0 h1
      rw [es]
      have ea : nI s + 1 = iI ((s : Int) + 1) := by
        rw [nI_1, nI_iI]
        congr 1
      rw [ea]
      refine w_ctB ch_13 rfl (show 16 * d + i < 320 by omega) ?_
      rw [(lt_a (a := (s : Int) + 1) (by omega)).1]
      refine c3 _ _ _ (by omega) (by omega) hi16 (Or.inl ⟨s, s1, by rw [← etp]; exact es, ?_⟩)
      rw [← ea, nI_1]
  refine e_X9_readBraid ?_
  refine u_X9_readBraid_0 ?_; unfold cm_X9_readBraid_0
  exact c1 t 0 y (by omega) (by omega) fr_rf (fun _ _ => rfl) (fun i hi => absurd hi (Nat.not_lt_zero _)) (fun i hi => absurd hi (Nat.not_lt_zero _))
theorem xc_braid {t : Nat} (hB : brC y) (ht4 : t ≤ 400) (ht : y.1 11001 = nI t) : Te (fun K => ce_X11_braid vl K 0 x y) (fun r => (r.1 = 2 ∧ r.2.2 = y ∧ ¬ (∃ n, 2 ≤ n ∧ n ≤ 5 ∧ x = nI n) ∨ ∃ n, 2 ≤ n ∧ n ≤ 5 ∧ x = nI n ∧ (r.1 = 3 ∧ r.2.2 = y ∧ (∀ c, c < 20 → y.2.1 15 c ≠ 0) ∨ r.1 = 0 ∧ ∃ c, lfB (y.2.1 15) c ∧ (brC r.2.2 ∧ r.2.2.1 11001 = 0 ∧ fr bdP y r.2.2 ∧ (t ≤ 16 ∧ r.2.1 = nI c ∧ (∃ w, (∀ i, i < t → lwd n (y.2.1 11002 i) (w i)) ∧ nwB 13 y r.2.2 c n t w) ∨ ∃ i, i < t ∧ i ≤ 16 ∧ (∀ j, j < i → ∃ w, lwd n (y.2.1 11002 j) w) ∧ (i = 16 ∨ lbad n (y.2.1 11002 i)) ∧ r.2.1 = -1 - nI i ∧ sbB 13 y r.2.2 c))))) := by
  refine e_X11_braid ?_; unfold cm_X11_braid_0
  have no2 : x < 2 → ¬ (∃ n, 2 ≤ n ∧ n ≤ 5 ∧ x = nI n) := fun h9 ⟨n, n2, n5, e⟩ => by
    rw [e] at h9
    have := (nI_ltI (a := n) (b := 2) (by omega) (by omega)).mp h9
    omega
  have no5 : ¬ x ≤ 5 → ¬ (∃ n, 2 ≤ n ∧ n ≤ 5 ∧ x = nI n) := fun h9 ⟨n, n2, n5, e⟩ => by
    rw [e] at h9
    exact h9 ((nI_leI (a := n) (b := 5) (by omega) (by omega)).mpr n5)
  refine w_if (fun h9 => w_some (Or.inl ⟨rfl, rfl, no2 h9⟩)) (fun h2 => w_if (fun h5 => ?_) (fun h9 => w_some (Or.inl ⟨rfl, rfl, no5 h9⟩)))
  have h0 : ¬ x < 0 := fun h9 => h2 (Int32.lt_trans h9 (by decide))
  obtain ⟨n, n31, rfl⟩ := nI_of h0
  have hn5 : n ≤ 5 := (nI_leI n31 (by omega : 5 < 2 ^ 31)).mp h5
  have hn2 : 2 ≤ n := by
    apply Nat.le_of_not_lt
    exact fun h9 => h2 (nI_lt (b := 2) h9 (by omega))
  refine w_tc1 tc_freeBraid ?_ ?_
  · rintro v y1 ⟨h3, rfl⟩
    rcases h3 with ⟨d, hd, -, rfl, e0, eall⟩ | h3
    · refine w_rdF ht ?_
      rw [show nI d * 16 = nI (16 * d) from by rw [show (16 : Int32) = nI 16 from rfl, pk_mul, Nat.mul_comm]]
      refine w_cs1 (xc_readBraid ht ht4 hn2 hn5 hd) ?_
      rintro w z ⟨f1, k1, e1⟩
      dsimp only at f1 k1 e1
      have f2 : fr bdP y1 (usF z (0 + 11000 + 1) 0) := fr_F2 (fr_mono (fun g hg => by rw [hg]; unfold bdP; omega) f1) (by unfold bdP; omega)
      have t2 : (usF z (0 + 11000 + 1) 0).1 11001 = 0 := po_usF_at
      have z4 : (usF z (0 + 11000 + 1) 0).2.1 14 = y1.2.1 14 := (f1 14 (by omega)).2.1
      have z5 : (usF z (0 + 11000 + 1) 0).2.1 15 = y1.2.1 15 := (f1 15 (by omega)).2.1
      refine w_wrF (w_if (fun ew => ?_) (fun new => ?_))
      · rcases e1 with ⟨-, t16, hw, hl⟩ | ⟨b, b0, b1, b2, -⟩
        · refine w_ctI ch_14 rfl hd (w_ctI ch_15 rfl hd (w_some (Or.inr ⟨n, hn2, hn5, rfl, Or.inr ⟨rfl, d, ⟨hd, e0, eall⟩, ?_, t2, fr_I2 (fr_I2 f2 (by unfold bdP; omega)) (by unfold bdP; omega), Or.inl ⟨t16, rfl, _, hl, po_usI_at, rd_ot (by omega) po_usI_at, fun j hj => rd_ot (by omega) (rd_ot (by omega) rfl), fun e he => ⟨rd_ne he (rd_ot (by omega) (congrFun z5 e)), rd_ot (by omega) (rd_ne he (congrFun z4 e)), fun j hj => rd_ot (by omega) (rd_ot (by omega) (k1 _ (by omega)))⟩⟩⟩⟩)))
          refine brC_put (n := n) (l := t) hd hB (fun k hk => rd_ot (by omega) (rd_ot (by omega) (k1 k hk))) (fun k hk => rd_ot (by omega) (rd_ne hk (congrFun z4 k))) (fun k hk => rd_ne hk (rd_ot (by omega) (congrFun z5 k))) ⟨hn5, by omega⟩ po_usI_at (fun _ => ⟨t16, rd_ot (by omega) po_usI_at, fun i hi => ?_⟩)
          obtain ⟨a, a1, a2, a3⟩ := hw i hi
          exact ⟨a, rd_ot (by omega) (rd_ot (by omega) a1), a2, a3⟩
        · rw [b2] at ew
          exact absurd ew (nI_nm1 (by omega))
      · rcases e1 with ⟨q, -⟩ | ⟨b, b0, b1, b2, b3, b4⟩
        · exact absurd q new
        · refine w_some (Or.inr ⟨n, hn2, hn5, rfl, Or.inr ⟨rfl, d, ⟨hd, e0, eall⟩, ?_, t2, f2, Or.inr ⟨b, b0, b1, b3, b4, by rw [b2], z5, z4, fun e he j hj => k1 _ (by omega)⟩⟩⟩)
          exact brC_put (n := 0) (l := 0) hd hB k1 (fun k _ => congrFun z4 k) (fun k _ => congrFun z5 k) ⟨by omega, by omega⟩ (by rw [z5]; exact e0) (fun h9 => absurd h9 (by omega))
    · exact absurd (show (0 : Nat) = 3 from h3.1) (by decide)
  · rintro a v y1 ha ⟨h3, rfl⟩
    rcases h3 with ⟨d, -, q, -⟩ | h3
    · exact absurd q ha
    · exact w_some (Or.inr ⟨n, hn2, hn5, rfl, Or.inl ⟨h3.1, rfl, h3.2⟩⟩)
end XBE
end
section
/-! 99zzzzzzzzzzb.xbo4 -/
/-! both sides: braid, feed, end -/
section XB4
variable {X : (Nat → Nat → Int32) → Prop} {z y : ow_MS} {vl : Nat → Nat} {x : Int32}
theorem lwd_uni {n : Nat} {v w w' : Int32} (hn : n ≤ 5) (h : lwd n v w) (h' : lwd n v w') : w = w' := by
  rcases h with ⟨a, a1, a2, a3⟩ | ⟨a0, a, a1, a2, a3⟩ <;> rcases h' with ⟨b, b1, b2, b3⟩ | ⟨b0, b, b1, b2, b3⟩
  · have e : a = b := nI_inj9 (by omega) (by omega) (a2.symm.trans b2)
    rw [a3, b3, e]
  · exact absurd ⟨a, a1, a2⟩ b0
  · exact absurd ⟨b, b1, b2⟩ a0
  · have e : a = b := nI_inj9 (by omega) (by omega) (a2.symm.trans b2)
    rw [a3, b3, e]
theorem lwd_bad {n : Nat} {v w : Int32} (h : lwd n v w) (hb : lbad n v) : False := by
  rcases h with ⟨a, a1, a2, -⟩ | ⟨-, a, a1, a2, -⟩
  · exact hb.1 ⟨a, a1, a2⟩
  · exact hb.2 ⟨a, a1, a2⟩
theorem relB_sb {z1 y1 : ow_MS} {c : Nat} (h : relB z y) (h0 : z.2.1 96 c = 0) (hz : sbB 94 z z1 c) (hy : sbB 13 y y1 c) : relB z1 y1 := fun b hb => by
  obtain ⟨h1, h2⟩ := h b hb
  have e6 : z1.2.1 96 = z.2.1 96 := hz.1
  have e5 : z1.2.1 95 = z.2.1 95 := hz.2.1
  have f6 : y1.2.1 15 = y.2.1 15 := hy.1
  have f5 : y1.2.1 14 = y.2.1 14 := hy.2.1
  rw [e6, e5, f6, f5]
  refine ⟨h1, fun h9 => ?_⟩
  obtain ⟨k1, k2⟩ := h2 h9
  refine ⟨k1, fun l hl e i hi => ?_⟩
  have hbc : b ≠ c := fun e9 => h9 (by rw [e9]; exact h0)
  rw [hz.2.2 b hbc i (by omega), hy.2.2 b hbc i (by omega)]
  exact k2 l hl e i hi
theorem b_braid (hz : gI X z) (hB : brC y) (h : relB z y) (hT : relT z y) : Te (fun K => qe_X13_braid K x z) (fun rr => Te (fun K => ce_X11_braid vl K 0 x y) (fun rc => relB rr.2 rc.2.2 ∧ relT rr.2 rc.2.2 ∧ gI X rr.2 ∧ brC rc.2.2 ∧ fr (fun g => rPs g ∨ g = 11 ∨ 94 ≤ g ∧ g ≤ 96) z rr.2 ∧ fr bdP y rc.2.2 ∧ ansI [(1, 2), (2, 3)] rr rc)) := by
  obtain ⟨t, t1, t2, t3, t4⟩ := id hT
  refine te_two (xq_braid hz t1 t2) (xc_braid hB t1 t3) (fun rr rc hr hc => ?_)
  have fail : ∀ {j k : Nat}, rFl X z j rr → (j, k) ∈ [(1, 2), (2, 3)] → rc.1 = k → rc.2.2 = y → relB rr.2 rc.2.2 ∧ relT rr.2 rc.2.2 ∧ gI X rr.2 ∧ brC rc.2.2 ∧ fr (fun g => rPs g ∨ g = 11 ∨ 94 ≤ g ∧ g ≤ 96) z rr.2 ∧ fr bdP y rc.2.2 ∧ ansI [(1, 2), (2, 3)] rr rc := fun {j k} hf hm e1 e2 => by
    have e11 := (hf.2.2 11 (by unfold rPs rSc; omega)).1
    have e10 := (hf.2.2 10 (by unfold rPs rSc; omega)).2.1
    exact ⟨by rw [e2]; exact relB_fail h hf, ⟨t, t1, by rw [e11]; exact t2, by rw [e2]; exact t3, fun k hk => by rw [e10, e2]; exact t4 k hk⟩, hf.1, by rw [e2]; exact hB, fr_mono (fun g hg => Or.inl hg) hf.2.2, by rw [e2]; exact fr_rf, Or.inr ⟨j, k, hm, hf.2.1, e1⟩⟩
  rcases hr with ⟨r1, r2⟩ | ⟨n, n2, n5, n3, hr⟩
  · rcases hc with ⟨c1, c2, -⟩ | ⟨n, n2, n5, n3, -⟩
    · exact fail r1 (by simp) c1 c2
    · exact absurd ⟨n, n2, n5, n3⟩ r2
  · rcases hc with ⟨-, -, c3⟩ | ⟨n', n2', n5', n3', hc⟩
    · exact absurd ⟨n, n2, n5, n3⟩ c3
    · have en : n = n' := nI_inj9 (by omega) (by omega) (n3.symm.trans n3')
      subst en
      rcases hr with ⟨r1, r2⟩ | ⟨c, r0, r1, r2, r3, r4, hr⟩
      · rcases hc with ⟨c1, c2, -⟩ | ⟨-, c, c1, -⟩
        · exact fail r1 (by simp) c1 c2
        · exact absurd ((h c c1.1).1.trans c1.2.1) (r2 c c1.1)
      · rcases hc with ⟨-, -, c3⟩ | ⟨c0, c', c1, c2, c3, c4, hc⟩
        · exact absurd ((h c r0.1).1.symm.trans r0.2.1) (c3 c r0.1)
        · have ec := lfB_uni (fun b hb => (h b hb).1) r0 c1
          subst ec
          have hT0 : relT rr.2 rc.2.2 := ⟨0, by omega, r3, c3, fun k hk => by omega⟩
          have hfr : fr (fun g => rPs g ∨ g = 11 ∨ 94 ≤ g ∧ g ≤ 96) z rr.2 := fr_mono (fun g hg => by
            rcases hg with hg | hg
            · exact Or.inl (Or.inl hg)
            · exact Or.inr hg) r4
          rcases hr with ⟨p1, p2, w, p3, p4⟩ | ⟨i, p1, p2, p3, p4, p5, p6⟩
          · rcases hc with ⟨q1, q2, w', q3, q4⟩ | ⟨i, q1, q2, q3, q4, q5, q6⟩
            · refine ⟨relB_new h p1 p4 q4 (fun i hi => lwd_uni n5 (p3 i hi) ?_), hT0, r1, c2, hfr, c4, Or.inl ⟨r2, c0, p2.trans q2.symm⟩⟩
              rw [t4 i hi]
              exact q3 i hi
            · exfalso
              rcases q4 with q4 | q4
              · omega
              · rw [← t4 i q1] at q4
                exact lwd_bad (p3 i q1) q4
          · rcases hc with ⟨q1, q2, w', q3, q4⟩ | ⟨j, q1, q2, q3, q4, q5, q6⟩
            · exfalso
              rcases p4 with p4 | p4
              · omega
              · rw [t4 i p1] at p4
                exact lwd_bad (q3 i p1) p4
            · have eij : i = j := by
                rcases Nat.lt_trichotomy i j with q | q | q
                · exfalso
                  obtain ⟨w, hw⟩ := q3 i q
                  rcases p4 with p4 | p4
                  · omega
                  · rw [t4 i p1] at p4
                    exact lwd_bad hw p4
                · exact q
                · exfalso
                  obtain ⟨w, hw⟩ := p3 j q
                  rcases q4 with q4 | q4
                  · omega
                  · rw [← t4 j q1] at q4
                    exact lwd_bad hw q4
              subst eij
              exact ⟨relB_sb h r0.2.1 p6 q6, hT0, r1, c2, hfr, c4, Or.inl ⟨r2, c0, p5.trans q5.symm⟩⟩
theorem b_feed {a b c d e : Int32} (hz : gI X z) (hT : relT z y) : Te (fun K => qe_X13_feed K a b c d e z) (fun rr => Te (fun K => ce_X11_feed vl K 0 a b c d e y) (fun rc => relT rr.2 rc.2.2 ∧ gI X rr.2 ∧ fr (fun g => rPs g ∨ g = 10 ∨ g = 11) z rr.2 ∧ fr tpP y rc.2.2 ∧ ansI [(1, 3)] rr rc)) := by
  obtain ⟨t, t1, t2, t3, t4⟩ := id hT
  refine te_two (xq_feed hz t1 t2) (tc_feed t3 t1) (fun rr rc hr hc => ?_)
  obtain ⟨k1, k2⟩ := feed_jn t1 t2 t3 t4 hr hc
  have hg : gI X rr.2 ∧ fr (fun g => rPs g ∨ g = 10 ∨ g = 11) z rr.2 := by
    rcases hr with ⟨-, -, r3, -, -, -, -, r8⟩ | ⟨-, r1, -, r3⟩
    · exact ⟨r3, fr_mono (fun g hg => by rcases hg with hg | hg; exact Or.inl (Or.inl hg); exact Or.inr hg) r8⟩
    · exact ⟨r1, fr_mono (fun g hg => Or.inl hg) r3⟩
  refine ⟨k1, hg.1, hg.2, hc.2, ?_⟩
  rcases k2 with k2 | ⟨k3, k4⟩
  · exact Or.inl k2
  · exact Or.inr ⟨1, 3, by simp, k3, k4⟩
theorem b_end (hz : gI X z) (hT : relT z y) : Te (fun K => qe_X13_end K x z) (fun rr => Te (fun K => ce_X11_end vl K 0 x y) (fun rc => relT rr rc.2 ∧ gI X rr ∧ fr (fun g => rPs g ∨ g = 10 ∨ g = 11) z rr ∧ fr (fun q => q = 11001) y rc.2 ∧ (rr.1 1 = 0 ∧ rc.1 = 0 ∨ rr.1 1 = nI 1 ∧ rc.1 = 2))) := by
  obtain ⟨t, t1, t2, t3, t4⟩ := id hT
  refine te_two (xq_end hz t1 t2) (tc_end t3 t1) (fun rr rc hr hc => ?_)
  obtain ⟨k1, k2⟩ := end_jn t1 t2 t3 t4 hr hc
  have hg : gI X rr ∧ fr (fun g => rPs g ∨ g = 10 ∨ g = 11) z rr := by
    rcases hr with ⟨u, -, -, r3, -, -, -, r8⟩ | ⟨-, r1, -, r3⟩
    · exact ⟨r3, fr_mono (fun g hg => by rcases hg with hg | hg; exact Or.inl (Or.inl hg); exact Or.inr hg) r8⟩
    · exact ⟨r1, fr_mono (fun g hg => Or.inl hg) r3⟩
  exact ⟨k1, hg.1, hg.2, hc.2, k2⟩
end XB4
end
section
/-! 99zzzzzzzzzzc.xmv -/
/-! both sides: moved, summand (given that the lists are related) -/
/-- the rows of a list of diagrams: rows h, order h', their number at n -/
def rlR (h h' n m : Nat) (z : ow_MS) (Ms : List (rn_L × (Nat → Bool))) : Prop := Ms.length ≤ m ∧ z.1 n = nI Ms.length ∧ ∀ (k : Nat) A sg, Ms[k]? = some (A, sg) → ∃ j, j < Ms.length ∧ z.2.1 h' k = nI j ∧ A ≠ [] ∧ vRow z h (32 * j) A sg
def rlC (g p : Nat) (y : ow_MS) (Ms : List (rn_L × (Nat → Bool))) : Prop := ∃ Cs os, tbO y g p Cs os ∧ os.length = Ms.length ∧ ∀ (k : Nat) A sg, Ms[k]? = some (A, sg) → atC Cs os k = clC sg A
def okM (Ms : List (rn_L × (Nat → Bool))) : Prop := ∀ (k : Nat) A sg, Ms[k]? = some (A, sg) → A ≠ [] ∧ plnA A sg ∧ ∃ c, okL A c
section XMV
variable {X : (Nat → Nat → Int32) → Prop} {z : ow_MS} {St : plT}
theorem xr_keepRow {h o la d : Nat} {A : rn_L} {sg : Nat → Bool} (hI : gI X z) (hR : relR z St) (hlf : lstF St d) (hh : h ≠ 12) (hla : (mX.2 h).2.1 = la) (ha : la < 2 ^ 30) (ho : o + 32 ≤ la) (hM : vRow z h o A sg) (hne : A ≠ []) : Te (fun K => qe_X13_keepRow K h (nI o) z) (fun r => gI X r.2 ∧ r.1 = nI d ∧ fr (fun g => g = 12) z r.2 ∧ relR r.2 (upP St d (some (A, sg)))) := by
  let Q : Int32 × ow_MS → Prop := fun r => gI X r.2 ∧ r.1 = nI d ∧ fr (fun g => g = 12) z r.2 ∧ relR r.2 (upP St d (some (A, sg)))
  obtain ⟨r, hr, h1, h2⟩ := xr_free (z := z) hR
  have hd := hlf.1
  have e : r.1 = nI d := by
    rcases h2 with ⟨-, h3⟩ | ⟨d', h3, h4⟩
    · exact absurd hlf.2.1 (h3 d hd)
    · rw [h3, lst_uni2 h4 hlf]
  obtain ⟨hv, h5⟩ := hM
  have hl := hv.1
  have key : ∀ (j k : Nat) (z1 : ow_MS), k + j = (tk sg A).length + 1 → fr (fun g => g = 12) z z1 → (∀ i, i < k → z1.2.1 12 (32 * d + i) = z.2.1 h (o + i)) → (∀ i, i < 32 * d ∨ 32 * d + 32 ≤ i → z1.2.1 12 i = z.2.1 12 i) → Tt (fun K i => q_X13_keepRow K i 1 (nI o) (nI d) (nI k) h z1) Q := by
    intro j
    induction j with
    | zero =>
      intro k z1 hk hf hc hi
      have e0 : z1.2.1 h o = nI (tk sg A).length := by rw [(hf h hh).2.1]; exact hv.2.2.1
      have hrow : vRow z1 12 (32 * d) A sg := ⟨⟨hl, hv.2.1, ?_, fun i t hi9 => ?_⟩, h5⟩
      · refine u_X13_keepRow_1 ?_; unfold qm_X13_keepRow_1
        exact w_rdI hla rfl (by omega) e0 (w_ltT (by omega) (by omega) (w_some ⟨gI_rows hf (fun g hg => Or.inl hg) (gRows_put ⟨A, sg, hrow⟩ hi hI.2.1) hI, rfl, hf, relR_put hR hd hne hrow hi⟩))
      · have := hc 0 (by omega)
        rw [Nat.add_zero, Nat.add_zero] at this
        rw [this]
        exact hv.2.2.1
      · have := (List.getElem?_eq_some_iff.mp hi9).1
        rw [hc (i + 1) (by omega)]
        exact hv.2.2.2 i t hi9
    | succ j ih =>
      intro k z1 hk hf hc hi
      have e0 : z1.2.1 h o = nI (tk sg A).length := by rw [(hf h hh).2.1]; exact hv.2.2.1
      refine u_X13_keepRow_1 ?_; unfold qm_X13_keepRow_1
      rw [nI_add, show (32 : Int32) * nI d = nI (32 * d) from pk_mul 32 d, nI_add, nI_1]
      refine w_rdI hla rfl (by omega) e0 (w_ltF (by omega) (by omega) (w_rdI hla rfl (by omega) (by rw [(hf h hh).2.1]) (w_wrI ml12 rfl (by omega) ?_)))
      refine ih (k + 1) _ (by omega) (fr_I2 hf rfl) (fun i hi9 => ?_) (fun i hi9 => rd_ne (by omega) (hi i hi9))
      by_cases hik : i = k
      · rw [hik, po_usI_at]
      · exact rd_ne (by omega) (hc i (by omega))
  refine e_X13_keepRow ?_
  refine u_X13_keepRow_0 ?_; unfold qm_X13_keepRow_0
  refine w_cs1 (R := fun r => r = (nI d, z)) ⟨r, hr, Prod.ext e h1⟩ (fun a z1 e9 => ?_)
  cases e9
  exact key ((tk sg A).length + 1) 0 z (by omega) fr_rf (fun i hi => by omega) (fun i _ => rfl)
theorem xq_moved {k : Int32} {Ms : List (rn_L × (Nat → Bool))} (h : gI X z) (hR : relR z St) (hM : rlR 20 21 22 2700 z Ms) : Te (fun K => qe_X13_moved K k z) (fun r => (rFl X z 1 r ∧ ¬ in9 k Ms.length ∨ ∃ j A sg, Ms[j]? = some (A, sg) ∧ k = nI j ∧ (rFl X z 2 r ∧ allF St ∨ ∃ e, lstF St e ∧ r.1 = nI e ∧ gI X r.2 ∧ r.2.1 1 = 0 ∧ fr rPk z r.2 ∧ relR r.2 (upP St e (some (A, sg)))))) := by
  let Q : Int32 × ow_MS → Prop := fun r => (rFl X z 1 r ∧ ¬ in9 k Ms.length ∨ ∃ j A sg, Ms[j]? = some (A, sg) ∧ k = nI j ∧ (rFl X z 2 r ∧ allF St ∨ ∃ e, lstF St e ∧ r.1 = nI e ∧ gI X r.2 ∧ r.2.1 1 = 0 ∧ fr rPk z r.2 ∧ relR r.2 (upP St e (some (A, sg)))))
  have h1 := gI_1 (c := 0) h
  have hR1 := relR_1 (c := 0) hR
  obtain ⟨hm, hM1, hM2⟩ := hM
  have c1 : ¬ in9 k Ms.length → Tt (fun K i => q_X13_moved K i 1 k (usF z 1 0)) Q := by
    intro hno
    refine u_X13_moved_1 ?_; unfold qm_X13_moved_1
    exact w_mono (w_failX (k := 1) h1 fr_1) (fun r hr => Or.inl ⟨hr, hno⟩)
  have hk9 := in9_iff (x := k) (n := Ms.length) (by omega)
  have l2 : (usF z 1 0).1 22 = nI Ms.length := (usF_n9 (by decide)).trans hM1
  refine e_X13_moved ?_
  refine u_X13_moved_0 ?_; unfold qm_X13_moved_0
  refine w_wrF (w_if (fun h9 => c1 (fun h8 => (hk9.mp h8).1 h9)) (fun h0 => w_rdF l2 (w_if (fun h9 => ?_) (fun h9 => c1 (fun h8 => h9 (hk9.mp h8).2)))))
  obtain ⟨j, hj, rfl⟩ := hk9.mpr ⟨h0, h9⟩
  obtain ⟨C, hC⟩ : ∃ C, Ms[j]? = some C := ⟨_, List.getElem?_eq_getElem hj⟩
  obtain ⟨A, sg⟩ := C
  obtain ⟨i, i1, i2, i3, i4⟩ := hM2 j A sg hC
  have i4 : vRow (usF z 1 0) 20 (32 * i) A sg := i4
  refine w_freeX hR1 (fun h0 => w_ifT rfl (w_mono (w_failX (k := 2) h1 fr_1) (fun r hr => Or.inr ⟨j, A, sg, hC, rfl, Or.inl ⟨hr, h0⟩⟩))) (fun f hlf => w_ifF (rn_neg1 (by have := hlf.1; omega)) (w_rdI ml21 rfl (by omega) i2 ?_))
  rw [show (32 : Int32) * nI i = nI (32 * i) from pk_mul 32 i]
  refine w_cs1 (xr_keepRow h1 hR1 hlf (by omega) ml20 (by omega) (by omega) i4 i3) (fun a z1 ⟨q1, q2, q3, q4⟩ => w_some (Or.inr ⟨j, A, sg, hC, rfl, Or.inr ⟨f, hlf, q2, q1, ?_, fr_tr (fr_F (Or.inl rfl)) (fr_mono (fun g hg => Or.inr (Or.inl hg)) q3), q4⟩⟩))
  show z1.1 1 = 0
  rw [(q3 1 (by omega)).1]
  exact po_usF_at
theorem xq_summand {k : Int32} {Ms : List (rn_L × (Nat → Bool))} (h : gI X z) (hR : relR z St) (hM : rlR 35 39 36 16 z Ms) : Te (fun K => qe_X13_summand K k z) (fun r => (rFl X z 1 r ∧ ¬ in9 k Ms.length ∨ ∃ j A sg, Ms[j]? = some (A, sg) ∧ k = nI j ∧ (rFl X z 2 r ∧ allF St ∨ ∃ e, lstF St e ∧ r.1 = nI e ∧ gI X r.2 ∧ r.2.1 1 = 0 ∧ fr rPk z r.2 ∧ relR r.2 (upP St e (some (A, sg)))))) := by
  let Q : Int32 × ow_MS → Prop := fun r => (rFl X z 1 r ∧ ¬ in9 k Ms.length ∨ ∃ j A sg, Ms[j]? = some (A, sg) ∧ k = nI j ∧ (rFl X z 2 r ∧ allF St ∨ ∃ e, lstF St e ∧ r.1 = nI e ∧ gI X r.2 ∧ r.2.1 1 = 0 ∧ fr rPk z r.2 ∧ relR r.2 (upP St e (some (A, sg)))))
  have h1 := gI_1 (c := 0) h
  have hR1 := relR_1 (c := 0) hR
  obtain ⟨hm, hM1, hM2⟩ := hM
  have c1 : ¬ in9 k Ms.length → Tt (fun K i => q_X13_summand K i 1 k (usF z 1 0)) Q := by
    intro hno
    refine u_X13_summand_1 ?_; unfold qm_X13_summand_1
    exact w_mono (w_failX (k := 1) h1 fr_1) (fun r hr => Or.inl ⟨hr, hno⟩)
  have hk9 := in9_iff (x := k) (n := Ms.length) (by omega)
  have l2 : (usF z 1 0).1 36 = nI Ms.length := (usF_n9 (by decide)).trans hM1
  refine e_X13_summand ?_
  refine u_X13_summand_0 ?_; unfold qm_X13_summand_0
  refine w_wrF (w_if (fun h9 => c1 (fun h8 => (hk9.mp h8).1 h9)) (fun h0 => w_rdF l2 (w_if (fun h9 => ?_) (fun h9 => c1 (fun h8 => h9 (hk9.mp h8).2)))))
  obtain ⟨j, hj, rfl⟩ := hk9.mpr ⟨h0, h9⟩
  obtain ⟨C, hC⟩ : ∃ C, Ms[j]? = some C := ⟨_, List.getElem?_eq_getElem hj⟩
  obtain ⟨A, sg⟩ := C
  obtain ⟨i, i1, i2, i3, i4⟩ := hM2 j A sg hC
  have i4 : vRow (usF z 1 0) 35 (32 * i) A sg := i4
  refine w_freeX hR1 (fun h0 => w_ifT rfl (w_mono (w_failX (k := 2) h1 fr_1) (fun r hr => Or.inr ⟨j, A, sg, hC, rfl, Or.inl ⟨hr, h0⟩⟩))) (fun f hlf => w_ifF (rn_neg1 (by have := hlf.1; omega)) (w_rdI ml39 rfl (by omega) i2 ?_))
  rw [show (32 : Int32) * nI i = nI (32 * i) from pk_mul 32 i]
  refine w_cs1 (xr_keepRow h1 hR1 hlf (by omega) ml35 (by omega) (by omega) i4 i3) (fun a z1 ⟨q1, q2, q3, q4⟩ => w_some (Or.inr ⟨j, A, sg, hC, rfl, Or.inr ⟨f, hlf, q2, q1, ?_, fr_tr (fr_F (Or.inl rfl)) (fr_mono (fun g hg => Or.inr (Or.inl hg)) q3), q4⟩⟩))
  show z1.1 1 = 0
  rw [(q3 1 (by omega)).1]
  exact po_usF_at
end XMV
section XMC
variable {vl : Nat → Nat} {y : ow_MS} {St : plT} {x : Int32}
theorem xc_copyOut {g p : Nat} {Ms : List (rn_L × (Nat → Bool))} (hg : tH g p) (hg2 : g = 2000 ∨ g = 3000) (hM : rlC g p y Ms) (hO : okM Ms) (hN : gM y) (hC : relC y St) (hS : okS St) : Te (fun K => ce_X11_copyOut vl K 0 g x y) (fun r => gM r.2.2 ∧ (r.1 = 1 ∧ r.2.2 = y ∧ ¬ in9 x Ms.length ∨ ∃ j A sg, Ms[j]? = some (A, sg) ∧ x = nI j ∧ (r.1 = 3 ∧ r.2.2 = y ∧ allF St ∨ r.1 = 0 ∧ ∃ e, lstF St e ∧ r.2.1 = nI e ∧ fr (cW 1000) y r.2.2 ∧ relC r.2.2 (upP St e (some (A, sg)))))) := by
  have hp := tH_p hg
  obtain ⟨Cs, os, hT, hos, hat⟩ := hM
  have hl := hT.2.2.2.1
  have hx9 := in9_iff (x := x) (n := Ms.length) (by omega)
  have hc5 := hT.1.1
  rw [hos] at hc5
  refine e_X11_copyOut ?_; unfold cm_X11_copyOut_0
  refine w_if (fun h9 => w_some ⟨hN, Or.inl ⟨rfl, rfl, fun h8 => (hx9.mp h8).1 h9⟩⟩) (fun e0 => w_rdF hc5 (w_if (fun h9 => ?_) (fun h9 => w_some ⟨hN, Or.inl ⟨rfl, rfl, fun h8 => h9 (hx9.mp h8).2⟩⟩)))
  obtain ⟨k, hk, rfl⟩ := hx9.mpr ⟨e0, h9⟩
  obtain ⟨C, hC0⟩ : ∃ C, Ms[k]? = some C := ⟨_, List.getElem?_eq_getElem hk⟩
  obtain ⟨A, sg⟩ := C
  have eat := hat k A sg hC0
  obtain ⟨o1, o2, c, o3⟩ := hO k A sg hC0
  refine w_tc1 (xc_free hN.1.1 hC hS) ?_ ?_
  · rintro v y2 ⟨h2, rfl⟩
    rcases h2 with h2 | ⟨-, e, rfl, hlf⟩
    · exact absurd (show (0 : Nat) = 3 from h2.1) (by decide)
    · obtain ⟨s, s1, s2, s3, s4⟩ := tab_at hT.1 (show k < os.length by omega)
      have hCl : Cs.length = os.length := hT.1.2.1
      refine w_crI (tH_4 hg) rfl (show k < p by omega) s2 (w_cs0 (tc_write ch_1000 hg (by omega) hlf.1 (show s < p by omega) s3 s4 hT.2.2.2.2) ?_)
      rintro y4 ⟨w1, w2, w3, w4⟩
      rw [eat] at w1
      exact w_some ⟨⟨gN_put hN.1 ⟨A, sg, c, o3, rfl⟩ w1 w2 w3 w4, tbs_fr w4 (fun g hg => by unfold cW at hg; omega) hN.2⟩, Or.inr ⟨k, A, sg, hC0, rfl, Or.inr ⟨rfl, e, hlf, rfl, w4, relC_put hN.1.1 hC hS w1 w2⟩⟩⟩
  · rintro a v y2 ha ⟨h2, rfl⟩
    rcases h2 with h2 | h2
    · exact w_some ⟨hN, Or.inr ⟨k, A, sg, hC0, rfl, Or.inl ⟨h2.1, rfl, h2.2⟩⟩⟩
    · exact absurd h2.1 ha
end XMC
end
section
/-! 99zzzzzzzzzzd.xbo5 -/
/-! both sides: moved, summand -/
section XBM
variable {X : (Nat → Nat → Int32) → Prop} {z y : ow_MS} {St : plT} {vl : Nat → Nat} {x : Int32}
theorem okS_put {e : Nat} {A : rn_L} {sg : Nat → Bool} (hS : okS St) (h : A ≠ [] ∧ plnA A sg ∧ ∃ c, okL A c) : okS (upP St e (some (A, sg))) := fun d B sb hd hs => by
  by_cases ed : d = e
  · rw [ed, show upP St e (some (A, sg)) e = some (A, sg) from if_pos rfl] at hs
    have := Option.some.inj hs
    rw [← (Prod.mk.inj this).1, ← (Prod.mk.inj this).2]
    exact h
  · rw [show upP St e (some (A, sg)) d = St d from if_neg ed] at hs
    exact hS d B sb hd hs
theorem mv_jn {m : Nat} {Ms : List (rn_L × (Nat → Bool))} {rr : Int32 × ow_MS} {rc : Nat × Int32 × ow_MS} (h : rel1 X z y St) (hm : Ms.length ≤ m) (hO : okM Ms) (hr : rFl X z 1 rr ∧ ¬ in9 x Ms.length ∨ ∃ j A sg, Ms[j]? = some (A, sg) ∧ x = nI j ∧ (rFl X z 2 rr ∧ allF St ∨ ∃ e, lstF St e ∧ rr.1 = nI e ∧ gI X rr.2 ∧ rr.2.1 1 = 0 ∧ fr rPk z rr.2 ∧ relR rr.2 (upP St e (some (A, sg))))) (hc : gM rc.2.2 ∧ (rc.1 = 1 ∧ rc.2.2 = y ∧ ¬ in9 x Ms.length ∨ ∃ j A sg, Ms[j]? = some (A, sg) ∧ x = nI j ∧ (rc.1 = 3 ∧ rc.2.2 = y ∧ allF St ∨ rc.1 = 0 ∧ ∃ e, lstF St e ∧ rc.2.1 = nI e ∧ fr (cW 1000) y rc.2.2 ∧ relC rc.2.2 (upP St e (some (A, sg)))))) (hm31 : m ≤ 2700 := by omega) : (∃ St', rel1 X rr.2 rc.2.2 St') ∧ gM rc.2.2 ∧ fr rPk z rr.2 ∧ fr (cW 1000) y rc.2.2 ∧ ansI [(1, 1), (2, 3)] rr rc := by
  obtain ⟨hG, hc⟩ := hc
  have fail : ∀ {j k : Nat}, rFl X z j rr → (j, k) ∈ [(1, 1), (2, 3)] → rc.1 = k → rc.2.2 = y → (∃ St', rel1 X rr.2 rc.2.2 St') ∧ gM rc.2.2 ∧ fr rPk z rr.2 ∧ fr (cW 1000) y rc.2.2 ∧ ansI [(1, 1), (2, 3)] rr rc := fun {j k} hf hm e1 e2 => ⟨⟨St, hf.1, hG.1, relR_fr hf.2.2 (by unfold rPs rSc; omega) h.2.2.1, by rw [e2]; exact h.2.2.2.1, h.2.2.2.2⟩, hG, fr_mono (fun g hg => rPs_k hg) hf.2.2, by rw [e2]; exact fr_rf, Or.inr ⟨j, k, hm, hf.2.1, e1⟩⟩
  have lt : ∀ {j : Nat} {C : rn_L × (Nat → Bool)}, Ms[j]? = some C → j < Ms.length := fun hC => (List.getElem?_eq_some_iff.mp hC).1
  rcases hr with ⟨r1, r2⟩ | ⟨j, A, sg, j1, j2, hr⟩
  · rcases hc with ⟨c1, c2, -⟩ | ⟨j, A, sg, j1, j2, -⟩
    · exact fail r1 (by simp) c1 c2
    · exact absurd ⟨j, lt j1, j2⟩ r2
  · rcases hc with ⟨-, -, c3⟩ | ⟨j', A', sg', j1', j2', hc⟩
    · exact absurd ⟨j, lt j1, j2⟩ c3
    · have l1 := lt j1
      have l2 := lt j1'
      have ej : j = j' := nI_inj9 (by omega) (by omega) (j2.symm.trans j2')
      subst ej
      rw [j1] at j1'
      have eA := Option.some.inj j1'
      obtain ⟨q1, q2⟩ := Prod.mk.inj eA
      subst q1
      subst q2
      rcases hr with ⟨r1, r2⟩ | ⟨e, r0, r1, r2, r3, r4, r5⟩
      · rcases hc with ⟨c1, c2, -⟩ | ⟨-, e, c1, -⟩
        · exact fail r1 (by simp) c1 c2
        · exact (all_lst r2 c1).elim
      · rcases hc with ⟨-, -, c3⟩ | ⟨c0, e', c1, c2, c3, c4⟩
        · exact (all_lst c3 r0).elim
        · have ee := lst_uni2 r0 c1
          subst ee
          exact ⟨⟨_, r2, hG.1, r5, c4, okS_put h.2.2.2.2 (hO j A sg j1)⟩, hG, r4, c3, Or.inl ⟨r3, c0, r1.trans c2.symm⟩⟩
theorem b_moved {Ms : List (rn_L × (Nat → Bool))} (h : rel1 X z y St) (hG : gM y) (hz : rlR 20 21 22 2700 z Ms) (hy : rlC 2000 1848 y Ms) (hO : okM Ms) : Te (fun K => qe_X13_moved K x z) (fun rr => Te (fun K => ce_X11_moved vl K 0 x y) (fun rc => (∃ St', rel1 X rr.2 rc.2.2 St') ∧ gM rc.2.2 ∧ fr rPk z rr.2 ∧ fr (cW 1000) y rc.2.2 ∧ ansI [(1, 1), (2, 3)] rr rc)) := by
  have hcls : Te (fun K => ce_X11_moved vl K 0 x y) (fun r => gM r.2.2 ∧ (r.1 = 1 ∧ r.2.2 = y ∧ ¬ in9 x Ms.length ∨ ∃ j A sg, Ms[j]? = some (A, sg) ∧ x = nI j ∧ (r.1 = 3 ∧ r.2.2 = y ∧ allF St ∨ r.1 = 0 ∧ ∃ e, lstF St e ∧ r.2.1 = nI e ∧ fr (cW 1000) y r.2.2 ∧ relC r.2.2 (upP St e (some (A, sg)))))) := by
    refine e_X11_moved ?_; unfold cm_X11_moved_0
    refine w_tc1 (xc_copyOut tH2 (Or.inl rfl) hy hO hG h.2.2.2.1 h.2.2.2.2) ?_ ?_
    · rintro v y1 h1
      exact w_some h1
    · rintro a v y1 ha h1
      refine w_some ⟨h1.1, ?_⟩
      rcases h1.2 with h2 | ⟨j, A, sg, k1, k2, h2⟩
      · exact Or.inl h2
      · rcases h2 with h2 | h2
        · exact Or.inr ⟨j, A, sg, k1, k2, Or.inl h2⟩
        · exact absurd h2.1 ha
  exact te_two (xq_moved h.1 h.2.2.1 hz) hcls (fun rr rc hr hc => mv_jn h hz.1 hO hr hc)
theorem b_summand {Ms : List (rn_L × (Nat → Bool))} (h : rel1 X z y St) (hG : gM y) (hz : rlR 35 39 36 16 z Ms) (hy : rlC 3000 12 y Ms) (hO : okM Ms) : Te (fun K => qe_X13_summand K x z) (fun rr => Te (fun K => ce_X11_summand vl K 0 x y) (fun rc => (∃ St', rel1 X rr.2 rc.2.2 St') ∧ gM rc.2.2 ∧ fr rPk z rr.2 ∧ fr (cW 1000) y rc.2.2 ∧ ansI [(1, 1), (2, 3)] rr rc)) := by
  have hcls : Te (fun K => ce_X11_summand vl K 0 x y) (fun r => gM r.2.2 ∧ (r.1 = 1 ∧ r.2.2 = y ∧ ¬ in9 x Ms.length ∨ ∃ j A sg, Ms[j]? = some (A, sg) ∧ x = nI j ∧ (r.1 = 3 ∧ r.2.2 = y ∧ allF St ∨ r.1 = 0 ∧ ∃ e, lstF St e ∧ r.2.1 = nI e ∧ fr (cW 1000) y r.2.2 ∧ relC r.2.2 (upP St e (some (A, sg)))))) := by
    refine e_X11_summand ?_; unfold cm_X11_summand_0
    refine w_tc1 (xc_copyOut tH3 (Or.inr rfl) hy hO hG h.2.2.2.1 h.2.2.2.2) ?_ ?_
    · rintro v y1 h1
      exact w_some h1
    · rintro a v y1 ha h1
      refine w_some ⟨h1.1, ?_⟩
      rcases h1.2 with h2 | ⟨j, A, sg, k1, k2, h2⟩
      · exact Or.inl h2
      · rcases h2 with h2 | h2
        · exact Or.inr ⟨j, A, sg, k1, k2, Or.inl h2⟩
        · exact absurd h2.1 ha
  exact te_two (xq_summand h.1 h.2.2.1 hz) hcls (fun rr rc hr hc => mv_jn h hz.1 hO hr hc)
end XBM
end
section
/-! 99zzzzzzzzzze.xga -/
/-! related places: every kept diagram of the class is plane, and its visits are of two kinds that alternate -/
section XGA
variable {vl : Nat → Nat} {y : ow_MS} {St : plT}
theorem rel_pl (hN : gN y) (hC : relC y St) (hS : okS St) {d c : Nat} {A : rn_L} {sg : Nat → Bool} (hd : d < 40) (hs : slC y 1000 d (clC sg A)) (hA : okL A c) (hne : A ≠ []) : plnA A sg := by
  have hl : 0 < (clC sg A).2.length := by
    show 0 < (ucd sg 0 [] A).length
    rw [ucd_len]
    have := List.length_pos_iff.mpr hne
    omega
  have ok := (okL_c (sg := sg) hA).2
  cases e : St d with
  | none =>
    have h9 := (hC d hd).1 e
    have h8 : y.2.1 1002 d = nI (clC sg A).2.length := hs.2.1
    rw [h8] at h9
    have := nI_inj9 (a := (clC sg A).2.length) (b := 0) (by have := ok.2.1; omega) (by omega) h9
    omega
  | some P =>
    obtain ⟨k1, k2, c', k3⟩ := hS d P.1 P.2 hd e
    have eC := slC_uni ok (okL_c k3).2 hs ((hC d hd).2 P.1 P.2 e)
    obtain ⟨q1, q2, q3⟩ := clC_inj hA k3 eC
    intro f T hi hT
    rw [q1] at hi
    exact k2 f T (isoV_sg hi (fun p hp => (q3 p.1 (by
      have := ((k3.1.2 p).mp hp).1
      omega)).symm)) hT
theorem rel_ga (vl : Nat → Nat) (hN : gN y) (hC : relC y St) (hS : okS St) : gaS y := fun d A sg c hd hs hA => by
  by_cases hne : A = []
  · rw [hne]
    exact ⟨fun _ => false, fun L hL => (by cases hL), fun x hx => (by cases hx)⟩
  · obtain ⟨y1, -, g1, g2, T, hT, hT1, hV, hpm, hTp⟩ := xc_ld (vl := vl) hN hd hs hA (rel_pl hN hC hS hd hs hA hne)
    obtain ⟨w, hw⟩ := plane_ga (isoV_vn hV) hV.1.2.2.1 hTp
    exact ⟨_, gaA_of hV hw⟩
/-- signs made 1, 0, -1 -/
def sg3 (G : Nat → Int32) (x : Nat) : Int32 := if G x < 0 then -1 else if G x = 0 then 0 else 1
theorem sg3_lt {G : Nat → Int32} {x : Nat} : (sg3 G x < 0 ↔ G x < 0) ∧ (0 < sg3 G x ↔ 0 < G x) := by
  unfold sg3
  by_cases h : G x < 0
  · rw [if_pos h]
    exact ⟨⟨fun _ => h, fun _ => by decide⟩, fun h9 => absurd h9 (by decide), fun h9 => absurd (Int32.lt_trans h h9) (Int32.lt_irrefl)⟩
  · rw [if_neg h]
    by_cases h0 : G x = 0
    · rw [if_pos h0, h0]
      exact ⟨Iff.rfl, Iff.rfl⟩
    · rw [if_neg h0]
      refine ⟨⟨fun h9 => absurd h9 (by decide), fun h9 => absurd h9 h⟩, fun _ => ?_, fun _ => by decide⟩
      have a1 : ¬ (G x).toInt < (0 : Int32).toInt := fun h9 => h (Int32.lt_iff_toInt_lt.mpr h9)
      have a2 : (G x).toInt ≠ (0 : Int32).toInt := fun h9 => h0 (Int32.toInt_inj.mp h9)
      refine Int32.lt_iff_toInt_lt.mpr ?_
      omega
theorem stG_3 {G : Nat → Int32} : stG (sg3 G) = stG G := funext fun v => by
  unfold stG
  rw [decide_eq_decide.mpr (sg3_lt (G := G) (x := v / 2)).2]
theorem rel_plS (hN : gN y) (hC : relC y St) (hS : okS St) : plS y := fun d A sg c hd hs hA T hV hT => by
  have hv := isoV_vn hV
  by_cases hne : A = []
  · have h0 : T.1 = 0 := by
      have := hV.1.2.1
      rw [hne] at this
      have this : 0 = 2 * T.1 := this
      omega
    rw [plane_iff hv hV.1.2.2.1]
    refine ⟨[], fun v hv9 => by omega, fun d => d, [], fun d hd9 => by omega, fun x hx => absurd hx List.not_mem_nil, List.nodup_nil, ?_⟩
    show T.1 + 2 * 0 ≤ 0
    omega
  · have hp := rel_pl hN hC hS hd hs hA hne
    have hV' : isoV A sg (fun x => x) (T.1, T.2.1, T.2.2.1, sg3 T.2.2.2) := ⟨⟨hV.1.1, hV.1.2.1, hV.1.2.2.1, hV.1.2.2.2.1, hV.1.2.2.2.2.1, hV.1.2.2.2.2.2.1, fun p hp9 => sg3_lt.1.trans (hV.1.2.2.2.2.2.2.1 p hp9), hV.1.2.2.2.2.2.2.2⟩, hV.2⟩
    have hpm : pm1 (T.1, T.2.1, T.2.2.1, sg3 T.2.2.2) := fun x hx => by
      have hx0 := hT x hx
      show sg3 T.2.2.2 x = 1 ∨ sg3 T.2.2.2 x = -1
      unfold sg3
      by_cases h : T.2.2.2 x < 0
      · rw [if_pos h]
        exact Or.inr rfl
      · rw [if_neg h, if_neg hx0]
        exact Or.inl rfl
    have h1 := (plane_iff (T := (T.1, T.2.1, T.2.2.1, sg3 T.2.2.2)) hv hV.1.2.2.1).mp (hp _ _ hV' hpm)
    have h1 : pn_pl T.1 T.2.2.1 (stG (sg3 T.2.2.2)) := h1
    rw [stG_3] at h1
    exact (plane_iff hv hV.1.2.2.1).mpr h1
end XGA
end
section
/-! 99zzzzzzzzzzf.xfrm -/
/-! what a call leaves alone stays related -/
section XFR
variable {P Q : Nat → Prop} {z z1 y y1 : ow_MS} {Ms : List (rn_L × (Nat → Bool))}
theorem relT_k (hz : fr P z z1) (hy : fr Q y y1) (h1 : ¬ P 10 ∧ ¬ P 11) (h2 : ¬ Q 11001 ∧ ¬ Q 11002) (h : relT z y) : relT z1 y1 := by
  obtain ⟨t, t1, t2, t3, t4⟩ := h
  exact ⟨t, t1, by rw [(hz 11 h1.2).1]; exact t2, by rw [(hy 11001 h2.1).1]; exact t3, fun k hk => by rw [(hz 10 h1.1).2.1, (hy 11002 h2.2).2.1]; exact t4 k hk⟩
theorem relB_k (hz : fr P z z1) (hy : fr Q y y1) (h1 : ¬ P 94 ∧ ¬ P 95 ∧ ¬ P 96) (h2 : ¬ Q 13 ∧ ¬ Q 14 ∧ ¬ Q 15) (h : relB z y) : relB z1 y1 := fun b hb => by
  rw [(hz 94 h1.1).2.1, (hz 95 h1.2.1).2.1, (hz 96 h1.2.2).2.1, (hy 13 h2.1).2.1, (hy 14 h2.2.1).2.1, (hy 15 h2.2.2).2.1]
  exact h b hb
theorem rlR_k {h h' n m : Nat} (hz : fr P z z1) (h1 : ¬ P h ∧ ¬ P h' ∧ ¬ P n) (hr : rlR h h' n m z Ms) : rlR h h' n m z1 Ms := by
  obtain ⟨r1, r2, r3⟩ := hr
  refine ⟨r1, by rw [(hz n h1.2.2).1]; exact r2, fun k A sg hC => ?_⟩
  obtain ⟨j, j1, j2, j3, j4⟩ := r3 k A sg hC
  exact ⟨j, j1, by rw [(hz h' h1.2.1).2.1]; exact j2, j3, rc_fr hz h1.1 j4.1, j4.2⟩
theorem rlC_k {g p : Nat} (hy : fr Q y y1) (h1 : ∀ q, cV g q → ¬ Q q) (hr : rlC g p y Ms) : rlC g p y1 Ms := by
  obtain ⟨Cs, os, r1, r2⟩ := hr
  exact ⟨Cs, os, tbO_fr hy h1 r1, r2⟩
/-- all that was related so far, besides the places -/
def rel2 (z y : ow_MS) : Prop := relT z y ∧ relB z y ∧ brC y ∧ (∃ Ms, rlR 20 21 22 2700 z Ms ∧ rlC 2000 1848 y Ms ∧ okM Ms) ∧ ∃ Ms, rlR 35 39 36 16 z Ms ∧ rlC 3000 12 y Ms ∧ okM Ms
theorem rel2_k (hz : fr P z z1) (hy : fr Q y y1) (h1 : ∀ g, P g → g = 1 ∨ g = 12 ∨ rSc g) (h2 : ∀ g, Q g → 1001 ≤ g ∧ g ≤ 1005 ∨ 4001 ≤ g ∧ g ≤ 11000 ∨ 11003 ≤ g) (h : rel2 z y) : rel2 z1 y1 := by
  obtain ⟨k1, k2, k3, ⟨Ms, k4, k5, k6⟩, Ns, k7, k8, k9⟩ := h
  have no : ∀ g, 13 ≤ g → g < 1000 → ¬ P g := fun g g1 g2 h9 => by
    have := h1 g h9
    unfold rSc at this
    omega
  have no2 : ∀ g, g < 1001 ∨ 1005 < g ∧ g < 4001 ∨ g = 11001 ∨ g = 11002 → ¬ Q g := fun g g1 h9 => by
    have := h2 g h9
    omega
  refine ⟨relT_k hz hy ⟨fun h9 => ?_, fun h9 => ?_⟩ ⟨no2 _ (by omega), no2 _ (by omega)⟩ k1, relB_k hz hy ⟨no _ (by omega) (by omega), no _ (by omega) (by omega), no _ (by omega) (by omega)⟩ ⟨no2 _ (by omega), no2 _ (by omega), no2 _ (by omega)⟩ k2, brC_fr hy ⟨no2 _ (by omega), no2 _ (by omega), no2 _ (by omega)⟩ k3, ⟨Ms, rlR_k hz ⟨no _ (by omega) (by omega), no _ (by omega) (by omega), no _ (by omega) (by omega)⟩ k4, rlC_k hy (fun q hq => no2 q (by unfold cV at hq; omega)) k5, k6⟩, Ns, rlR_k hz ⟨no _ (by omega) (by omega), no _ (by omega) (by omega), no _ (by omega) (by omega)⟩ k7, rlC_k hy (fun q hq => no2 q (by unfold cV at hq; omega)) k8, k9⟩
  · have := h1 10 h9
    unfold rSc at this
    omega
  · have := h1 11 h9
    unfold rSc at this
    omega
theorem gM_u3 (hN : gN y1) (hf : fr uP y y1) (h : gM y) : gM y1 := ⟨hN, tbs_fr hf (fun g hg => by unfold uP at hg; omega) h.2⟩
/-- the whole relation so far -/
def rel3 (X : (Nat → Nat → Int32) → Prop) (z y : ow_MS) : Prop := (∃ St, rel1 X z y St) ∧ gM y ∧ rel2 z y
theorem both_3 {X : (Nat → Nat → Int32) → Prop} {em : List (Nat × Nat)} {rr : Int32 × ow_MS} {rc : Nat × Int32 × ow_MS} (h : rel3 X z y) (hb : bothI em X z y rr rc) : rel3 X rr.2 rc.2.2 ∧ ansI em rr rc := by
  obtain ⟨⟨St, b1⟩, b2, b3, b4⟩ := hb
  exact ⟨⟨⟨St, b1⟩, gM_u3 b1.2.1 b3 h.2.1, rel2_k b2 b3 (fun g hg => hg) (fun g hg => by unfold uP at hg; omega) h.2.2⟩, b4⟩
end XFR
end
section
/-! 99zzzzzzzzzzg.xr3 -/
/-! the whole relation so far is kept by the calls of braids and of the tape -/
section XR3
variable {X : (Nat → Nat → Int32) → Prop} {P Q : Nat → Prop} {z z1 y y1 : ow_MS} {vl : Nat → Nat} {x x' : Int32}
theorem gM_o (hf : fr Q y y1) (hQ : ∀ g, Q g → 13 ≤ g ∧ g ≤ 15 ∨ g = 11001 ∨ g = 11002) (h : gM y) : gM y1 := ⟨⟨dgC_fr hf (fun g g1 g2 h9 => by have := hQ g h9; omega) h.1.1, nsC_fr hf (fun h hh g hg h9 => far_cP (g := g) (by have := hQ g h9; omega) h hh hg) h.1.2.1, kdC_fr hf (fun g h9 => by have := hQ g h9; omega) h.1.2.2⟩, tbs_fr hf (fun g h9 => by have := hQ g h9; omega) h.2⟩
/-- the places and the lists, where only tape and braids changed -/
theorem rel3_o (hz : fr P z z1) (hy : fr Q y y1) (h1 : ∀ g, P g → rPs g ∨ g = 10 ∨ g = 11 ∨ 94 ≤ g ∧ g ≤ 96) (h2 : ∀ g, Q g → 13 ≤ g ∧ g ≤ 15 ∨ g = 11001 ∨ g = 11002) (hI : gI X z1) (hT : relT z1 y1) (hB : relB z1 y1) (hb : brC y1) (h : rel3 X z y) : rel3 X z1 y1 := by
  obtain ⟨⟨St, k1, k2, k3, k4, k5⟩, hM, -, -, -, ⟨Ms, m1, m2, m3⟩, Ns, n1, n2, n3⟩ := h
  have hM1 := gM_o hy h2 hM
  have no : ∀ g, 12 ≤ g → g < 94 → ¬ P g := fun g g1 g2 h9 => by
    have := h1 g h9
    unfold rPs rSc at this
    omega
  have no2 : ∀ g, 1001 ≤ g → g < 4000 → ¬ Q g := fun g g1 g2 h9 => by
    have := h2 g h9
    omega
  exact ⟨⟨St, hI, hM1.1, relR_fr hz (no 12 (by omega) (by omega)) k3, relC_fr hy (fun q hq => no2 q (by unfold cW at hq; omega) (by unfold cW at hq; omega)) k4, k5⟩, hM1, hT, hB, hb, ⟨Ms, rlR_k hz ⟨no _ (by omega) (by omega), no _ (by omega) (by omega), no _ (by omega) (by omega)⟩ m1, rlC_k hy (fun q hq => no2 q (by unfold cV at hq; omega) (by unfold cV at hq; omega)) m2, m3⟩, Ns, rlR_k hz ⟨no _ (by omega) (by omega), no _ (by omega) (by omega), no _ (by omega) (by omega)⟩ n1, rlC_k hy (fun q hq => no2 q (by unfold cV at hq; omega) (by unfold cV at hq; omega)) n2, n3⟩
theorem r3_g (h : rel3 X z y) : gI X z := by
  obtain ⟨⟨St, k⟩, -⟩ := h
  exact k.1
theorem fr_bq (hz : fr (fun g => rPs g ∨ 94 ≤ g ∧ g ≤ 96) z z1) (hy : fr bdQ y y1) (hI : gI X z1) (hB : relB z1 y1) (hb : brC y1) (h : rel3 X z y) : rel3 X z1 y1 := rel3_o hz hy (fun g hg => by
  rcases hg with hg | hg
  · exact Or.inl hg
  · exact Or.inr (Or.inr (Or.inr hg))) (fun g hg => by unfold bdQ at hg; omega) hI (relT_k hz hy ⟨fun h9 => by unfold rPs rSc at h9; omega, fun h9 => by unfold rPs rSc at h9; omega⟩ ⟨fun h9 => by unfold bdQ at h9; omega, fun h9 => by unfold bdQ at h9; omega⟩ h.2.2.1) hB hb h
theorem c_product (h : rel3 X z y) : Te (fun K => qe_X13_product K x x' z) (fun rr => Te (fun K => ce_X11_product vl K 0 x x' y) (fun rc => rel3 X rr.2 rc.2.2 ∧ ansI [(1, 1), (2, 2), (3, 4), (4, 3)] rr rc)) := w_monoE (b_product (r3_g h) h.2.2.2.2.1 h.2.2.2.1) (fun rr hr => w_monoE hr (fun rc ⟨k1, k2, k3, k4, k5, k6⟩ => ⟨fr_bq k4 k5 k2 k1 k3 h, k6⟩))
theorem c_inverse (h : rel3 X z y) : Te (fun K => qe_X13_inverse K x z) (fun rr => Te (fun K => ce_X11_inverse vl K 0 x y) (fun rc => rel3 X rr.2 rc.2.2 ∧ ansI [(1, 1), (2, 3)] rr rc)) := w_monoE (b_inverse (r3_g h) h.2.2.2.2.1 h.2.2.2.1) (fun rr hr => w_monoE hr (fun rc ⟨k1, k2, k3, k4, k5, k6⟩ => ⟨fr_bq k4 k5 k2 k1 k3 h, k6⟩))
theorem c_dropBraid (h : rel3 X z y) : Te (fun K => qe_X13_dropBraid K x z) (fun rr => Te (fun K => ce_X11_dropBraid vl K 0 x y) (fun rc => rel3 X rr.2 rc.2 ∧ rr.2.1 1 = 0 ∧ rr.1 = rc.1)) := w_monoE (b_dropBraid (r3_g h) h.2.2.2.2.1 h.2.2.2.1) (fun rr hr => w_monoE hr (fun rc ⟨k1, k2, k3, k4, k5, k6, k7⟩ => ⟨fr_bq k4 k5 k2 k1 k3 h, k6, k7⟩))
end XR3
end
section
/-! 99zzzzzzzzzzh.xr4 -/
/-! rel3 kept by braid, feed, end, alike, drop -/
section XR4
variable {X : (Nat → Nat → Int32) → Prop} {z y : ow_MS} {vl : Nat → Nat} {x x' : Int32}
theorem c_braid (h : rel3 X z y) : Te (fun K => qe_X13_braid K x z) (fun rr => Te (fun K => ce_X11_braid vl K 0 x y) (fun rc => rel3 X rr.2 rc.2.2 ∧ ansI [(1, 2), (2, 3)] rr rc)) := w_monoE (b_braid (r3_g h) h.2.2.2.2.1 h.2.2.2.1 h.2.2.1) (fun rr hr => w_monoE hr (fun rc ⟨k1, k0, k2, k3, k4, k5, k6⟩ => ⟨rel3_o k4 k5 (fun g hg => by
  rcases hg with hg | hg
  · exact Or.inl hg
  · exact Or.inr (Or.inr hg)) (fun g hg => by unfold bdP at hg; omega) k2 k0 k1 k3 h, k6⟩))
theorem c_feed {a b c d e : Int32} (h : rel3 X z y) : Te (fun K => qe_X13_feed K a b c d e z) (fun rr => Te (fun K => ce_X11_feed vl K 0 a b c d e y) (fun rc => rel3 X rr.2 rc.2.2 ∧ ansI [(1, 3)] rr rc)) := w_monoE (b_feed (r3_g h) h.2.2.1) (fun rr hr => w_monoE hr (fun rc ⟨k0, k2, k4, k5, k6⟩ => ⟨rel3_o k4 k5 (fun g hg => by
  rcases hg with hg | hg
  · exact Or.inl hg
  · exact Or.inr (by omega)) (fun g hg => by unfold tpP at hg; omega) k2 k0 (relB_k k4 k5 ⟨fun h9 => by unfold rPs rSc at h9; omega, fun h9 => by unfold rPs rSc at h9; omega, fun h9 => by unfold rPs rSc at h9; omega⟩ ⟨fun h9 => by unfold tpP at h9; omega, fun h9 => by unfold tpP at h9; omega, fun h9 => by unfold tpP at h9; omega⟩ h.2.2.2.1) (brC_fr k5 ⟨fun h9 => by unfold tpP at h9; omega, fun h9 => by unfold tpP at h9; omega, fun h9 => by unfold tpP at h9; omega⟩ h.2.2.2.2.1) h, k6⟩))
theorem c_end (h : rel3 X z y) : Te (fun K => qe_X13_end K x z) (fun rr => Te (fun K => ce_X11_end vl K 0 x y) (fun rc => rel3 X rr rc.2 ∧ (rr.1 1 = 0 ∧ rc.1 = 0 ∨ rr.1 1 = nI 1 ∧ rc.1 = 2))) := w_monoE (b_end (r3_g h) h.2.2.1) (fun rr hr => w_monoE hr (fun rc ⟨k0, k2, k4, k5, k6⟩ => ⟨rel3_o k4 k5 (fun g hg => by
  rcases hg with hg | hg
  · exact Or.inl hg
  · exact Or.inr (by omega)) (fun g hg => by omega) k2 k0 (relB_k k4 k5 ⟨fun h9 => by unfold rPs rSc at h9; omega, fun h9 => by unfold rPs rSc at h9; omega, fun h9 => by unfold rPs rSc at h9; omega⟩ ⟨fun h9 => by omega, fun h9 => by omega, fun h9 => by omega⟩ h.2.2.2.1) (brC_fr k5 ⟨fun h9 => by omega, fun h9 => by omega, fun h9 => by omega⟩ h.2.2.2.2.1) h, k6⟩))
theorem both_Z {rr rc : Int32 × ow_MS} (h : rel3 X z y) (hb : bothZ X z y rr rc) : rel3 X rr.2 rc.2 ∧ rr.2.1 1 = 0 ∧ rr.1 = rc.1 := by
  obtain ⟨⟨St, b1⟩, b2, b3, b4, b5⟩ := hb
  exact ⟨⟨⟨St, b1⟩, gM_u3 b1.2.1 b3 h.2.1, rel2_k b2 b3 (fun g hg => hg) (fun g hg => by unfold uP at hg; omega) h.2.2⟩, b4, b5⟩
end XR4
end
section
/-! 99zzzzzzzzzzi.xr5 -/
/-! rel3 kept by moved, summand -/
section XR5
variable {X : (Nat → Nat → Int32) → Prop} {z y : ow_MS} {vl : Nat → Nat} {x : Int32}
theorem c_moved (h : rel3 X z y) : Te (fun K => qe_X13_moved K x z) (fun rr => Te (fun K => ce_X11_moved vl K 0 x y) (fun rc => rel3 X rr.2 rc.2.2 ∧ ansI [(1, 1), (2, 3)] rr rc)) := by
  obtain ⟨⟨St, k⟩, hM, h2⟩ := id h
  obtain ⟨Ms, m1, m2, m3⟩ := h2.2.2.2.1
  exact w_monoE (b_moved k hM m1 m2 m3) (fun rr hr => w_monoE hr (fun rc ⟨k1, k2, k3, k4, k5⟩ => ⟨⟨k1, k2, rel2_k k3 k4 (fun g hg => hg) (fun g hg => by unfold cW at hg; omega) h2⟩, k5⟩))
theorem c_summand (h : rel3 X z y) : Te (fun K => qe_X13_summand K x z) (fun rr => Te (fun K => ce_X11_summand vl K 0 x y) (fun rc => rel3 X rr.2 rc.2.2 ∧ ansI [(1, 1), (2, 3)] rr rc)) := by
  obtain ⟨⟨St, k⟩, hM, h2⟩ := id h
  obtain ⟨Ms, m1, m2, m3⟩ := h2.2.2.2.2
  exact w_monoE (b_summand k hM m1 m2 m3) (fun rr hr => w_monoE hr (fun rc ⟨k1, k2, k3, k4, k5⟩ => ⟨⟨k1, k2, rel2_k k3 k4 (fun g hg => hg) (fun g hg => by unfold cW at hg; omega) h2⟩, k5⟩))
end XR5
end
section
/-! 99zzzzzzzzzzj.xcl1 -/
/-! closed braids: the visits of each strand, one behind the other -/
def rnL (w : Nat → Nat) (lp : Nat → Bool) (s : Nat) : Nat → List vT
  | 0 => []
  | i + 1 => if psn w s i = w i ∨ psn w s i = w i + 1 then rnL w lp s i ++ [(i, ubn w lp s i)] else rnL w lp s i
section RNL
variable {w : Nat → Nat} {lp : Nat → Bool} {s t n l : Nat}
theorem rnL_on {i : Nat} (h : onL w s i) : rnL w lp s (i + 1) = rnL w lp s i ++ [(i, ubn w lp s i)] := if_pos h
theorem rnL_off {i : Nat} (h : ¬ onL w s i) : rnL w lp s (i + 1) = rnL w lp s i ∧ psn w s (i + 1) = psn w s i := by
  refine ⟨if_neg h, ?_⟩
  show sw2 (w i) (w i + 1) (psn w s i) = _
  unfold sw2
  rw [if_neg (fun e => h (Or.inl e)), if_neg (fun e => h (Or.inr e))]
theorem rnL_mem : ∀ {i : Nat} {p : vT}, p ∈ rnL w lp s i ↔ p.1 < i ∧ onL w s p.1 ∧ p.2 = ubn w lp s p.1
  | 0, p => ⟨fun h => (by cases h), fun h => absurd h.1 (Nat.not_lt_zero _)⟩
  | i + 1, p => by
    by_cases h : onL w s i
    · rw [rnL_on h, List.mem_append, rnL_mem, List.mem_singleton]
      constructor
      · rintro (⟨a, b⟩ | e)
        · exact ⟨by omega, b⟩
        · rw [e]
          exact ⟨Nat.lt_succ_self _, h, rfl⟩
      · rintro ⟨a, b, c⟩
        by_cases e : p.1 = i
        · exact Or.inr (Prod.ext e (by rw [c, e]))
        · exact Or.inl ⟨by omega, b, c⟩
    · rw [(rnL_off (lp := lp) h).1, rnL_mem]
      constructor
      · rintro ⟨a, b⟩
        exact ⟨by omega, b⟩
      · rintro ⟨a, b, c⟩
        refine ⟨?_, b, c⟩
        by_cases q : p.1 = i
        · rw [q] at b
          exact absurd b h
        · omega
theorem rnL_nd : ∀ i, (rnL w lp s i).Nodup
  | 0 => List.nodup_nil
  | i + 1 => by
    by_cases h : onL w s i
    · rw [rnL_on h]
      refine List.nodup_append.mpr ⟨rnL_nd i, List.nodup_cons.mpr ⟨List.not_mem_nil, List.nodup_nil⟩, fun a ha b hb e => ?_⟩
      have h1 := (rnL_mem.mp ha).1
      rw [List.mem_singleton.mp hb] at e
      rw [e] at h1
      exact Nat.lt_irrefl _ h1
    · rw [(rnL_off (lp := lp) h).1]
      exact rnL_nd i
theorem rnL_uni {i j : Nat} {p : vT} (h1 : p ∈ rnL w lp s i) (h2 : p ∈ rnL w lp t j) : s = t := by
  apply Classical.byContradiction
  intro hst
  obtain ⟨-, a2, a3⟩ := rnL_mem.mp h1
  obtain ⟨-, b2, b3⟩ := rnL_mem.mp h2
  exact ubn_ne (lp := lp) hst a2 b2 (a3.symm.trans b3)
theorem rnL_nil : ∀ i, rnL w lp s i = [] → psn w s i = s
  | 0, _ => rfl
  | i + 1, e => by
    by_cases h : onL w s i
    · rw [rnL_on h] at e
      exact absurd e (by simp)
    · obtain ⟨e1, e2⟩ := rnL_off (lp := lp) h
      rw [e1] at e
      rw [e2]
      exact rnL_nil i e
theorem rnL_le : ∀ d i, (rnL w lp s i).length ≤ (rnL w lp s (i + d)).length
  | 0, i => Nat.le_refl _
  | d + 1, i => by
    refine Nat.le_trans (rnL_le d i) ?_
    show _ ≤ (rnL w lp s (i + d + 1)).length
    by_cases h : onL w s (i + d)
    · rw [rnL_on h, List.length_append]
      omega
    · rw [(rnL_off (lp := lp) h).1]
      exact Nat.le_refl _
theorem rnL_all (hw : ∀ i, i < l → w i + 1 < n) {p : vT} (h1 : p.1 < l) (h2 : p.2 < 2) : ∃ s, s < n ∧ p ∈ rnL w lp s l := by
  have hwi := hw _ h1
  obtain ⟨s0, a0, e0⟩ := psn_sur (w := w) (n := n) p.1 (w p.1) (by omega) (fun i hi9 => hw i (by omega))
  obtain ⟨s1, a1, e1⟩ := psn_sur (w := w) (n := n) p.1 (w p.1 + 1) hwi (fun i hi9 => hw i (by omega))
  have hne : s0 ≠ s1 := fun e => by rw [e, e1] at e0; omega
  have o0 : onL w s0 p.1 := Or.inl e0
  have o1 : onL w s1 p.1 := Or.inr e1
  have hd := ubn_ne (lp := lp) hne o0 o1
  have u0 := ubn_lt (w := w) (lp := lp) (s := s0) (i := p.1)
  have u1 := ubn_lt (w := w) (lp := lp) (s := s1) (i := p.1)
  by_cases hu : p.2 = ubn w lp s0 p.1
  · exact ⟨s0, a0, rnL_mem.mpr ⟨h1, o0, hu⟩⟩
  · exact ⟨s1, a1, rnL_mem.mpr ⟨h1, o1, by omega⟩⟩
/-- a row of strands, each going on as the next one -/
def opR (π : Nat → Nat) (j : Nat) (R : List Nat) (a : Nat) : Prop := (∀ X c d Y, R = X ++ c :: d :: Y → π c = d) ∧ (∀ X c, R = X ++ [c] → π c = a) ∧ (R = [] → a = j) ∧ ∀ c Y, R = c :: Y → c = j
theorem opR_nil {π : Nat → Nat} {j : Nat} : opR π j [] j := ⟨fun X c d Y e => by simp at e, fun X c e => by simp at e, fun _ => rfl, fun c Y e => by cases e⟩
theorem snoc2 {α : Type} {M X Y : List α} {a c d : α} (e : M ++ [a] = X ++ c :: d :: Y) : (Y = [] ∧ M = X ++ [c] ∧ d = a) ∨ ∃ Y', Y = Y' ++ [a] ∧ M = X ++ c :: d :: Y' := by
  rcases List.eq_nil_or_concat Y with h | ⟨Y', y, h⟩
  · subst h
    have e2 : M ++ [a] = (X ++ [c]) ++ [d] := by rw [e]; simp
    obtain ⟨q1, q2⟩ := List.append_inj' e2 rfl
    cases q2
    exact Or.inl ⟨rfl, q1, rfl⟩
  · rw [List.concat_eq_append] at h
    subst h
    have e2 : M ++ [a] = (X ++ c :: d :: Y') ++ [y] := by rw [e]; simp
    obtain ⟨q1, q2⟩ := List.append_inj' e2 rfl
    cases q2
    exact Or.inr ⟨Y', rfl, q1⟩
theorem snoc1 {α : Type} {M X : List α} {a c : α} (e : M ++ [a] = X ++ [c]) : M = X ∧ c = a := by
  obtain ⟨q1, q2⟩ := List.append_inj' e rfl
  cases q2
  exact ⟨q1, rfl⟩
theorem opR_snoc {π : Nat → Nat} {j a : Nat} {R : List Nat} (h : opR π j R a) : opR π j (R ++ [a]) (π a) := by
  obtain ⟨h1, h2, h3, h4⟩ := h
  refine ⟨fun X c d Y e => ?_, fun X c e => ?_, fun e => by simp at e, fun c Y e => ?_⟩
  · rcases snoc2 e with ⟨-, q1, q2⟩ | ⟨Y', -, q1⟩
    · rw [q2]
      exact h2 X c q1
    · exact h1 X c d Y' q1
  · rw [(snoc1 e).2]
  · cases R with
    | nil =>
      cases e
      exact h3 rfl
    | cons r R' =>
      cases e
      exact h4 _ _ rfl
/-- who comes before -/
theorem opR_pre {π : Nat → Nat} {j a x : Nat} {R : List Nat} (h : opR π j R a) (hx : x ∈ R) (hj : x ≠ j) : ∃ c, c ∈ R ∧ π c = x := by
  obtain ⟨X, Y, e⟩ := List.append_of_mem hx
  rcases List.eq_nil_or_concat X with q | ⟨X', c, q⟩
  · rw [q] at e
    exact absurd (h.2.2.2 _ _ e) hj
  · rw [List.concat_eq_append] at q
    have e2 : R = X' ++ c :: x :: Y := by rw [e, q]; simp
    exact ⟨c, by rw [e2]; simp, h.1 _ _ _ _ e2⟩
/-- the ring's visits stand behind each other in the net -/
theorem cl_shw {N : Nat → Nat} {j : Nat} {R : List Nat} (hR : opR (fun s => psn w s l) j R j) (nd : (R.flatMap (fun s => rnL w lp s l)).Nodup) (J1 : ∀ s, s ∈ R → ∀ X a b Y, rnL w lp s l = X ++ a :: b :: Y → N (lb a) = lb b) (J2 : ∀ s, s ∈ R → ∀ X a, rnL w lp s l = X ++ [a] → ∃ b Y, rnL w lp (psn w s l) l = b :: Y ∧ N (lb a) = lb b) {p : vT} (hp : p ∈ R.flatMap (fun s => rnL w lp s l)) : N (lb p) = lb (sc (R.flatMap (fun s => rnL w lp s l)) p) := by
  obtain ⟨s, hs, hps⟩ := List.mem_flatMap.mp hp
  obtain ⟨X, Y, eR⟩ := List.append_of_mem hs
  obtain ⟨P, Q, eP⟩ := List.append_of_mem hps
  have eL : R.flatMap (fun s => rnL w lp s l) = (X.flatMap (fun s => rnL w lp s l) ++ P) ++ p :: (Q ++ Y.flatMap (fun s => rnL w lp s l)) := by
    rw [eR, List.flatMap_append, List.flatMap_cons, eP]
    simp
  have hno : p ∉ X.flatMap (fun s => rnL w lp s l) ++ P := fun h9 => by
    rw [eL] at nd
    exact (List.nodup_append.mp nd).2.2 p h9 p List.mem_cons_self rfl
  rw [eL, sc_hd hno]
  cases Q with
  | cons q Q' =>
    rw [J1 s hs P p q Q' eP]
    rfl
  | nil =>
    obtain ⟨b, Z, e1, e2⟩ := J2 s hs P p eP
    rw [e2]
    cases Y with
    | cons s' Y' =>
      have e3 := hR.1 X s s' Y' eR
      have e3 : psn w s l = s' := e3
      rw [e3] at e1
      rw [List.nil_append, List.flatMap_cons, e1]
      rfl
    | nil =>
      have e3 := hR.2.1 X s eR
      have e3 : psn w s l = j := e3
      rw [e3] at e1
      rw [List.flatMap_nil, List.append_nil, List.nil_append]
      cases X with
      | nil =>
        have e4 := hR.2.2.2 s [] eR
        rw [e4, e1] at eP
        cases P with
        | nil =>
          cases eP
          rfl
        | cons a P' =>
          cases eP
          rfl
      | cons x X' =>
        have e4 := hR.2.2.2 x (X' ++ [s]) eR
        rw [e4, List.flatMap_cons, e1]
        rfl
/-- rings without visits are strands without letters -/
theorem cl_cir1 {j : Nat} {R : List Nat} (hR : opR (fun s => psn w s l) j R j) (hne : R ≠ []) (nd : R.Nodup) : R.countP (fun s => (rnL w lp s l).isEmpty) = if (R.flatMap (fun s => rnL w lp s l)).isEmpty = true then 1 else 0 := by
  by_cases h : ∃ s, s ∈ R ∧ rnL w lp s l = []
  · obtain ⟨s, hs, e⟩ := h
    have hf : psn w s l = s := rnL_nil l e
    obtain ⟨X, Y, eR⟩ := List.append_of_mem hs
    have hY : Y = [] := by
      cases Y with
      | nil => rfl
      | cons s' Y' =>
        have e3 : psn w s l = s' := hR.1 X s s' Y' eR
        rw [hf] at e3
        rw [eR, ← e3] at nd
        have := (List.nodup_append.mp nd).2.1
        exact absurd List.mem_cons_self (List.nodup_cons.mp this).1
    subst hY
    have e3 : psn w s l = j := hR.2.1 X s eR
    have hX : X = [] := by
      cases X with
      | nil => rfl
      | cons x X' =>
        have e4 : x = j := hR.2.2.2 x (X' ++ [s]) eR
        rw [eR, e4, ← e3, hf] at nd
        exact absurd (by simp) (List.nodup_cons.mp nd).1
    subst hX
    rw [eR]
    simp [e]
  · have h0 : R.countP (fun s => (rnL w lp s l).isEmpty) = 0 := by
      rw [List.countP_eq_zero]
      intro s hs e
      exact h ⟨s, hs, List.isEmpty_iff.mp e⟩
    rw [h0, if_neg]
    intro e
    have e := List.isEmpty_iff.mp e
    obtain ⟨r, R', eR⟩ := List.exists_cons_of_ne_nil hne
    refine h ⟨r, by rw [eR]; exact List.mem_cons_self, ?_⟩
    rw [eR, List.flatMap_cons] at e
    exact (List.append_eq_nil_iff.mp e).1
theorem cl_cirs {Rs : List (List Nat)} : ∀ (_ : ∀ R, R ∈ Rs → ∃ j, opR (fun s => psn w s l) j R j ∧ R ≠ [] ∧ R.Nodup), cirs (Rs.map (fun R => R.flatMap (fun s => rnL w lp s l))) = Rs.flatten.countP (fun s => (rnL w lp s l).isEmpty) := by
  induction Rs with
  | nil => intro _; rfl
  | cons R Rs ih =>
    intro h
    obtain ⟨j, h1, h2, h3⟩ := h R List.mem_cons_self
    have h4 := ih (fun R hR => h R (List.mem_cons_of_mem _ hR))
    rw [List.flatten_cons, List.countP_append, cl_cir1 h1 h2 h3, ← h4, List.map_cons]
    unfold cirs
    rw [List.countP_cons]
    omega
theorem cnt_perm {q : Nat → Bool} {L : List Nat} (hn : L.Nodup) (hm : ∀ s, s ∈ L ↔ s < n) : L.countP q = cntB q n := by
  rw [cntB_fl, ← List.countP_eq_length_filter]
  exact List.Perm.countP_eq _ ((List.perm_ext_iff_of_nodup hn List.nodup_range).mpr (fun s => by rw [hm, List.mem_range]))
theorem cntB_not {q : Nat → Bool} : ∀ n, cntB q n + cntB (fun k => !q k) n = n
  | 0 => rfl
  | n + 1 => by
    have := cntB_not (q := q) n
    show cntB q n + (if q n then 1 else 0) + (cntB (fun k => !q k) n + (if (!q n) then 1 else 0)) = n + 1
    cases q n <;> simp <;> omega
end RNL
end
section
/-! 99zzzzzzzzzzk.xcl2 -/
/-! the class's closed braid, exactly -/
/-- the letters of a braid -/
def ltX (g : Nat) (z : ow_MS) (b n l : Nat) (w : Nat → Nat) (lp : Nat → Bool) : Prop := ∀ i, i < l → w i + 1 < n ∧ z.2.1 g (16 * b + i) = if lp i = true then nI (w i + 1) else -1 - nI (w i)
theorem ltX_a {g b n l i : Nat} {z : ow_MS} {w : Nat → Nat} {lp : Nat → Bool} (hn5 : n ≤ 5) (h : ltX g z b n l w lp) (hi : i < l) : ∃ a : Int, z.2.1 g (16 * b + i) = iI a ∧ a.natAbs ≤ 4 ∧ a.natAbs = w i + 1 ∧ (a < 0 ↔ lp i = false) := by
  obtain ⟨h1, h2⟩ := h i hi
  cases e : lp i with
  | true =>
    rw [e] at h2
    refine ⟨((w i + 1 : Nat) : Int), h2.trans (nI_iI _), by omega, by omega, fun h9 => by omega, fun h9 => by cases h9⟩
  | false =>
    rw [e] at h2
    have h2 : z.2.1 g (16 * b + i) = -1 - nI (w i) := h2
    refine ⟨-((w i + 1 : Nat) : Int), ?_, by omega, by omega, fun _ => rfl, fun _ => by omega⟩
    rw [h2, nI_iI, show (-1 : Int32) = iI (-1) from by decide, iI_sub]
    congr 1
    omega
def cbL (w : Nat → Nat) (lp : Nat → Bool) (n i : Nat) (La Fi : Nat → Option Nat) : Prop := (∀ s, s < n → La (psn w s i) = ((rnL w lp s i).getLast?).map lb) ∧ ∀ s, s < n → Fi s = ((rnL w lp s i).head?).map lb
def cbI (w : Nat → Nat) (lp : Nat → Bool) (n i : Nat) (S : ow_NP) (La Fi : Nat → Option Nat) : Prop := (∀ s, s < n → La (psn w s i) = ((rnL w lp s i).getLast?).map lb) ∧ (∀ s, s < n → Fi s = ((rnL w lp s i).head?).map lb) ∧ ∀ s, s < n → ∀ X a b Y, rnL w lp s i = X ++ a :: b :: Y → S.1 (lb a) = lb b
def clJ (w : Nat → Nat) (lp : Nat → Bool) (n l k : Nat) (S : ow_NP) : Prop := (∀ s, s < n → ∀ X a b Y, rnL w lp s l = X ++ a :: b :: Y → S.1 (lb a) = lb b) ∧ ∀ s, s < n → psn w s l < k → ∀ X a, rnL w lp s l = X ++ [a] → ∃ b Y, rnL w lp (psn w s l) l = b :: Y ∧ S.1 (lb a) = lb b
theorem exS_ne {S : ow_NP} {o : Option Nat} {v k : Nat} (h : o ≠ some k) : (exS S o v).1 k = S.1 k := by
  cases o with
  | none => rfl
  | some u => exact if_neg (fun e => h (by rw [e]))
theorem exS_at {S : ow_NP} {u v : Nat} : (exS S (some u) v).1 u = v := if_pos rfl
section CLI
variable {w : Nat → Nat} {lp : Nat → Bool} {n i : Nat} {S : ow_NP} {La Fi : Nat → Option Nat}
theorem rn_lb {s t j k : Nat} {a b : vT} (ha : a ∈ rnL w lp s j) (hb : b ∈ rnL w lp t k) (e : lb a = lb b) : a = b ∧ s = t := by
  obtain ⟨-, -, a3⟩ := rnL_mem.mp ha
  obtain ⟨-, -, b3⟩ := rnL_mem.mp hb
  have u1 := ubn_lt (w := w) (lp := lp) (s := s) (i := a.1)
  have u2 := ubn_lt (w := w) (lp := lp) (s := t) (i := b.1)
  unfold lb at e
  have e2 : a = b := Prod.ext (by omega) (by omega)
  rw [e2] at ha
  exact ⟨e2, rnL_uni ha hb⟩
theorem cbI_0 : cbI w lp n 0 S (fun _ => none) (fun _ => none) := ⟨fun _ _ => rfl, fun _ _ => rfl, fun s _ X a b Y e => by
  have e : [] = X ++ a :: b :: Y := e
  simp at e⟩
theorem cl_last (hw : ∀ j, j < i → w j + 1 < n) (h : cbL w lp n i La Fi) {k u : Nat} (hk : k < n) (e : La k = some u) : ∃ s X a, s < n ∧ psn w s i = k ∧ rnL w lp s i = X ++ [a] ∧ lb a = u := by
  obtain ⟨s, hs, es⟩ := psn_sur (w := w) (n := n) i k hk hw
  have h1 := h.1 s hs
  rw [es, e] at h1
  obtain ⟨a, e1, e2⟩ := Option.map_eq_some_iff.mp h1.symm
  obtain ⟨X, e3⟩ := List.getLast?_eq_some_iff.mp e1
  exact ⟨s, X, a, hs, es, e3, e2⟩
theorem cl_nlast (hw : ∀ j, j < i → w j + 1 < n) (h : cbL w lp n i La Fi) {s : Nat} {X Y : List vT} {a b : vT} (e : rnL w lp s i = X ++ a :: b :: Y) {k : Nat} (hk : k < n) : La k ≠ some (lb a) := fun e9 => by
  obtain ⟨s', X', a', -, -, q2, q3⟩ := cl_last hw h hk e9
  obtain ⟨e1, e2⟩ := rn_lb (w := w) (lp := lp) (s := s') (t := s) (j := i) (k := i) (by rw [q2]; simp) (by rw [e]; simp) q3
  rw [e1, e2, e] at q2
  have nd := rnL_nd (w := w) (lp := lp) (s := s) i
  rw [e] at nd
  have nd2 := (List.nodup_cons.mp (List.nodup_append.mp nd).2.1).1
  rcases snoc2 q2.symm with ⟨q4, -, q5⟩ | ⟨Y', q4, -⟩
  · exact nd2 (by rw [q5]; exact List.mem_cons_self)
  · exact nd2 (by rw [q4]; simp)
theorem cl_none (hw : ∀ j, j < i → w j + 1 < n) (h : cbL w lp n i La Fi) {k : Nat} (hk : k < n) : La k = none ↔ rnL w lp k i = [] := by
  constructor
  · intro e
    obtain ⟨s, hs, es⟩ := psn_sur (w := w) (n := n) i k hk hw
    have h1 := h.1 s hs
    rw [es, e] at h1
    have h2 := List.getLast?_eq_none_iff.mp (Option.map_eq_none_iff.mp h1.symm)
    have h4 : s = k := (rnL_nil i h2).symm.trans es
    rw [← h4]
    exact h2
  · intro e
    have h1 := h.1 k hk
    rw [rnL_nil i e, e] at h1
    exact h1
theorem head_ap {α : Type} {L M : List α} (h : L ≠ []) : (L ++ M).head? = L.head? := by
  cases L with
  | nil => exact absurd rfl h
  | cons a L => rfl
theorem cbI_step (hw : ∀ j, j ≤ i → w j + 1 < n) (h : cbI w lp n i S La Fi) {r m : Nat} (hr : r = 2 * i + if lp i = true then 0 else 1) (hm : m = 2 * i + if lp i = true then 1 else 0) : cbI w lp n (i + 1) (exS (exS S (La (w i)) r) (La (w i + 1)) m) (uO (uO (uO (uO La (w i) (some r)) (w i + 1) (some m)) (w i) (some m)) (w i + 1) (some r)) (exF (exF Fi (w i) (La (w i)) r) (w i + 1) (La (w i + 1)) m) := by
  have hwi := hw i (Nat.le_refl _)
  have hlt : ∀ j, j < i → w j + 1 < n := fun j hj => hw j (by omega)
  have hL : cbL w lp n i La Fi := ⟨h.1, h.2.1⟩
  have vL : ∀ s, psn w s i = w i → lb (i, ubn w lp s i) = r := fun s e => by
    show 2 * i + ubn w lp s i = r
    unfold ubn
    rw [hr, decide_eq_true e]
    cases lp i <;> rfl
  have vR : ∀ s, psn w s i = w i + 1 → lb (i, ubn w lp s i) = m := fun s e => by
    show 2 * i + ubn w lp s i = m
    unfold ubn
    rw [hm, decide_eq_false (by omega)]
    cases lp i <;> rfl
  have emp : ∀ k, k < n → La k = none → rnL w lp k i = [] ∧ psn w k i = k := fun k hk e => by
    have h2 := (cl_none hlt hL hk).mp e
    exact ⟨h2, rnL_nil i h2⟩
  have nee : ∀ s u, s < n → La (psn w s i) = some u → rnL w lp s i ≠ [] := fun s u hs e e9 => by
    have h1 := h.1 s hs
    rw [e, e9] at h1
    cases h1
  refine ⟨fun s hs => ?_, fun s hs => ?_, fun s hs X a b Y e => ?_⟩
  · by_cases o1 : psn w s i = w i
    · have ep : psn w s (i + 1) = w i + 1 := by
        show sw2 (w i) (w i + 1) (psn w s i) = _
        unfold sw2
        rw [if_pos o1]
      rw [ep, uO_at, rnL_on (Or.inl o1), List.getLast?_concat, Option.map_some, vL s o1]
    · by_cases o2 : psn w s i = w i + 1
      · have ep : psn w s (i + 1) = w i := by
          show sw2 (w i) (w i + 1) (psn w s i) = _
          unfold sw2
          rw [if_neg o1, if_pos o2]
        rw [ep, uO_ne (by omega), uO_at, rnL_on (Or.inr o2), List.getLast?_concat, Option.map_some, vR s o2]
      · have off : ¬ onL w s i := fun h9 => h9.elim o1 o2
        rw [(rnL_off (lp := lp) off).1, (rnL_off (lp := lp) off).2, uO_ne o2, uO_ne o1, uO_ne o2, uO_ne o1]
        exact h.1 s hs
  · have hFs := h.2.1 s hs
    by_cases o1 : psn w s i = w i
    · rw [rnL_on (Or.inl o1)]
      cases e1 : La (w i) with
      | none =>
        obtain ⟨q1, q2⟩ := emp (w i) (by omega) e1
        have es : s = w i := psn_inj i (o1.trans q2.symm)
        rw [es, q1]
        show _ = some (lb (i, ubn w lp (w i) i))
        rw [vL (w i) q2]
        cases e2 : La (w i + 1) with
        | none =>
          show uO (uO Fi (w i) (some r)) (w i + 1) (some m) (w i) = _
          rw [uO_ne (by omega), uO_at]
        | some u => exact uO_at
      | some u =>
        rw [head_ap (nee s u hs (by rw [o1]; exact e1)), ← hFs]
        cases e2 : La (w i + 1) with
        | none =>
          obtain ⟨q1, q2⟩ := emp (w i + 1) hwi e2
          show uO Fi (w i + 1) (some m) s = Fi s
          exact uO_ne (fun e9 => by rw [e9, q2] at o1; omega)
        | some u' => rfl
    · by_cases o2 : psn w s i = w i + 1
      · rw [rnL_on (Or.inr o2)]
        cases e2 : La (w i + 1) with
        | none =>
          obtain ⟨q1, q2⟩ := emp (w i + 1) hwi e2
          have es : s = w i + 1 := psn_inj i (o2.trans q2.symm)
          rw [es, q1]
          show uO _ (w i + 1) (some m) (w i + 1) = some (lb (i, ubn w lp (w i + 1) i))
          rw [vR _ q2, uO_at]
        | some u =>
          rw [head_ap (nee s u hs (by rw [o2]; exact e2)), ← hFs]
          show exF Fi (w i) (La (w i)) r s = Fi s
          cases e1 : La (w i) with
          | none =>
            obtain ⟨q1, q2⟩ := emp (w i) (by omega) e1
            show uO Fi (w i) (some r) s = Fi s
            exact uO_ne (fun e9 => by rw [e9, q2] at o2; omega)
          | some u' => rfl
      · have off : ¬ onL w s i := fun h9 => h9.elim o1 o2
        rw [(rnL_off (lp := lp) off).1, ← hFs]
        have d1 : La (w i) = none → s ≠ w i := fun e1 e9 => by
          obtain ⟨q1, q2⟩ := emp (w i) (by omega) e1
          rw [e9] at o1
          exact o1 q2
        have d2 : La (w i + 1) = none → s ≠ w i + 1 := fun e1 e9 => by
          obtain ⟨q1, q2⟩ := emp (w i + 1) hwi e1
          rw [e9] at o2
          exact o2 q2
        cases e1 : La (w i) with
        | none =>
          cases e2 : La (w i + 1) with
          | none =>
            show uO (uO Fi (w i) (some r)) (w i + 1) (some m) s = _
            rw [uO_ne (d2 e2), uO_ne (d1 e1)]
          | some u => exact uO_ne (d1 e1)
        | some u =>
          cases e2 : La (w i + 1) with
          | none => exact uO_ne (d2 e2)
          | some u => rfl
  · have old : ∀ X a b Y, rnL w lp s i = X ++ a :: b :: Y → (exS (exS S (La (w i)) r) (La (w i + 1)) m).1 (lb a) = lb b := fun X a b Y e => by
      rw [exS_ne (cl_nlast hlt hL e hwi), exS_ne (cl_nlast hlt hL e (by omega))]
      exact h.2.2 s hs X a b Y e
    by_cases o1 : onL w s i
    · rw [rnL_on o1] at e
      rcases snoc2 e with ⟨-, q1, q2⟩ | ⟨Y', -, q1⟩
      · have hl := h.1 s hs
        rw [q1, List.getLast?_concat] at hl
        have hl : La (psn w s i) = some (lb a) := hl
        have aS : a ∈ rnL w lp s i := by rw [q1]; simp
        rcases o1 with o1 | o1
        · rw [o1] at hl
          have hne : La (w i + 1) ≠ some (lb a) := fun e9 => by
            obtain ⟨s', X', a', -, k1, k2, k3⟩ := cl_last hlt hL hwi e9
            obtain ⟨-, k4⟩ := rn_lb (w := w) (lp := lp) (s := s') (t := s) (j := i) (k := i) (by rw [k2]; simp) aS k3
            rw [k4] at k1
            omega
          rw [exS_ne hne, hl, exS_at, q2, vL s o1]
        · rw [o1] at hl
          rw [hl, exS_at, q2, vR s o1]
      · exact old X a b Y' q1
    · rw [(rnL_off (lp := lp) o1).1] at e
      exact old X a b Y e
theorem clJ_none {l k : Nat} (hw : ∀ j, j < l → w j + 1 < n) (h : cbL w lp n l La Fi) (e : La k = none) (hJ : clJ w lp n l k S) : clJ w lp n l (k + 1) S := ⟨hJ.1, fun s hs hk X a e2 => by
  by_cases q : psn w s l = k
  · have h1 := h.1 s hs
    rw [q, e, e2, List.getLast?_concat] at h1
    cases h1
  · exact hJ.2 s hs (by omega) X a e2⟩
theorem clJ_some {l k u v : Nat} (hw : ∀ j, j < l → w j + 1 < n) (h : cbL w lp n l La Fi) (hk : k < n) (e1 : La k = some u) (e2 : Fi k = some v) (hJ : clJ w lp n l k S) : clJ w lp n l (k + 1) (nl S u v) := by
  have n1 : ∀ x, x ≠ u → (nl S u v).1 x = S.1 x := fun x hx => if_neg hx
  refine ⟨fun s hs X a b Y e => ?_, fun s hs hlt X a e => ?_⟩
  · rw [n1 _ (fun e9 => cl_nlast hw h e hk (by rw [e1, e9]))]
    exact hJ.1 s hs X a b Y e
  · have h1 := h.1 s hs
    rw [e, List.getLast?_concat] at h1
    have h1 : La (psn w s l) = some (lb a) := h1
    by_cases q : psn w s l = k
    · rw [q, e1] at h1
      cases h1
      have h2 := h.2 k hk
      rw [e2] at h2
      obtain ⟨b, b1, b2⟩ := Option.map_eq_some_iff.mp h2.symm
      obtain ⟨Y, b3⟩ := List.head?_eq_some_iff.mp b1
      rw [q]
      exact ⟨b, Y, b3, (if_pos rfl : (nl S (lb a) v).1 (lb a) = v).trans b2.symm⟩
    · obtain ⟨b, Y, k1, k2⟩ := hJ.2 s hs (by omega) X a e
      refine ⟨b, Y, k1, ?_⟩
      rw [n1 _ (fun e9 => ?_)]
      · exact k2
      · rw [← e9] at e1
        obtain ⟨s', X', a', -, m1, m2, m3⟩ := cl_last hw h hk e1
        obtain ⟨-, m4⟩ := rn_lb (w := w) (lp := lp) (s := s') (t := s) (j := l) (k := l) (by rw [m2]; simp) (by rw [e]; simp) m3
        rw [m4] at m1
        exact q m1
theorem cbL_cnt {l : Nat} (hw : ∀ j, j < l → w j + 1 < n) (h : cbL w lp n l La Fi) : cntB (fun k => (La k).isSome) n + cntB (fun s => (rnL w lp s l).isEmpty) n = n := by
  have h1 := cntB_not (q := fun k => (La k).isSome) n
  rw [cntB_cg (q := fun k => !(La k).isSome) (r := fun s => (rnL w lp s l).isEmpty) n (fun k hk => ?_)] at h1
  · exact h1
  · have h2 := cl_none hw h hk
    cases e : La k with
    | none =>
      rw [h2.mp e]
      rfl
    | some u =>
      have : rnL w lp k l ≠ [] := fun e9 => by
        rw [h2.mpr e9] at e
        cases e
      cases e9 : rnL w lp k l with
      | nil => exact absurd e9 this
      | cons a L => rfl
end CLI
section XCC
variable {vl : Nat → Nat} {y : ow_MS}
theorem xc_close {T : ow_NT} {b n l : Nat} {w : Nat → Nat} {lp : Nat → Bool} (hT : cAt y 4000 T) (hb : ow_b24 T.2.2.1) (hb20 : b < 20) (hn : 2 ≤ n) (hn5 : n ≤ 5) (hl : l ≤ 12) (hw : ltX 13 y b n l w lp) : Te (fun K => ce_X7_close vl K 4000 13 (nI (16 * b)) (nI l) (nI n) y) (fun y1 => (∃ T1, cAt y1 4000 T1 ∧ nv T1 ∧ T1.1 = l ∧ (∀ i, i < l → T1.2.2.2 i = if lp i = true then 1 else -1) ∧ clJ w lp n l n T1.2.2.1 ∧ T1.2.1 = cntB (fun s => (rnL w lp s l).isEmpty) n) ∧ fr clR y y1) := by
  let Q : ow_MS → Prop := fun y1 => (∃ T1, cAt y1 4000 T1 ∧ nv T1 ∧ T1.1 = l ∧ (∀ i, i < l → T1.2.2.2 i = if lp i = true then 1 else -1) ∧ clJ w lp n l n T1.2.2.1 ∧ T1.2.1 = cntB (fun s => (rnL w lp s l).isEmpty) n) ∧ fr clR y y1
  have hw2 : ∀ {z : ow_MS}, fr clR y z → ltX 13 z b n l w lp := fun hf i hi => by
    rw [(hf 13 (by unfold clR cP; omega)).2.1]
    exact hw i hi
  have hwn : ∀ i, i < l → w i + 1 < n := fun i hi => (hw i hi).1
  -- the strands closed
  have c5 : ∀ (La0 Fi0 : Nat → Option Nat), cbL w lp n l La0 Fi0 → ∀ (d k : Nat) (z : ow_MS) (S : ow_NP) (G : Nat → Int32) (ci : Nat) (La Fi : Nat → Option Nat), k + d = n → fr clR y z → cAt z 4000 (l, ci, S, G) → ow_b24 S → oX (fun v => v < 2 * l) (fun v => ∃ k, k < n ∧ La0 k = some v) n S La Fi → (∀ j, j < n → (La j = none ↔ Fi j = none)) → (∀ j, j < k → La j = none) → (∀ j, k ≤ j → La j = La0 j) → (∀ j, k ≤ j → Fi j = Fi0 j) → clJ w lp n l k S → (∀ i, i < l → G i = if lp i = true then 1 else -1) → (∀ j, k ≤ j → j < n → z.2.1 4007 j = oNI (La j)) → (∀ j, k ≤ j → j < n → z.2.1 4004 j = oNI (Fi j)) → ci + cntB (fun k => (La0 k).isSome) k = k → Tt (fun K t => c_X7_close vl K t 5 (nI (16 * b)) (nI l) (nI n) (nI k) 0 0 0 0 4000 13 4004 4007 0 0 z) Q := by
    intro La0 Fi0 hLF d
    induction d with
    | zero =>
      intro k z S G ci La Fi hk hf h1 h2 h3 h4 h5 h6 hF6 hJ hG h7 h8 h9
      have e : k = n := by omega
      subst e
      obtain ⟨q1, q2⟩ := oX_vn hl h3 h5 (fun j hj => (h4 j hj).mp (h5 j hj))
      refine u_X7_close_5 ?_; unfold cm_X7_close_5
      refine w_leT (by omega) (by omega) (w_some ⟨⟨_, h1, ⟨q1, hl, h2, ?_⟩, rfl, hG, hJ, ?_⟩, hf⟩)
      · show np_rg l S + ci ≤ 6
        omega
      · have := cbL_cnt hwn hLF
        show ci = _
        omega
    | succ d ih =>
      intro k z S G ci La Fi hk hf h1 h2 h3 h4 h5 h6 hF6 hJ hG h7 h8 h9
      have hcs : cntB (fun k => (La0 k).isSome) (k + 1) = cntB (fun k => (La0 k).isSome) k + (if (La0 k).isSome = true then 1 else 0) := rfl
      refine u_X7_close_5 ?_; unfold cm_X7_close_5
      refine w_leF (by omega) (by omega) ?_
      cases e : La k with
      | none =>
        have e7 : z.2.1 4007 k = -1 := by
          rw [h7 k (Nat.le_refl _) (by omega), e]
          rfl
        have e0 : La0 k = none := by rw [← h6 k (Nat.le_refl _)]; exact e
        refine w_crI (nH_7 nH4) rfl (show k < 24 by omega) e7 (w_ifT rfl (w_rdF h1.2.1 (w_wrF ?_)))
        refine u_X7_close_6 ?_; unfold cm_X7_close_6
        rw [nI_1 k]
        refine ih (k + 1) _ S G (ci + 1) La Fi (by omega) (fr_F2 hf (by unfold clR cP; omega)) ⟨rf_ot (by omega) h1.1, po_usF_at.trans (nI_1 _), h1.2.2⟩ h2 h3 h4 (fun j hj => ?_) (fun j hj => h6 j (by omega)) (fun j hj => hF6 j (by omega)) (clJ_none hwn hLF e0 hJ) hG (fun j hj => h7 j (by omega)) (fun j hj => h8 j (by omega)) ?_
        · by_cases ej : j = k
          · rw [ej]
            exact e
          · exact h5 j (by omega)
        · rw [hcs, e0]
          show ci + 1 + (_ + 0) = k + 1
          omega
      | some u =>
        have e7 : z.2.1 4007 k = nI u := by
          rw [h7 k (Nat.le_refl _) (by omega), e]
          rfl
        have e0 : La0 k = some u := by rw [← h6 k (Nat.le_refl _)]; exact e
        obtain ⟨w', ew⟩ : ∃ w', Fi k = some w' := by
          cases e9 : Fi k with
          | none =>
            have := (h4 k (by omega)).mpr e9
            rw [e] at this
            cases this
          | some w' => exact ⟨w', rfl⟩
        have e4 : z.2.1 4004 k = nI w' := by
          rw [h8 k (Nat.le_refl _) (by omega), ew]
          rfl
        have ew0 : Fi0 k = some w' := by rw [← hF6 k (Nat.le_refl _)]; exact ew
        have hu : u < 2 * l := h3.1 k u (by omega) e
        have hw9 : w' < 2 * l := h3.2.1 k w' (by omega) ew
        refine w_crI (nH_7 nH4) rfl (show k < 24 by omega) e7 (w_ifF (nI_nm1 (by omega)) (w_crI (nH_7 nH4) rfl (show k < 24 by omega) e7 (w_crI (nH_4 nH4) rfl (show k < 24 by omega) e4 (w_cs0 (tc_link nH4 h1 (show u < 24 by omega) (show w' < 24 by omega)) ?_))))
        rintro z1 ⟨g1, g2⟩
        refine u_X7_close_6 ?_; unfold cm_X7_close_6
        rw [nI_1 k]
        refine ih (k + 1) z1 (nl S u w') G ci (uO La k none) (uO Fi k none) (by omega) (fr_tr hf (fr_mono (fun g hg => Or.inl hg) g2)) g1 (nl_b24 h2 (by omega) (by omega)) (oX_close h3 (by omega) e ew ⟨k, by omega, e0⟩) (fun j hj => ?_) (fun j hj => ?_) (fun j hj => ?_) (fun j hj => ?_) (clJ_some hwn hLF (by omega) e0 ew0 hJ) hG (fun j hj hj2 => ?_) (fun j hj hj2 => ?_) ?_
        · by_cases ej : j = k
          · rw [ej, uO_at, uO_at]
          · rw [uO_ne ej, uO_ne ej]
            exact h4 j hj
        · by_cases ej : j = k
          · rw [ej, uO_at]
          · rw [uO_ne ej]
            exact h5 j (by omega)
        · rw [uO_ne (by omega)]
          exact h6 j (by omega)
        · rw [uO_ne (by omega)]
          exact hF6 j (by omega)
        · rw [uO_ne (by omega), (g2 4007 (by unfold cP; omega)).2.1]
          exact h7 j (by omega) hj2
        · rw [uO_ne (by omega), (g2 4004 (by unfold cP; omega)).2.1]
          exact h8 j (by omega) hj2
        · rw [hcs, e0]
          show ci + (_ + 1) = k + 1
          omega
  -- letter after letter
  have c1 : ∀ (d i : Nat) (z : ow_MS) (S : ow_NP) (G : Nat → Int32) (La Fi : Nat → Option Nat), i + d = l → fr clR y z → cAt z 4000 (i, 0, S, G) → ow_b24 S → oX (fun v => v < 2 * i) (fun _ => False) n S La Fi → cbI w lp n i S La Fi → (∀ j, j < i → G j = if lp j = true then 1 else -1) → (∀ j, j < n → (La j = none ↔ Fi j = none)) → (∀ j, j < n → z.2.1 4007 j = oNI (La j)) → (∀ j, j < n → z.2.1 4004 j = oNI (Fi j)) → Tt (fun K t => c_X7_close vl K t 1 (nI (16 * b)) (nI l) (nI n) (nI i) 0 0 0 0 4000 13 4004 4007 0 0 z) Q := by
    intro d
    induction d with
    | zero =>
      intro i z S G La Fi hi hf h1 h2 h3 hI hG h4 h5 h6
      have e : i = l := by omega
      subst e
      refine u_X7_close_1 ?_; unfold cm_X7_close_1
      refine w_leT (by omega) (by omega) ?_
      refine u_X7_close_4 ?_; unfold cm_X7_close_4
      exact c5 La Fi ⟨hI.1, hI.2.1⟩ n 0 z S G 0 La Fi (by omega) hf h1 h2 (oX_D (fun _ => Iff.rfl) (fun _ h => h.elim) h3) h4 (fun j hj => absurd hj (Nat.not_lt_zero _)) (fun _ _ => rfl) (fun _ _ => rfl) ⟨hI.2.2, fun s _ h9 => absurd h9 (Nat.not_lt_zero _)⟩ hG (fun j _ hj => h5 j hj) (fun j _ hj => h6 j hj) rfl
    | succ d ih =>
      intro i z S G La Fi hi hf h1 h2 h3 hI hG h4 h5 h6
      obtain ⟨a, a1, a2, a3, a4⟩ := ltX_a hn5 (hw2 hf) (show i < l by omega)
      obtain ⟨p1, p2⟩ := lt_b (a := a) (by omega) (by omega)
      have hwi := hwn i (by omega)
      have c3 : ∀ (z1 : ow_MS) (S1 : ow_NP) (La1 Fi1 : Nat → Option Nat) (x8 x9 x10 x11 t0 : Int32), t0 = (if lp i = true then 1 else -1) → cbI w lp n (i + 1) S1 La1 Fi1 → fr clR y z1 → cAt z1 4000 (i, 0, S1, G) → ow_b24 S1 → oX (fun v => v < 2 * (i + 1)) (fun _ => False) n S1 La1 Fi1 → (∀ j, j < n → (La1 j = none ↔ Fi1 j = none)) → (∀ j, j < n → z1.2.1 4007 j = oNI (La1 j)) → (∀ j, j < n → z1.2.1 4004 j = oNI (Fi1 j)) → Tt (fun K t => c_X7_close vl K t 3 (nI (16 * b)) (nI l) (nI n) (nI i) x8 x9 x10 x11 4000 13 4004 4007 t0 (nI i) z1) Q := by
        intro z1 S1 La1 Fi1 x8 x9 x10 x11 t0 ht0 hI1 q1 q2 q3 q4 q5 q6 q7
        obtain ⟨s1, s2, s3, s4, s5⟩ := q2
        refine u_X7_close_3 ?_; unfold cm_X7_close_3
        refine w_ctI (nH_3 nH4) rfl (show i < 12 by omega) (w_rdF (x := nI i) s1 (w_wrF ?_))
        rw [nI_1]
        refine ih (i + 1) _ S1 (su G i t0) La1 Fi1 (by omega) (fr_F2 (fr_I2 q1 (by unfold clR cP; omega)) (by unfold clR cP; omega)) ⟨po_usF_at, ?_, fun v => ?_, fun v => ?_, fun v => ?_⟩ q3 q4 hI1 (fun j hj => ?_) q5 (fun j hj => ?_) (fun j hj => ?_)
        · exact rf_ot (by omega) s2
        · exact rd_ot (by omega) (s3 v)
        · exact rd_ot (by omega) (s4 v)
        · show (usI z1 4003 i t0).2.1 4003 v = su G i t0 v
          by_cases ev : v = i
          · rw [ev]
            exact po_usI_at.trans (if_pos rfl).symm
          · rw [show su G i t0 v = G v from if_neg ev]
            exact rd_ne ev (s5 v)
        · show su G i t0 j = _
          by_cases ej : j = i
          · rw [ej, ← ht0]
            exact if_pos rfl
          · rw [show su G i t0 j = G j from if_neg ej]
            exact hG j (by omega)
        · exact rd_ot (by omega) (q6 j hj)
        · exact rd_ot (by omega) (q7 j hj)
      have c2 : ∀ r : Nat, (r = 2 * i + if lp i = true then 0 else 1) → Tt (fun K t => c_X7_close vl K t 2 (nI (16 * b)) (nI l) (nI n) (nI i) (iI a) (nI (a.natAbs - 1)) 0 0 4000 13 4004 4007 (nI r) 0 z) Q := by
        intro r hr0
        have hr : r = 2 * i ∨ r = 2 * i + 1 := by
          cases e9 : lp i <;> rw [e9] at hr0
          · exact Or.inr hr0
          · exact Or.inl hr0
        have hr24 : r < 24 := by omega
        have hm : (r = 2 * i ∧ mt r = 2 * i + 1) ∨ (r = 2 * i + 1 ∧ mt r = 2 * i) := by
          unfold mt
          rcases hr with e | e
          · exact Or.inl ⟨e, by rw [if_pos (by omega)]; omega⟩
          · exact Or.inr ⟨e, by rw [if_neg (by omega)]; omega⟩
        have hm24 : mt r < 24 := by omega
        have hm0 : mt r = 2 * i + if lp i = true then 1 else 0 := by
          cases e9 : lp i <;> rw [e9] at hr0
          · show mt r = 2 * i
            have hr0 : r = 2 * i + 1 := hr0
            omega
          · show mt r = 2 * i + 1
            have hr0 : r = 2 * i := hr0
            omega
        have hst := cbI_step (fun j hj => hwn j (by omega)) hI hr0 hm0
        rw [show a.natAbs - 1 = w i by omega]
        obtain ⟨j, hj⟩ : ∃ j, j = w i := ⟨_, rfl⟩
        rw [← hj] at hst ⊢
        have hjn : j + 1 < n := by omega
        have hlt : ∀ k u, k < n → La k = some u → u < 2 * i := fun k u hk e => h3.1 k u hk e
        obtain ⟨o1, o2⟩ := oX_step (k := j) (v := r) h3 h4 (by omega) (by omega) (fun u e => by have := hlt j u (by omega) e; omega)
        have eL : uO La j (some r) (j + 1) = La (j + 1) := uO_ne (by omega)
        obtain ⟨o3, o4⟩ := oX_step (k := j + 1) (v := mt r) o1 o2 hjn (by intro h9; rcases h9 with h9 | h9 <;> omega) (fun u e => by
          rw [eL] at e
          have := hlt (j + 1) u hjn e
          omega)
        rw [eL] at o3 o4
        have hb1 : ow_b24 (exS S (La j) r) := by
          cases e : La j with
          | none => exact h2
          | some u => exact nl_b24 h2 (by have := hlt j u (by omega) e; omega) hr24
        have hb2 : ow_b24 (exS (exS S (La j) r) (La (j + 1)) (mt r)) := by
          cases e : La (j + 1) with
          | none => exact hb1
          | some u => exact nl_b24 hb1 (by have := hlt (j + 1) u hjn e; omega) hm24
        refine u_X7_close_2 ?_; unfold cm_X7_close_2
        rw [nI_1, xor1 ⟨r, hr24⟩]
        refine w_cs0 (tc_extend (s := n) h1 (show j < n by omega) hn5 hr24 h5 h6 (fun u e => by have := hlt j u (by omega) e; omega)) ?_
        rintro z1 ⟨g1, g2, g3⟩
        have h51 : ∀ k, k < n → z1.2.1 4007 k = oNI (La k) := fun k hk => by
          rw [(g3 4007 (by unfold cP; omega)).2.1]
          exact h5 k hk
        refine w_cs0 (tc_extend (s := n) g1 hjn hn5 hm24 h51 g2 (fun u e => by have := hlt (j + 1) u hjn e; omega)) ?_
        rintro z2 ⟨g4, g5, g6⟩
        have hf2 : fr clR y z2 := fr_tr hf (fr_tr (fr_mono (fun g hg => hg.elim Or.inl (fun h9 => Or.inr (Or.inl h9))) g3) (fr_mono (fun g hg => hg.elim Or.inl (fun h9 => Or.inr (Or.inl h9))) g6))
        have h52 : ∀ k, k < n → z2.2.1 4007 k = oNI (La k) := fun k hk => by
          rw [(g6 4007 (by unfold cP; omega)).2.1]
          exact h51 k hk
        have hsw := oX_swap (j := j) (a := some (mt r)) (b := some r) o3 hjn (by rw [uO_ne (by omega), uO_at]) uO_at
        refine w_ctI (nH_7 nH4) rfl (show j < 24 by omega) (w_ctI (nH_7 nH4) rfl (show j + 1 < 24 by omega) ?_)
        have fin : ∀ t0 : Int32, t0 = (if lp i = true then 1 else -1) → Tt (fun K t => c_X7_close vl K t 3 (nI (16 * b)) (nI l) (nI n) (nI i) (iI a) (nI j) (nI r) (nI (mt r)) 4000 13 4004 4007 t0 (nI i) (usI (usI z2 4007 j (nI (mt r))) 4007 (j + 1) (nI r))) Q := by
          intro t0 ht0
          refine c3 _ (exS (exS S (La j) r) (La (j + 1)) (mt r)) _ _ _ _ _ _ t0 ht0 hst (fr_I2 (fr_I2 hf2 (by unfold clR; omega)) (by unfold clR; omega)) ?_ hb2 (oX_D (fun v => ?_) (fun _ h => h) hsw) (fun k hk => ?_) (fun k hk => ?_) (fun k hk => ?_)
          · exact cAt_fr (P := fun g => g = 4007) (fr_I2 (fr_I rfl) rfl) (fun g hg h9 => by unfold cP at hg; omega) g4
          · show ((v < 2 * i ∨ v = r) ∨ v = mt r) ↔ v < 2 * (i + 1)
            omega
          · have := o4 k hk
            by_cases e1 : k = j + 1
            · rw [e1, uO_at]
              have h9 := o4 (j + 1) hjn
              rw [uO_at] at h9
              exact ⟨fun h => (by cases h), fun h => absurd (h9.mpr h) (by intro h; cases h)⟩
            · rw [uO_ne e1]
              by_cases e2 : k = j
              · rw [e2, uO_at]
                have h9 := o4 j (by omega)
                rw [uO_ne (by omega), uO_at] at h9
                exact ⟨fun h => (by cases h), fun h => absurd (h9.mpr h) (by intro h; cases h)⟩
              · rw [uO_ne e2]
                exact this
          · by_cases e1 : k = j + 1
            · rw [e1, uO_at]
              exact po_usI_at
            · rw [uO_ne e1]
              by_cases e2 : k = j
              · rw [e2, uO_at]
                exact rd_ne (by omega) po_usI_at
              · rw [uO_ne e2, uO_ne e1, uO_ne e2]
                exact rd_ne e1 (rd_ne e2 (h52 k hk))
          · exact rd_ot (by omega) (rd_ot (by omega) (g5 k hk))
        refine w_if (fun h9 => fin (-1) ?_) (fun h9 => fin 1 ?_)
        · rw [a4.mp (p2.mp h9)]
          rfl
        · cases e9 : lp i with
          | true => rfl
          | false => exact absurd (p2.mpr (a4.mpr e9)) h9
      refine u_X7_close_1 ?_; unfold cm_X7_close_1
      rw [nI_add, show (2 : Int32) * nI i = nI (2 * i) from pk_mul 2 _, nI_1]
      refine w_leF (by omega) (by omega) (w_leF (a := 12) (by omega) (by omega) (w_crI ch_13 rfl (show 16 * b + i < 320 by omega) a1 ?_))
      rw [p1]
      refine w_if (fun h9 => c2 (2 * i + 1) ?_) (fun h9 => c2 (2 * i) ?_)
      · rw [a4.mp (p2.mp h9)]
        rfl
      · cases e9 : lp i with
        | true => rfl
        | false => exact absurd (p2.mpr (a4.mpr e9)) h9
  refine e_X7_close ?_
  refine u_X7_close_0 ?_; unfold cm_X7_close_0
  refine w_cs0 (tc_fill (a := 0) (b := n) (nH_4 nH4) (Nat.zero_le _) (show n ≤ 24 by omega) (by omega)) ?_
  rintro z1 ⟨a1, a2⟩
  refine w_cs0 (tc_fill (a := 0) (b := n) (nH_7 nH4) (Nat.zero_le _) (show n ≤ 24 by omega) (by omega)) ?_
  rintro z2 ⟨b1, b2⟩
  have t2 : cAt z2 4000 T := cAt_fr b2 (fun g hg h9 => by unfold cP at hg; omega) (cAt_fr a2 (fun g hg h9 => by unfold cP at hg; omega) hT)
  refine w_cs0 (tc_empty t2) ?_
  rintro z3 ⟨d1, d2⟩
  refine c1 l 0 z3 T.2.2.1 T.2.2.2 (fun _ => none) (fun _ => none) (by omega) (fr_tr (fr_mono (fun g hg => by rw [hg]; unfold clR; omega) a2) (fr_tr (fr_mono (fun g hg => by rw [hg]; unfold clR; omega) b2) (fr_mono (fun g hg => Or.inl hg) d2))) d1 hb ⟨fun k v _ e => (by cases e), fun k v _ e => (by cases e), fun k k' v _ _ e => (by cases e), fun k k' v _ _ e => (by cases e), fun v hv => absurd hv (Nat.not_lt_zero _), fun v hv => absurd hv (Nat.not_lt_zero _)⟩ cbI_0 (fun j hj => absurd hj (Nat.not_lt_zero _)) (fun _ _ => Iff.rfl) (fun j hj => ?_) (fun j hj => ?_)
  · rw [(d2 4007 (by unfold cP; omega)).2.1, b1 j, if_pos ⟨Nat.zero_le _, hj⟩]
    rfl
  · rw [(d2 4004 (by unfold cP; omega)).2.1, (b2 4004 (by omega)).2.1, a1 j, if_pos ⟨Nat.zero_le _, hj⟩]
    rfl
end XCC
end
