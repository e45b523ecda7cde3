/-! both sides: product, dropBraid -/
section XB3
variable {X : (Nat → Nat → Int32) → Prop} {z y : ow_MS} {vl : Nat → Nat} {x x' : Int32}
theorem relB_fail {k : Nat} {rr : Int32 × ow_MS} (h : relB z y) (hf : rFl X z k rr) : relB rr.2 y := fun b hb => by
  have e6 := (hf.2.2 96 (by unfold rPs rSc; omega)).2.1
  have e5 := (hf.2.2 95 (by unfold rPs rSc; omega)).2.1
  have e4 := (hf.2.2 94 (by unfold rPs rSc; omega)).2.1
  rw [e6, e5, e4]
  exact h b hb
/-- what is known of one braid on both sides -/
theorem relB_at {a n l n' l' : Nat} (h : relB z y) (ha : a < 20) (h1 : hBr z a n l) (n2 : 2 ≤ n') (n5 : n' ≤ 5) (e15 : y.2.1 15 a = nI n') (l16 : l' ≤ 16) (e14 : y.2.1 14 a = nI l') : n = n' ∧ l = l' ∧ ∀ i, i < l → z.2.1 94 (16 * a + i) = y.2.1 13 (16 * a + i) := by
  obtain ⟨p1, p2, p3, p4, p5, p6⟩ := h1
  obtain ⟨k1, k2⟩ := h a ha
  have en : n = n' := nI_inj9 (by omega) (by omega) (p4.symm.trans (k1.trans e15))
  obtain ⟨k3, k4⟩ := k2 (by rw [p4]; exact nI_ne0 (by omega) (by omega))
  exact ⟨en, nI_inj9 (by omega) (by omega) (p5.symm.trans (k3.trans e14)), k4 l p3 p5⟩
theorem b_product (hz : gI X z) (hB : brC y) (h : relB z y) : Te (fun K => qe_X13_product K x x' z) (fun rr => Te (fun K => ce_X11_product vl K 0 x x' y) (fun rc => relB rr.2 rc.2.2 ∧ gI X rr.2 ∧ brC rc.2.2 ∧ fr (fun g => rPs g ∨ 94 ≤ g ∧ g ≤ 96) z rr.2 ∧ fr bdQ y rc.2.2 ∧ ansI [(1, 1), (2, 2), (3, 4), (4, 3)] rr rc)) := by
  refine te_two (xq_product hz) (xc_product hB) (fun rr rc hr hc => ?_)
  have fail : ∀ {j k : Nat}, rFl X z j rr → (j, k) ∈ [(1, 1), (2, 2), (3, 4), (4, 3)] → rc.1 = k → rc.2.2 = y → relB rr.2 rc.2.2 ∧ gI X rr.2 ∧ brC rc.2.2 ∧ fr (fun g => rPs g ∨ 94 ≤ g ∧ g ≤ 96) z rr.2 ∧ fr bdQ y rc.2.2 ∧ ansI [(1, 1), (2, 2), (3, 4), (4, 3)] rr rc := fun {j k} hf hm e1 e2 => ⟨by rw [e2]; exact relB_fail h hf, hf.1, by rw [e2]; exact hB, fr_mono (fun g hg => Or.inl hg) hf.2.2, by rw [e2]; exact fr_rf, Or.inr ⟨j, k, hm, hf.2.1, e1⟩⟩
  have nz : ∀ {b n : Nat} {x : Int32}, b < 20 → x = nI b → 2 ≤ n → n ≤ 5 → y.2.1 15 b = nI n → ¬ noB (z.2.1 96) x := fun {b n x} b1 b2 b3 b4 b5 hn => by
    have := noB_iff h hn b b1 b2
    rw [b5] at this
    exact absurd this (nI_ne0 (by omega) (by omega))
  have ny : ∀ {b n l : Nat} {x : Int32}, b < 20 → x = nI b → hBr z b n l → ¬ noB (y.2.1 15) x := fun {b n l x} b1 b2 b3 hn => by
    have := hn b b1 b2
    rw [← (h b b1).1, b3.2.2.2.1] at this
    exact absurd this (nI_ne0 (by have := b3.1; omega) (by have := b3.2.1; omega))
  rcases hr with ⟨r1, r2⟩ | ⟨a, n, l, b, m, k, a1, a2, a3, b1, b2, b3, hr⟩
  · rcases hc with ⟨c1, c2, -⟩ | ⟨a, n, l, b, m, k, a1, a2, a3, a4, a5, a6, a7, b1, b2, b3, b4, b5, -⟩
    · exact fail r1 (by simp) c1 c2
    · rcases r2 with r2 | r2
      · exact absurd r2 (nz a1 a2 a3 a4 a5)
      · exact absurd r2 (nz b1 b2 b3 b4 b5)
  · rcases hc with ⟨-, -, c3⟩ | ⟨a', n', l', b', m', k', a1', a2', a3', a4', a5', a6', a7', b1', b2', b3', b4', b5', b6', b7', hc⟩
    · rcases c3 with c3 | c3
      · exact absurd c3 (ny a1 a2 a3)
      · exact absurd c3 (ny b1 b2 b3)
    · have ea : a = a' := nI_inj9 (by omega) (by omega) (a2.symm.trans a2')
      subst ea
      have eb : b = b' := nI_inj9 (by omega) (by omega) (b2.symm.trans b2')
      subst eb
      obtain ⟨q1, q2, q3⟩ := relB_at h a1 a3 a3' a4' a5' a6' a7'
      subst q1
      subst q2
      obtain ⟨q1, q2, q4⟩ := relB_at h b1 b3 b3' b4' b5' b6' b7'
      subst q1
      subst q2
      rcases hr with ⟨r1, r2⟩ | ⟨r2, hr⟩
      · rcases hc with ⟨c1, c2, -⟩ | ⟨c3, -⟩
        · exact fail r1 (by simp) c1 c2
        · exact absurd c3 r2
      · rcases hc with ⟨-, -, c3⟩ | ⟨-, hc⟩
        · exact absurd r2 c3
        · rcases hr with ⟨r1, r3⟩ | ⟨r3, hr⟩
          · rcases hc with ⟨c1, c2, -⟩ | ⟨c3, -⟩
            · exact fail r1 (by simp) c1 c2
            · omega
          · rcases hc with ⟨-, -, c3⟩ | ⟨-, hc⟩
            · omega
            · rcases hr with ⟨r1, r4⟩ | ⟨c, r1, r4, r5, r6, r7, r8⟩
              · rcases hc with ⟨c1, c2, -⟩ | ⟨-, c, c1, -⟩
                · exact fail r1 (by simp) c1 c2
                · exact absurd ((h c c1.1).1.trans c1.2.1) (r4 c c1.1)
              · rcases hc with ⟨-, -, c3⟩ | ⟨c0, c', c1, c2, c3, c4, c5⟩
                · exact absurd ((h c r1.1).1.symm.trans r1.2.1) (c3 c r1.1)
                · have ec := lfB_uni (fun b hb => (h b hb).1) r1 c1
                  subst ec
                  refine ⟨relB_new h r3 r8 c5 (fun i hi => ?_), r5, c3, fr_mono (fun g hg => ?_) r7, c4, Or.inl ⟨r6, c0, r4.trans c2.symm⟩⟩
                  · unfold wpr
                    split
                    · exact q3 i (by omega)
                    · exact q4 (i - l) (by omega)
                  · rcases hg with hg | hg
                    · exact Or.inl (Or.inl hg)
                    · exact Or.inr hg
theorem xc_dropBraid (hB : brC y) : Te (fun K => ce_X11_dropBraid vl K 0 x y) (fun r => brC r.2 ∧ (r.1 = 0 ∧ r.2 = y ∧ noB (y.2.1 15) x ∨ r.1 = 1 ∧ ∃ b n, b < 20 ∧ x = nI b ∧ 1 ≤ n ∧ n ≤ 5 ∧ y.2.1 15 b = nI n ∧ r.2 = usI y 15 b 0)) := by
  refine e_X11_dropBraid ?_; unfold cm_X11_dropBraid_0
  refine w_cs1 (tc_hasBraid (brC_E hB)) ?_
  rintro v y1 ⟨hv, e2⟩
  dsimp only at hv e2
  subst e2
  rcases hv with ⟨rfl, h1⟩ | ⟨rfl, h1⟩
  · obtain ⟨d, n, hd, rfl, k1, k2, k3⟩ := h1
    refine w_ifF (by decide) (w_ctI ch_15 rfl hd (w_okZ (Or.inr rfl) (w_some ⟨fun e he => ?_, Or.inr ⟨rfl, d, n, hd, rfl, k2, k3, k1, rfl⟩⟩)))
    by_cases ed : e = d
    · rw [ed]
      exact ⟨0, 0, by omega, by omega, po_usI_at, fun h9 => by omega⟩
    · obtain ⟨m, l, q1, q2, q3, q4⟩ := hB e he
      refine ⟨m, l, q1, q2, rd_ne ed q3, fun h9 => ?_⟩
      obtain ⟨s1, s2, s3⟩ := q4 h9
      refine ⟨s1, rd_ot (by omega) s2, fun i hi => ?_⟩
      obtain ⟨w, w1, w2, w3⟩ := s3 i hi
      exact ⟨w, rd_ot (by omega) w1, w2, w3⟩
  · exact w_ifT rfl (w_okZ (Or.inl rfl) (w_some ⟨hB, Or.inl ⟨rfl, rfl, h1⟩⟩))
theorem xq_dropBraid (h : gI X z) : Te (fun K => qe_X13_dropBraid K x z) (fun r => gI X r.2 ∧ (r.1 = 0 ∧ r.2 = usF z 1 0 ∧ noB (z.2.1 96) x ∨ r.1 = 1 ∧ ∃ b n l, b < 20 ∧ x = nI b ∧ hBr z b n l ∧ r.2 = usI (usF z 1 0) 96 b 0)) := by
  have h1 := gI_1 (c := 0) h
  refine e_X13_dropBraid ?_; unfold qm_X13_dropBraid_0
  refine w_wrF (w_hasBX h1.2.2.2.2.2.1 (fun h0 => w_ifT rfl (w_okZ (Or.inl rfl) (w_some ⟨h1, Or.inl ⟨rfl, rfl, h0⟩⟩))) (fun c n l hc hx hh => w_ifF (by decide) ?_))
  subst hx
  refine w_wrI ml96 rfl (by omega) (w_okZ (Or.inr rfl) (w_some ⟨?_, Or.inr ⟨rfl, c, n, l, hc, rfl, hh, rfl⟩⟩))
  refine gI_br (P := fun g => g = 96) (fr_I rfl) (fun g hg => Or.inl (by omega)) (fun d hd => ?_) h1
  by_cases hdc : d = c
  · rw [hdc]
    exact ⟨0, 0, by omega, by omega, po_usI_at, fun h9 => by omega⟩
  · rcases gBr_h (h1.2.2.2.2.2.1 d hd) with e | ⟨n2, l2, hh2⟩
    · exact ⟨0, 0, by omega, by omega, rd_ne hdc e, fun h9 => by omega⟩
    · exact hBr_g (hBr_eq hh2 (po_usI_ne hdc) (congrFun (po_usI_ot (by decide)) _) (fun i _ => congrFun (po_usI_ot (by decide)) _))
theorem b_dropBraid (hz : gI X z) (hB : brC y) (h : relB z y) : Te (fun K => qe_X13_dropBraid K x z) (fun rr => Te (fun K => ce_X11_dropBraid vl K 0 x y) (fun rc => relB rr.2 rc.2 ∧ gI X rr.2 ∧ brC rc.2 ∧ fr (fun g => rPs g ∨ 94 ≤ g ∧ g ≤ 96) z rr.2 ∧ fr bdQ y rc.2 ∧ rr.2.1 1 = 0 ∧ rr.1 = rc.1)) := by
  refine te_two (xq_dropBraid hz) (xc_dropBraid hB) (fun rr rc hr hc => ?_)
  obtain ⟨hI, hr⟩ := hr
  obtain ⟨hB2, hc⟩ := hc
  rcases hr with ⟨r1, r2, r3⟩ | ⟨r1, b, n, l, b1, b2, b3, r2⟩
  · rcases hc with ⟨c1, c2, c3⟩ | ⟨c1, b, n, b1, b2, b3, b4, b5, c2⟩
    · refine ⟨?_, hI, hB2, ?_, by rw [c2]; exact fr_rf, by rw [r2]; exact po_usF_at, r1.trans c1.symm⟩
      · rw [r2, c2]
        exact h
      · rw [r2]
        exact fr_F (Or.inl (Or.inl rfl))
    · have := noB_iff h r3 b b1 b2
      rw [b5] at this
      exact absurd this (nI_ne0 (by omega) (by omega))
  · rcases hc with ⟨c1, c2, c3⟩ | ⟨c1, b', n', b1', b2', b3', b4', b5', c2⟩
    · have := c3 b b1 b2
      rw [← (h b b1).1, b3.2.2.2.1] at this
      exact absurd this (nI_ne0 (by have := b3.1; omega) (by have := b3.2.1; omega))
    · have eb : b = b' := nI_inj9 (by omega) (by omega) (b2.symm.trans b2')
      subst eb
      refine ⟨fun d hd => ?_, hI, hB2, ?_, ?_, ?_, r1.trans c1.symm⟩
      · rw [r2, c2]
        by_cases ed : d = b
        · rw [ed]
          have e0 : (usI (usF z 1 0) 96 b 0).2.1 96 b = 0 := po_usI_at
          exact ⟨e0.trans po_usI_at.symm, fun h9 => absurd e0 h9⟩
        · obtain ⟨k1, k2⟩ := h d hd
          have e6 : (usI (usF z 1 0) 96 b 0).2.1 96 d = z.2.1 96 d := po_usI_ne ed
          have e5 : (usI (usF z 1 0) 96 b 0).2.1 95 = z.2.1 95 := po_usI_ot (by decide)
          have e4 : (usI (usF z 1 0) 96 b 0).2.1 94 = z.2.1 94 := po_usI_ot (by decide)
          have f6 : (usI y 15 b 0).2.1 15 d = y.2.1 15 d := po_usI_ne ed
          have f5 : (usI y 15 b 0).2.1 14 = y.2.1 14 := po_usI_ot (by decide)
          have f4 : (usI y 15 b 0).2.1 13 = y.2.1 13 := po_usI_ot (by decide)
          rw [e6, e5, e4, f6, f5, f4]
          exact ⟨k1, k2⟩
      · rw [r2]
        exact fr_I2 (fr_F (Or.inl (Or.inl rfl))) (Or.inr (by omega))
      · rw [c2]
        exact fr_I (by unfold bdQ; omega)
      · rw [r2]
        exact (show (usF z 1 0).1 1 = 0 from po_usF_at)
end XB3
