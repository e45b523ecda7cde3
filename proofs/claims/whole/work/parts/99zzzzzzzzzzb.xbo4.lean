/-! both sides: braid, feed, end -/
section XB4
variable {X : (Nat → Nat → Int32) → Prop} {z y : ow_MS} {vl : Nat → Nat} {x : Int32}
theorem lwd_uni {n : Nat} {v w w' : Int32} (hn : n ≤ 5) (h : lwd n v w) (h' : lwd n v w') : w = w' := by
  rcases h with ⟨a, a1, a2, a3⟩ | ⟨a0, a, a1, a2, a3⟩ <;> rcases h' with ⟨b, b1, b2, b3⟩ | ⟨b0, b, b1, b2, b3⟩
  · have e : a = b := nI_inj9 (by omega) (by omega) (a2.symm.trans b2)
    rw [a3, b3, e]
  · exact absurd ⟨a, a1, a2⟩ b0
  · exact absurd ⟨b, b1, b2⟩ a0
  · have e : a = b := nI_inj9 (by omega) (by omega) (a2.symm.trans b2)
    rw [a3, b3, e]
theorem lwd_bad {n : Nat} {v w : Int32} (h : lwd n v w) (hb : lbad n v) : False := by
  rcases h with ⟨a, a1, a2, -⟩ | ⟨-, a, a1, a2, -⟩
  · exact hb.1 ⟨a, a1, a2⟩
  · exact hb.2 ⟨a, a1, a2⟩
theorem relB_sb {z1 y1 : ow_MS} {c : Nat} (h : relB z y) (h0 : z.2.1 96 c = 0) (hz : sbB 94 z z1 c) (hy : sbB 13 y y1 c) : relB z1 y1 := fun b hb => by
  obtain ⟨h1, h2⟩ := h b hb
  have e6 : z1.2.1 96 = z.2.1 96 := hz.1
  have e5 : z1.2.1 95 = z.2.1 95 := hz.2.1
  have f6 : y1.2.1 15 = y.2.1 15 := hy.1
  have f5 : y1.2.1 14 = y.2.1 14 := hy.2.1
  rw [e6, e5, f6, f5]
  refine ⟨h1, fun h9 => ?_⟩
  obtain ⟨k1, k2⟩ := h2 h9
  refine ⟨k1, fun l hl e i hi => ?_⟩
  have hbc : b ≠ c := fun e9 => h9 (by rw [e9]; exact h0)
  rw [hz.2.2 b hbc i (by omega), hy.2.2 b hbc i (by omega)]
  exact k2 l hl e i hi
theorem b_braid (hz : gI X z) (hB : brC y) (h : relB z y) (hT : relT z y) : Te (fun K => qe_X13_braid K x z) (fun rr => Te (fun K => ce_X11_braid vl K 0 x y) (fun rc => relB rr.2 rc.2.2 ∧ relT rr.2 rc.2.2 ∧ gI X rr.2 ∧ brC rc.2.2 ∧ fr (fun g => rPs g ∨ g = 11 ∨ 94 ≤ g ∧ g ≤ 96) z rr.2 ∧ fr bdP y rc.2.2 ∧ ansI [(1, 2), (2, 3)] rr rc)) := by
  obtain ⟨t, t1, t2, t3, t4⟩ := id hT
  refine te_two (xq_braid hz t1 t2) (xc_braid hB t1 t3) (fun rr rc hr hc => ?_)
  have fail : ∀ {j k : Nat}, rFl X z j rr → (j, k) ∈ [(1, 2), (2, 3)] → rc.1 = k → rc.2.2 = y → relB rr.2 rc.2.2 ∧ relT rr.2 rc.2.2 ∧ gI X rr.2 ∧ brC rc.2.2 ∧ fr (fun g => rPs g ∨ g = 11 ∨ 94 ≤ g ∧ g ≤ 96) z rr.2 ∧ fr bdP y rc.2.2 ∧ ansI [(1, 2), (2, 3)] rr rc := fun {j k} hf hm e1 e2 => by
    have e11 := (hf.2.2 11 (by unfold rPs rSc; omega)).1
    have e10 := (hf.2.2 10 (by unfold rPs rSc; omega)).2.1
    exact ⟨by rw [e2]; exact relB_fail h hf, ⟨t, t1, by rw [e11]; exact t2, by rw [e2]; exact t3, fun k hk => by rw [e10, e2]; exact t4 k hk⟩, hf.1, by rw [e2]; exact hB, fr_mono (fun g hg => Or.inl hg) hf.2.2, by rw [e2]; exact fr_rf, Or.inr ⟨j, k, hm, hf.2.1, e1⟩⟩
  rcases hr with ⟨r1, r2⟩ | ⟨n, n2, n5, n3, hr⟩
  · rcases hc with ⟨c1, c2, -⟩ | ⟨n, n2, n5, n3, -⟩
    · exact fail r1 (by simp) c1 c2
    · exact absurd ⟨n, n2, n5, n3⟩ r2
  · rcases hc with ⟨-, -, c3⟩ | ⟨n', n2', n5', n3', hc⟩
    · exact absurd ⟨n, n2, n5, n3⟩ c3
    · have en : n = n' := nI_inj9 (by omega) (by omega) (n3.symm.trans n3')
      subst en
      rcases hr with ⟨r1, r2⟩ | ⟨c, r0, r1, r2, r3, r4, hr⟩
      · rcases hc with ⟨c1, c2, -⟩ | ⟨-, c, c1, -⟩
        · exact fail r1 (by simp) c1 c2
        · exact absurd ((h c c1.1).1.trans c1.2.1) (r2 c c1.1)
      · rcases hc with ⟨-, -, c3⟩ | ⟨c0, c', c1, c2, c3, c4, hc⟩
        · exact absurd ((h c r0.1).1.symm.trans r0.2.1) (c3 c r0.1)
        · have ec := lfB_uni (fun b hb => (h b hb).1) r0 c1
          subst ec
          have hT0 : relT rr.2 rc.2.2 := ⟨0, by omega, r3, c3, fun k hk => by omega⟩
          have hfr : fr (fun g => rPs g ∨ g = 11 ∨ 94 ≤ g ∧ g ≤ 96) z rr.2 := fr_mono (fun g hg => by
            rcases hg with hg | hg
            · exact Or.inl (Or.inl hg)
            · exact Or.inr hg) r4
          rcases hr with ⟨p1, p2, w, p3, p4⟩ | ⟨i, p1, p2, p3, p4, p5, p6⟩
          · rcases hc with ⟨q1, q2, w', q3, q4⟩ | ⟨i, q1, q2, q3, q4, q5, q6⟩
            · refine ⟨relB_new h p1 p4 q4 (fun i hi => lwd_uni n5 (p3 i hi) ?_), hT0, r1, c2, hfr, c4, Or.inl ⟨r2, c0, p2.trans q2.symm⟩⟩
              rw [t4 i hi]
              exact q3 i hi
            · exfalso
              rcases q4 with q4 | q4
              · omega
              · rw [← t4 i q1] at q4
                exact lwd_bad (p3 i q1) q4
          · rcases hc with ⟨q1, q2, w', q3, q4⟩ | ⟨j, q1, q2, q3, q4, q5, q6⟩
            · exfalso
              rcases p4 with p4 | p4
              · omega
              · rw [t4 i p1] at p4
                exact lwd_bad (q3 i p1) p4
            · have eij : i = j := by
                rcases Nat.lt_trichotomy i j with q | q | q
                · exfalso
                  obtain ⟨w, hw⟩ := q3 i q
                  rcases p4 with p4 | p4
                  · omega
                  · rw [t4 i p1] at p4
                    exact lwd_bad hw p4
                · exact q
                · exfalso
                  obtain ⟨w, hw⟩ := p3 j q
                  rcases q4 with q4 | q4
                  · omega
                  · rw [← t4 j q1] at q4
                    exact lwd_bad hw q4
              subst eij
              exact ⟨relB_sb h r0.2.1 p6 q6, hT0, r1, c2, hfr, c4, Or.inl ⟨r2, c0, p5.trans q5.symm⟩⟩
theorem b_feed {a b c d e : Int32} (hz : gI X z) (hT : relT z y) : Te (fun K => qe_X13_feed K a b c d e z) (fun rr => Te (fun K => ce_X11_feed vl K 0 a b c d e y) (fun rc => relT rr.2 rc.2.2 ∧ gI X rr.2 ∧ fr (fun g => rPs g ∨ g = 10 ∨ g = 11) z rr.2 ∧ fr tpP y rc.2.2 ∧ ansI [(1, 3)] rr rc)) := by
  obtain ⟨t, t1, t2, t3, t4⟩ := id hT
  refine te_two (xq_feed hz t1 t2) (tc_feed t3 t1) (fun rr rc hr hc => ?_)
  obtain ⟨k1, k2⟩ := feed_jn t1 t2 t3 t4 hr hc
  have hg : gI X rr.2 ∧ fr (fun g => rPs g ∨ g = 10 ∨ g = 11) z rr.2 := by
    rcases hr with ⟨-, -, r3, -, -, -, -, r8⟩ | ⟨-, r1, -, r3⟩
    · exact ⟨r3, fr_mono (fun g hg => by rcases hg with hg | hg; exact Or.inl (Or.inl hg); exact Or.inr hg) r8⟩
    · exact ⟨r1, fr_mono (fun g hg => Or.inl hg) r3⟩
  refine ⟨k1, hg.1, hg.2, hc.2, ?_⟩
  rcases k2 with k2 | ⟨k3, k4⟩
  · exact Or.inl k2
  · exact Or.inr ⟨1, 3, by simp, k3, k4⟩
theorem b_end (hz : gI X z) (hT : relT z y) : Te (fun K => qe_X13_end K x z) (fun rr => Te (fun K => ce_X11_end vl K 0 x y) (fun rc => relT rr rc.2 ∧ gI X rr ∧ fr (fun g => rPs g ∨ g = 10 ∨ g = 11) z rr ∧ fr (fun q => q = 11001) y rc.2 ∧ (rr.1 1 = 0 ∧ rc.1 = 0 ∨ rr.1 1 = nI 1 ∧ rc.1 = 2))) := by
  obtain ⟨t, t1, t2, t3, t4⟩ := id hT
  refine te_two (xq_end hz t1 t2) (tc_end t3 t1) (fun rr rc hr hc => ?_)
  obtain ⟨k1, k2⟩ := end_jn t1 t2 t3 t4 hr hc
  have hg : gI X rr ∧ fr (fun g => rPs g ∨ g = 10 ∨ g = 11) z rr := by
    rcases hr with ⟨u, -, -, r3, -, -, -, r8⟩ | ⟨-, r1, -, r3⟩
    · exact ⟨r3, fr_mono (fun g hg => by rcases hg with hg | hg; exact Or.inl (Or.inl hg); exact Or.inr hg) r8⟩
    · exact ⟨r1, fr_mono (fun g hg => Or.inl hg) r3⟩
  exact ⟨k1, hg.1, hg.2, hc.2, k2⟩
end XB4
