/-! both sides: inverse -/
section XIC
variable {vl : Nat → Nat} {y : ow_MS} {x x' : Int32}
theorem xc_inverse (hB : brC y) : Te (fun K => ce_X11_inverse vl K 0 x y) (fun r => (r.1 = 1 ∧ r.2.2 = y ∧ noB (y.2.1 15) x ∨ ∃ b n l, b < 20 ∧ x = nI b ∧ 2 ≤ n ∧ n ≤ 5 ∧ y.2.1 15 b = nI n ∧ l ≤ 16 ∧ y.2.1 14 b = nI l ∧ (r.1 = 3 ∧ r.2.2 = y ∧ (∀ c, c < 20 → y.2.1 15 c ≠ 0) ∨ r.1 = 0 ∧ ∃ c, lfB (y.2.1 15) c ∧ r.2.1 = nI c ∧ brC r.2.2 ∧ fr bdQ y r.2.2 ∧ nwB 13 y r.2.2 c n l (fun i => -(y.2.1 13 (16 * b + (l - 1 - i))))))) := by
  let Q0 : ow_MS → Int32 → Nat × Int32 × ow_MS → Prop := fun y x r => (r.1 = 1 ∧ r.2.2 = y ∧ noB (y.2.1 15) x ∨ ∃ b n l, b < 20 ∧ x = nI b ∧ 2 ≤ n ∧ n ≤ 5 ∧ y.2.1 15 b = nI n ∧ l ≤ 16 ∧ y.2.1 14 b = nI l ∧ (r.1 = 3 ∧ r.2.2 = y ∧ (∀ c, c < 20 → y.2.1 15 c ≠ 0) ∨ r.1 = 0 ∧ ∃ c, lfB (y.2.1 15) c ∧ r.2.1 = nI c ∧ brC r.2.2 ∧ fr bdQ y r.2.2 ∧ nwB 13 y r.2.2 c n l (fun i => -(y.2.1 13 (16 * b + (l - 1 - i))))))
  refine e_X11_inverse ?_
  refine u_X11_inverse_0 ?_; unfold cm_X11_inverse_0
  refine w_tc0 (tc_needBraid (brC_E hB)) ?_ ?_
  · rintro y1 ⟨h1, rfl⟩
    rcases h1 with ⟨-, hb⟩ | h1
    · obtain ⟨b, n, l, hb20, rfl, hn2, hn5, e15, l16, e14, hw⟩ := isB_w hB hb
      refine w_tc1 tc_freeBraid ?_ ?_
      · rintro v y2 ⟨h2, rfl⟩
        rcases h2 with ⟨d, hd, -, rfl, e0, eall⟩ | h2
        · have hbd : b ≠ d := fun e => by
            rw [e, e0] at e15
            have := nI_inj9 (a := 0) (b := n) (by omega) (by omega) e15
            omega
          have c1 : ∀ (k i : Nat) (z : ow_MS), i + k = l → fr (fun g => g = 13) y2 z → (∀ k, k < 16 * d ∨ 16 * d + 16 ≤ k → z.2.1 13 k = y2.2.1 13 k) → wdB z d n i → (∀ j, j < i → z.2.1 13 (16 * d + j) = -(y2.2.1 13 (16 * b + (l - 1 - j)))) → Tt (fun K t => c_X11_inverse vl K t 1 (nI b) (nI d) (nI l) (nI i) 0 z) (Q0 y2 (nI b)) := by
            intro k
            induction k with
            | zero =>
              intro i z hi hf hk hwi hv
              have e : i = l := by omega
              subst e
              have z4 : z.2.1 14 = y2.2.1 14 := (hf 14 (by omega)).2.1
              have z5 : z.2.1 15 = y2.2.1 15 := (hf 15 (by omega)).2.1
              refine u_X11_inverse_1 ?_; unfold cm_X11_inverse_1
              refine w_leT (by omega) (by omega) (w_ctI ch_14 rfl hd (w_crI ch_15 rfl hb20 (rd_ot (by omega) ((congrFun z5 b).trans e15)) (w_ctI ch_15 rfl hd (w_some (Or.inr ⟨b, n, i, hb20, rfl, hn2, hn5, e15, l16, e14, Or.inr ⟨rfl, d, ⟨hd, e0, eall⟩, rfl, ?_, fr_I2 (fr_I2 (fr_mono (fun g hg => by rw [hg]; unfold bdQ; omega) hf) (by unfold bdQ; omega)) (by unfold bdQ; omega), po_usI_at, rd_ot (by omega) po_usI_at, fun j hj => rd_ot (by omega) (rd_ot (by omega) (hv j hj)), fun e he => ⟨rd_ne he (rd_ot (by omega) (congrFun z5 e)), rd_ot (by omega) (rd_ne he (congrFun z4 e)), fun j hj => rd_ot (by omega) (rd_ot (by omega) (hk _ (by omega)))⟩⟩⟩)))))
              refine brC_put (n := n) (l := i) hd hB (fun k hk9 => rd_ot (by omega) (rd_ot (by omega) (hk k hk9))) (fun k hk9 => rd_ot (by omega) (rd_ne hk9 (congrFun z4 k))) (fun k hk9 => rd_ne hk9 (rd_ot (by omega) (congrFun z5 k))) ⟨hn5, by omega⟩ po_usI_at (fun _ => ⟨l16, rd_ot (by omega) po_usI_at, fun j hj => ?_⟩)
              obtain ⟨a, a1, a2, a3⟩ := hwi j hj
              exact ⟨a, rd_ot (by omega) (rd_ot (by omega) a1), a2, a3⟩
            | succ k ih =>
              intro i z hi hf hk hwi hv
              obtain ⟨a, a1, a2, a3⟩ := hw (l - 1 - i) (by omega)
              have ea : z.2.1 13 (16 * b + l - 1 - i) = iI a := by
                rw [hk _ (by omega), show 16 * b + l - 1 - i = 16 * b + (l - 1 - i) by omega]
                exact a1
              refine u_X11_inverse_1 ?_; unfold cm_X11_inverse_1
              rw [m16, m16, nI_add, show nI (16 * b + l) - 1 = nI (16 * b + l - 1) from pk_sub (b := 1) (by omega), show nI (16 * b + l - 1) - nI i = nI (16 * b + l - 1 - i) from pk_sub (by omega), nI_add]
              refine w_leF (by omega) (by omega) (w_crI ch_13 rfl (show 16 * b + l - 1 - i < 320 by omega) ea (w_ctB ch_13 rfl (show 16 * d + i < 320 by omega) ?_))
              rw [(lt_a (a := a) (by omega)).2.2, (lt_a (a := -a) (by omega)).1, nI_1]
              refine ih (i + 1) _ (by omega) (fr_I2 hf rfl) (fun j hj => rd_ne (by omega) (hk j hj)) (fun j hj => ?_) (fun j hj => ?_)
              · by_cases e : j = i
                · rw [e]
                  exact ⟨-a, po_usI_at, by omega, by omega⟩
                · obtain ⟨a', q1, q2, q3⟩ := hwi j (by omega)
                  exact ⟨a', rd_ne (by omega) q1, q2, q3⟩
              · by_cases e : j = i
                · rw [e, a1, (lt_a (a := a) (by omega)).2.2]
                  exact po_usI_at
                · exact rd_ne (by omega) (hv j (by omega))
          exact w_crI ch_14 rfl hb20 e14 (c1 l 0 y2 (by omega) fr_rf (fun _ _ => rfl) (fun i hi => absurd hi (Nat.not_lt_zero _)) (fun i hi => absurd hi (Nat.not_lt_zero _)))
        · exact absurd (show (0 : Nat) = 3 from h2.1) (by decide)
      · rintro a v y2 ha ⟨h2, rfl⟩
        rcases h2 with ⟨d, -, q, -⟩ | h2
        · exact absurd q ha
        · exact w_some (Or.inr ⟨b, n, l, hb20, rfl, hn2, hn5, e15, l16, e14, Or.inl ⟨h2.1, rfl, h2.2⟩⟩)
    · exact absurd (show (0 : Nat) = 1 from h1.1) (by decide)
  · rintro a y1 ha ⟨h1, rfl⟩
    rcases h1 with h1 | h1
    · exact absurd h1.1 ha
    · exact w_some (Or.inl ⟨h1.1, rfl, h1.2⟩)
theorem noB_iff {z y : ow_MS} (h : relB z y) (hn : noB (z.2.1 96) x) : noB (y.2.1 15) x := fun b hb e => (h b hb).1.symm.trans (hn b hb e)
theorem b_inverse {X : (Nat → Nat → Int32) → Prop} {z : ow_MS} (hz : gI X z) (hB : brC y) (h : relB z y) : Te (fun K => qe_X13_inverse K x z) (fun rr => Te (fun K => ce_X11_inverse vl K 0 x y) (fun rc => relB rr.2 rc.2.2 ∧ gI X rr.2 ∧ brC rc.2.2 ∧ fr (fun g => rPs g ∨ 94 ≤ g ∧ g ≤ 96) z rr.2 ∧ fr bdQ y rc.2.2 ∧ ansI [(1, 1), (2, 3)] rr rc)) := by
  refine te_two (xq_inverse hz) (xc_inverse hB) (fun rr rc hr hc => ?_)
  have keep : ∀ {k : Nat}, rFl X z k rr → rc.2.2 = y → relB rr.2 rc.2.2 := fun hf e b hb => by
    have e6 := (hf.2.2 96 (by unfold rPs rSc; omega)).2.1
    have e5 := (hf.2.2 95 (by unfold rPs rSc; omega)).2.1
    have e4 := (hf.2.2 94 (by unfold rPs rSc; omega)).2.1
    rw [e, e6, e5, e4]
    exact h b hb
  have fail : ∀ {j k : Nat}, rFl X z j rr → (j, k) ∈ [(1, 1), (2, 3)] → rc.1 = k → rc.2.2 = y → relB rr.2 rc.2.2 ∧ gI X rr.2 ∧ brC rc.2.2 ∧ fr (fun g => rPs g ∨ 94 ≤ g ∧ g ≤ 96) z rr.2 ∧ fr bdQ y rc.2.2 ∧ ansI [(1, 1), (2, 3)] rr rc := fun {j k} hf hm e1 e2 => ⟨keep hf e2, hf.1, by rw [e2]; exact hB, fr_mono (fun g hg => Or.inl hg) hf.2.2, by rw [e2]; exact fr_rf, Or.inr ⟨j, k, hm, hf.2.1, e1⟩⟩
  rcases hr with ⟨r1, r2⟩ | ⟨a, n, l, a1, a2, a3, hr⟩
  · rcases hc with ⟨c1, c2, -⟩ | ⟨b, n, l, b1, b2, b3, b4, b5, -⟩
    · exact fail r1 (by simp) c1 c2
    · have := noB_iff h r2 b b1 b2
      rw [b5] at this
      exact absurd this (nI_ne0 (by omega) (by omega))
  · have n2 := a3.1
    have n5 := a3.2.1
    rcases hc with ⟨-, -, c3⟩ | ⟨b, n', l', b1, b2, b3, b4, b5, b6, b7, hc⟩
    · have := c3 a a1 a2
      rw [← (h a a1).1, a3.2.2.2.1] at this
      exact absurd this (nI_ne0 (by omega) (by omega))
    · have eab : a = b := nI_inj9 (by omega) (by omega) (a2.symm.trans b2)
      subst eab
      obtain ⟨k1, k2⟩ := h a a1
      have en : n = n' := nI_inj9 (by omega) (by omega) (a3.2.2.2.1.symm.trans (k1.trans b5))
      subst en
      obtain ⟨k3, k4⟩ := k2 (by rw [a3.2.2.2.1]; exact nI_ne0 (by omega) (by omega))
      have l16 := a3.2.2.1
      have el : l = l' := nI_inj9 (by omega) (by omega) (a3.2.2.2.2.1.symm.trans (k3.trans b7))
      subst el
      rcases hr with ⟨r1, r2⟩ | ⟨c, r1, r2, r3, r4, r5, r6⟩
      · rcases hc with ⟨c1, c2, -⟩ | ⟨-, c, c1, -⟩
        · exact fail r1 (by simp) c1 c2
        · exact absurd ((h c c1.1).1.trans c1.2.1) (r2 c c1.1)
      · rcases hc with ⟨-, -, c3⟩ | ⟨c0, c', c1, c2, c3, c4, c5⟩
        · exact absurd ((h c r1.1).1.symm.trans r1.2.1) (c3 c r1.1)
        · have ec := lfB_uni (fun b hb => (h b hb).1) r1 c1
          subst ec
          refine ⟨relB_new h l16 r6 c5 (fun i hi => ?_), r3, c3, fr_mono (fun g hg => ?_) r5, c4, Or.inl ⟨r4, c0, r2.trans c2.symm⟩⟩
          · show 0 - z.2.1 94 (16 * a + (l - 1 - i)) = -(y.2.1 13 (16 * a + (l - 1 - i)))
            rw [k4 l l16 a3.2.2.2.2.1 (l - 1 - i) (by omega), Int32.zero_sub]
          · rcases hg with hg | hg
            · exact Or.inl (Or.inl hg)
            · exact Or.inr hg
end XIC
