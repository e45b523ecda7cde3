/-! both sides: visit, linking, figure, alike, drop -/
theorem mk_uni {A : rn_L} {m m' : Nat → Nat} {P P' : Nat} (h : mk A m P) (h' : mk A m' P') : P = P' := by
  have le : ∀ {m m' : Nat → Nat} {P P' : Nat}, mk A m P → mk A m' P' → P ≤ P' := fun {m m' P P'} h h' => by
    have ch : ∀ p, ∃ c, p < P → c < A.length ∧ m c = p := fun p => by
      by_cases e : p < P
      · obtain ⟨c, c1, c2⟩ := h.2.2.2 p e
        exact ⟨c, fun _ => ⟨c1, c2⟩⟩
      · exact ⟨0, fun h9 => absurd h9 e⟩
    have h1 : cntB (fun _ => true) P ≤ cntB (fun _ => true) P' := by
      refine cntB_inj P (fun _ => true) (fun _ => true) (fun p => m' (Classical.choose (ch p))) (fun p hp _ => ?_) (fun p q hp hq _ _ e => ?_)
      · exact ⟨h'.1 _ (Classical.choose_spec (ch p) hp).1, rfl⟩
      · obtain ⟨a1, a2⟩ := Classical.choose_spec (ch p) hp
        obtain ⟨b1, b2⟩ := Classical.choose_spec (ch q) hq
        have := mk_con h (h'.2.2.1 _ _ a1 b1 e)
        rw [a2, b2] at this
        exact this
    have ct : ∀ n, cntB (fun _ => true) n = n := fun n => by
      induction n with
      | zero => rfl
      | succ n ih =>
        show cntB (fun _ => true) n + 1 = n + 1
        rw [ih]
    rw [ct, ct] at h1
    exact h1
  exact Nat.le_antisymm (le h h') (le h' h)
def bothZ (X : (Nat → Nat → Int32) → Prop) (z y : ow_MS) (rr : Int32 × ow_MS) (rc : Int32 × ow_MS) : Prop := (∃ St, rel1 X rr.2 rc.2 St) ∧ fr rPk z rr.2 ∧ fr uP y rc.2 ∧ rr.2.1 1 = 0 ∧ rr.1 = rc.1
section XB2
variable {X : (Nat → Nat → Int32) → Prop} {z y : ow_MS} {St : plT} {vl : Nat → Nat} {x x' : Int32}
theorem b_visit {x3 : Int32} (h : rel1 X z y St) : Te (fun K => qe_X13_visit K x x' x3 z) (fun rr => Te (fun K => ce_X11_visit vl K 0 x x' x3 y) (fun rc => bothI [(1, 1), (2, 2)] X z y rr rc)) := by
  refine te_two (xq_visit h.1 h.2.2.1) (xc_visit h.2.1 h.2.2.2.1 h.2.2.2.2) (fun rr rc hr hc => ?_)
  obtain ⟨g1, g2, g3, hc⟩ := hc
  rcases hr with ⟨r1, r2⟩ | ⟨d, A, sg, d1, d2, d3, hr⟩
  · rcases hc with ⟨c1, -⟩ | ⟨d, A, sg, d1, d2, d3, -⟩
    · exact bo_fail h r1 (by simp) c1 g1 g2 g3
    · rw [r2 d d1 d2] at d3
      cases d3
  · rcases hc with ⟨-, c5⟩ | ⟨d', A', sg', d1', d2', d3', hc⟩
    · rw [c5 d d1 d2] at d3
      cases d3
    · obtain ⟨q1, q2⟩ := pl_uni d1' d1 d2' d2 d3' d3
      subst q1
      subst q2
      obtain ⟨cc, hcc⟩ := (h.2.2.2.2 d A' sg' d1 d3).2.2
      have l24 := okF_len hcc.1
      have l12 := hcc.2.2.2.1
      rcases hr with ⟨r1, r2⟩ | ⟨v, v1, v2, hr⟩
      · rcases hc with ⟨c1, -⟩ | ⟨v, v1, v2, -⟩
        · exact bo_fail h r1 (by simp) c1 g1 g2 g3
        · exact absurd ⟨v, v1, v2⟩ r2
      · rcases hc with ⟨-, c5⟩ | ⟨v', v1', v2', hc⟩
        · exact absurd ⟨v, v1, v2⟩ c5
        · have ev : v = v' := nI_inj9 (by omega) (by omega) (v2.symm.trans v2')
          subst ev
          rcases hr with ⟨r1, r2⟩ | ⟨r1, k, k1, k2, k3⟩
          · rcases hc with ⟨c1, -⟩ | ⟨-, k, k1, k2, -⟩
            · exact bo_fail h r1 (by simp) c1 g1 g2 g3
            · exact absurd ⟨k, k1, k2⟩ r2
          · rcases hc with ⟨-, c5⟩ | ⟨c1, k', k1', k2', k3'⟩
            · exact absurd ⟨k, k1, k2⟩ c5
            · have ek : k = k' := nI_inj9 (by omega) (by omega) (k2.symm.trans k2')
              subst ek
              exact bo_val h r1 c1 (k3.trans k3'.symm) g1 g2 g3
theorem b_linking {a b : Int32} (h : rel1 X z y St) : Te (fun K => qe_X13_linking K x a b z) (fun rr => Te (fun K => ce_X11_linking vl K 0 x a b y) (fun rc => bothI [(1, 1), (2, 2)] X z y rr rc)) := by
  refine te_two (xq_linking h.1 h.2.2.1) (xc_linking h.2.1 h.2.2.2.1 h.2.2.2.2) (fun rr rc hr hc => ?_)
  obtain ⟨g1, g2, g3, hc⟩ := hc
  rcases hr with ⟨r1, r2⟩ | ⟨d, A, sg, d1, d2, d3, hr⟩
  · rcases hc with ⟨c1, -⟩ | ⟨d, A, sg, d1, d2, d3, -⟩
    · exact bo_fail h r1 (by simp) c1 g1 g2 g3
    · rw [r2 d d1 d2] at d3
      cases d3
  · rcases hc with ⟨-, c5⟩ | ⟨d', A', sg', d1', d2', d3', hc⟩
    · rw [c5 d d1 d2] at d3
      cases d3
    · obtain ⟨q1, q2⟩ := pl_uni d1' d1 d2' d2 d3' d3
      subst q1
      subst q2
      obtain ⟨n1, n2, n3⟩ := okS_6 h d1 d3
      rcases hr with ⟨r1, r2⟩ | ⟨i, j, i1, j1, i2, j2, hr⟩
      · rcases hc with ⟨c1, -⟩ | ⟨i, j, i1, j1, i2, j2, -⟩
        · exact bo_fail h r1 (by simp) c1 g1 g2 g3
        · exact absurd ⟨⟨i, i1, i2⟩, j, j1, j2⟩ r2
      · rcases hc with ⟨-, c5⟩ | ⟨i', j', i1', j1', i2', j2', hc⟩
        · exact absurd ⟨⟨i, i1, i2⟩, j, j1, j2⟩ c5
        · have ei : i = i' := nI_inj9 (by omega) (by omega) (i2.symm.trans i2')
          subst ei
          have ej : j = j' := nI_inj9 (by omega) (by omega) (j2.symm.trans j2')
          subst ej
          rcases hr with ⟨r1, r2⟩ | ⟨r1, r2, r3⟩
          · rcases hc with ⟨c1, -⟩ | ⟨-, c2, -⟩
            · exact bo_fail h r1 (by simp) c1 g1 g2 g3
            · exact absurd r2 c2
          · rcases hc with ⟨-, c5⟩ | ⟨c1, -, c3⟩
            · exact absurd c5 r2
            · exact bo_val h r1 c1 (r3.trans c3.symm) g1 g2 g3
theorem fig_uni {A : rn_L} {sg : Nat → Bool} {Pn k : Nat} {r s : Int32} (hk : k < 6) (h : figV A sg Pn k r) (h' : figV A sg Pn k s) : r = s := by
  obtain ⟨a0, a1, a2, a3, a4, a5⟩ := h
  obtain ⟨b0, b1, b2, b3, b4, b5⟩ := h'
  have : k = 0 ∨ k = 1 ∨ k = 2 ∨ k = 3 ∨ k = 4 ∨ k = 5 := by omega
  rcases this with e | e | e | e | e | e
  · exact (a0 e).trans (b0 e).symm
  · exact (a1 e).trans (b1 e).symm
  · exact (a2 e).trans (b2 e).symm
  · exact (a3 e).trans (b3 e).symm
  · exact (a4 e).trans (b4 e).symm
  · rcases a5 e with ⟨q1, q2⟩ | ⟨q1, q2⟩ <;> rcases b5 e with ⟨p1, p2⟩ | ⟨p1, p2⟩
    · exact q1.trans p1.symm
    · exact absurd q2 p2
    · exact absurd p2 q2
    · exact q1.trans p1.symm
theorem b_figure (h : rel1 X z y St) : Te (fun K => qe_X13_figure K x x' z) (fun rr => Te (fun K => ce_X11_figure vl K 0 x x' y) (fun rc => bothI [(1, 1), (2, 2)] X z y rr rc)) := by
  refine te_two (xq_figure h.1 h.2.2.1) (xc_figure h.2.1 h.2.2.2.1 h.2.2.2.2) (fun rr rc hr hc => ?_)
  obtain ⟨g1, g2, g3, hc⟩ := hc
  rcases hr with ⟨r1, r2⟩ | ⟨d, A, sg, d1, d2, d3, hr⟩
  · rcases hc with ⟨c1, -⟩ | ⟨d, A, sg, d1, d2, d3, -⟩
    · exact bo_fail h r1 (by simp) c1 g1 g2 g3
    · rw [r2 d d1 d2] at d3
      cases d3
  · rcases hc with ⟨-, c5⟩ | ⟨d', A', sg', d1', d2', d3', hc⟩
    · rw [c5 d d1 d2] at d3
      cases d3
    · obtain ⟨q1, q2⟩ := pl_uni d1' d1 d2' d2 d3' d3
      subst q1
      subst q2
      rcases hr with ⟨r1, r2⟩ | ⟨r1, k, k1, k2, m, Pn, k3, k4⟩
      · rcases hc with ⟨c1, -⟩ | ⟨-, k, k1, k2, -⟩
        · exact bo_fail h r1 (by simp) c1 g1 g2 g3
        · exact absurd ⟨k, k1, k2⟩ r2
      · rcases hc with ⟨-, c5⟩ | ⟨c1, k', k1', k2', k3'⟩
        · exact absurd ⟨k, k1, k2⟩ c5
        · have ek : k = k' := nI_inj9 (by omega) (by omega) (k2.symm.trans k2')
          subst ek
          exact bo_val h r1 c1 (fig_uni k1 k4 (k3' m Pn k3)) g1 g2 g3
theorem b_alike (h : rel1 X z y St) : Te (fun K => qe_X13_alike K x x' z) (fun rr => Te (fun K => ce_X11_alike vl K 0 x x' y) (fun rc => bothZ X z y rr rc)) := by
  refine te_two (xq_alike h.1 h.2.2.1) (xc_alike h.2.1.1 h.2.2.2.1 h.2.2.2.2) (fun rr rc hr hc => ?_)
  obtain ⟨⟨a1, a2, a3⟩, hr⟩ := hr
  obtain ⟨e, hc⟩ := hc
  have ev : rr.1 = rc.1 := by
    rcases hr with ⟨r1, r2⟩ | ⟨r1, r2⟩ <;> rcases hc with ⟨c1, c2⟩ | ⟨c1, c2⟩
    · exact r1.trans c1.symm
    · exact absurd r2 c2
    · exact absurd c2 r2
    · exact r1.trans c1.symm
  exact ⟨⟨St, a1, by rw [e]; exact h.2.1, relR_fr a3 (by unfold rPs rSc; omega) h.2.2.1, by rw [e]; exact h.2.2.2.1, h.2.2.2.2⟩, fr_mono (fun g hg => rPs_k hg) a3, by rw [e]; exact fr_rf, a2, ev⟩
theorem okS_none (hS : okS St) (d : Nat) : okS (upP St d none) := fun e A sg he hs => by
  by_cases ed : e = d
  · rw [ed, show upP St d none d = none from if_pos rfl] at hs
    cases hs
  · rw [show upP St d none e = St e from if_neg ed] at hs
    exact hS e A sg he hs
theorem b_drop (h : rel1 X z y St) (hM : gM y) : Te (fun K => qe_X13_drop K x z) (fun rr => Te (fun K => ce_X11_drop vl K 0 x y) (fun rc => bothZ X z y rr rc ∧ gM rc.2)) := by
  refine te_two (xq_drop h.1 h.2.2.1) (tc_drop2 hM) (fun rr rc hr hc => ?_)
  obtain ⟨a1, a2, a3, hr⟩ := hr
  obtain ⟨m1, hc⟩ := hc
  rcases hr with ⟨r1, r2, r3⟩ | ⟨r1, d, A, sg, d1, d2, d3, r3⟩
  · rcases hc with ⟨c1, d, A, sg, c, d1, d2, k1, k2, k3, -⟩ | ⟨c1, c2, c3⟩
    · exfalso
      have h9 := (h.2.2.2.1 d d1).1 (r2 d d1 d2)
      have hl : 0 < (clC sg A).2.length := by
        show 0 < (ucd sg 0 [] A).length
        rw [ucd_len]
        have := List.length_pos_iff.mpr k3
        omega
      have h30 := (okL_c (sg := sg) k2).2.2.1
      have hs2 : y.2.1 1002 d = nI (clC sg A).2.length := k1.2.1
      rw [hs2] at h9
      have := nI_inj9 (a := (clC sg A).2.length) (b := 0) (by omega) (by omega) h9
      omega
    · exact ⟨⟨⟨St, a1, m1.1, r3, by rw [c3]; exact h.2.2.2.1, h.2.2.2.2⟩, a3, by rw [c3]; exact fr_rf, a2, r1.trans c1.symm⟩, m1⟩
  · rcases hc with ⟨c1, d', A', sg', c, d1', d2', k1, k2, k3, c3⟩ | ⟨c1, c2, c3⟩
    · have ed : d = d' := nI_inj9 (by omega) (by omega) (d2.symm.trans d2')
      subst ed
      refine ⟨⟨⟨upP St d none, a1, m1.1, r3, fun e he => ?_, okS_none h.2.2.2.2 d⟩, a3, by rw [c3]; exact fr_I (by unfold uP; omega), a2, r1.trans c1.symm⟩, m1⟩
      rw [c3]
      by_cases ee : e = d
      · subst ee
        refine ⟨fun _ => po_usI_at, fun B sb h7 => ?_⟩
        rw [show upP St e none e = none from if_pos rfl] at h7
        cases h7
      · rw [show upP St d none e = St e from if_neg ee]
        refine ⟨fun h7 => rd_ne ee ((h.2.2.2.1 e he).1 h7), fun B sb h7 => ?_⟩
        have hC := (h.2.2.2.1 e he).2 B sb h7
        exact ⟨rd_ot (by omega) hC.1, rd_ne ee hC.2.1, fun i a hi => rd_ot (by omega) (hC.2.2 i a hi)⟩
    · exfalso
      have := (relC_len h.2.2.2.1 h.2.2.2.2 d1).mp (c2 d d1 d2)
      rw [this] at d3
      cases d3
end XB2
