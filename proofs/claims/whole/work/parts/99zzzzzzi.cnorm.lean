/-! the class: normal, factor, equal have an answer -/
def nrP (g : Nat) : Prop := 46001 ≤ g ∧ g ≤ 47006
section CNR
variable {vl : Nat → Nat} {y : ow_MS} {x x' : Int32}
theorem fo46 : fO 46000 := Or.inl rfl
theorem fo47 : fO 47000 := Or.inr (Or.inl rfl)
theorem br_n {y1 : ow_MS} (hf : fr nrP y y1) (h : brC y) : brC y1 := brC_fr hf (by unfold nrP; omega) h
theorem e_X11_normal {vl : Nat → Nat} {r0 : Nat} {x1 : Int32} {x2 : Int32} {z : ow_MS} {Q : (Nat × Int32 × ow_MS) → Prop} (H : Tt (fun K _ => cm_X11_normal_0 vl K x1 x2 r0 z) Q) : Te (fun K => ce_X11_normal vl K r0 x1 x2 z) Q := w_te0 H
theorem tc_normal (hB : brC y) : Te (fun K => ce_X11_normal vl K 0 x x' y) (fun r => brC r.2.2 ∧ fr nrP y r.2.2) := by
  refine e_X11_normal ?_; unfold cm_X11_normal_0
  refine w_tc0 (tc_needBraid (brC_E hB)) ?_ ?_
  · rintro y1 ⟨h1, rfl⟩
    rcases h1 with ⟨-, hb⟩ | h1
    · obtain ⟨b, n, l, hb20, rfl, hn2, hn5, e15, l16, e14, hw⟩ := isB_w hB hb
      refine w_if (fun _ => w_some ⟨hB, fr_rf⟩) (fun f0 => w_if (fun f3 => w_cs0 (tc_writeF fo46 hn2 hn5 hb20 e15 l16 e14) ?_) (fun _ => w_some ⟨hB, fr_rf⟩))
      rintro y2 ⟨g1, g2⟩
      have f2 : fr nrP y1 y2 := fr_mono (fun g hg => by unfold foP at hg; unfold nrP; omega) g2
      have hB2 := br_n f2 hB
      have hx6 := five f0 (Int32.le_trans f3 (by decide))
      refine w_if (fun _ => w_crI ch_15 rfl hb20 rfl (w_some ⟨hB2, f2⟩)) (fun e => w_if (fun _ => w_rdF rfl (w_some ⟨hB2, f2⟩)) (fun n0 => w_if (fun _ => w_rdF rfl (w_some ⟨hB2, f2⟩)) (fun n1 => w_if (fun _ => w_crI ch_14 rfl hb20 rfl (w_some ⟨hB2, f2⟩)) (fun n2 => ?_))))
      exfalso
      rcases hx6 with h | h | h | h | h | h
      · exact n0 h
      · exact n1 h
      · exact n2 h
      · rw [h] at e
        exact e (by decide)
      · rw [h] at f3
        exact absurd f3 (by decide)
      · rw [h] at f3
        exact absurd f3 (by decide)
    · exact absurd (show (0 : Nat) = 1 from h1.1) (by decide)
  · rintro a y1 ha ⟨h1, rfl⟩
    exact w_some ⟨hB, fr_rf⟩
theorem e_X11_factor {vl : Nat → Nat} {r0 : Nat} {x1 : Int32} {x2 : Int32} {x3 : Int32} {z : ow_MS} {Q : (Nat × Int32 × ow_MS) → Prop} (H : Tt (fun K _ => cm_X11_factor_0 vl K x1 x2 x3 r0 z) Q) : Te (fun K => ce_X11_factor vl K r0 x1 x2 x3 z) Q := w_te0 H
theorem tc_factor {x3 : Int32} (hB : brC y) : Te (fun K => ce_X11_factor vl K 0 x x' x3 y) (fun r => brC r.2.2 ∧ fr nrP y r.2.2) := by
  refine e_X11_factor ?_; unfold cm_X11_factor_0
  refine w_tc0 (tc_needBraid (brC_E hB)) ?_ ?_
  · rintro y1 ⟨h1, rfl⟩
    rcases h1 with ⟨-, hb⟩ | h1
    · obtain ⟨b, n, l, hb20, rfl, hn2, hn5, e15, l16, e14, hw⟩ := isB_w hB hb
      refine w_cs0 (tc_writeF fo46 hn2 hn5 hb20 e15 l16 e14) ?_
      rintro y2 ⟨⟨g1, m, m24, g3⟩, g2⟩
      have f2 : fr nrP y1 y2 := fr_mono (fun g hg => by unfold foP at hg; unfold nrP; omega) g2
      have hB2 := br_n f2 hB
      have fin : ∀ v : Int32, Tt (fun _ _ => some ((0 : Nat), v, y2)) (fun r => brC r.2.2 ∧ fr nrP y1 r.2.2) := fun v => w_some ⟨hB2, f2⟩
      refine w_if (fun _ => fin _) (fun f1 => w_rdF g3 (w_if (fun _ => fin _) (fun f4 => w_if (fun _ => fin _) (fun _ => w_crI ch_15 rfl hb20 rfl (w_if (fun _ => ?_) (fun _ => fin _))))))
      have h0 : ¬ x' < 0 := fun h9 => f1 (Int32.lt_trans h9 (by decide))
      obtain ⟨k, k31, rfl⟩ := nI_of h0
      have k1 : 1 ≤ k := by
        apply Nat.le_of_not_lt
        exact fun h9 => f1 (nI_lt (b := 1) h9 (by omega))
      have k2 : k ≤ m := by
        apply Nat.le_of_not_lt
        exact fun h9 => f4 (nI_lt h9 k31)
      rw [show nI k - 1 = nI (k - 1) from pk_sub (b := 1) k1]
      refine w_crI (fO_4 fo46) rfl (show k - 1 < 24 by omega) rfl (w_cs1 tc_image ?_)
      rintro v z ⟨e1, e2⟩
      dsimp only at e2
      rw [e2]
      exact fin _
    · exact absurd (show (0 : Nat) = 1 from h1.1) (by decide)
  · rintro a y1 ha ⟨h1, rfl⟩
    exact w_some ⟨hB, fr_rf⟩
theorem u_X5_sameAs_1 {vl : Nat → Nat} {x2 : Int32} {r0 : Nat} {r1 : Nat} {z : ow_MS} {Q : (Int32 × ow_MS) → Prop} (H : Tt (fun K k => cm_X5_sameAs_1 vl K (c_X5_sameAs vl K k) x2 r0 r1 z) Q) : Tt (fun K k => c_X5_sameAs vl K k 1 x2 r0 r1 z) Q := w_un (fun _ _ => rfl) H
theorem e_X5_sameAs {vl : Nat → Nat} {r0 : Nat} {r1 : Nat} {z : ow_MS} {Q : (Int32 × ow_MS) → Prop} (H : Tt (fun K k => c_X5_sameAs vl K k 0 0 r0 r1 z) Q) : Te (fun K => ce_X5_sameAs vl K r0 r1 z) Q := w_te H
theorem u_X5_sameAs_0 {vl : Nat → Nat} {x2 : Int32} {r0 : Nat} {r1 : Nat} {z : ow_MS} {Q : (Int32 × ow_MS) → Prop} (H : Tt (fun K k => cm_X5_sameAs_0 vl K (c_X5_sameAs vl K k) x2 r0 r1 z) Q) : Tt (fun K k => c_X5_sameAs vl K k 0 x2 r0 r1 z) Q := w_un (fun _ _ => rfl) H
theorem tc_sameAs {h g n n' : Nat} (hh : fO h) (hg : fO g) (h0 : foW y h n) (g0 : foW y g n') : Te (fun K => ce_X5_sameAs vl K h g y) (fun r => (r.1 = 0 ∨ r.1 = 1) ∧ r.2 = y) := by
  obtain ⟨h1, l, hl, h3⟩ := h0
  let Q : Int32 × ow_MS → Prop := fun r => (r.1 = 0 ∨ r.1 = 1) ∧ r.2 = y
  have no : Tt (fun _ _ => okZ 0 (some ((0 : Int32), y))) Q := w_okZ (Or.inl rfl) (w_some ⟨Or.inl rfl, rfl⟩)
  have c1 : ∀ (d j : Nat), j + d = l → Tt (fun K t => c_X5_sameAs vl K t 1 (nI j) h g y) Q := by
    intro d
    induction d with
    | zero =>
      intro j hj
      refine u_X5_sameAs_1 ?_; unfold cm_X5_sameAs_1
      exact w_rdF h3 (w_leT (by omega) (by omega) (w_okZ (Or.inr rfl) (w_some ⟨Or.inr rfl, rfl⟩)))
    | succ d ih =>
      intro j hj
      refine u_X5_sameAs_1 ?_; unfold cm_X5_sameAs_1
      rw [nI_1]
      exact w_rdF h3 (w_leF (by omega) (by omega) (w_crI (fO_4 hh) rfl (show j < 24 by omega) rfl (w_crI (fO_4 hg) rfl (show j < 24 by omega) rfl (w_if (fun _ => ih (j + 1) (by omega)) (fun _ => no)))))
  refine e_X5_sameAs ?_
  refine u_X5_sameAs_0 ?_; unfold cm_X5_sameAs_0
  exact w_rdF rfl (w_rdF rfl (w_if (fun _ => w_rdF rfl (w_rdF rfl (w_if (fun _ => w_rdF rfl (w_rdF rfl (w_if (fun _ => c1 l 0 (by omega)) (fun _ => no)))) (fun _ => no)))) (fun _ => no)))
theorem e_X11_equal {vl : Nat → Nat} {r0 : Nat} {x1 : Int32} {x2 : Int32} {z : ow_MS} {Q : (Int32 × ow_MS) → Prop} (H : Tt (fun K _ => cm_X11_equal_0 vl K x1 x2 r0 z) Q) : Te (fun K => ce_X11_equal vl K r0 x1 x2 z) Q := w_te0 H
theorem tc_equal (hB : brC y) : Te (fun K => ce_X11_equal vl K 0 x x' y) (fun r => (r.1 = 0 ∨ r.1 = 1) ∧ brC r.2 ∧ fr nrP y r.2) := by
  have no : Tt (fun _ _ => okZ 0 (some ((0 : Int32), y))) (fun r => (r.1 = 0 ∨ r.1 = 1) ∧ brC r.2 ∧ fr nrP y r.2) := w_okZ (Or.inl rfl) (w_some ⟨Or.inl rfl, hB, fr_rf⟩)
  refine e_X11_equal ?_; unfold cm_X11_equal_0
  refine w_cs1 (tc_hasBraid (brC_E hB)) ?_
  rintro v y1 ⟨h1, e1⟩
  dsimp only at h1 e1
  rw [e1]
  rcases h1 with ⟨rfl, hb⟩ | ⟨rfl, -⟩
  · refine w_ifF (by decide) (w_cs1 (tc_hasBraid (brC_E hB)) ?_)
    rintro v2 y2 ⟨h2, e2⟩
    dsimp only at h2 e2
    rw [e2]
    rcases h2 with ⟨rfl, hb'⟩ | ⟨rfl, -⟩
    · obtain ⟨b, n, l, hb20, rfl, hn2, hn5, e15, l16, e14, hw⟩ := isB_w hB hb
      obtain ⟨b', n', l', hb20', rfl, hn2', hn5', e15', l16', e14', hw'⟩ := isB_w hB hb'
      refine w_ifF (by decide) (w_crI ch_15 rfl hb20 e15 (w_crI ch_15 rfl hb20' e15' (w_if (fun _ => ?_) (fun _ => no))))
      refine w_cs0 (tc_writeF fo46 hn2 hn5 hb20 e15 l16 e14) ?_
      rintro y3 ⟨g1, g2⟩
      refine w_cs0 (tc_writeF (n := n') (l := l') fo47 hn2' hn5' hb20' ((congrFun (g2 15 (by unfold foP; omega)).2.1 b').trans e15') l16' ((congrFun (g2 14 (by unfold foP; omega)).2.1 b').trans e14')) ?_
      rintro y4 ⟨g3, g4⟩
      have g14 : foW y4 46000 n := by
        obtain ⟨q1, m, q2, q3⟩ := g1
        exact ⟨(g4 46001 (by unfold foP; omega)).1.trans q1, m, q2, (g4 46003 (by unfold foP; omega)).1.trans q3⟩
      have f4 : fr nrP y y4 := fr_tr (fr_mono (fun g hg => by unfold foP at hg; unfold nrP; omega) g2) (fr_mono (fun g hg => by unfold foP at hg; unfold nrP; omega) g4)
      refine w_cs1 (tc_sameAs fo46 fo47 g14 g3) ?_
      rintro v5 y5 ⟨e5, e6⟩
      dsimp only at e5 e6
      rw [e6]
      exact w_okZ e5 (w_some ⟨e5, br_n f4 hB, f4⟩)
    · exact w_ifT rfl no
  · exact w_ifT rfl no
end CNR
