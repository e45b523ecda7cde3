/-! the class: Form's copy, putBefore, cycle, decycle, conjugateBy have an answer -/
section CF3
variable {vl : Nat → Nat} {y : ow_MS} {h g n : Nat} {x : Int32}
theorem e_X5_copy {vl : Nat → Nat} {r0 : Nat} {r1 : Nat} {z : ow_MS} {Q : ow_MS → Prop} (H : Tt (fun K _ => cm_X5_copy_0 vl K r0 r1 z) Q) : Te (fun K => ce_X5_copy vl K r0 r1 z) Q := w_te0 H
theorem tc_copyF (hh : fO h) (hg : fO g) (hd : h + 7 ≤ g ∨ g + 7 ≤ h) (hn : n ≤ 5) (g0 : foW y g n) : Te (fun K => ce_X5_copy vl K h g y) (fun y1 => foW y1 h n ∧ fr (foP h) y y1) := by
  obtain ⟨g1, l, hl, g3⟩ := g0
  refine e_X5_copy ?_; unfold cm_X5_copy_0
  refine w_rdF g1 (w_cs0 (tc_begin hn) ?_)
  rintro z ⟨a1, a2⟩
  have e3 : z.1 (g + 3) = nI l := (a2 (g + 3) (by unfold foP; omega)).1.trans g3
  refine w_rdF rfl (w_wrF (w_rdF (x := nI l) (rf_ot (by omega) e3) (w_wrF (w_rdF po_usF_at (w_cpI (a := 0) (b := 0) (n := l) (fO_4 hg) (fO_4 hh) rfl rfl rfl (by omega) (by omega) (w_some ⟨⟨rf_ot (by omega) (rf_ot (by omega) a1.1), l, hl, po_usF_at⟩, fr_R2 (fr_F2 (fr_F2 a2 (by unfold foP; omega)) (by unfold foP; omega)) (by unfold foP; omega)⟩))))))
theorem u_X5_putBefore_2 {vl : Nat → Nat} {x1 : Int32} {x2 : Int32} {x3 : Int32} {r0 : Nat} {z : ow_MS} {Q : ow_MS → Prop} (H : Tt (fun K k => cm_X5_putBefore_2 vl K (c_X5_putBefore vl K k) x1 x2 x3 r0 z) Q) : Tt (fun K k => c_X5_putBefore vl K k 2 x1 x2 x3 r0 z) Q := w_un (fun _ _ => rfl) H
theorem u_X5_putBefore_1 {vl : Nat → Nat} {x1 : Int32} {x2 : Int32} {x3 : Int32} {r0 : Nat} {z : ow_MS} {Q : ow_MS → Prop} (H : Tt (fun K k => cm_X5_putBefore_1 vl K (c_X5_putBefore vl K k) x1 x2 x3 r0 z) Q) : Tt (fun K k => c_X5_putBefore vl K k 1 x1 x2 x3 r0 z) Q := w_un (fun _ _ => rfl) H
theorem e_X5_putBefore {vl : Nat → Nat} {r0 : Nat} {x1 : Int32} {z : ow_MS} {Q : ow_MS → Prop} (H : Tt (fun K k => c_X5_putBefore vl K k 0 x1 0 0 r0 z) Q) : Te (fun K => ce_X5_putBefore vl K r0 x1 z) Q := w_te H
theorem u_X5_putBefore_0 {vl : Nat → Nat} {x1 : Int32} {x2 : Int32} {x3 : Int32} {r0 : Nat} {z : ow_MS} {Q : ow_MS → Prop} (H : Tt (fun K k => cm_X5_putBefore_0 vl K (c_X5_putBefore vl K k) x1 x2 x3 r0 z) Q) : Tt (fun K k => c_X5_putBefore vl K k 0 x1 x2 x3 r0 z) Q := w_un (fun _ _ => rfl) H
theorem tc_putBefore (hh : fO h) (hn1 : 2 ≤ n) (hn : n ≤ 5) (h0 : foW y h n) : Te (fun K => ce_X5_putBefore vl K h x y) (fun y1 => foW y1 h n ∧ fr (foP h) y y1) := by
  obtain ⟨h1, l, hl, h3⟩ := id h0
  let Q : ow_MS → Prop := fun y1 => foW y1 h n ∧ fr (foP h) y y1
  have c2 : ∀ (z : ow_MS) (a b : Int32), foL z h n (l + 1) → l + 1 ≤ 24 → fr (foP h) y z → Tt (fun K t => c_X5_putBefore vl K t 2 x a b h z) Q := by
    intro z a b q1 q2 q3
    refine u_X5_putBefore_2 ?_; unfold cm_X5_putBefore_2
    refine w_cs0 (tc_strip hh q1 q2) ?_
    rintro z1 ⟨g1, g2⟩
    exact w_some ⟨g1, fr_tr q3 g2⟩
  have c1 : ∀ (d j : Nat) (z : ow_MS) (a : Int32), j + d = l → foL z h n (l + 1) → l + 1 ≤ 24 → fr (foP h) y z → Tt (fun K t => c_X5_putBefore vl K t 1 x a (nI j) h z) Q := by
    intro d
    induction d with
    | zero =>
      intro j z a hj q1 q2 q3
      refine u_X5_putBefore_1 ?_; unfold cm_X5_putBefore_1
      refine w_rdF q1.2 ?_
      rw [show nI (l + 1) - 1 = nI l from pk_sub (b := 1) (by omega)]
      exact w_leT (by omega) (by omega) (c2 z _ _ q1 q2 q3)
    | succ d ih =>
      intro j z a hj q1 q2 q3
      refine u_X5_putBefore_1 ?_; unfold cm_X5_putBefore_1
      refine w_rdF q1.2 ?_
      rw [show nI (l + 1) - 1 = nI l from pk_sub (b := 1) (by omega)]
      refine w_leF (by omega) (by omega) (w_if (fun _ => c2 z _ _ q1 q2 q3) (fun _ => w_cs1 (tc_weigh hh hn1 hn q1 (show j + 1 < 24 by omega)) ?_))
      rintro v z1 ⟨g1, g2, g3⟩
      rw [nI_1]
      exact ih (j + 1) z1 v (by omega) g1 q2 (fr_tr q3 g3)
  refine e_X5_putBefore ?_
  refine u_X5_putBefore_0 ?_; unfold cm_X5_putBefore_0
  refine w_rdF h3 (w_lt (b := 24) (by omega) (by omega) (fun hl24 => w_rdF h3 (w_cpI (a := 0) (b := 1) (n := l) (fO_4 hh) (fO_4 hh) rfl rfl rfl (by omega) (by omega) (w_ctI (i := 0) (fO_4 hh) rfl (by omega) (w_rdF (x := nI l) h3 (w_wrF ?_))))) (fun _ => w_some ⟨h0, fr_rf⟩))
  rw [nI_1]
  exact c1 l 0 _ 1 (by omega) ⟨rf_ot (by omega) h1, po_usF_at⟩ (by omega) (fr_F2 (fr_I2 (fr_R2 fr_rf (by unfold foP; omega)) (by unfold foP; omega)) (by unfold foP; omega))
theorem u_X5_cycle_1 {vl : Nat → Nat} {r0 : Nat} {t0 : Int32} {z : ow_MS} {Q : ow_MS → Prop} (H : Tt (fun K k => cm_X5_cycle_1 vl K (c_X5_cycle vl K k) r0 t0 z) Q) : Tt (fun K k => c_X5_cycle vl K k 1 r0 t0 z) Q := w_un (fun _ _ => rfl) H
theorem e_X5_cycle {vl : Nat → Nat} {r0 : Nat} {z : ow_MS} {Q : ow_MS → Prop} (H : Tt (fun K k => c_X5_cycle vl K k 0 r0 0 z) Q) : Te (fun K => ce_X5_cycle vl K r0 z) Q := w_te H
theorem u_X5_cycle_0 {vl : Nat → Nat} {r0 : Nat} {t0 : Int32} {z : ow_MS} {Q : ow_MS → Prop} (H : Tt (fun K k => cm_X5_cycle_0 vl K (c_X5_cycle vl K k) r0 t0 z) Q) : Tt (fun K k => c_X5_cycle vl K k 0 r0 t0 z) Q := w_un (fun _ _ => rfl) H
theorem tc_cycle (hh : fO h) (hn1 : 2 ≤ n) (hn : n ≤ 5) (h0 : foW y h n) : Te (fun K => ce_X5_cycle vl K h y) (fun y1 => foW y1 h n ∧ fr (foP h) y y1) := by
  obtain ⟨h1, l, hl, h3⟩ := id h0
  let Q : ow_MS → Prop := fun y1 => foW y1 h n ∧ fr (foP h) y y1
  have c1 : ∀ t0 : Int32, 1 ≤ l → Tt (fun K t => c_X5_cycle vl K t 1 h t0 y) Q := by
    intro t0 hl1
    refine u_X5_cycle_1 ?_; unfold cm_X5_cycle_1
    refine w_rdF h3 (w_wrF ?_)
    rw [show nI l - 1 = nI (l - 1) from pk_sub (b := 1) hl1]
    refine w_rdF po_usF_at (w_cpI (a := 1) (b := 0) (n := l - 1) (fO_4 hh) (fO_4 hh) rfl rfl rfl (by omega) (by omega) (w_cs0 (tc_putBehindF hh hn1 hn ⟨rf_ot (by omega) h1, l - 1, by omega, po_usF_at⟩) ?_))
    rintro z ⟨g1, g2⟩
    exact w_some ⟨g1, fr_tr (fr_R2 (fr_F (by unfold foP; omega)) (by unfold foP; omega)) g2⟩
  refine e_X5_cycle ?_
  refine u_X5_cycle_0 ?_; unfold cm_X5_cycle_0
  refine w_rdF h3 (w_le (b := 0) (by omega) (by omega) (fun _ => w_some ⟨h0, fr_rf⟩) (fun hl1 => w_rdF rfl (w_if (fun _ => w_crI (i := 0) (fO_4 hh) rfl (by omega) rfl (c1 _ hl1)) (fun _ => w_crI (i := 0) (fO_4 hh) rfl (by omega) rfl (w_rdF h1 (w_cs1 (tc_turned hn) ?_))))))
  rintro v z ⟨e1, e2⟩
  dsimp only at e2
  rw [e2]
  exact c1 _ hl1
theorem u_X5_decycle_1 {vl : Nat → Nat} {x1 : Int32} {r0 : Nat} {t0 : Int32} {z : ow_MS} {Q : ow_MS → Prop} (H : Tt (fun K k => cm_X5_decycle_1 vl K (c_X5_decycle vl K k) x1 r0 t0 z) Q) : Tt (fun K k => c_X5_decycle vl K k 1 x1 r0 t0 z) Q := w_un (fun _ _ => rfl) H
theorem e_X5_decycle {vl : Nat → Nat} {r0 : Nat} {z : ow_MS} {Q : ow_MS → Prop} (H : Tt (fun K k => c_X5_decycle vl K k 0 0 r0 0 z) Q) : Te (fun K => ce_X5_decycle vl K r0 z) Q := w_te H
theorem u_X5_decycle_0 {vl : Nat → Nat} {x1 : Int32} {r0 : Nat} {t0 : Int32} {z : ow_MS} {Q : ow_MS → Prop} (H : Tt (fun K k => cm_X5_decycle_0 vl K (c_X5_decycle vl K k) x1 r0 t0 z) Q) : Tt (fun K k => c_X5_decycle vl K k 0 x1 r0 t0 z) Q := w_un (fun _ _ => rfl) H
theorem tc_decycle (hh : fO h) (hn1 : 2 ≤ n) (hn : n ≤ 5) (h0 : foW y h n) : Te (fun K => ce_X5_decycle vl K h y) (fun y1 => foW y1 h n ∧ fr (foP h) y y1) := by
  obtain ⟨h1, l, hl, h3⟩ := id h0
  let Q : ow_MS → Prop := fun y1 => foW y1 h n ∧ fr (foP h) y y1
  have c1 : ∀ (z : ow_MS) (a t0 : Int32), foW z h n → fr (foP h) y z → Tt (fun K t => c_X5_decycle vl K t 1 a h t0 z) Q := by
    intro z a t0 q1 q2
    refine u_X5_decycle_1 ?_; unfold cm_X5_decycle_1
    refine w_cs0 (tc_putBefore hh hn1 hn q1) ?_
    rintro z1 ⟨g1, g2⟩
    exact w_some ⟨g1, fr_tr q2 g2⟩
  refine e_X5_decycle ?_
  refine u_X5_decycle_0 ?_; unfold cm_X5_decycle_0
  refine w_rdF h3 (w_le (b := 0) (by omega) (by omega) (fun _ => w_some ⟨h0, fr_rf⟩) (fun hl1 => w_rdF h3 ?_))
  rw [show nI l - 1 = nI (l - 1) from pk_sub (b := 1) hl1]
  refine w_crI (fO_4 hh) rfl (show l - 1 < 24 by omega) rfl (w_rdF h3 (w_wrF ?_))
  rw [show nI l - 1 = nI (l - 1) from pk_sub (b := 1) hl1]
  have q1 : foW (usF y (h + 3) (nI (l - 1))) h n := ⟨rf_ot (by omega) h1, l - 1, by omega, po_usF_at⟩
  have q2 : fr (foP h) y (usF y (h + 3) (nI (l - 1))) := fr_F (by unfold foP; omega)
  refine w_rdF rfl (w_if (fun _ => c1 _ _ _ q1 q2) (fun _ => w_rdF q1.1 (w_cs1 (tc_turned hn) ?_)))
  rintro v z ⟨e1, e2⟩
  dsimp only at e2
  rw [e2]
  exact c1 _ _ _ q1 q2
theorem u_X5_conjugateBy_2 {vl : Nat → Nat} {x1 : Int32} {x2 : Int32} {x3 : Int32} {x4 : Int32} {r0 : Nat} {t0 : Int32} {z : ow_MS} {Q : ow_MS → Prop} (H : Tt (fun K k => cm_X5_conjugateBy_2 vl K (c_X5_conjugateBy vl K k) x1 x2 x3 x4 r0 t0 z) Q) : Tt (fun K k => c_X5_conjugateBy vl K k 2 x1 x2 x3 x4 r0 t0 z) Q := w_un (fun _ _ => rfl) H
theorem u_X5_conjugateBy_1 {vl : Nat → Nat} {x1 : Int32} {x2 : Int32} {x3 : Int32} {x4 : Int32} {r0 : Nat} {t0 : Int32} {z : ow_MS} {Q : ow_MS → Prop} (H : Tt (fun K k => cm_X5_conjugateBy_1 vl K (c_X5_conjugateBy vl K k) x1 x2 x3 x4 r0 t0 z) Q) : Tt (fun K k => c_X5_conjugateBy vl K k 1 x1 x2 x3 x4 r0 t0 z) Q := w_un (fun _ _ => rfl) H
theorem e_X5_conjugateBy {vl : Nat → Nat} {r0 : Nat} {x1 : Int32} {z : ow_MS} {Q : ow_MS → Prop} (H : Tt (fun K k => c_X5_conjugateBy vl K k 0 x1 0 0 0 r0 0 z) Q) : Te (fun K => ce_X5_conjugateBy vl K r0 x1 z) Q := w_te H
theorem u_X5_conjugateBy_0 {vl : Nat → Nat} {x1 : Int32} {x2 : Int32} {x3 : Int32} {x4 : Int32} {r0 : Nat} {t0 : Int32} {z : ow_MS} {Q : ow_MS → Prop} (H : Tt (fun K k => cm_X5_conjugateBy_0 vl K (c_X5_conjugateBy vl K k) x1 x2 x3 x4 r0 t0 z) Q) : Tt (fun K k => c_X5_conjugateBy vl K k 0 x1 x2 x3 x4 r0 t0 z) Q := w_un (fun _ _ => rfl) H
theorem tc_conjugateBy (hh : fO h) (hn1 : 2 ≤ n) (hn : n ≤ 5) (h0 : foW y h n) : Te (fun K => ce_X5_conjugateBy vl K h x y) (fun y1 => foW y1 h n ∧ fr (foP h) y y1) := by
  obtain ⟨h1, l, hl, h3⟩ := id h0
  let Q : ow_MS → Prop := fun y1 => foW y1 h n ∧ fr (foP h) y y1
  have c2 : ∀ (a b c t0 : Int32), Tt (fun K t => c_X5_conjugateBy vl K t 2 x a b c h t0 y) Q := by
    intro a b c t0
    refine u_X5_conjugateBy_2 ?_; unfold cm_X5_conjugateBy_2
    refine w_rdF rfl (w_wrF (w_cs0 (tc_putBefore hh hn1 hn ⟨rf_ot (by omega) h1, l, hl, rf_ot (by omega) h3⟩) ?_))
    rintro z ⟨g1, g2⟩
    refine w_cs0 (tc_putBehindF hh hn1 hn g1) ?_
    rintro z2 ⟨g3, g4⟩
    exact w_some ⟨g3, fr_tr (fr_F (by unfold foP; omega)) (fr_tr g2 g4)⟩
  have c1 : ∀ (d j : Nat) (a b : Int32), j + d = n → Tt (fun K t => c_X5_conjugateBy vl K t 1 x a b (nI j) h 0 y) Q := by
    intro d
    induction d with
    | zero =>
      intro j a b hj
      refine u_X5_conjugateBy_1 ?_; unfold cm_X5_conjugateBy_1
      refine w_rdF h1 (w_leT (by omega) (by omega) (w_rdF rfl (w_if (fun _ => c2 _ _ _ _) (fun _ => w_rdF h1 (w_cs1 (tc_turned hn) ?_)))))
      rintro v z ⟨e1, e2⟩
      dsimp only at e2
      rw [e2]
      exact c2 _ _ _ _
    | succ d ih =>
      intro j a b hj
      refine u_X5_conjugateBy_1 ?_; unfold cm_X5_conjugateBy_1
      refine w_rdF h1 (w_leF (by omega) (by omega) (w_rdF h1 (w_cs1 tc_image ?_)))
      rintro v z ⟨e1, e2⟩
      dsimp only at e2
      rw [e2, nI_1]
      exact ih (j + 1) _ _ (by omega)
  refine e_X5_conjugateBy ?_
  refine u_X5_conjugateBy_0 ?_; unfold cm_X5_conjugateBy_0
  refine w_rdF h1 (w_cs1 (tc_invert hn) ?_)
  rintro v z ⟨e1, e2⟩
  dsimp only at e2
  rw [e2]
  exact c1 n 0 _ _ (by omega)
end CF3
