/-! the class: Form goes on; normal, factor, equal have an answer -/
/-- a form with its room kept -/
def foW (y : ow_MS) (h n : Nat) : Prop := y.1 (h + 1) = nI n ∧ ∃ l, l ≤ 24 ∧ y.1 (h + 3) = nI l
def foL (y : ow_MS) (h n l : Nat) : Prop := y.1 (h + 1) = nI n ∧ y.1 (h + 3) = nI l
section CF2
variable {vl : Nat → Nat} {y : ow_MS} {h n l : Nat}
theorem u_X5_weigh_2 {vl : Nat → Nat} {x1 : Int32} {x2 : Int32} {x3 : Int32} {x4 : Int32} {x5 : Int32} {r0 : Nat} {z : ow_MS} {Q : (Int32 × ow_MS) → Prop} (H : Tt (fun K k => cm_X5_weigh_2 vl K (c_X5_weigh vl K k) x1 x2 x3 x4 x5 r0 z) Q) : Tt (fun K k => c_X5_weigh vl K k 2 x1 x2 x3 x4 x5 r0 z) Q := w_un (fun _ _ => rfl) H
theorem u_X5_weigh_1 {vl : Nat → Nat} {x1 : Int32} {x2 : Int32} {x3 : Int32} {x4 : Int32} {x5 : Int32} {r0 : Nat} {z : ow_MS} {Q : (Int32 × ow_MS) → Prop} (H : Tt (fun K k => cm_X5_weigh_1 vl K (c_X5_weigh vl K k) x1 x2 x3 x4 x5 r0 z) Q) : Tt (fun K k => c_X5_weigh vl K k 1 x1 x2 x3 x4 x5 r0 z) Q := w_un (fun _ _ => rfl) H
theorem e_X5_weigh {vl : Nat → Nat} {r0 : Nat} {x1 : Int32} {z : ow_MS} {Q : (Int32 × ow_MS) → Prop} (H : Tt (fun K k => c_X5_weigh vl K k 0 x1 0 0 0 0 r0 z) Q) : Te (fun K => ce_X5_weigh vl K r0 x1 z) Q := w_te H
theorem u_X5_weigh_0 {vl : Nat → Nat} {x1 : Int32} {x2 : Int32} {x3 : Int32} {x4 : Int32} {x5 : Int32} {r0 : Nat} {z : ow_MS} {Q : (Int32 × ow_MS) → Prop} (H : Tt (fun K k => cm_X5_weigh_0 vl K (c_X5_weigh vl K k) x1 x2 x3 x4 x5 r0 z) Q) : Tt (fun K k => c_X5_weigh vl K k 0 x1 x2 x3 x4 x5 r0 z) Q := w_un (fun _ _ => rfl) H
theorem tc_weigh {i : Nat} (hh : fO h) (hn1 : 2 ≤ n) (hn : n ≤ 5) (h1 : foL y h n l) (hi : i + 1 < 24) : Te (fun K => ce_X5_weigh vl K h (nI i) y) (fun r => foL r.2 h n l ∧ (r.1 = 0 ∨ r.1 = 1) ∧ fr (foP h) y r.2) := by
  let Q : Int32 × ow_MS → Prop := fun r => foL r.2 h n l ∧ (r.1 = 0 ∨ r.1 = 1) ∧ fr (foP h) y r.2
  have c2 : ∀ (a b c d : Int32), Tt (fun K t => c_X5_weigh vl K t 2 (nI i) a b c d h y) Q := by
    intro a b c d
    refine u_X5_weigh_2 ?_; unfold cm_X5_weigh_2
    rw [nI_1]
    refine w_rdF h1.1 (w_cs1 (tc_invert hn) ?_)
    rintro v z ⟨e1, e2⟩
    dsimp only at e2
    rw [e2]
    exact w_ctI (fO_4 hh) rfl (show i < 24 by omega) (w_ctI (fO_4 hh) rfl hi (w_okZ (Or.inr rfl) (w_some ⟨h1, Or.inr rfl, fr_I2 (fr_I (by unfold foP; omega)) (by unfold foP; omega)⟩)))
  have c1 : ∀ (k j : Nat) (a b c : Int32), j + k = 10 → Tt (fun K t => c_X5_weigh vl K t 1 (nI i) a b c (nI j) h y) Q := by
    intro k
    induction k with
    | zero =>
      intro j a b c hj
      refine u_X5_weigh_1 ?_; unfold cm_X5_weigh_1
      exact w_leT (a := 10) (by omega) (by omega) (c2 _ _ _ _)
    | succ k ih =>
      intro j a b c hj
      refine u_X5_weigh_1 ?_; unfold cm_X5_weigh_1
      refine w_leF (a := 10) (by omega) (by omega) (w_if (fun _ => c2 _ _ _ _) (fun _ => w_cs1 tc_exchanged ?_))
      rintro v z ⟨e1, e2⟩
      dsimp only at e2
      rw [e2]
      refine w_cs1 tc_exchanged ?_
      rintro v2 z2 ⟨e3, e4⟩
      dsimp only at e4
      rw [e4]
      refine w_cs1 (tc_movable h1.1 (by omega) hn) ?_
      rintro v3 z3 ⟨e5, e6⟩
      dsimp only at e6
      rw [e6, nI_1]
      exact ih (j + 1) _ _ _ (by omega)
  refine e_X5_weigh ?_
  refine u_X5_weigh_0 ?_; unfold cm_X5_weigh_0
  rw [nI_1]
  refine w_crI (fO_4 hh) rfl (show i < 24 by omega) rfl (w_rdF h1.1 (w_cs1 (tc_invert hn) ?_))
  rintro v z ⟨e1, e2⟩
  dsimp only at e2
  rw [e2]
  refine w_crI (fO_4 hh) rfl hi rfl (w_cs1 (tc_movable h1.1 (by omega) hn) ?_)
  rintro v2 z2 ⟨e3, e4⟩
  dsimp only at e4
  rw [e4]
  exact w_if (fun _ => w_okZ (Or.inl rfl) (w_some ⟨h1, Or.inl rfl, fr_rf⟩)) (fun _ => c1 10 0 _ _ _ (by omega))
theorem u_X5_strip_3 {vl : Nat → Nat} {x1 : Int32} {r0 : Nat} {z : ow_MS} {Q : ow_MS → Prop} (H : Tt (fun K k => cm_X5_strip_3 vl K (c_X5_strip vl K k) x1 r0 z) Q) : Tt (fun K k => c_X5_strip vl K k 3 x1 r0 z) Q := w_un (fun _ _ => rfl) H
theorem u_X5_strip_2 {vl : Nat → Nat} {x1 : Int32} {r0 : Nat} {z : ow_MS} {Q : ow_MS → Prop} (H : Tt (fun K k => cm_X5_strip_2 vl K (c_X5_strip vl K k) x1 r0 z) Q) : Tt (fun K k => c_X5_strip vl K k 2 x1 r0 z) Q := w_un (fun _ _ => rfl) H
theorem u_X5_strip_1 {vl : Nat → Nat} {x1 : Int32} {r0 : Nat} {z : ow_MS} {Q : ow_MS → Prop} (H : Tt (fun K k => cm_X5_strip_1 vl K (c_X5_strip vl K k) x1 r0 z) Q) : Tt (fun K k => c_X5_strip vl K k 1 x1 r0 z) Q := w_un (fun _ _ => rfl) H
theorem e_X5_strip {vl : Nat → Nat} {r0 : Nat} {z : ow_MS} {Q : ow_MS → Prop} (H : Tt (fun K k => c_X5_strip vl K k 0 0 r0 z) Q) : Te (fun K => ce_X5_strip vl K r0 z) Q := w_te H
theorem u_X5_strip_0 {vl : Nat → Nat} {x1 : Int32} {r0 : Nat} {z : ow_MS} {Q : ow_MS → Prop} (H : Tt (fun K k => cm_X5_strip_0 vl K (c_X5_strip vl K k) x1 r0 z) Q) : Tt (fun K k => c_X5_strip vl K k 0 x1 r0 z) Q := w_un (fun _ _ => rfl) H
theorem tc_strip (hh : fO h) (h1 : foL y h n l) (hl : l ≤ 24) : Te (fun K => ce_X5_strip vl K h y) (fun y1 => foW y1 h n ∧ fr (foP h) y y1) := by
  let Q : ow_MS → Prop := fun y1 => foW y1 h n ∧ fr (foP h) y y1
  have c3 : ∀ (m : Nat) (z : ow_MS) (x : Int32), m ≤ 24 → foL z h n m → fr (foP h) y z → Tt (fun K t => c_X5_strip vl K t 3 x h z) Q := by
    intro m
    induction m with
    | zero =>
      intro z x hm h2 hf
      refine u_X5_strip_3 ?_; unfold cm_X5_strip_3
      exact w_rdF h2.2 (w_leT (b := 0) (by omega) (by omega) (w_some ⟨⟨h2.1, 0, by omega, h2.2⟩, hf⟩))
    | succ m ih =>
      intro z x hm h2 hf
      refine u_X5_strip_3 ?_; unfold cm_X5_strip_3
      refine w_rdF h2.2 (w_leF (b := 0) (by omega) (by omega) (w_rdF h2.2 ?_))
      rw [show nI (m + 1) - 1 = nI m from pk_sub (b := 1) (by omega)]
      refine w_crI (fO_4 hh) rfl (show m < 24 by omega) rfl (w_rdF rfl (w_if (fun _ => w_rdF h2.2 (w_wrF ?_)) (fun _ => w_some ⟨⟨h2.1, m + 1, hm, h2.2⟩, hf⟩)))
      rw [show nI (m + 1) - 1 = nI m from pk_sub (b := 1) (by omega)]
      exact ih _ x (by omega) ⟨rf_ot (by omega) h2.1, po_usF_at⟩ (fr_F2 hf (by unfold foP; omega))
  have c2 : ∀ j, j ≤ l → Tt (fun K t => c_X5_strip vl K t 2 (nI j) h y) Q := by
    intro j hj
    refine u_X5_strip_2 ?_; unfold cm_X5_strip_2
    have e3 : ∀ w : Int32, (usF y (h + 2) w).1 (h + 3) = nI l := fun w => rf_ot (by omega) h1.2
    refine w_rdF rfl (w_wrF (w_rdF (e3 _) (w_wrF ?_)))
    rw [show nI l - nI j = nI (l - j) from pk_sub hj]
    refine w_rdF po_usF_at (w_cpI (a := j) (b := 0) (n := l - j) (fO_4 hh) (fO_4 hh) rfl rfl rfl (by omega) (by omega) ?_)
    exact c3 (l - j) _ _ (by omega) ⟨rf_ot (by omega) (rf_ot (by omega) h1.1), po_usF_at⟩ (fr_R2 (fr_F2 (fr_F (by unfold foP; omega)) (by unfold foP; omega)) (by unfold foP; omega))
  have c1 : ∀ (d j : Nat), j + d = l → Tt (fun K t => c_X5_strip vl K t 1 (nI j) h y) Q := by
    intro d
    induction d with
    | zero =>
      intro j hj
      refine u_X5_strip_1 ?_; unfold cm_X5_strip_1
      exact w_rdF h1.2 (w_leT (by omega) (by omega) (c2 j (by omega)))
    | succ d ih =>
      intro j hj
      refine u_X5_strip_1 ?_; unfold cm_X5_strip_1
      rw [nI_1]
      exact w_rdF h1.2 (w_leF (by omega) (by omega) (w_crI (fO_4 hh) rfl (show j < 24 by omega) rfl (w_rdF rfl (w_if (fun _ => ih (j + 1) (by omega)) (fun _ => c2 j (by omega))))))
  refine e_X5_strip ?_
  refine u_X5_strip_0 ?_; unfold cm_X5_strip_0
  exact c1 l 0 (by omega)
theorem u_X5_putBehind_2 {vl : Nat → Nat} {x1 : Int32} {x2 : Int32} {x3 : Int32} {r0 : Nat} {z : ow_MS} {Q : ow_MS → Prop} (H : Tt (fun K k => cm_X5_putBehind_2 vl K (c_X5_putBehind vl K k) x1 x2 x3 r0 z) Q) : Tt (fun K k => c_X5_putBehind vl K k 2 x1 x2 x3 r0 z) Q := w_un (fun _ _ => rfl) H
theorem u_X5_putBehind_1 {vl : Nat → Nat} {x1 : Int32} {x2 : Int32} {x3 : Int32} {r0 : Nat} {z : ow_MS} {Q : ow_MS → Prop} (H : Tt (fun K k => cm_X5_putBehind_1 vl K (c_X5_putBehind vl K k) x1 x2 x3 r0 z) Q) : Tt (fun K k => c_X5_putBehind vl K k 1 x1 x2 x3 r0 z) Q := w_un (fun _ _ => rfl) H
theorem e_X5_putBehind {vl : Nat → Nat} {r0 : Nat} {x1 : Int32} {z : ow_MS} {Q : ow_MS → Prop} (H : Tt (fun K k => c_X5_putBehind vl K k 0 x1 0 0 r0 z) Q) : Te (fun K => ce_X5_putBehind vl K r0 x1 z) Q := w_te H
theorem u_X5_putBehind_0 {vl : Nat → Nat} {x1 : Int32} {x2 : Int32} {x3 : Int32} {r0 : Nat} {z : ow_MS} {Q : ow_MS → Prop} (H : Tt (fun K k => cm_X5_putBehind_0 vl K (c_X5_putBehind vl K k) x1 x2 x3 r0 z) Q) : Tt (fun K k => c_X5_putBehind vl K k 0 x1 x2 x3 r0 z) Q := w_un (fun _ _ => rfl) H
theorem tc_putBehindF {x : Int32} (hh : fO h) (hn1 : 2 ≤ n) (hn : n ≤ 5) (h0 : foW y h n) : Te (fun K => ce_X5_putBehind vl K h x y) (fun y1 => foW y1 h n ∧ fr (foP h) y y1) := by
  obtain ⟨h1, l, hl, h3⟩ := id h0
  let Q : ow_MS → Prop := fun y1 => foW y1 h n ∧ fr (foP h) y y1
  have c2 : ∀ (z : ow_MS) (a b : Int32), foL z h n (l + 1) → l + 1 ≤ 24 → fr (foP h) y z → Tt (fun K t => c_X5_putBehind vl K t 2 x a b h z) Q := by
    intro z a b q1 q2 q3
    refine u_X5_putBehind_2 ?_; unfold cm_X5_putBehind_2
    refine w_cs0 (tc_strip hh q1 q2) ?_
    rintro z1 ⟨g1, g2⟩
    exact w_some ⟨g1, fr_tr q3 g2⟩
  have c1 : ∀ (m : Nat) (z : ow_MS) (a : Int32), m ≤ l → foL z h n (l + 1) → l + 1 ≤ 24 → fr (foP h) y z → Tt (fun K t => c_X5_putBehind vl K t 1 x a (iI ((m : Int) - 1)) h z) Q := by
    intro m
    induction m with
    | zero =>
      intro z a hm q1 q2 q3
      refine u_X5_putBehind_1 ?_; unfold cm_X5_putBehind_1
      exact w_ifT (by decide) (c2 z _ _ q1 q2 q3)
    | succ m ih =>
      intro z a hm q1 q2 q3
      have e : iI (((m + 1 : Nat) : Int) - 1) = nI m := by
        rw [nI_iI]
        congr 1
        omega
      refine u_X5_putBehind_1 ?_; unfold cm_X5_putBehind_1
      rw [e]
      refine w_ifF (nI_pos (by omega)) (w_if (fun _ => c2 z _ _ q1 q2 q3) (fun _ => w_cs1 (tc_weigh hh hn1 hn q1 (show m + 1 < 24 by omega)) ?_))
      rintro v z1 ⟨g1, g2, g3⟩
      have e2 : nI m + -1 = iI ((m : Int) - 1) := by
        rw [nI_iI, show (-1 : Int32) = iI (-1) from rfl, iI_add]
        rfl
      rw [e2]
      exact ih z1 v (by omega) g1 q2 (fr_tr q3 g3)
  refine e_X5_putBehind ?_
  refine u_X5_putBehind_0 ?_; unfold cm_X5_putBehind_0
  refine w_rdF h3 (w_lt (b := 24) (by omega) (by omega) (fun hl24 => w_rdF h3 (w_ctI (fO_4 hh) rfl hl24 (w_rdF (x := nI l) h3 (w_wrF ?_)))) (fun _ => w_some ⟨h0, fr_rf⟩))
  rw [nI_1]
  refine w_rdF po_usF_at ?_
  rw [show nI (l + 1) - 2 = iI ((l : Int) - 1) from by
    rw [nI_iI, show (2 : Int32) = iI 2 from rfl, iI_sub]
    congr 1
    omega]
  exact c1 l _ 1 (Nat.le_refl _) ⟨rf_ot (by omega) h1, po_usF_at⟩ (by omega) (fr_F2 (fr_I (by unfold foP; omega)) (by unfold foP; omega))
theorem u_X5_takeLetter_1 {vl : Nat → Nat} {x1 : Int32} {x2 : Int32} {x3 : Int32} {r0 : Nat} {z : ow_MS} {Q : ow_MS → Prop} (H : Tt (fun K k => cm_X5_takeLetter_1 vl K (c_X5_takeLetter vl K k) x1 x2 x3 r0 z) Q) : Tt (fun K k => c_X5_takeLetter vl K k 1 x1 x2 x3 r0 z) Q := w_un (fun _ _ => rfl) H
theorem e_X5_takeLetter {vl : Nat → Nat} {r0 : Nat} {x1 : Int32} {z : ow_MS} {Q : ow_MS → Prop} (H : Tt (fun K k => c_X5_takeLetter vl K k 0 x1 0 0 r0 z) Q) : Te (fun K => ce_X5_takeLetter vl K r0 x1 z) Q := w_te H
theorem u_X5_takeLetter_0 {vl : Nat → Nat} {x1 : Int32} {x2 : Int32} {x3 : Int32} {r0 : Nat} {z : ow_MS} {Q : ow_MS → Prop} (H : Tt (fun K k => cm_X5_takeLetter_0 vl K (c_X5_takeLetter vl K k) x1 x2 x3 r0 z) Q) : Tt (fun K k => c_X5_takeLetter vl K k 0 x1 x2 x3 r0 z) Q := w_un (fun _ _ => rfl) H
theorem tc_takeLetter {x : Int32} (hh : fO h) (hn1 : 2 ≤ n) (hn : n ≤ 5) (h0 : foW y h n) : Te (fun K => ce_X5_takeLetter vl K h x y) (fun y1 => foW y1 h n ∧ fr (foP h) y y1) := by
  obtain ⟨h1, l, hl, h3⟩ := id h0
  let Q : ow_MS → Prop := fun y1 => foW y1 h n ∧ fr (foP h) y y1
  have c1 : ∀ (d j : Nat) (z : ow_MS) (a : Int32), j + d = l → foL z h n l → fr (foP h) y z → Tt (fun K t => c_X5_takeLetter vl K t 1 x a (nI j) h z) Q := by
    intro d
    induction d with
    | zero =>
      intro j z a hj q1 q2
      refine u_X5_takeLetter_1 ?_; unfold cm_X5_takeLetter_1
      refine w_rdF q1.2 (w_leT (by omega) (by omega) (w_rdF rfl (w_wrF ?_)))
      have q1' : ∀ w : Int32, foL (usF z (h + 2) w) h n l := fun w => ⟨rf_ot (by omega) q1.1, rf_ot (by omega) q1.2⟩
      refine w_rdF rfl (w_rdF (q1' _).1 (w_cs1 (tc_exchangedBehind hn) ?_))
      rintro v z1 ⟨e1, e2⟩
      dsimp only at e2
      rw [e2]
      refine w_cs0 (tc_putBehindF hh hn1 hn ⟨(q1' _).1, l, hl, (q1' _).2⟩) ?_
      rintro z2 ⟨g1, g2⟩
      exact w_some ⟨g1, fr_tr (fr_F2 q2 (by unfold foP; omega)) g2⟩
    | succ d ih =>
      intro j z a hj q1 q2
      refine u_X5_takeLetter_1 ?_; unfold cm_X5_takeLetter_1
      refine w_rdF q1.2 (w_leF (by omega) (by omega) (w_crI (fO_4 hh) rfl (show j < 24 by omega) rfl (w_rdF q1.1 (w_cs1 (tc_turned hn) ?_))))
      rintro v z1 ⟨e1, e2⟩
      dsimp only at e2
      rw [e2]
      refine w_ctI (fO_4 hh) rfl (show j < 24 by omega) ?_
      rw [nI_1]
      exact ih (j + 1) _ a (by omega) q1 (fr_I2 q2 (by unfold foP; omega))
  refine e_X5_takeLetter ?_
  refine u_X5_takeLetter_0 ?_; unfold cm_X5_takeLetter_0
  refine w_if (fun _ => c1 l 0 y _ (by omega) ⟨h1, h3⟩ fr_rf) (fun _ => w_rdF rfl (w_cs1 tc_exchanged ?_))
  rintro v z1 ⟨e1, e2⟩
  dsimp only at e2
  rw [e2]
  refine w_cs0 (tc_putBehindF hh hn1 hn h0) ?_
  rintro z2 g
  exact w_some g
theorem u_X11_write_1 {vl : Nat → Nat} {x2 : Int32} {x3 : Int32} {r0 : Nat} {r1 : Nat} {z : ow_MS} {Q : ow_MS → Prop} (H : Tt (fun K k => cm_X11_write_1 vl K (c_X11_write vl K k) x2 x3 r0 r1 z) Q) : Tt (fun K k => c_X11_write vl K k 1 x2 x3 r0 r1 z) Q := w_un (fun _ _ => rfl) H
theorem e_X11_write {vl : Nat → Nat} {r0 : Nat} {r1 : Nat} {x2 : Int32} {z : ow_MS} {Q : ow_MS → Prop} (H : Tt (fun K k => c_X11_write vl K k 0 x2 0 r0 r1 z) Q) : Te (fun K => ce_X11_write vl K r0 r1 x2 z) Q := w_te H
theorem u_X11_write_0 {vl : Nat → Nat} {x2 : Int32} {x3 : Int32} {r0 : Nat} {r1 : Nat} {z : ow_MS} {Q : ow_MS → Prop} (H : Tt (fun K k => cm_X11_write_0 vl K (c_X11_write vl K k) x2 x3 r0 r1 z) Q) : Tt (fun K k => c_X11_write vl K k 0 x2 x3 r0 r1 z) Q := w_un (fun _ _ => rfl) H
theorem tc_writeF {b : Nat} (hh : fO h) (hn1 : 2 ≤ n) (hn : n ≤ 5) (hb : b < 20) (e15 : y.2.1 15 b = nI n) (hl : l ≤ 16) (e14 : y.2.1 14 b = nI l) : Te (fun K => ce_X11_write vl K 0 h (nI b) y) (fun y1 => foW y1 h n ∧ fr (foP h) y y1) := by
  have hh6 : 46000 ≤ h := by
    rcases hh with rfl | rfl | rfl | rfl <;> omega
  let Q : ow_MS → Prop := fun y1 => foW y1 h n ∧ fr (foP h) y y1
  have c1 : ∀ (d j : Nat) (z : ow_MS), j + d = l → foW z h n → fr (foP h) y z → Tt (fun K t => c_X11_write vl K t 1 (nI b) (nI j) 0 h z) Q := by
    intro d
    induction d with
    | zero =>
      intro j z hj q1 q2
      refine u_X11_write_1 ?_; unfold cm_X11_write_1
      exact w_crI ch_14 rfl hb ((congrFun (q2 14 (by unfold foP; omega)).2.1 b).trans e14) (w_leT (by omega) (by omega) (w_some ⟨q1, q2⟩))
    | succ d ih =>
      intro j z hj q1 q2
      refine u_X11_write_1 ?_; unfold cm_X11_write_1
      rw [m16, nI_add]
      refine w_crI ch_14 rfl hb ((congrFun (q2 14 (by unfold foP; omega)).2.1 b).trans e14) (w_leF (by omega) (by omega) (w_crI ch_13 rfl (show 16 * b + j < 320 by omega) rfl (w_cs0 (tc_takeLetter hh hn1 hn q1) ?_)))
      rintro z1 ⟨g1, g2⟩
      rw [nI_1]
      exact ih (j + 1) z1 (by omega) g1 (fr_tr q2 g2)
  refine e_X11_write ?_
  refine u_X11_write_0 ?_; unfold cm_X11_write_0
  refine w_crI ch_15 rfl hb e15 (w_cs0 (tc_begin hn) ?_)
  rintro z ⟨g1, g2⟩
  exact c1 l 0 z (by omega) ⟨g1.1, 0, by omega, g1.2.2.1⟩ g2
end CF2
