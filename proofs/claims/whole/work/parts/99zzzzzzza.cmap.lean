/-! the class: maps has an answer -/
/-- the tables of permutations; the latest values -/
def mpC (y : ow_MS) : Prop := (∀ i, i < 576 → ∃ k, k < 24 ∧ y.2.1 41006 i = nI k) ∧ (∀ i, i < 24 → ∃ k, k < 24 ∧ y.2.1 41007 i = nI k) ∧ ∀ i, i < 18 → ∃ k, k < 24 ∧ y.2.1 41009 i = nI k
theorem mpC_fr {P : Nat → Prop} {y y1 : ow_MS} (hf : fr P y y1) (hP : ¬ P 41006 ∧ ¬ P 41007 ∧ ¬ P 41009) (h : mpC y) : mpC y1 := by
  obtain ⟨h1, h2, h3⟩ := h
  refine ⟨fun i hi => ?_, fun i hi => ?_, fun i hi => ?_⟩
  · rw [(hf _ hP.1).2.1]
    exact h1 i hi
  · rw [(hf _ hP.2.1).2.1]
    exact h2 i hi
  · rw [(hf _ hP.2.2).2.1]
    exact h3 i hi
theorem ch_41006 {vl : Nat → Nat} : ((cX vl).2 41006).2.1 = 576 := rfl
theorem ch_41007 {vl : Nat → Nat} : ((cX vl).2 41007).2.1 = 24 := rfl
theorem ch_41008 {vl : Nat → Nat} : ((cX vl).2 41008).2.1 = 24 := rfl
theorem ch_41009 {vl : Nat → Nat} : ((cX vl).2 41009).2.1 = 18 := rfl
theorem ch_41011 {vl : Nat → Nat} : ((cX vl).2 41011).2.1 = 36 := rfl
theorem ch_41012 {vl : Nat → Nat} : ((cX vl).2 41012).2.1 = 36 := rfl
theorem ch_41013 {vl : Nat → Nat} : ((cX vl).2 41013).2.1 = 36 := rfl
theorem ch_41014 {vl : Nat → Nat} : ((cX vl).2 41014).2.1 = 36 := rfl
theorem ch_41015 {vl : Nat → Nat} : ((cX vl).2 41015).2.1 = 36 := rfl
/-- the steps of a plan -/
def stP (z : ow_MS) : Prop := ∃ k, k ≤ 36 ∧ z.1 41010 = nI k ∧ ∀ s, s < k → (∃ a, a < 18 ∧ z.2.1 41012 s = nI a) ∧ (∃ a, a < 18 ∧ z.2.1 41013 s = nI a) ∧ ∃ a, a < 18 ∧ z.2.1 41014 s = nI a
def plR (g : Nat) : Prop := 41010 ≤ g ∧ g ≤ 41016
section CMP
variable {vl : Nat → Nat} {y : ow_MS}
theorem e_X0_addStep {vl : Nat → Nat} {r0 : Nat} {x1 : Int32} {x2 : Int32} {x3 : Int32} {x4 : Int32} {x5 : Int32} {z : ow_MS} {Q : ow_MS → Prop} (H : Tt (fun K _ => cm_X0_addStep_0 vl K x1 x2 x3 x4 x5 r0 z) Q) : Te (fun K => ce_X0_addStep vl K r0 x1 x2 x3 x4 x5 z) Q := w_te0 H
theorem tc_addStep {a b d : Nat} {k i : Int32} (h : stP y) (ha : a < 18) (hb : b < 18) (hd : d < 18) : Te (fun K => ce_X0_addStep vl K 41000 k (nI a) (nI b) (nI d) i y) (fun y1 => stP y1 ∧ fr plR y y1) := by
  obtain ⟨n, n36, h1, h2⟩ := id h
  refine e_X0_addStep ?_; unfold cm_X0_addStep_0
  rw [show Int32.ofNat (uw_len (cX vl) y (41000 + 11)) = nI 36 from rfl]
  refine w_rdF h1 (w_le (by omega) (by omega) (fun _ => w_some ⟨h, fr_rf⟩) (fun h9 => w_rdF h1 (w_ctI ch_41011 rfl h9 (w_rdF (x := nI n) h1 (w_ctI ch_41012 rfl h9 (w_rdF (x := nI n) h1 (w_ctI ch_41013 rfl h9 (w_rdF (x := nI n) h1 (w_ctI ch_41014 rfl h9 (w_rdF (x := nI n) h1 (w_ctZ ch_41015 rfl h9 (w_rdF (x := nI n) h1 (w_wrF (w_some ⟨⟨n + 1, by omega, ?_, fun s hs => ?_⟩, ?_⟩))))))))))))))
  · rw [po_usF_at, nI_1]
  · by_cases e : s = n
    · subst e
      exact ⟨⟨a, ha, rd_ot (by omega) (rd_ot (by omega) (rd_ot (by omega) po_usI_at))⟩, ⟨b, hb, rd_ot (by omega) (rd_ot (by omega) po_usI_at)⟩, d, hd, rd_ot (by omega) po_usI_at⟩
    · obtain ⟨⟨a', b1, b2⟩, ⟨a2, c1, c2⟩, a3, d1, d2⟩ := h2 s (by omega)
      exact ⟨⟨a', b1, rd_ot (by omega) (rd_ot (by omega) (rd_ot (by omega) (rd_ne e (rd_ot (by omega) b2))))⟩, ⟨a2, c1, rd_ot (by omega) (rd_ot (by omega) (rd_ne e (rd_ot (by omega) (rd_ot (by omega) c2))))⟩, a3, d1, rd_ot (by omega) (rd_ne e (rd_ot (by omega) (rd_ot (by omega) (rd_ot (by omega) d2))))⟩
  · exact fr_F2 (fr_I2 (fr_I2 (fr_I2 (fr_I2 (fr_I (by unfold plR; omega)) (by unfold plR; omega)) (by unfold plR; omega)) (by unfold plR; omega)) (by unfold plR; omega)) (by unfold plR; omega)
/-- what a plan reads: the arcs, the net -/
def plN (y : ow_MS) (c ci : Nat) (S : ow_NP) (G : Nat → Int32) (a : Nat → Nat) (n : Nat) : Prop := cAt y 4000 (c, ci, S, G) ∧ vn c S ∧ c ≤ 12 ∧ n ≤ 18 ∧ (∀ v, v < 2 * c → y.2.1 41001 v = nI (a v) ∧ a v < n) ∧ y.1 41002 = nI n
theorem plN_fr {P : Nat → Prop} {y1 : ow_MS} {c ci n : Nat} {S : ow_NP} {G : Nat → Int32} {a : Nat → Nat} (hf : fr P y y1) (hP : ∀ g, P g → ¬ cP 4000 g ∧ g ≠ 41001 ∧ g ≠ 41002) (h : plN y c ci S G a n) : plN y1 c ci S G a n := by
  obtain ⟨h1, h2, h3, h4, h5, h6⟩ := h
  refine ⟨cAt_fr hf (fun g hg h9 => (hP g h9).1 hg) h1, h2, h3, h4, fun v hv => ?_, (hf 41002 (fun h9 => (hP _ h9).2.2 rfl)).1.trans h6⟩
  rw [(hf 41001 (fun h9 => (hP _ h9).2.1 rfl)).2.1]
  exact h5 v hv
theorem plR_n {g : Nat} (h : plR g) : ¬ cP 4000 g ∧ g ≠ 41001 ∧ g ≠ 41002 := by
  unfold plR at h
  unfold cP
  omega
variable {c ci n : Nat} {S : ow_NP} {G : Nat → Int32} {a : Nat → Nat}
theorem u_X0_planCrossing_14 {vl : Nat → Nat} {x2 : Int32} {x3 : Int32} {x4 : Int32} {x5 : Int32} {x6 : Int32} {x7 : Int32} {x8 : Int32} {x9 : Int32} {x10 : Int32} {r0 : Nat} {r1 : Nat} {t0 : Int32} {t1 : Int32} {t2 : Int32} {t3 : Int32} {t4 : Int32} {z : ow_MS} {Q : (Int32 × ow_MS) → Prop} (H : Tt (fun K k => cm_X0_planCrossing_14 vl K (c_X0_planCrossing vl K k) x2 x3 x4 x5 x6 x7 x8 x9 x10 r0 r1 t0 t1 t2 t3 t4 z) Q) : Tt (fun K k => c_X0_planCrossing vl K k 14 x2 x3 x4 x5 x6 x7 x8 x9 x10 r0 r1 t0 t1 t2 t3 t4 z) Q := w_un (fun _ _ => rfl) H
theorem u_X0_planCrossing_10 {vl : Nat → Nat} {x2 : Int32} {x3 : Int32} {x4 : Int32} {x5 : Int32} {x6 : Int32} {x7 : Int32} {x8 : Int32} {x9 : Int32} {x10 : Int32} {r0 : Nat} {r1 : Nat} {t0 : Int32} {t1 : Int32} {t2 : Int32} {t3 : Int32} {t4 : Int32} {z : ow_MS} {Q : (Int32 × ow_MS) → Prop} (H : Tt (fun K k => cm_X0_planCrossing_10 vl K (c_X0_planCrossing vl K k) x2 x3 x4 x5 x6 x7 x8 x9 x10 r0 r1 t0 t1 t2 t3 t4 z) Q) : Tt (fun K k => c_X0_planCrossing vl K k 10 x2 x3 x4 x5 x6 x7 x8 x9 x10 r0 r1 t0 t1 t2 t3 t4 z) Q := w_un (fun _ _ => rfl) H
theorem u_X0_planCrossing_11 {vl : Nat → Nat} {x2 : Int32} {x3 : Int32} {x4 : Int32} {x5 : Int32} {x6 : Int32} {x7 : Int32} {x8 : Int32} {x9 : Int32} {x10 : Int32} {r0 : Nat} {r1 : Nat} {t0 : Int32} {t1 : Int32} {t2 : Int32} {t3 : Int32} {t4 : Int32} {z : ow_MS} {Q : (Int32 × ow_MS) → Prop} (H : Tt (fun K k => cm_X0_planCrossing_11 vl K (c_X0_planCrossing vl K k) x2 x3 x4 x5 x6 x7 x8 x9 x10 r0 r1 t0 t1 t2 t3 t4 z) Q) : Tt (fun K k => c_X0_planCrossing vl K k 11 x2 x3 x4 x5 x6 x7 x8 x9 x10 r0 r1 t0 t1 t2 t3 t4 z) Q := w_un (fun _ _ => rfl) H
theorem u_X0_planCrossing_13 {vl : Nat → Nat} {x2 : Int32} {x3 : Int32} {x4 : Int32} {x5 : Int32} {x6 : Int32} {x7 : Int32} {x8 : Int32} {x9 : Int32} {x10 : Int32} {r0 : Nat} {r1 : Nat} {t0 : Int32} {t1 : Int32} {t2 : Int32} {t3 : Int32} {t4 : Int32} {z : ow_MS} {Q : (Int32 × ow_MS) → Prop} (H : Tt (fun K k => cm_X0_planCrossing_13 vl K (c_X0_planCrossing vl K k) x2 x3 x4 x5 x6 x7 x8 x9 x10 r0 r1 t0 t1 t2 t3 t4 z) Q) : Tt (fun K k => c_X0_planCrossing vl K k 13 x2 x3 x4 x5 x6 x7 x8 x9 x10 r0 r1 t0 t1 t2 t3 t4 z) Q := w_un (fun _ _ => rfl) H
theorem u_X0_planCrossing_12 {vl : Nat → Nat} {x2 : Int32} {x3 : Int32} {x4 : Int32} {x5 : Int32} {x6 : Int32} {x7 : Int32} {x8 : Int32} {x9 : Int32} {x10 : Int32} {r0 : Nat} {r1 : Nat} {t0 : Int32} {t1 : Int32} {t2 : Int32} {t3 : Int32} {t4 : Int32} {z : ow_MS} {Q : (Int32 × ow_MS) → Prop} (H : Tt (fun K k => cm_X0_planCrossing_12 vl K (c_X0_planCrossing vl K k) x2 x3 x4 x5 x6 x7 x8 x9 x10 r0 r1 t0 t1 t2 t3 t4 z) Q) : Tt (fun K k => c_X0_planCrossing vl K k 12 x2 x3 x4 x5 x6 x7 x8 x9 x10 r0 r1 t0 t1 t2 t3 t4 z) Q := w_un (fun _ _ => rfl) H
theorem u_X0_planCrossing_9 {vl : Nat → Nat} {x2 : Int32} {x3 : Int32} {x4 : Int32} {x5 : Int32} {x6 : Int32} {x7 : Int32} {x8 : Int32} {x9 : Int32} {x10 : Int32} {r0 : Nat} {r1 : Nat} {t0 : Int32} {t1 : Int32} {t2 : Int32} {t3 : Int32} {t4 : Int32} {z : ow_MS} {Q : (Int32 × ow_MS) → Prop} (H : Tt (fun K k => cm_X0_planCrossing_9 vl K (c_X0_planCrossing vl K k) x2 x3 x4 x5 x6 x7 x8 x9 x10 r0 r1 t0 t1 t2 t3 t4 z) Q) : Tt (fun K k => c_X0_planCrossing vl K k 9 x2 x3 x4 x5 x6 x7 x8 x9 x10 r0 r1 t0 t1 t2 t3 t4 z) Q := w_un (fun _ _ => rfl) H
theorem u_X0_planCrossing_7 {vl : Nat → Nat} {x2 : Int32} {x3 : Int32} {x4 : Int32} {x5 : Int32} {x6 : Int32} {x7 : Int32} {x8 : Int32} {x9 : Int32} {x10 : Int32} {r0 : Nat} {r1 : Nat} {t0 : Int32} {t1 : Int32} {t2 : Int32} {t3 : Int32} {t4 : Int32} {z : ow_MS} {Q : (Int32 × ow_MS) → Prop} (H : Tt (fun K k => cm_X0_planCrossing_7 vl K (c_X0_planCrossing vl K k) x2 x3 x4 x5 x6 x7 x8 x9 x10 r0 r1 t0 t1 t2 t3 t4 z) Q) : Tt (fun K k => c_X0_planCrossing vl K k 7 x2 x3 x4 x5 x6 x7 x8 x9 x10 r0 r1 t0 t1 t2 t3 t4 z) Q := w_un (fun _ _ => rfl) H
theorem u_X0_planCrossing_8 {vl : Nat → Nat} {x2 : Int32} {x3 : Int32} {x4 : Int32} {x5 : Int32} {x6 : Int32} {x7 : Int32} {x8 : Int32} {x9 : Int32} {x10 : Int32} {r0 : Nat} {r1 : Nat} {t0 : Int32} {t1 : Int32} {t2 : Int32} {t3 : Int32} {t4 : Int32} {z : ow_MS} {Q : (Int32 × ow_MS) → Prop} (H : Tt (fun K k => cm_X0_planCrossing_8 vl K (c_X0_planCrossing vl K k) x2 x3 x4 x5 x6 x7 x8 x9 x10 r0 r1 t0 t1 t2 t3 t4 z) Q) : Tt (fun K k => c_X0_planCrossing vl K k 8 x2 x3 x4 x5 x6 x7 x8 x9 x10 r0 r1 t0 t1 t2 t3 t4 z) Q := w_un (fun _ _ => rfl) H
theorem u_X0_planCrossing_6 {vl : Nat → Nat} {x2 : Int32} {x3 : Int32} {x4 : Int32} {x5 : Int32} {x6 : Int32} {x7 : Int32} {x8 : Int32} {x9 : Int32} {x10 : Int32} {r0 : Nat} {r1 : Nat} {t0 : Int32} {t1 : Int32} {t2 : Int32} {t3 : Int32} {t4 : Int32} {z : ow_MS} {Q : (Int32 × ow_MS) → Prop} (H : Tt (fun K k => cm_X0_planCrossing_6 vl K (c_X0_planCrossing vl K k) x2 x3 x4 x5 x6 x7 x8 x9 x10 r0 r1 t0 t1 t2 t3 t4 z) Q) : Tt (fun K k => c_X0_planCrossing vl K k 6 x2 x3 x4 x5 x6 x7 x8 x9 x10 r0 r1 t0 t1 t2 t3 t4 z) Q := w_un (fun _ _ => rfl) H
theorem u_X0_planCrossing_5 {vl : Nat → Nat} {x2 : Int32} {x3 : Int32} {x4 : Int32} {x5 : Int32} {x6 : Int32} {x7 : Int32} {x8 : Int32} {x9 : Int32} {x10 : Int32} {r0 : Nat} {r1 : Nat} {t0 : Int32} {t1 : Int32} {t2 : Int32} {t3 : Int32} {t4 : Int32} {z : ow_MS} {Q : (Int32 × ow_MS) → Prop} (H : Tt (fun K k => cm_X0_planCrossing_5 vl K (c_X0_planCrossing vl K k) x2 x3 x4 x5 x6 x7 x8 x9 x10 r0 r1 t0 t1 t2 t3 t4 z) Q) : Tt (fun K k => c_X0_planCrossing vl K k 5 x2 x3 x4 x5 x6 x7 x8 x9 x10 r0 r1 t0 t1 t2 t3 t4 z) Q := w_un (fun _ _ => rfl) H
theorem u_X0_planCrossing_4 {vl : Nat → Nat} {x2 : Int32} {x3 : Int32} {x4 : Int32} {x5 : Int32} {x6 : Int32} {x7 : Int32} {x8 : Int32} {x9 : Int32} {x10 : Int32} {r0 : Nat} {r1 : Nat} {t0 : Int32} {t1 : Int32} {t2 : Int32} {t3 : Int32} {t4 : Int32} {z : ow_MS} {Q : (Int32 × ow_MS) → Prop} (H : Tt (fun K k => cm_X0_planCrossing_4 vl K (c_X0_planCrossing vl K k) x2 x3 x4 x5 x6 x7 x8 x9 x10 r0 r1 t0 t1 t2 t3 t4 z) Q) : Tt (fun K k => c_X0_planCrossing vl K k 4 x2 x3 x4 x5 x6 x7 x8 x9 x10 r0 r1 t0 t1 t2 t3 t4 z) Q := w_un (fun _ _ => rfl) H
theorem u_X0_planCrossing_3 {vl : Nat → Nat} {x2 : Int32} {x3 : Int32} {x4 : Int32} {x5 : Int32} {x6 : Int32} {x7 : Int32} {x8 : Int32} {x9 : Int32} {x10 : Int32} {r0 : Nat} {r1 : Nat} {t0 : Int32} {t1 : Int32} {t2 : Int32} {t3 : Int32} {t4 : Int32} {z : ow_MS} {Q : (Int32 × ow_MS) → Prop} (H : Tt (fun K k => cm_X0_planCrossing_3 vl K (c_X0_planCrossing vl K k) x2 x3 x4 x5 x6 x7 x8 x9 x10 r0 r1 t0 t1 t2 t3 t4 z) Q) : Tt (fun K k => c_X0_planCrossing vl K k 3 x2 x3 x4 x5 x6 x7 x8 x9 x10 r0 r1 t0 t1 t2 t3 t4 z) Q := w_un (fun _ _ => rfl) H
theorem u_X0_planCrossing_2 {vl : Nat → Nat} {x2 : Int32} {x3 : Int32} {x4 : Int32} {x5 : Int32} {x6 : Int32} {x7 : Int32} {x8 : Int32} {x9 : Int32} {x10 : Int32} {r0 : Nat} {r1 : Nat} {t0 : Int32} {t1 : Int32} {t2 : Int32} {t3 : Int32} {t4 : Int32} {z : ow_MS} {Q : (Int32 × ow_MS) → Prop} (H : Tt (fun K k => cm_X0_planCrossing_2 vl K (c_X0_planCrossing vl K k) x2 x3 x4 x5 x6 x7 x8 x9 x10 r0 r1 t0 t1 t2 t3 t4 z) Q) : Tt (fun K k => c_X0_planCrossing vl K k 2 x2 x3 x4 x5 x6 x7 x8 x9 x10 r0 r1 t0 t1 t2 t3 t4 z) Q := w_un (fun _ _ => rfl) H
theorem u_X0_planCrossing_1 {vl : Nat → Nat} {x2 : Int32} {x3 : Int32} {x4 : Int32} {x5 : Int32} {x6 : Int32} {x7 : Int32} {x8 : Int32} {x9 : Int32} {x10 : Int32} {r0 : Nat} {r1 : Nat} {t0 : Int32} {t1 : Int32} {t2 : Int32} {t3 : Int32} {t4 : Int32} {z : ow_MS} {Q : (Int32 × ow_MS) → Prop} (H : Tt (fun K k => cm_X0_planCrossing_1 vl K (c_X0_planCrossing vl K k) x2 x3 x4 x5 x6 x7 x8 x9 x10 r0 r1 t0 t1 t2 t3 t4 z) Q) : Tt (fun K k => c_X0_planCrossing vl K k 1 x2 x3 x4 x5 x6 x7 x8 x9 x10 r0 r1 t0 t1 t2 t3 t4 z) Q := w_un (fun _ _ => rfl) H
theorem e_X0_planCrossing {vl : Nat → Nat} {r0 : Nat} {r1 : Nat} {x2 : Int32} {x3 : Int32} {z : ow_MS} {Q : (Int32 × ow_MS) → Prop} (H : Tt (fun K k => c_X0_planCrossing vl K k 0 x2 x3 0 0 0 0 0 0 0 r0 r1 0 0 0 0 0 z) Q) : Te (fun K => ce_X0_planCrossing vl K r0 r1 x2 x3 z) Q := w_te H
theorem u_X0_planCrossing_0 {vl : Nat → Nat} {x2 : Int32} {x3 : Int32} {x4 : Int32} {x5 : Int32} {x6 : Int32} {x7 : Int32} {x8 : Int32} {x9 : Int32} {x10 : Int32} {r0 : Nat} {r1 : Nat} {t0 : Int32} {t1 : Int32} {t2 : Int32} {t3 : Int32} {t4 : Int32} {z : ow_MS} {Q : (Int32 × ow_MS) → Prop} (H : Tt (fun K k => cm_X0_planCrossing_0 vl K (c_X0_planCrossing vl K k) x2 x3 x4 x5 x6 x7 x8 x9 x10 r0 r1 t0 t1 t2 t3 t4 z) Q) : Tt (fun K k => c_X0_planCrossing vl K k 0 x2 x3 x4 x5 x6 x7 x8 x9 x10 r0 r1 t0 t1 t2 t3 t4 z) Q := w_un (fun _ _ => rfl) H
theorem tc_planX {x : Nat} {kn : Int32} (h : plN y c ci S G a n) (hs : stP y) (hx : x < c) : Te (fun K => ce_X0_planCrossing vl K 41000 4000 (nI x) kn y) (fun r => stP r.2 ∧ fr plR y r.2) := by
  obtain ⟨h1, hv, hc, h18, h2, h3⟩ := h
  obtain ⟨-, v2, -, -⟩ := hv (2 * x + 1) (by omega)
  obtain ⟨o1, o2⟩ := h2 (2 * x) (by omega)
  obtain ⟨u1, u2⟩ := h2 (2 * x + 1) (by omega)
  obtain ⟨i1, i2⟩ := h2 _ v2
  let Q : Int32 × ow_MS → Prop := fun r => stP r.2 ∧ fr plR y r.2
  have c14 : ∀ (x7 x8 x9 x10 ov : Int32) (z : ow_MS), Q (0, z) → Tt (fun K k => c_X0_planCrossing vl K k 14 (nI x) kn ov (nI (a (S.2 (2 * x + 1)))) (nI (a (2 * x + 1))) x7 x8 x9 x10 41000 4000 0 0 0 0 0 z) Q := by
    intro x7 x8 x9 x10 ov z hz
    refine u_X0_planCrossing_14 ?_; unfold cm_X0_planCrossing_14
    exact w_some hz
  have c9 : ∀ (o : Nat) (x7 x8 x9 x10 : Int32), o < 18 → Tt (fun K k => c_X0_planCrossing vl K k 9 (nI x) kn (nI o) (nI (a (S.2 (2 * x + 1)))) (nI (a (2 * x + 1))) x7 x8 x9 x10 41000 4000 0 0 0 0 0 y) Q := by
    intro o x7 x8 x9 x10 ho
    have c10 : Tt (fun K k => c_X0_planCrossing vl K k 10 (nI x) kn (nI o) (nI (a (S.2 (2 * x + 1)))) (nI (a (2 * x + 1))) x7 x8 x9 x10 41000 4000 0 0 0 0 0 y) Q := by
      refine u_X0_planCrossing_10 ?_; unfold cm_X0_planCrossing_10
      refine w_rdF rfl (w_wrF ?_)
      generalize hz : usF y (41000 + 16) _ = z
      have fz : fr plR y z := by
        rw [← hz]
        exact fr_F (by unfold plR; omega)
      have sz : stP z := by
        obtain ⟨k, k1, k2, k3⟩ := hs
        rw [← hz]
        exact ⟨k, k1, rf_ot (by omega) k2, k3⟩
      have ad : ∀ (a1 b1 d1 : Nat) (k1 j1 : Int32), a1 < 18 → b1 < 18 → d1 < 18 → Te (fun K => ce_X0_addStep vl K 41000 k1 (nI a1) (nI b1) (nI d1) j1 z) (fun y1 => Q (0, y1)) := fun a1 b1 d1 k1 j1 g1 g2 g3 => w_monoE (tc_addStep sz g1 g2 g3) (fun r hr => ⟨hr.1, fr_tr fz hr.2⟩)
      have c11 : ∀ t0, Tt (fun K k => c_X0_planCrossing vl K k 11 (nI x) kn (nI o) (nI (a (S.2 (2 * x + 1)))) (nI (a (2 * x + 1))) x7 x8 x9 x10 41000 4000 t0 (nI (a (S.2 (2 * x + 1)))) (nI o) (nI (a (2 * x + 1))) 2 z) Q := by
        intro t0
        refine u_X0_planCrossing_11 ?_; unfold cm_X0_planCrossing_11
        exact w_cs0 (ad _ _ _ _ _ (by omega) ho (by omega)) (fun z1 h9 => c14 _ _ _ _ _ z1 h9)
      have c13 : ∀ t0, Tt (fun K k => c_X0_planCrossing vl K k 13 (nI x) kn (nI o) (nI (a (S.2 (2 * x + 1)))) (nI (a (2 * x + 1))) x7 x8 x9 x10 41000 4000 t0 (nI (a (S.2 (2 * x + 1)))) (nI o) (nI (a (2 * x + 1))) 1 z) Q := by
        intro t0
        refine u_X0_planCrossing_13 ?_; unfold cm_X0_planCrossing_13
        exact w_cs0 (ad _ _ _ _ _ (by omega) ho (by omega)) (fun z1 h9 => c14 _ _ _ _ _ z1 h9)
      have c12 : Tt (fun K k => c_X0_planCrossing vl K k 12 (nI x) kn (nI o) (nI (a (S.2 (2 * x + 1)))) (nI (a (2 * x + 1))) x7 x8 x9 x10 41000 4000 0 0 0 0 0 z) Q := by
        refine u_X0_planCrossing_12 ?_; unfold cm_X0_planCrossing_12
        exact w_if (fun _ => w_cs0 (ad _ _ _ _ _ (by omega) ho (by omega)) (fun z1 h9 => c14 _ _ _ _ _ z1 h9)) (fun _ => w_if (fun _ => c13 _) (fun _ => c13 _))
      exact w_if (fun _ => c12) (fun _ => w_if (fun _ => c12) (fun _ => w_if (fun _ => c11 _) (fun _ => c11 _)))
    refine u_X0_planCrossing_9 ?_; unfold cm_X0_planCrossing_9
    exact w_if (fun _ => w_some ⟨hs, fr_rf⟩) (fun _ => w_if (fun _ => w_if (fun _ => w_some ⟨hs, fr_rf⟩) (fun _ => c10)) (fun _ => c10))
  have c7 : ∀ (o : Int32) (x7 x8 x9 x10 t0 : Int32), Tt (fun K k => c_X0_planCrossing vl K k 7 (nI x) kn o (nI (a (S.2 (2 * x + 1)))) (nI (a (2 * x + 1))) x7 x8 x9 x10 41000 4000 t0 0 0 0 0 y) Q := by
    intro o x7 x8 x9 x10 t0
    refine u_X0_planCrossing_7 ?_; unfold cm_X0_planCrossing_7
    refine w_if (fun _ => ?_) (fun _ => ?_)
    · refine u_X0_planCrossing_8 ?_; unfold cm_X0_planCrossing_8
      exact c9 _ _ _ _ _ (by omega)
    · refine u_X0_planCrossing_8 ?_; unfold cm_X0_planCrossing_8
      exact c9 _ _ _ _ _ (by omega)
  have c6 : ∀ (o : Int32) (x7 x8 x9 x10 : Int32), Tt (fun K k => c_X0_planCrossing vl K k 6 (nI x) kn o (nI (a (S.2 (2 * x + 1)))) (nI (a (2 * x + 1))) x7 x8 x9 x10 41000 4000 0 0 0 0 0 y) Q := by
    intro o x7 x8 x9 x10
    refine u_X0_planCrossing_6 ?_; unfold cm_X0_planCrossing_6
    exact c7 _ _ _ _ _ _
  have c5 : ∀ (o : Int32) (x7 x8 x9 x10 : Int32), Tt (fun K k => c_X0_planCrossing vl K k 5 (nI x) kn o (nI (a (S.2 (2 * x + 1)))) (nI (a (2 * x + 1))) x7 x8 x9 x10 41000 4000 0 0 0 0 0 y) Q := by
    intro o x7 x8 x9 x10
    refine u_X0_planCrossing_5 ?_; unfold cm_X0_planCrossing_5
    exact w_if (fun _ => w_if (fun _ => c7 _ _ _ _ _ _) (fun _ => c6 _ _ _ _ _)) (fun _ => c6 _ _ _ _ _)
  have c4 : ∀ (x7 x8 x9 t0 : Int32), Tt (fun K k => c_X0_planCrossing vl K k 4 (nI x) kn (nI (a (2 * x))) (nI (a (S.2 (2 * x + 1)))) (nI (a (2 * x + 1))) x7 x8 x9 0 41000 4000 t0 0 0 0 0 y) Q := by
    intro x7 x8 x9 t0
    refine u_X0_planCrossing_4 ?_; unfold cm_X0_planCrossing_4
    exact w_if (fun _ => c5 _ _ _ _ _) (fun _ => w_if (fun _ => c5 _ _ _ _ _) (fun _ => c9 _ _ _ _ _ (by omega)))
  have c3 : ∀ (x7 x8 t0 : Int32), Tt (fun K k => c_X0_planCrossing vl K k 3 (nI x) kn (nI (a (2 * x))) (nI (a (S.2 (2 * x + 1)))) (nI (a (2 * x + 1))) x7 x8 0 0 41000 4000 t0 0 0 0 0 y) Q := by
    intro x7 x8 t0
    refine u_X0_planCrossing_3 ?_; unfold cm_X0_planCrossing_3
    exact w_if (fun _ => c4 _ _ _ _) (fun _ => c4 _ _ _ _)
  have c2 : ∀ (x7 t0 : Int32), Tt (fun K k => c_X0_planCrossing vl K k 2 (nI x) kn (nI (a (2 * x))) (nI (a (S.2 (2 * x + 1)))) (nI (a (2 * x + 1))) x7 0 0 0 41000 4000 t0 0 0 0 0 y) Q := by
    intro x7 t0
    refine u_X0_planCrossing_2 ?_; unfold cm_X0_planCrossing_2
    exact w_if (fun _ => c3 _ _ _) (fun _ => c3 _ _ _)
  have c1 : ∀ (t0 : Int32), Tt (fun K k => c_X0_planCrossing vl K k 1 (nI x) kn (nI (a (2 * x))) (nI (a (S.2 (2 * x + 1)))) (nI (a (2 * x + 1))) 0 0 0 0 41000 4000 t0 0 0 0 0 y) Q := by
    intro t0
    refine u_X0_planCrossing_1 ?_; unfold cm_X0_planCrossing_1
    exact w_if (fun _ => c2 _ _) (fun _ => c2 _ _)
  refine e_X0_planCrossing ?_
  refine u_X0_planCrossing_0 ?_; unfold cm_X0_planCrossing_0
  rw [rn_mul2, nI_1]
  exact w_crI ch_41001 rfl (show 2 * x < 24 by omega) o1 (w_crI (nH_2 nH4) rfl (show 2 * x + 1 < 24 by omega) (h1.2.2.2.1 _) (w_crI ch_41001 rfl (show S.2 (2 * x + 1) < 24 by omega) i1 (w_crI ch_41001 rfl (show 2 * x + 1 < 24 by omega) u1 (w_crI (nH_3 nH4) rfl (show x < 12 by omega) rfl (w_if (fun _ => c1 _) (fun _ => c1 _))))))
theorem u_X0_planFrom_1 {vl : Nat → Nat} {x2 : Int32} {x3 : Int32} {x4 : Int32} {x5 : Int32} {x6 : Int32} {x7 : Int32} {x8 : Int32} {r0 : Nat} {r1 : Nat} {z : ow_MS} {Q : (Int32 × ow_MS) → Prop} (H : Tt (fun K k => cm_X0_planFrom_1 vl K (c_X0_planFrom vl K k) x2 x3 x4 x5 x6 x7 x8 r0 r1 z) Q) : Tt (fun K k => c_X0_planFrom vl K k 1 x2 x3 x4 x5 x6 x7 x8 r0 r1 z) Q := w_un (fun _ _ => rfl) H
theorem u_X0_planFrom_6 {vl : Nat → Nat} {x2 : Int32} {x3 : Int32} {x4 : Int32} {x5 : Int32} {x6 : Int32} {x7 : Int32} {x8 : Int32} {r0 : Nat} {r1 : Nat} {z : ow_MS} {Q : (Int32 × ow_MS) → Prop} (H : Tt (fun K k => cm_X0_planFrom_6 vl K (c_X0_planFrom vl K k) x2 x3 x4 x5 x6 x7 x8 r0 r1 z) Q) : Tt (fun K k => c_X0_planFrom vl K k 6 x2 x3 x4 x5 x6 x7 x8 r0 r1 z) Q := w_un (fun _ _ => rfl) H
theorem u_X0_planFrom_2 {vl : Nat → Nat} {x2 : Int32} {x3 : Int32} {x4 : Int32} {x5 : Int32} {x6 : Int32} {x7 : Int32} {x8 : Int32} {r0 : Nat} {r1 : Nat} {z : ow_MS} {Q : (Int32 × ow_MS) → Prop} (H : Tt (fun K k => cm_X0_planFrom_2 vl K (c_X0_planFrom vl K k) x2 x3 x4 x5 x6 x7 x8 r0 r1 z) Q) : Tt (fun K k => c_X0_planFrom vl K k 2 x2 x3 x4 x5 x6 x7 x8 r0 r1 z) Q := w_un (fun _ _ => rfl) H
theorem u_X0_planFrom_5 {vl : Nat → Nat} {x2 : Int32} {x3 : Int32} {x4 : Int32} {x5 : Int32} {x6 : Int32} {x7 : Int32} {x8 : Int32} {r0 : Nat} {r1 : Nat} {z : ow_MS} {Q : (Int32 × ow_MS) → Prop} (H : Tt (fun K k => cm_X0_planFrom_5 vl K (c_X0_planFrom vl K k) x2 x3 x4 x5 x6 x7 x8 r0 r1 z) Q) : Tt (fun K k => c_X0_planFrom vl K k 5 x2 x3 x4 x5 x6 x7 x8 r0 r1 z) Q := w_un (fun _ _ => rfl) H
theorem u_X0_planFrom_3 {vl : Nat → Nat} {x2 : Int32} {x3 : Int32} {x4 : Int32} {x5 : Int32} {x6 : Int32} {x7 : Int32} {x8 : Int32} {r0 : Nat} {r1 : Nat} {z : ow_MS} {Q : (Int32 × ow_MS) → Prop} (H : Tt (fun K k => cm_X0_planFrom_3 vl K (c_X0_planFrom vl K k) x2 x3 x4 x5 x6 x7 x8 r0 r1 z) Q) : Tt (fun K k => c_X0_planFrom vl K k 3 x2 x3 x4 x5 x6 x7 x8 r0 r1 z) Q := w_un (fun _ _ => rfl) H
theorem u_X0_planFrom_4 {vl : Nat → Nat} {x2 : Int32} {x3 : Int32} {x4 : Int32} {x5 : Int32} {x6 : Int32} {x7 : Int32} {x8 : Int32} {r0 : Nat} {r1 : Nat} {z : ow_MS} {Q : (Int32 × ow_MS) → Prop} (H : Tt (fun K k => cm_X0_planFrom_4 vl K (c_X0_planFrom vl K k) x2 x3 x4 x5 x6 x7 x8 r0 r1 z) Q) : Tt (fun K k => c_X0_planFrom vl K k 4 x2 x3 x4 x5 x6 x7 x8 r0 r1 z) Q := w_un (fun _ _ => rfl) H
theorem e_X0_planFrom {vl : Nat → Nat} {r0 : Nat} {r1 : Nat} {x2 : Int32} {x3 : Int32} {z : ow_MS} {Q : (Int32 × ow_MS) → Prop} (H : Tt (fun K k => c_X0_planFrom vl K k 0 x2 x3 0 0 0 0 0 r0 r1 z) Q) : Te (fun K => ce_X0_planFrom vl K r0 r1 x2 x3 z) Q := w_te H
theorem u_X0_planFrom_0 {vl : Nat → Nat} {x2 : Int32} {x3 : Int32} {x4 : Int32} {x5 : Int32} {x6 : Int32} {x7 : Int32} {x8 : Int32} {r0 : Nat} {r1 : Nat} {z : ow_MS} {Q : (Int32 × ow_MS) → Prop} (H : Tt (fun K k => cm_X0_planFrom_0 vl K (c_X0_planFrom vl K k) x2 x3 x4 x5 x6 x7 x8 r0 r1 z) Q) : Tt (fun K k => c_X0_planFrom vl K k 0 x2 x3 x4 x5 x6 x7 x8 r0 r1 z) Q := w_un (fun _ _ => rfl) H
theorem tc_planFrom {p se : Int32} (h : plN y c ci S G a n) : Te (fun K => ce_X0_planFrom vl K 41000 4000 p se y) (fun r => stP r.2 ∧ fr plR y r.2) := by
  let Q : Int32 × ow_MS → Prop := fun r => stP r.2 ∧ fr plR y r.2
  have hP : ∀ z, fr plR y z → plN z c ci S G a n := fun z hf => plN_fr hf (fun g hg => plR_n hg) h
  obtain ⟨-, -, hc, h18, -, -⟩ := id h
  have c1 : ∀ (d j : Nat) (x4 : Int32) (z : ow_MS), j + d = n → Q (0, z) → Tt (fun K k => c_X0_planFrom vl K k 1 p se x4 (nI j) 0 0 0 41000 4000 z) Q := by
    intro d
    induction d with
    | zero =>
      intro j x4 z hj hz
      refine u_X0_planFrom_1 ?_; unfold cm_X0_planFrom_1
      exact w_rdF (hP z hz.2).2.2.2.2.2 (w_leT (by omega) (by omega) (w_some hz))
    | succ d ih =>
      intro j x4 z hj hz
      have c6 : ∀ (x4 : Int32) (z : ow_MS), Q (0, z) → Tt (fun K k => c_X0_planFrom vl K k 6 p se x4 (nI j) 0 0 0 41000 4000 z) Q := by
        intro x4 z hz
        refine u_X0_planFrom_6 ?_; unfold cm_X0_planFrom_6
        rw [nI_1]
        exact ih (j + 1) x4 z (by omega) hz
      have c2 : ∀ (e i : Nat) (x4 : Int32) (z : ow_MS), i + e = 12 → Q (0, z) → Tt (fun K k => c_X0_planFrom vl K k 2 p se x4 (nI j) (nI i) 0 0 41000 4000 z) Q := by
        intro e
        induction e with
        | zero =>
          intro i x4 z hi hz
          refine u_X0_planFrom_2 ?_; unfold cm_X0_planFrom_2
          exact w_leT (a := 12) (by omega) (by omega) (c6 x4 z hz)
        | succ e ihe =>
          intro i x4 z hi hz
          have c5 : ∀ (x4 x7 x8 : Int32) (z : ow_MS), Q (0, z) → Tt (fun K k => c_X0_planFrom vl K k 5 p se x4 (nI j) (nI i) x7 x8 41000 4000 z) Q := by
            intro x4 x7 x8 z hz
            refine u_X0_planFrom_5 ?_; unfold cm_X0_planFrom_5
            rw [nI_1]
            exact ihe (i + 1) x4 z (by omega) hz
          have c3 : ∀ (g x : Nat) (x4 x7 : Int32) (z : ow_MS), x + g = c → Q (0, z) → Tt (fun K k => c_X0_planFrom vl K k 3 p se x4 (nI j) (nI i) x7 (nI x) 41000 4000 z) Q := by
            intro g
            induction g with
            | zero =>
              intro x x4 x7 z hx hz
              refine u_X0_planFrom_3 ?_; unfold cm_X0_planFrom_3
              exact w_rdF (hP z hz.2).1.1 (w_leT (by omega) (by omega) (w_if (fun _ => w_if (fun _ => c5 _ _ _ z hz) (fun _ => c6 _ z hz)) (fun _ => c5 _ _ _ z hz)))
            | succ g ihg =>
              intro x x4 x7 z hx hz
              have c4 : ∀ (x4 : Int32) (z : ow_MS), Q (0, z) → Tt (fun K k => c_X0_planFrom vl K k 4 p se x4 (nI j) (nI i) x7 (nI x) 41000 4000 z) Q := by
                intro x4 z hz
                refine u_X0_planFrom_4 ?_; unfold cm_X0_planFrom_4
                rw [nI_1]
                exact ihg (x + 1) x4 x7 z (by omega) hz
              refine u_X0_planFrom_3 ?_; unfold cm_X0_planFrom_3
              rw [rn_mul2]
              refine w_rdF (hP z hz.2).1.1 (w_leF (by omega) (by omega) (w_crI (nH_6 nH4) rfl (show 2 * x < 24 by omega) rfl (w_if (fun _ => w_rdF rfl (w_if (fun _ => w_cs1 (tc_planX (hP z hz.2) hz.1 (show x < c by omega)) ?_) (fun _ => c4 _ z hz))) (fun _ => c4 _ z hz))))
              rintro v z1 ⟨g1, g2⟩
              exact c4 _ z1 ⟨g1, fr_tr hz.2 g2⟩
          refine u_X0_planFrom_2 ?_; unfold cm_X0_planFrom_2
          exact w_leF (a := 12) (by omega) (by omega) (c3 c 0 x4 x4 z (by omega) hz)
      refine u_X0_planFrom_1 ?_; unfold cm_X0_planFrom_1
      refine w_rdF (hP z hz.2).2.2.2.2.2 (w_leF (by omega) (by omega) (w_if (fun _ => c6 x4 z hz) (fun _ => w_if (fun _ => w_cs0 (tc_addStep hz.1 (show j < 18 by omega) (show j < 18 by omega) (show j < 18 by omega)) ?_) (fun _ => c6 x4 z hz))))
      rintro z1 ⟨g1, g2⟩
      exact c2 12 0 _ z1 (by omega) ⟨g1, fr_tr hz.2 g2⟩
  refine e_X0_planFrom ?_
  refine u_X0_planFrom_0 ?_; unfold cm_X0_planFrom_0
  refine w_wrF (w_wrF (c1 n 0 0 _ (by omega) ⟨⟨0, by omega, rf_ot (by omega) po_usF_at, fun s hs => absurd hs (by omega)⟩, fr_F2 (fr_F (by unfold plR; omega)) (by unfold plR; omega)⟩))
theorem or_bit18 {m l : Nat} (hm : m < 2 ^ 18) (hl : l < 18) : ∃ m', m' < 2 ^ 18 ∧ nI m ||| ((1 : Int32) <<< (nI l &&& 31)) = nI m' := by
  have h1 : 2 ^ l < 2 ^ 18 := Nat.pow_lt_pow_right (by omega) hl
  refine ⟨m ||| 2 ^ l, Nat.or_lt_two_pow hm h1, ?_⟩
  rw [shl1 (by omega), ow_or (by omega) (by omega)]
theorem u_X0_planPart_3 {vl : Nat → Nat} {x2 : Int32} {x3 : Int32} {x4 : Int32} {x5 : Int32} {r0 : Nat} {r1 : Nat} {z : ow_MS} {Q : ow_MS → Prop} (H : Tt (fun K k => cm_X0_planPart_3 vl K (c_X0_planPart vl K k) x2 x3 x4 x5 r0 r1 z) Q) : Tt (fun K k => c_X0_planPart vl K k 3 x2 x3 x4 x5 r0 r1 z) Q := w_un (fun _ _ => rfl) H
theorem u_X0_planPart_4 {vl : Nat → Nat} {x2 : Int32} {x3 : Int32} {x4 : Int32} {x5 : Int32} {r0 : Nat} {r1 : Nat} {z : ow_MS} {Q : ow_MS → Prop} (H : Tt (fun K k => cm_X0_planPart_4 vl K (c_X0_planPart vl K k) x2 x3 x4 x5 r0 r1 z) Q) : Tt (fun K k => c_X0_planPart vl K k 4 x2 x3 x4 x5 r0 r1 z) Q := w_un (fun _ _ => rfl) H
theorem u_X0_planPart_5 {vl : Nat → Nat} {x2 : Int32} {x3 : Int32} {x4 : Int32} {x5 : Int32} {r0 : Nat} {r1 : Nat} {z : ow_MS} {Q : ow_MS → Prop} (H : Tt (fun K k => cm_X0_planPart_5 vl K (c_X0_planPart vl K k) x2 x3 x4 x5 r0 r1 z) Q) : Tt (fun K k => c_X0_planPart vl K k 5 x2 x3 x4 x5 r0 r1 z) Q := w_un (fun _ _ => rfl) H
theorem u_X0_planPart_1 {vl : Nat → Nat} {x2 : Int32} {x3 : Int32} {x4 : Int32} {x5 : Int32} {r0 : Nat} {r1 : Nat} {z : ow_MS} {Q : ow_MS → Prop} (H : Tt (fun K k => cm_X0_planPart_1 vl K (c_X0_planPart vl K k) x2 x3 x4 x5 r0 r1 z) Q) : Tt (fun K k => c_X0_planPart vl K k 1 x2 x3 x4 x5 r0 r1 z) Q := w_un (fun _ _ => rfl) H
theorem u_X0_planPart_2 {vl : Nat → Nat} {x2 : Int32} {x3 : Int32} {x4 : Int32} {x5 : Int32} {r0 : Nat} {r1 : Nat} {z : ow_MS} {Q : ow_MS → Prop} (H : Tt (fun K k => cm_X0_planPart_2 vl K (c_X0_planPart vl K k) x2 x3 x4 x5 r0 r1 z) Q) : Tt (fun K k => c_X0_planPart vl K k 2 x2 x3 x4 x5 r0 r1 z) Q := w_un (fun _ _ => rfl) H
theorem e_X0_planPart {vl : Nat → Nat} {r0 : Nat} {r1 : Nat} {x2 : Int32} {z : ow_MS} {Q : ow_MS → Prop} (H : Tt (fun K k => c_X0_planPart vl K k 0 x2 0 0 0 r0 r1 z) Q) : Te (fun K => ce_X0_planPart vl K r0 r1 x2 z) Q := w_te H
theorem u_X0_planPart_0 {vl : Nat → Nat} {x2 : Int32} {x3 : Int32} {x4 : Int32} {x5 : Int32} {r0 : Nat} {r1 : Nat} {z : ow_MS} {Q : ow_MS → Prop} (H : Tt (fun K k => cm_X0_planPart_0 vl K (c_X0_planPart vl K k) x2 x3 x4 x5 r0 r1 z) Q) : Tt (fun K k => c_X0_planPart vl K k 0 x2 x3 x4 x5 r0 r1 z) Q := w_un (fun _ _ => rfl) H
theorem tc_planPart {p : Int32} (h : plN y c ci S G a n) (hs : stP y) : Te (fun K => ce_X0_planPart vl K 41000 4000 p y) (fun y1 => stP y1 ∧ fr plR y y1) := by
  let Q : ow_MS → Prop := fun z => stP z ∧ fr plR y z
  have hP : ∀ z, fr plR y z → plN z c ci S G a n := fun z hf => plN_fr hf (fun g hg => plR_n hg) h
  obtain ⟨h1, -, hc, h18, h2, h3⟩ := id h
  have c3 : ∀ (m : Nat), m < 2 ^ 18 → ∀ (d s : Nat) (z : ow_MS), s + d = n + 1 → Q z → Tt (fun K k => c_X0_planPart vl K k 3 p (nI m) (nI s) 0 41000 4000 z) Q := by
    intro m hm d
    induction d with
    | zero =>
      intro s z hs1 hz
      refine u_X0_planPart_3 ?_; unfold cm_X0_planPart_3
      exact w_rdF (hP z hz.2).2.2.2.2.2 (w_ltT (by omega) (by omega) (w_some hz))
    | succ d ih =>
      intro s z hs1 hz
      have c4 : ∀ (e q : Nat) (z : ow_MS), q + e = m + 1 → Q z → Tt (fun K k => c_X0_planPart vl K k 4 p (nI m) (nI s) (nI q) 41000 4000 z) Q := by
        intro e
        induction e with
        | zero =>
          intro q z hq hz
          refine u_X0_planPart_4 ?_; unfold cm_X0_planPart_4
          rw [nI_1]
          exact w_ltT (by omega) (by omega) (ih (s + 1) z (by omega) hz)
        | succ e ihe =>
          intro q z hq hz
          have c5 : ∀ (z : ow_MS), Q z → Tt (fun K k => c_X0_planPart vl K k 5 p (nI m) (nI s) (nI q) 41000 4000 z) Q := by
            intro z hz
            refine u_X0_planPart_5 ?_; unfold cm_X0_planPart_5
            rw [nI_1]
            exact ihe (q + 1) z (by omega) hz
          refine u_X0_planPart_4 ?_; unfold cm_X0_planPart_4
          refine w_ltF (by omega) (by omega) (w_if (fun _ => w_if (fun _ => w_cs1 (tc_planFrom (hP z hz.2)) ?_) (fun _ => c5 z hz)) (fun _ => c5 z hz))
          rintro v z1 ⟨g1, g2⟩
          have q1 : Q z1 := ⟨g1, fr_tr hz.2 g2⟩
          exact w_if (fun _ => w_some q1) (fun _ => c5 z1 q1)
      refine u_X0_planPart_3 ?_; unfold cm_X0_planPart_3
      refine w_rdF (hP z hz.2).2.2.2.2.2 (w_ltF (by omega) (by omega) ?_)
      rcases Nat.eq_zero_or_pos m with hm0 | hm0
      · refine u_X0_planPart_4 ?_; unfold cm_X0_planPart_4
        rw [nI_1]
        exact w_ltT (b := 1) (by omega) (by omega) (ih (s + 1) z (by omega) hz)
      · exact c4 m 1 z (by omega) hz
  have c1 : ∀ (d v m : Nat), m < 2 ^ 18 → v + d = 2 * c → Tt (fun K k => c_X0_planPart vl K k 1 p (nI m) (nI v) 0 41000 4000 y) Q := by
    intro d
    induction d with
    | zero =>
      intro v m hm hv
      refine u_X0_planPart_1 ?_; unfold cm_X0_planPart_1
      exact w_rdF h1.1 (by rw [rn_mul2]; exact w_leT (by omega) (by omega) (c3 m hm n 1 y (by omega) ⟨hs, fr_rf⟩))
    | succ d ih =>
      intro v m hm hv
      have c2 : ∀ (m : Nat), m < 2 ^ 18 → Tt (fun K k => c_X0_planPart vl K k 2 p (nI m) (nI v) 0 41000 4000 y) Q := by
        intro m hm
        refine u_X0_planPart_2 ?_; unfold cm_X0_planPart_2
        rw [nI_1]
        exact ih (v + 1) m hm (by omega)
      refine u_X0_planPart_1 ?_; unfold cm_X0_planPart_1
      refine w_rdF h1.1 ?_
      rw [rn_mul2]
      refine w_leF (by omega) (by omega) (w_crI (nH_6 nH4) rfl (show v < 24 by omega) rfl (w_if (fun _ => w_crI ch_41001 rfl (show v < 24 by omega) (h2 v (by omega)).1 ?_) (fun _ => c2 m hm)))
      obtain ⟨m', m1, m2⟩ := or_bit18 (l := a v) hm (by have := (h2 v (by omega)).2; omega)
      rw [m2]
      exact c2 m' m1
  refine e_X0_planPart ?_
  refine u_X0_planPart_0 ?_; unfold cm_X0_planPart_0
  exact c1 (2 * c) 0 0 (by omega) (by omega)
end CMP
