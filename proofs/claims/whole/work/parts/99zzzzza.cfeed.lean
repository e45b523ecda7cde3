/-! the class: feed, end, free places -/
section CH2
variable {vl : Nat → Nat} {y : ow_MS} {x : Int32}
theorem ch_11002 : ((cX vl).2 11002).2.1 = 400 := rfl
/-- byte i of a number as the tape holds it -/
def bT (x : Int32) (i : Nat) : Int32 := vp_nar .byte ((x >>> ((nI (24 - 8 * i)) &&& 31)).toInt8.toInt32)
def tpP (q : Nat) : Prop := q = 11001 ∨ q = 11002
theorem u_X9_take_1 {vl : Nat → Nat} {x1 : Int32} {x2 : Int32} {r0 : Nat} {z : ow_MS} {Q : ow_MS → Prop} (H : Tt (fun K k => cm_X9_take_1 vl K (c_X9_take vl K k) x1 x2 r0 z) Q) : Tt (fun K k => c_X9_take vl K k 1 x1 x2 r0 z) Q := w_un (fun _ _ => rfl) H
theorem e_X9_take {vl : Nat → Nat} {r0 : Nat} {x1 : Int32} {z : ow_MS} {Q : ow_MS → Prop} (H : Tt (fun K k => c_X9_take vl K k 0 x1 0 r0 z) Q) : Te (fun K => ce_X9_take vl K r0 x1 z) Q := w_te H
theorem u_X9_take_0 {vl : Nat → Nat} {x1 : Int32} {x2 : Int32} {r0 : Nat} {z : ow_MS} {Q : ow_MS → Prop} (H : Tt (fun K k => cm_X9_take_0 vl K (c_X9_take vl K k) x1 x2 r0 z) Q) : Tt (fun K k => c_X9_take vl K k 0 x1 x2 r0 z) Q := w_un (fun _ _ => rfl) H
theorem tc_take {t : Nat} (ht : y.1 11001 = nI t) (h4 : t + 4 ≤ 400) : Te (fun K => ce_X9_take vl K 11000 x y) (fun y1 => y1.1 11001 = nI (t + 4) ∧ (∀ i, i < 4 → y1.2.1 11002 (t + i) = bT x i) ∧ (∀ k, k < t → y1.2.1 11002 k = y.2.1 11002 k) ∧ fr tpP y y1) := by
  let Q : ow_MS → Prop := fun y1 => y1.1 11001 = nI (t + 4) ∧ (∀ i, i < 4 → y1.2.1 11002 (t + i) = bT x i) ∧ (∀ k, k < t → y1.2.1 11002 k = y.2.1 11002 k) ∧ fr tpP y y1
  have c1 : ∀ (d i : Nat) (y1 : ow_MS), i + d = 4 → y1.1 11001 = nI (t + i) → (∀ j, j < i → y1.2.1 11002 (t + j) = bT x j) → (∀ k, k < t → y1.2.1 11002 k = y.2.1 11002 k) → fr tpP y y1 → Tt (fun K k => c_X9_take vl K k 1 x (iI (24 - 8 * (i : Int))) 11000 y1) Q := by
    intro d
    induction d with
    | zero =>
      intro i y1 hi h1 h2 h3 hf
      have e : i = 4 := by omega
      subst e
      refine u_X9_take_1 ?_; unfold cm_X9_take_1
      exact w_ifT (by decide) (w_some ⟨h1, h2, h3, hf⟩)
    | succ d ih =>
      intro i y1 hi h1 h2 h3 hf
      refine u_X9_take_1 ?_; unfold cm_X9_take_1
      rw [show iI (24 - 8 * (i : Int)) + -8 = iI (24 - 8 * ((i + 1 : Nat) : Int)) from by
        rw [show (-8 : Int32) = iI (-8) from rfl, iI_add]
        congr 1
        omega]
      have e24 : iI (24 - 8 * (i : Int)) = nI (24 - 8 * i) := iI_nI (by omega)
      rw [e24]
      refine w_ltF (b := 0) (by omega) (by omega) (w_rdF h1 (w_leF (a := 400) (by omega) (by omega) (w_rdF h1 (w_ctB (i := t + i) ch_11002 rfl (by omega) (w_rdF (x := nI (t + i)) h1 ?_)))))
      rw [nI_1]
      refine w_wrF (ih (i + 1) _ (by omega) po_usF_at (fun j hj => ?_) (fun k hk => ?_) (fr_F2 (fr_I2 hf (Or.inr rfl)) (Or.inl rfl)))
      · by_cases e : j = i
        · rw [e]
          exact po_usI_at
        · exact rd_ne (by omega) (h2 j (by omega))
      · exact rd_ne (by omega) (h3 k hk)
  refine e_X9_take ?_
  refine u_X9_take_0 ?_; unfold cm_X9_take_0
  exact c1 4 0 y (by omega) ht (fun j hj => by omega) (fun k hk => rfl) fr_rf
def gTp (y : ow_MS) : Prop := ∃ t, t ≤ 400 ∧ y.1 11001 = nI t
theorem e_X11_feed {vl : Nat → Nat} {r0 : Nat} {x1 : Int32} {x2 : Int32} {x3 : Int32} {x4 : Int32} {x5 : Int32} {z : ow_MS} {Q : (Nat × Int32 × ow_MS) → Prop} (H : Tt (fun K _ => cm_X11_feed_0 vl K x1 x2 x3 x4 x5 r0 z) Q) : Te (fun K => ce_X11_feed vl K r0 x1 x2 x3 x4 x5 z) Q := w_te0 H
theorem tc_feed {x1 x2 x3 x4 x5 : Int32} {t : Nat} (ht : y.1 11001 = nI t) (h4 : t ≤ 400) : Te (fun K => ce_X11_feed vl K 0 x1 x2 x3 x4 x5 y) (fun r => (t + 20 ≤ 400 ∧ r.1 = 0 ∧ r.2.1 = nI (t + 20) ∧ r.2.2.1 11001 = nI (t + 20) ∧ (∀ i, i < 4 → r.2.2.2.1 11002 (t + i) = bT x1 i ∧ r.2.2.2.1 11002 (t + 4 + i) = bT x2 i ∧ r.2.2.2.1 11002 (t + 8 + i) = bT x3 i ∧ r.2.2.2.1 11002 (t + 12 + i) = bT x4 i ∧ r.2.2.2.1 11002 (t + 16 + i) = bT x5 i) ∧ (∀ k, k < t → r.2.2.2.1 11002 k = y.2.1 11002 k) ∨ 400 < t + 20 ∧ r.1 = 3 ∧ r.2.2 = y) ∧ fr tpP y r.2.2) := by
  refine e_X11_feed ?_; unfold cm_X11_feed_0
  refine w_rdF ht ?_
  rw [show nI t + 20 = nI (t + 20) from nI_add t 20]
  refine w_le (b := 400) (by omega) (by omega) (fun hle => ?_) (fun hgt => w_some ⟨Or.inr ⟨hgt, rfl, rfl⟩, fr_rf⟩)
  refine w_cs0 (tc_take ht (by omega)) ?_
  rintro y1 ⟨a1, a2, a3, a4⟩
  refine w_cs0 (tc_take a1 (by omega)) ?_
  rintro y2 ⟨b1, b2, b3, b4⟩
  refine w_cs0 (tc_take b1 (by omega)) ?_
  rintro y3 ⟨c1, c2, c3, c4⟩
  refine w_cs0 (tc_take c1 (by omega)) ?_
  rintro y4 ⟨d1, d2, d3, d4⟩
  refine w_cs0 (tc_take d1 (by omega)) ?_
  rintro y5 ⟨e1, e2, e3, e4⟩
  refine w_rdF e1 (w_some ⟨Or.inl ⟨hle, rfl, rfl, e1, fun i hi => ⟨?_, ?_, ?_, ?_, ?_⟩, fun k hk => ?_⟩, fr_tr (fr_tr (fr_tr (fr_tr a4 b4) c4) d4) e4⟩)
  · exact (e3 _ (by omega)).trans ((d3 _ (by omega)).trans ((c3 _ (by omega)).trans ((b3 _ (by omega)).trans (a2 i hi))))
  · exact (e3 _ (by omega)).trans ((d3 _ (by omega)).trans ((c3 _ (by omega)).trans (b2 i hi)))
  · exact (e3 _ (by omega)).trans ((d3 _ (by omega)).trans (c2 i hi))
  · exact (e3 _ (by omega)).trans (d2 i hi)
  · exact e2 i hi
  · exact (e3 _ (by omega)).trans ((d3 _ (by omega)).trans ((c3 _ (by omega)).trans ((b3 _ (by omega)).trans (a3 k hk))))
theorem e_X11_end {vl : Nat → Nat} {r0 : Nat} {x1 : Int32} {z : ow_MS} {Q : (Nat × ow_MS) → Prop} (H : Tt (fun K _ => cm_X11_end_0 vl K x1 r0 z) Q) : Te (fun K => ce_X11_end vl K r0 x1 z) Q := w_te0 H
theorem tc_end {t : Nat} (ht : y.1 11001 = nI t) (h4 : t ≤ 400) : Te (fun K => ce_X11_end vl K 0 x y) (fun r => ((∃ u, u ≤ t ∧ x = nI u ∧ r.1 = 0 ∧ r.2.1 11001 = nI u) ∨ (∀ u, u ≤ t → x ≠ nI u) ∧ r.1 = 2 ∧ r.2 = y) ∧ fr (fun q => q = 11001) y r.2) := by
  refine e_X11_end ?_; unfold cm_X11_end_0
  refine w_if (fun e => w_some ⟨Or.inr ⟨fun u hu ex => ?_, rfl, rfl⟩, fr_rf⟩) (fun e => ?_)
  · rw [ex] at e
    exact nI_pos (by omega) e
  · obtain ⟨u, u31, rfl⟩ := nI_of e
    refine w_rdF ht (w_le u31 (by omega) (fun hle => w_wrF (w_some ⟨Or.inl ⟨u, hle, rfl, rfl, po_usF_at⟩, fr_F2 fr_rf rfl⟩)) (fun hgt => w_some ⟨Or.inr ⟨fun v hv ex => ?_, rfl, rfl⟩, fr_rf⟩))
    have := (nI_eq u31 (by omega)).mp ex
    omega
theorem u_X11_freeDiagram_1 {vl : Nat → Nat} {x1 : Int32} {r0 : Nat} {z : ow_MS} {Q : (Nat × Int32 × ow_MS) → Prop} (H : Tt (fun K k => cm_X11_freeDiagram_1 vl K (c_X11_freeDiagram vl K k) x1 r0 z) Q) : Tt (fun K k => c_X11_freeDiagram vl K k 1 x1 r0 z) Q := w_un (fun _ _ => rfl) H
theorem e_X11_freeDiagram {vl : Nat → Nat} {r0 : Nat} {z : ow_MS} {Q : (Nat × Int32 × ow_MS) → Prop} (H : Tt (fun K k => c_X11_freeDiagram vl K k 0 0 r0 z) Q) : Te (fun K => ce_X11_freeDiagram vl K r0 z) Q := w_te H
theorem u_X11_freeDiagram_0 {vl : Nat → Nat} {x1 : Int32} {r0 : Nat} {z : ow_MS} {Q : (Nat × Int32 × ow_MS) → Prop} (H : Tt (fun K k => cm_X11_freeDiagram_0 vl K (c_X11_freeDiagram vl K k) x1 r0 z) Q) : Tt (fun K k => c_X11_freeDiagram vl K k 0 x1 r0 z) Q := w_un (fun _ _ => rfl) H
theorem tc_freeDiagram (hy : dgE y) : Te (fun K => ce_X11_freeDiagram vl K 0 y) (fun r => ((∃ d, d < 40 ∧ r.1 = 0 ∧ r.2.1 = nI d ∧ y.2.1 1002 d = 0 ∧ ∀ e, e < d → y.2.1 1002 e ≠ 0) ∨ r.1 = 3 ∧ ∀ e, e < 40 → y.2.1 1002 e ≠ 0) ∧ r.2.2 = y) := by
  let Q : Nat × Int32 × ow_MS → Prop := fun r => ((∃ d, d < 40 ∧ r.1 = 0 ∧ r.2.1 = nI d ∧ y.2.1 1002 d = 0 ∧ ∀ e, e < d → y.2.1 1002 e ≠ 0) ∨ r.1 = 3 ∧ ∀ e, e < 40 → y.2.1 1002 e ≠ 0) ∧ r.2.2 = y
  have c1 : ∀ (d i : Nat), i + d = 40 → (∀ e, e < i → y.2.1 1002 e ≠ 0) → Tt (fun K k => c_X11_freeDiagram vl K k 1 (nI i) 0 y) Q := by
    intro d
    induction d with
    | zero =>
      intro i hi hn
      refine u_X11_freeDiagram_1 ?_; unfold cm_X11_freeDiagram_1
      exact w_leT (a := 40) (by omega) (by omega) (w_some ⟨Or.inr ⟨rfl, fun e he => hn e (by omega)⟩, rfl⟩)
    | succ d ih =>
      intro i hi hn
      refine u_X11_freeDiagram_1 ?_; unfold cm_X11_freeDiagram_1
      rw [nI_1]
      refine w_leF (a := 40) (by omega) (by omega) (w_crI (x := y.2.1 1002 i) (tH_2 ch_1000) rfl (by omega) rfl (w_if (fun e => w_some ⟨Or.inl ⟨i, by omega, rfl, rfl, e, hn⟩, rfl⟩) (fun e => ih (i + 1) (by omega) (fun j hj => ?_))))
      by_cases ej : j = i
      · rw [ej]
        exact e
      · exact hn j (by omega)
  refine e_X11_freeDiagram ?_
  refine u_X11_freeDiagram_0 ?_; unfold cm_X11_freeDiagram_0
  exact c1 40 0 (by omega) (fun e he => by omega)
theorem u_X11_freeBraid_1 {vl : Nat → Nat} {x1 : Int32} {r0 : Nat} {z : ow_MS} {Q : (Nat × Int32 × ow_MS) → Prop} (H : Tt (fun K k => cm_X11_freeBraid_1 vl K (c_X11_freeBraid vl K k) x1 r0 z) Q) : Tt (fun K k => c_X11_freeBraid vl K k 1 x1 r0 z) Q := w_un (fun _ _ => rfl) H
theorem e_X11_freeBraid {vl : Nat → Nat} {r0 : Nat} {z : ow_MS} {Q : (Nat × Int32 × ow_MS) → Prop} (H : Tt (fun K k => c_X11_freeBraid vl K k 0 0 r0 z) Q) : Te (fun K => ce_X11_freeBraid vl K r0 z) Q := w_te H
theorem u_X11_freeBraid_0 {vl : Nat → Nat} {x1 : Int32} {r0 : Nat} {z : ow_MS} {Q : (Nat × Int32 × ow_MS) → Prop} (H : Tt (fun K k => cm_X11_freeBraid_0 vl K (c_X11_freeBraid vl K k) x1 r0 z) Q) : Tt (fun K k => c_X11_freeBraid vl K k 0 x1 r0 z) Q := w_un (fun _ _ => rfl) H
theorem tc_freeBraid : Te (fun K => ce_X11_freeBraid vl K 0 y) (fun r => ((∃ d, d < 20 ∧ r.1 = 0 ∧ r.2.1 = nI d ∧ y.2.1 15 d = 0 ∧ ∀ e, e < d → y.2.1 15 e ≠ 0) ∨ r.1 = 3 ∧ ∀ e, e < 20 → y.2.1 15 e ≠ 0) ∧ r.2.2 = y) := by
  let Q : Nat × Int32 × ow_MS → Prop := fun r => ((∃ d, d < 20 ∧ r.1 = 0 ∧ r.2.1 = nI d ∧ y.2.1 15 d = 0 ∧ ∀ e, e < d → y.2.1 15 e ≠ 0) ∨ r.1 = 3 ∧ ∀ e, e < 20 → y.2.1 15 e ≠ 0) ∧ r.2.2 = y
  have c1 : ∀ (d i : Nat), i + d = 20 → (∀ e, e < i → y.2.1 15 e ≠ 0) → Tt (fun K k => c_X11_freeBraid vl K k 1 (nI i) 0 y) Q := by
    intro d
    induction d with
    | zero =>
      intro i hi hn
      refine u_X11_freeBraid_1 ?_; unfold cm_X11_freeBraid_1
      exact w_leT (a := 20) (by omega) (by omega) (w_some ⟨Or.inr ⟨rfl, fun e he => hn e (by omega)⟩, rfl⟩)
    | succ d ih =>
      intro i hi hn
      refine u_X11_freeBraid_1 ?_; unfold cm_X11_freeBraid_1
      rw [nI_1]
      refine w_leF (a := 20) (by omega) (by omega) (w_crI (x := y.2.1 15 i) ch_15 rfl (by omega) rfl (w_if (fun e => w_some ⟨Or.inl ⟨i, by omega, rfl, rfl, e, hn⟩, rfl⟩) (fun e => ih (i + 1) (by omega) (fun j hj => ?_))))
      by_cases ej : j = i
      · rw [ej]
        exact e
      · exact hn j (by omega)
  refine e_X11_freeBraid ?_
  refine u_X11_freeBraid_0 ?_; unfold cm_X11_freeBraid_0
  exact c1 20 0 (by omega) (fun e he => by omega)
end CH2
