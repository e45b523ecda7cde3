/-! the class: Summit.find; summit, conjugate have an answer -/
section CFI
variable {vl : Nat → Nat} {y : ow_MS} {h g n l m : Nat}
/-- what find gives: a set of size m, or too many -/
def suF (y : ow_MS) (h n : Nat) (v : Int32) : Prop := ∃ l m, suS y h n l m ∧ (v = -2 ∨ v = nI m)
theorem e_X10_begin {vl : Nat → Nat} {r0 : Nat} {z : ow_MS} {Q : ow_MS → Prop} (H : Tt (fun K _ => cm_X10_begin_0 vl K r0 z) Q) : Te (fun K => ce_X10_begin vl K r0 z) Q := w_te0 H
theorem tc_beginS (hh : sO h) (h0 : foW y (h + 1000) n) (hc : ∃ c, c ≤ 24 ∧ y.1 (h + 11) = nI c) : Te (fun K => ce_X10_begin vl K h y) (fun y1 => (∃ l m, suS y1 h n l m) ∧ fr (suP h) y y1) := by
  obtain ⟨f1, l, l24, f3⟩ := h0
  obtain ⟨c, c24, hc⟩ := hc
  refine e_X10_begin ?_; unfold cm_X10_begin_0
  refine w_rdF rfl (w_wrF (w_rdF (x := nI l) (rf_ot (by omega) f3) (w_wrF (w_wrF ?_))))
  have s0 : suS (usF (usF (usF y (h + 2) (y.1 (h + 1000 + 2))) (h + 3) (nI l)) (h + 4) 0) h n l 0 := ⟨rf_ot (by omega) po_usF_at, po_usF_at, l24, by omega, fun h9 => absurd h9 (by omega), fun k hk => absurd hk (by omega), ⟨c, c24, rf_ot (by omega) (rf_ot (by omega) (rf_ot (by omega) hc))⟩, rf_ot (by omega) (rf_ot (by omega) (rf_ot (by omega) f1)), l, l24, rf_ot (by omega) (rf_ot (by omega) (rf_ot (by omega) f3))⟩
  refine w_cs0 (tc_addS hh s0) ?_
  rintro y1 ⟨⟨m', -, q⟩, hf⟩
  exact w_some ⟨⟨l, m', q⟩, fr_tr (fr_F2 (fr_F2 (fr_F (by unfold suP; omega)) (by unfold suP; omega)) (by unfold suP; omega)) (fr_mono (fun g hg => by unfold suP; omega) hf)⟩
theorem u_X10_find_1 {vl : Nat → Nat} {x2 : Int32} {r0 : Nat} {r1 : Nat} {z : ow_MS} {Q : (Int32 × ow_MS) → Prop} (H : Tt (fun K k => cm_X10_find_1 vl K (c_X10_find vl K k) x2 r0 r1 z) Q) : Tt (fun K k => c_X10_find vl K k 1 x2 r0 r1 z) Q := w_un (fun _ _ => rfl) H
theorem e_X10_find {vl : Nat → Nat} {r0 : Nat} {r1 : Nat} {z : ow_MS} {Q : (Int32 × ow_MS) → Prop} (H : Tt (fun K k => c_X10_find vl K k 0 0 r0 r1 z) Q) : Te (fun K => ce_X10_find vl K r0 r1 z) Q := w_te H
theorem u_X10_find_0 {vl : Nat → Nat} {x2 : Int32} {r0 : Nat} {r1 : Nat} {z : ow_MS} {Q : (Int32 × ow_MS) → Prop} (H : Tt (fun K k => cm_X10_find_0 vl K (c_X10_find vl K k) x2 r0 r1 z) Q) : Tt (fun K k => c_X10_find vl K k 0 x2 r0 r1 z) Q := w_un (fun _ _ => rfl) H
theorem tc_findS (hh : sO h) (hg : fO g) (hd : g + 7 ≤ h) (hn1 : 2 ≤ n) (hn : n ≤ 4) (h0 : foW y g n) : Te (fun K => ce_X10_find vl K h g y) (fun r => suF r.2 h n r.1 ∧ fr (suP h) y r.2) := by
  let Q : Int32 × ow_MS → Prop := fun r => suF r.2 h n r.1 ∧ fr (suP h) y r.2
  have c1 : ∀ (d i : Nat) (z : ow_MS), i + d = 100 → (foW z (h + 1000) n ∧ (∃ c, c ≤ 24 ∧ z.1 (h + 11) = nI c) ∧ fr (suP h) y z ∧ (0 < i → ∃ l m, suS z h n l m)) → Tt (fun K t => c_X10_find vl K t 1 (nI i) h g z) Q := by
    intro d
    induction d with
    | zero =>
      rintro i z hi ⟨q2, q3, q4, q5⟩
      obtain ⟨l, m, q6⟩ := q5 (by omega)
      refine u_X10_find_1 ?_; unfold cm_X10_find_1
      exact w_leT (a := 100) (by omega) (by omega) (w_some ⟨⟨l, m, q6, Or.inl rfl⟩, q4⟩)
    | succ d ih =>
      rintro i z hi ⟨q2, q3, q4, -⟩
      refine u_X10_find_1 ?_; unfold cm_X10_find_1
      refine w_leF (a := 100) (by omega) (by omega) (w_cs0 (tc_climb hh hn1 (by omega) q2) ?_)
      rintro z1 ⟨g1, g2⟩
      have c3 : ∃ c, c ≤ 24 ∧ z1.1 (h + 11) = nI c := by
        obtain ⟨c, a1, a2⟩ := q3
        exact ⟨c, a1, (g2 (h + 11) (by unfold foP; omega)).1.trans a2⟩
      refine w_cs0 (tc_beginS hh g1 c3) ?_
      rintro z2 ⟨⟨l, m, s2⟩, f2⟩
      refine w_cs1 (tc_gather hh hn1 (by omega) s2) ?_
      rintro v z3 ⟨ev, ⟨m', s3⟩, f3⟩
      dsimp only at s3 f3
      have f4 : fr (suP h) y z3 := fr_tr (fr_tr (fr_tr q4 (fr_mono (fun g hg => by unfold foP at hg; unfold suP; omega) g2)) f2) f3
      rw [nI_1]
      refine w_if (fun _ => ih (i + 1) z3 (by omega) ⟨s3.2.2.2.2.2.2.2, s3.2.2.2.2.2.2.1, f4, fun _ => ⟨l, m', s3⟩⟩) (fun _ => w_rdF s3.2.1 (w_if (fun _ => w_rdF s3.2.1 (w_some ⟨⟨l, m', s3, Or.inr rfl⟩, f4⟩)) (fun _ => w_some ⟨⟨l, m', s3, Or.inl rfl⟩, f4⟩)))
  refine e_X10_find ?_
  refine u_X10_find_0 ?_; unfold cm_X10_find_0
  have hd2 : h + 1000 + 7 ≤ g ∨ g + 7 ≤ h + 1000 := Or.inr (by omega)
  refine w_rdF h0.1 (w_wrF (w_cs0 (tc_copyF (n := n) (sO_f hh) hg hd2 (by omega) ?_) ?_))
  · obtain ⟨f1, l, l1, f3⟩ := h0
    exact ⟨rf_ot (by omega) f1, l, l1, rf_ot (by omega) f3⟩
  · rintro z1 ⟨g1, g2⟩
    have e1 : z1.1 (h + 1) = nI n := (g2 (h + 1) (by unfold foP; omega)).1.trans po_usF_at
    refine w_cs0 (tc_listSimples hh e1 hn) ?_
    rintro z2 ⟨k1, k2⟩
    refine c1 100 0 z2 (by omega) ⟨?_, k1, ?_, fun h9 => absurd h9 (by omega)⟩
    · obtain ⟨f1, l, l1, f3⟩ := g1
      exact ⟨(k2 (h + 1000 + 1) (by unfold lsP; omega)).1.trans f1, l, l1, (k2 (h + 1000 + 3) (by unfold lsP; omega)).1.trans f3⟩
    · exact fr_tr (fr_tr (fr_F (by unfold suP; omega)) (fr_mono (fun g hg => by unfold foP at hg; unfold suP; omega) g2)) (fr_mono (fun g hg => by unfold lsP at hg; unfold suP; omega) k2)
theorem u_X10_sameAs_1 {vl : Nat → Nat} {x2 : Int32} {r0 : Nat} {r1 : Nat} {z : ow_MS} {Q : (Int32 × ow_MS) → Prop} (H : Tt (fun K k => cm_X10_sameAs_1 vl K (c_X10_sameAs vl K k) x2 r0 r1 z) Q) : Tt (fun K k => c_X10_sameAs vl K k 1 x2 r0 r1 z) Q := w_un (fun _ _ => rfl) H
theorem e_X10_sameAs {vl : Nat → Nat} {r0 : Nat} {r1 : Nat} {z : ow_MS} {Q : (Int32 × ow_MS) → Prop} (H : Tt (fun K k => c_X10_sameAs vl K k 0 0 r0 r1 z) Q) : Te (fun K => ce_X10_sameAs vl K r0 r1 z) Q := w_te H
theorem u_X10_sameAs_0 {vl : Nat → Nat} {x2 : Int32} {r0 : Nat} {r1 : Nat} {z : ow_MS} {Q : (Int32 × ow_MS) → Prop} (H : Tt (fun K k => cm_X10_sameAs_0 vl K (c_X10_sameAs vl K k) x2 r0 r1 z) Q) : Tt (fun K k => c_X10_sameAs vl K k 0 x2 r0 r1 z) Q := w_un (fun _ _ => rfl) H
theorem tc_sameAsS {n' l' m' : Nat} (hh : sO h) (hg : sO g) (h0 : suS y h n l m) (g0 : suS y g n' l' m') : Te (fun K => ce_X10_sameAs vl K h g y) (fun r => (r.1 = 0 ∨ r.1 = 1) ∧ r.2 = y) := by
  obtain ⟨h3, h4, l24, m201, hlm, hor, -, -⟩ := h0
  obtain ⟨k3, k4, l24', m201', hlm', hor', -, -⟩ := g0
  let Q : Int32 × ow_MS → Prop := fun r => (r.1 = 0 ∨ r.1 = 1) ∧ r.2 = y
  have no : Tt (fun _ _ => okZ 0 (some ((0 : Int32), y))) Q := w_okZ (Or.inl rfl) (w_some ⟨Or.inl rfl, rfl⟩)
  have c1 : m = m' → l = l' → ∀ (d i : Nat), i + d = m → Tt (fun K t => c_X10_sameAs vl K t 1 (nI i) h g y) Q := by
    rintro em el d
    induction d with
    | zero =>
      intro i hi
      refine u_X10_sameAs_1 ?_; unfold cm_X10_sameAs_1
      exact w_rdF h4 (w_leT (by omega) (by omega) (w_okZ (Or.inr rfl) (w_some ⟨Or.inr rfl, rfl⟩)))
    | succ d ih =>
      intro i hi
      obtain ⟨j, j1, j2⟩ := hor i (by omega)
      obtain ⟨j', j1', j2'⟩ := hor' i (by omega)
      have := hlm (by omega)
      refine u_X10_sameAs_1 ?_; unfold cm_X10_sameAs_1
      refine w_rdF h4 (w_leF (by omega) (by omega) (w_crI (sO_6 hh) rfl (show i < 201 by omega) j2 (w_crI (sO_6 hg) rfl (show i < 201 by omega) j2' ?_)))
      rw [m20, m20, nI_1]
      refine w_cs1 (tc_compareS (a := 20 * j) (b := 20 * j') h3 l24 (sO_5 hh) (sO_5 hg) (by omega) (by omega) (by omega) (by omega)) ?_
      rintro v z ⟨-, e2⟩
      dsimp only at e2
      rw [e2]
      exact w_if (fun _ => ih (i + 1) (by omega)) (fun _ => no)
  refine e_X10_sameAs ?_
  refine u_X10_sameAs_0 ?_; unfold cm_X10_sameAs_0
  refine w_rdF rfl (w_rdF rfl (w_if (fun _ => w_rdF rfl (w_rdF rfl (w_if (fun _ => w_rdF h3 (w_rdF k3 (w_if (fun el => w_rdF h4 (w_rdF k4 (w_if (fun em => ?_) (fun _ => no)))) (fun _ => no)))) (fun _ => no)))) (fun _ => no)))
  exact c1 (nI_inj9 (by omega) (by omega) em) (nI_inj9 (by omega) (by omega) el) m 0 (by omega)
end CFI
def smP (g : Nat) : Prop := 46001 ≤ g ∧ g ≤ 51006
section CSM
variable {vl : Nat → Nat} {y : ow_MS} {x x' : Int32}
theorem e_X11_needFewStrands {vl : Nat → Nat} {r0 : Nat} {x1 : Int32} {z : ow_MS} {Q : (Nat × ow_MS) → Prop} (H : Tt (fun K _ => cm_X11_needFewStrands_0 vl K x1 r0 z) Q) : Te (fun K => ce_X11_needFewStrands vl K r0 x1 z) Q := w_te0 H
theorem tc_needFew {b n : Nat} (hb : b < 20) (hn : n ≤ 5) (e15 : y.2.1 15 b = nI n) : Te (fun K => ce_X11_needFewStrands vl K 0 (nI b) y) (fun r => r.2 = y ∧ (r.1 = 0 ∧ n ≤ 4 ∨ r.1 = 4)) := by
  refine e_X11_needFewStrands ?_; unfold cm_X11_needFewStrands_0
  exact w_crI ch_15 rfl hb e15 (w_lt (b := 5) (by omega) (by omega) (fun _ => w_some ⟨rfl, Or.inl ⟨rfl, by omega⟩⟩) (fun _ => w_some ⟨rfl, Or.inr rfl⟩))
theorem br_s {y1 : ow_MS} (hf : fr smP y y1) (h : brC y) : brC y1 := brC_fr hf (by unfold smP; omega) h
theorem so48 : sO 48000 := Or.inl rfl
theorem so50 : sO 50000 := Or.inr rfl
theorem e_X11_summit {vl : Nat → Nat} {r0 : Nat} {x1 : Int32} {z : ow_MS} {Q : (Nat × Int32 × ow_MS) → Prop} (H : Tt (fun K _ => cm_X11_summit_0 vl K x1 r0 z) Q) : Te (fun K => ce_X11_summit vl K r0 x1 z) Q := w_te0 H
theorem tc_summit (hB : brC y) : Te (fun K => ce_X11_summit vl K 0 x y) (fun r => brC r.2.2 ∧ fr smP y r.2.2) := by
  refine e_X11_summit ?_; unfold cm_X11_summit_0
  refine w_tc0 (tc_needBraid (brC_E hB)) ?_ ?_
  · rintro y1 ⟨h1, rfl⟩
    rcases h1 with ⟨-, hb⟩ | h1
    · obtain ⟨b, n, l, hb20, rfl, hn2, hn5, e15, l16, e14, hw⟩ := isB_w hB hb
      refine w_tc0 (tc_needFew hb20 hn5 e15) ?_ ?_
      · rintro y2 ⟨e2, h2⟩
        dsimp only at e2 h2
        rw [e2]
        rcases h2 with ⟨-, n4⟩ | h2
        · refine w_cs0 (tc_writeF fo46 hn2 hn5 hb20 e15 l16 e14) ?_
          rintro y3 ⟨g1, g2⟩
          refine w_cs1 (tc_findS so48 fo46 (by omega) hn2 n4 g1) ?_
          rintro v y4 ⟨-, g4⟩
          have f4 : fr smP y1 y4 := fr_tr (fr_mono (fun g hg => by unfold foP at hg; unfold smP; omega) g2) (fr_mono (fun g hg => by unfold suP at hg; unfold smP; omega) g4)
          exact w_some ⟨br_s f4 hB, f4⟩
        · exact absurd h2 (by decide)
      · rintro a y2 ha ⟨e2, h2⟩
        dsimp only at e2
        rw [e2]
        exact w_some ⟨hB, fr_rf⟩
    · exact absurd (show (0 : Nat) = 1 from h1.1) (by decide)
  · rintro a y1 ha ⟨h1, rfl⟩
    exact w_some ⟨hB, fr_rf⟩
theorem e_X11_conjugate {vl : Nat → Nat} {r0 : Nat} {x1 : Int32} {x2 : Int32} {z : ow_MS} {Q : (Nat × Int32 × ow_MS) → Prop} (H : Tt (fun K _ => cm_X11_conjugate_0 vl K x1 x2 r0 z) Q) : Te (fun K => ce_X11_conjugate vl K r0 x1 x2 z) Q := w_te0 H
theorem tc_conjugate (hB : brC y) : Te (fun K => ce_X11_conjugate vl K 0 x x' y) (fun r => brC r.2.2 ∧ fr smP y r.2.2) := by
  refine e_X11_conjugate ?_; unfold cm_X11_conjugate_0
  refine w_tc0 (tc_needBraid (brC_E hB)) ?_ ?_
  · rintro y1 ⟨h1, rfl⟩
    rcases h1 with ⟨-, hb⟩ | h1
    · obtain ⟨b, n, l, hb20, rfl, hn2, hn5, e15, l16, e14, hw⟩ := isB_w hB hb
      refine w_tc0 (tc_needBraid (brC_E hB)) ?_ ?_
      · rintro y2 ⟨h2, e2⟩
        dsimp only at e2
        rw [e2]
        rcases h2 with ⟨-, hb'⟩ | h2
        · obtain ⟨b', n', l', hb20', rfl, hn2', hn5', e15', l16', e14', hw'⟩ := isB_w hB hb'
          refine w_crI ch_15 rfl hb20 e15 (w_crI ch_15 rfl hb20' e15' (w_if (fun en => ?_) (fun _ => w_some ⟨hB, fr_rf⟩)))
          have en' : n = n' := nI_inj9 (by omega) (by omega) en
          refine w_tc0 (tc_needFew hb20 hn5 e15) ?_ ?_
          · rintro y3 ⟨e3, h3⟩
            dsimp only at e3 h3
            rw [e3]
            rcases h3 with ⟨-, n4⟩ | h3
            · refine w_cs0 (tc_writeF fo46 hn2 hn5 hb20 e15 l16 e14) ?_
              rintro y4 ⟨g1, g2⟩
              refine w_cs1 (tc_findS so48 fo46 (by omega) hn2 n4 g1) ?_
              rintro v y5 ⟨⟨sl, sm, k1, -⟩, k2⟩
              dsimp only at k1 k2
              have f5 : fr smP y1 y5 := fr_tr (fr_mono (fun g hg => by unfold foP at hg; unfold smP; omega) g2) (fr_mono (fun g hg => by unfold suP at hg; unfold smP; omega) k2)
              refine w_cs0 (tc_writeF (n := n') (l := l') fo46 hn2' hn5' hb20' ((congrFun (f5 15 (by unfold smP; omega)).2.1 b').trans e15') l16' ((congrFun (f5 14 (by unfold smP; omega)).2.1 b').trans e14')) ?_
              rintro y6 ⟨g6, g7⟩
              refine w_cs1 (tc_findS so50 fo46 (by omega) hn2' (by omega) g6) ?_
              rintro v2 y7 ⟨⟨sl2, sm2, k3, -⟩, k4⟩
              dsimp only at k3 k4
              have f7 : fr (fun g => foP 46000 g ∨ suP 50000 g) y5 y7 := fr_tr (fr_mono (fun g hg => Or.inl hg) g7) (fr_mono (fun g hg => Or.inr hg) k4)
              have f8 : fr smP y1 y7 := fr_tr f5 (fr_mono (fun g hg => by rcases hg with hg | hg; (· unfold foP at hg; unfold smP; omega); (· unfold suP at hg; unfold smP; omega)) f7)
              have k5 : suS y7 48000 n sl sm := by
                have np : ∀ g, 48000 ≤ g → g < 50000 → ¬ (foP 46000 g ∨ suP 50000 g) := fun g a1 a2 h9 => by
                  rcases h9 with h9 | h9
                  · unfold foP at h9
                    omega
                  · unfold suP at h9
                    omega
                obtain ⟨r1, r2, r3, r4, r5, r6, ⟨c, c1, c2⟩, r8, q, r9, r10⟩ := k1
                refine ⟨(f7 _ (np _ (by omega) (by omega))).1.trans r1, (f7 _ (np _ (by omega) (by omega))).1.trans r2, r3, r4, r5, fun k hk => ?_, ⟨c, c1, (f7 _ (np _ (by omega) (by omega))).1.trans c2⟩, (f7 _ (np _ (by omega) (by omega))).1.trans r8, q, r9, (f7 _ (np _ (by omega) (by omega))).1.trans r10⟩
                obtain ⟨j, j1, j2⟩ := r6 k hk
                exact ⟨j, j1, (congrFun (f7 _ (np _ (by omega) (by omega))).2.1 k).trans j2⟩
              have hB7 := br_s f8 hB
              have fin : ∀ v : Int32, Tt (fun _ _ => some ((0 : Nat), v, y7)) (fun r => brC r.2.2 ∧ fr smP y1 r.2.2) := fun v => w_some ⟨hB7, f8⟩
              refine w_if (fun _ => fin _) (fun _ => w_if (fun _ => fin _) (fun _ => w_cs1 (tc_sameAsS so48 so50 k5 k3) ?_))
              rintro v8 y8 ⟨-, e8⟩
              dsimp only at e8
              rw [e8]
              exact w_if (fun _ => fin _) (fun _ => fin _)
            · exact absurd h3 (by decide)
          · rintro a y3 ha ⟨e3, h3⟩
            dsimp only at e3
            rw [e3]
            exact w_some ⟨hB, fr_rf⟩
        · exact absurd (show (0 : Nat) = 1 from h2.1) (by decide)
      · rintro a y2 ha ⟨h2, e2⟩
        dsimp only at e2
        rw [e2]
        exact w_some ⟨hB, fr_rf⟩
    · exact absurd (show (0 : Nat) = 1 from h1.1) (by decide)
  · rintro a y1 ha ⟨h1, rfl⟩
    exact w_some ⟨hB, fr_rf⟩
end CSM
