/-! the class: Summit.find; summit has an answer -/
section CS2
variable {vl : Nat → Nat} {y : ow_MS} {h n l m : Nat}
theorem foW_R {g : Nat} {f : Nat → Int32} (h0 : foW y h n) : foW (usR y g f) h n := h0
theorem foW_2 {w : Int32} (f1 : y.1 (h + 1) = nI n) (hl : l ≤ 24) : foW (usF (usF y (h + 2) w) (h + 3) (nI l)) h n := ⟨rf_ot (by omega) (rf_ot (by omega) f1), l, hl, po_usF_at⟩
theorem suS_w {z : ow_MS} (h0 : suS y h n l m) (hf : fr (foP (h + 1000)) y z) (hw : foW z (h + 1000) n) : suS z h n l m := by
  obtain ⟨h3, h4, l24, m201, hlm, hor, ⟨c, c1, c2⟩, -⟩ := h0
  have np : ∀ g, g ≤ h + 1000 → ¬ foP (h + 1000) g := fun g hg h9 => by unfold foP at h9; omega
  refine ⟨(hf (h + 3) (np _ (by omega))).1.trans h3, (hf (h + 4) (np _ (by omega))).1.trans h4, l24, m201, hlm, fun k hk => ?_, ⟨c, c1, (hf (h + 11) (np _ (by omega))).1.trans c2⟩, hw⟩
  rw [(hf (h + 6) (np _ (by omega))).2.1]
  exact hor k hk
theorem u_X10_gather_1 {vl : Nat → Nat} {x1 : Int32} {x2 : Int32} {x3 : Int32} {r0 : Nat} {z : ow_MS} {Q : (Int32 × ow_MS) → Prop} (H : Tt (fun K k => cm_X10_gather_1 vl K (c_X10_gather vl K k) x1 x2 x3 r0 z) Q) : Tt (fun K k => c_X10_gather vl K k 1 x1 x2 x3 r0 z) Q := w_un (fun _ _ => rfl) H
theorem u_X10_gather_2 {vl : Nat → Nat} {x1 : Int32} {x2 : Int32} {x3 : Int32} {r0 : Nat} {z : ow_MS} {Q : (Int32 × ow_MS) → Prop} (H : Tt (fun K k => cm_X10_gather_2 vl K (c_X10_gather vl K k) x1 x2 x3 r0 z) Q) : Tt (fun K k => c_X10_gather vl K k 2 x1 x2 x3 r0 z) Q := w_un (fun _ _ => rfl) H
theorem u_X10_gather_5 {vl : Nat → Nat} {x1 : Int32} {x2 : Int32} {x3 : Int32} {r0 : Nat} {z : ow_MS} {Q : (Int32 × ow_MS) → Prop} (H : Tt (fun K k => cm_X10_gather_5 vl K (c_X10_gather vl K k) x1 x2 x3 r0 z) Q) : Tt (fun K k => c_X10_gather vl K k 5 x1 x2 x3 r0 z) Q := w_un (fun _ _ => rfl) H
theorem u_X10_gather_4 {vl : Nat → Nat} {x1 : Int32} {x2 : Int32} {x3 : Int32} {r0 : Nat} {z : ow_MS} {Q : (Int32 × ow_MS) → Prop} (H : Tt (fun K k => cm_X10_gather_4 vl K (c_X10_gather vl K k) x1 x2 x3 r0 z) Q) : Tt (fun K k => c_X10_gather vl K k 4 x1 x2 x3 r0 z) Q := w_un (fun _ _ => rfl) H
theorem u_X10_gather_3 {vl : Nat → Nat} {x1 : Int32} {x2 : Int32} {x3 : Int32} {r0 : Nat} {z : ow_MS} {Q : (Int32 × ow_MS) → Prop} (H : Tt (fun K k => cm_X10_gather_3 vl K (c_X10_gather vl K k) x1 x2 x3 r0 z) Q) : Tt (fun K k => c_X10_gather vl K k 3 x1 x2 x3 r0 z) Q := w_un (fun _ _ => rfl) H
theorem e_X10_gather {vl : Nat → Nat} {r0 : Nat} {z : ow_MS} {Q : (Int32 × ow_MS) → Prop} (H : Tt (fun K k => c_X10_gather vl K k 0 0 0 0 r0 z) Q) : Te (fun K => ce_X10_gather vl K r0 z) Q := w_te H
theorem u_X10_gather_0 {vl : Nat → Nat} {x1 : Int32} {x2 : Int32} {x3 : Int32} {r0 : Nat} {z : ow_MS} {Q : (Int32 × ow_MS) → Prop} (H : Tt (fun K k => cm_X10_gather_0 vl K (c_X10_gather vl K k) x1 x2 x3 r0 z) Q) : Tt (fun K k => c_X10_gather vl K k 0 x1 x2 x3 r0 z) Q := w_un (fun _ _ => rfl) H
theorem tc_gather (hh : sO h) (hn1 : 2 ≤ n) (hn : n ≤ 5) (h0 : suS y h n l m) : Te (fun K => ce_X10_gather vl K h y) (fun r => (r.1 = 0 ∨ r.1 = 1) ∧ (∃ m', suS r.2 h n l m') ∧ fr (suP h) y r.2) := by
  let Q : Int32 × ow_MS → Prop := fun r => (r.1 = 0 ∨ r.1 = 1) ∧ (∃ m', suS r.2 h n l m') ∧ fr (suP h) y r.2
  have c1 : ∀ (d i : Nat) (z : ow_MS) (m : Nat), i + d = 202 → suS z h n l m → fr (suP h) y z → Tt (fun K t => c_X10_gather vl K t 1 (nI i) 0 0 h z) Q := by
    intro d
    induction d with
    | zero =>
      intro i z m hi q1 q2
      have := q1.2.2.2.1
      refine u_X10_gather_1 ?_; unfold cm_X10_gather_1
      exact w_rdF q1.2.1 (w_leT (by omega) (by omega) (w_okZ (Or.inr rfl) (w_some ⟨Or.inr rfl, ⟨m, q1⟩, q2⟩)))
    | succ d ih =>
      intro i z m hi q1 q2
      have hm := q1.2.2.2.1
      -- the simples
      have c2 : ∀ (e s t : Nat) (z : ow_MS) (m c : Nat), s + e = 25 → t ≤ s → c ≤ 24 → z.1 (h + 11) = nI c → i < m → suS z h n l m → fr (suP h) y z → Tt (fun K k => c_X10_gather vl K k 2 (nI i) (nI t) (nI s) h z) Q := by
        intro e
        induction e with
        | zero =>
          intro s t z m c hs ht hc ec him q1 q2
          refine u_X10_gather_2 ?_; unfold cm_X10_gather_2
          refine w_rdF ec (w_leT (by omega) (by omega) ?_)
          refine u_X10_gather_5 ?_; unfold cm_X10_gather_5
          rw [nI_1]
          exact ih (i + 1) z m (by omega) q1 q2
        | succ e ihe =>
          intro s t z m c hs ht hc ec him q1 q2
          have hm := q1.2.2.2.1
          have l24 := q1.2.2.1
          have c5 : Tt (fun K k => c_X10_gather vl K k 5 (nI i) (nI t) (nI s) h z) Q := by
            refine u_X10_gather_5 ?_; unfold cm_X10_gather_5
            rw [nI_1]
            exact ih (i + 1) z m (by omega) q1 q2
          have c4 : ∀ (t' m' : Nat) (z' : ow_MS), t' ≤ s + 1 → i < m' → z'.1 (h + 11) = nI c → suS z' h n l m' → fr (suP h) y z' → Tt (fun K k => c_X10_gather vl K k 4 (nI i) (nI t') (nI s) h z') Q := by
            intro t' m' z' a1 a2 a3 a4 a5
            refine u_X10_gather_4 ?_; unfold cm_X10_gather_4
            rw [nI_1]
            exact ihe (s + 1) t' z' m' c (by omega) a1 hc a3 a2 a4 a5
          refine u_X10_gather_2 ?_; unfold cm_X10_gather_2
          refine w_rdF ec (w_le (by omega) (by omega) (fun _ => c5) (fun hsc => w_rdF q1.2.1 (w_lt (a := 200) (by omega) (by omega) (fun _ => c5) (fun h200 => w_cs1 (tc_goesOn hh (show s < 24 by omega) (show t ≤ 24 by omega)) ?_))))
          rintro v z1 ⟨ev, e2⟩
          dsimp only at e2
          rw [e2]
          refine w_if (fun _ => w_rdF rfl (w_wrF ?_)) (fun _ => c4 t m z (by omega) him ec q1 q2)
          have e3 : ∀ w : Int32, (usF z (h + 1000 + 2) w).1 (h + 3) = nI l := fun w => rf_ot (by omega) q1.1
          refine w_rdF (e3 _) (w_wrF (w_rdF (rf_ot (by omega) (e3 _)) ?_))
          have hl20 := q1.2.2.2.2.1 (by omega)
          obtain ⟨f1, q, f2, f3⟩ := id q1.2.2.2.2.2.2.2
          rw [m20]
          refine w_cpI (a := 20 * i) (b := 0) (n := l) (sO_5 hh) (fO_4 (sO_f hh)) rfl rfl rfl (by omega) (by omega) (w_crI (sO_8 hh) rfl (show s < 24 by omega) rfl (w_cs0 (tc_conjugateBy (sO_f hh) hn1 hn (foW_R (foW_2 f1 l24))) ?_))
          rintro z2 ⟨g1, g2⟩
          have hf2 : fr (foP (h + 1000)) z z2 := fr_tr (fr_R2 (fr_F2 (fr_F (by unfold foP; omega)) (by unfold foP; omega)) (by unfold foP; omega)) g2
          have q12 : suS z2 h n l m := suS_w q1 hf2 g1
          have q22 : fr (suP h) y z2 := fr_tr q2 (fr_mono (fun g hg => by unfold foP at hg; unfold suP; omega) hf2)
          have ec2 : z2.1 (h + 11) = nI c := (hf2 (h + 11) (by unfold foP; omega)).1.trans ec
          have stop : Tt (fun _ _ => okZ 0 (some ((0 : Int32), z2))) Q := w_okZ (Or.inl rfl) (w_some ⟨Or.inl rfl, ⟨m, q12⟩, q22⟩)
          have c3 : Tt (fun K k => c_X10_gather vl K k 3 (nI i) (nI t) (nI s) h z2) Q := by
            have go4 := c4 t m z2 (by omega) him ec2 q12 q22
            refine u_X10_gather_3 ?_; unfold cm_X10_gather_3
            refine w_rdF rfl (w_rdF rfl (w_if (fun _ => w_rdF rfl (w_rdF rfl (w_if (fun _ => w_cs0 (tc_addS hh q12) ?_) (fun _ => go4)))) (fun _ => go4)))
            rintro z3 ⟨⟨m', m1, m2⟩, f3⟩
            have ec3 : z3.1 (h + 11) = nI c := (f3 (h + 11) (by omega)).1.trans ec2
            refine w_crI (sO_9 hh) rfl (show s < 24 by omega) rfl (w_ctI (sO_10 hh) rfl (show t < 24 by omega) ?_)
            rw [nI_1]
            refine c4 (t + 1) m' _ (by omega) (by omega) ec3 ?_ (fr_I2 (fr_tr q22 (fr_mono (fun g hg => by unfold suP; omega) f3)) (by unfold suP; omega))
            obtain ⟨r1, r2, r3, r4, r5, r6, r7, r8⟩ := m2
            exact ⟨r1, r2, r3, r4, r5, fun k hk => by
              obtain ⟨j, j1, j2⟩ := r6 k hk
              exact ⟨j, j1, rd_ot (by omega) j2⟩, r7, r8⟩
          exact w_rdF rfl (w_rdF rfl (w_if (fun _ => stop) (fun _ => w_rdF rfl (w_rdF rfl (w_if (fun _ => w_rdF rfl (w_rdF rfl (w_if (fun _ => c3) (fun _ => stop)))) (fun _ => c3))))))
      obtain ⟨c, hc1, hc2⟩ := id q1.2.2.2.2.2.2.1
      have fin : Tt (fun _ _ => okZ 1 (some ((1 : Int32), z))) Q := w_okZ (Or.inr rfl) (w_some ⟨Or.inr rfl, ⟨m, q1⟩, q2⟩)
      refine u_X10_gather_1 ?_; unfold cm_X10_gather_1
      exact w_rdF q1.2.1 (w_le (by omega) (by omega) (fun _ => fin) (fun him => w_rdF q1.2.1 (w_lt (a := 200) (by omega) (by omega) (fun _ => fin) (fun _ => c2 25 0 0 z m c (by omega) (by omega) hc1 hc2 him q1 q2))))
  refine e_X10_gather ?_
  refine u_X10_gather_0 ?_; unfold cm_X10_gather_0
  exact c1 202 0 y m (by omega) h0 fr_rf
theorem u_X10_climb_4 {vl : Nat → Nat} {x1 : Int32} {x2 : Int32} {x3 : Int32} {r0 : Nat} {t0 : Int32} {z : ow_MS} {Q : ow_MS → Prop} (H : Tt (fun K k => cm_X10_climb_4 vl K (c_X10_climb vl K k) x1 x2 x3 r0 t0 z) Q) : Tt (fun K k => c_X10_climb vl K k 4 x1 x2 x3 r0 t0 z) Q := w_un (fun _ _ => rfl) H
theorem u_X10_climb_5 {vl : Nat → Nat} {x1 : Int32} {x2 : Int32} {x3 : Int32} {r0 : Nat} {t0 : Int32} {z : ow_MS} {Q : ow_MS → Prop} (H : Tt (fun K k => cm_X10_climb_5 vl K (c_X10_climb vl K k) x1 x2 x3 r0 t0 z) Q) : Tt (fun K k => c_X10_climb vl K k 5 x1 x2 x3 r0 t0 z) Q := w_un (fun _ _ => rfl) H
theorem u_X10_climb_3 {vl : Nat → Nat} {x1 : Int32} {x2 : Int32} {x3 : Int32} {r0 : Nat} {t0 : Int32} {z : ow_MS} {Q : ow_MS → Prop} (H : Tt (fun K k => cm_X10_climb_3 vl K (c_X10_climb vl K k) x1 x2 x3 r0 t0 z) Q) : Tt (fun K k => c_X10_climb vl K k 3 x1 x2 x3 r0 t0 z) Q := w_un (fun _ _ => rfl) H
theorem u_X10_climb_1 {vl : Nat → Nat} {x1 : Int32} {x2 : Int32} {x3 : Int32} {r0 : Nat} {t0 : Int32} {z : ow_MS} {Q : ow_MS → Prop} (H : Tt (fun K k => cm_X10_climb_1 vl K (c_X10_climb vl K k) x1 x2 x3 r0 t0 z) Q) : Tt (fun K k => c_X10_climb vl K k 1 x1 x2 x3 r0 t0 z) Q := w_un (fun _ _ => rfl) H
theorem u_X10_climb_2 {vl : Nat → Nat} {x1 : Int32} {x2 : Int32} {x3 : Int32} {r0 : Nat} {t0 : Int32} {z : ow_MS} {Q : ow_MS → Prop} (H : Tt (fun K k => cm_X10_climb_2 vl K (c_X10_climb vl K k) x1 x2 x3 r0 t0 z) Q) : Tt (fun K k => c_X10_climb vl K k 2 x1 x2 x3 r0 t0 z) Q := w_un (fun _ _ => rfl) H
theorem e_X10_climb {vl : Nat → Nat} {r0 : Nat} {z : ow_MS} {Q : ow_MS → Prop} (H : Tt (fun K k => c_X10_climb vl K k 0 0 0 0 r0 0 z) Q) : Te (fun K => ce_X10_climb vl K r0 z) Q := w_te H
theorem u_X10_climb_0 {vl : Nat → Nat} {x1 : Int32} {x2 : Int32} {x3 : Int32} {r0 : Nat} {t0 : Int32} {z : ow_MS} {Q : ow_MS → Prop} (H : Tt (fun K k => cm_X10_climb_0 vl K (c_X10_climb vl K k) x1 x2 x3 r0 t0 z) Q) : Tt (fun K k => c_X10_climb vl K k 0 x1 x2 x3 r0 t0 z) Q := w_un (fun _ _ => rfl) H
theorem tc_climb (hh : sO h) (hn1 : 2 ≤ n) (hn : n ≤ 5) (h0 : foW y (h + 1000) n) : Te (fun K => ce_X10_climb vl K h y) (fun y1 => foW y1 (h + 1000) n ∧ fr (foP (h + 1000)) y y1) := by
  let Q : ow_MS → Prop := fun y1 => foW y1 (h + 1000) n ∧ fr (foP (h + 1000)) y y1
  have c4 : ∀ (d i : Nat) (z : ow_MS) (x : Int32), i + d = 2000 → foW z (h + 1000) n → fr (foP (h + 1000)) y z → Tt (fun K t => c_X10_climb vl K t 4 x (nI i) 0 h 0 z) Q := by
    intro d
    induction d with
    | zero =>
      intro i z x hi q1 q2
      refine u_X10_climb_4 ?_; unfold cm_X10_climb_4
      exact w_leT (a := 2000) (by omega) (by omega) (w_some ⟨q1, q2⟩)
    | succ d ih =>
      intro i z x hi q1 q2
      refine u_X10_climb_4 ?_; unfold cm_X10_climb_4
      refine w_leF (a := 2000) (by omega) (by omega) (w_if (fun _ => w_some ⟨q1, q2⟩) (fun _ => w_rdF rfl (w_rdF rfl (w_cs0 (tc_decycle (sO_f hh) hn1 hn q1) ?_))))
      rintro z1 ⟨g1, g2⟩
      refine w_rdF rfl (w_rdF rfl (w_if (fun _ => ?_) (fun _ => ?_)))
      · refine u_X10_climb_5 ?_; unfold cm_X10_climb_5
        rw [nI_1]
        exact ih (i + 1) z1 _ (by omega) g1 (fr_tr q2 g2)
      · refine u_X10_climb_5 ?_; unfold cm_X10_climb_5
        rw [nI_1]
        exact ih (i + 1) z1 _ (by omega) g1 (fr_tr q2 g2)
  have c3 : ∀ (z : ow_MS) (x x' : Int32), foW z (h + 1000) n → fr (foP (h + 1000)) y z → Tt (fun K t => c_X10_climb vl K t 3 x x' 0 h 0 z) Q := by
    intro z x x' q1 q2
    refine u_X10_climb_3 ?_; unfold cm_X10_climb_3
    exact c4 2000 0 z 0 (by omega) q1 q2
  have c1 : ∀ (d i : Nat) (z : ow_MS) (x : Int32), i + d = 2000 → foW z (h + 1000) n → fr (foP (h + 1000)) y z → Tt (fun K t => c_X10_climb vl K t 1 x (nI i) 0 h 0 z) Q := by
    intro d
    induction d with
    | zero =>
      intro i z x hi q1 q2
      refine u_X10_climb_1 ?_; unfold cm_X10_climb_1
      exact w_leT (a := 2000) (by omega) (by omega) (c3 z _ _ q1 q2)
    | succ d ih =>
      intro i z x hi q1 q2
      refine u_X10_climb_1 ?_; unfold cm_X10_climb_1
      refine w_leF (a := 2000) (by omega) (by omega) (w_if (fun _ => c3 z _ _ q1 q2) (fun _ => w_rdF rfl (w_cs0 (tc_cycle (sO_f hh) hn1 hn q1) ?_)))
      rintro z1 ⟨g1, g2⟩
      refine w_rdF rfl (w_if (fun _ => ?_) (fun _ => ?_))
      · refine u_X10_climb_2 ?_; unfold cm_X10_climb_2
        rw [nI_1 i]
        exact ih (i + 1) z1 _ (by omega) g1 (fr_tr q2 g2)
      · refine u_X10_climb_2 ?_; unfold cm_X10_climb_2
        rw [nI_1]
        exact ih (i + 1) z1 _ (by omega) g1 (fr_tr q2 g2)
  refine e_X10_climb ?_
  refine u_X10_climb_0 ?_; unfold cm_X10_climb_0
  exact c1 2000 0 y 0 (by omega) h0 fr_rf
end CS2
