/-! exact calls of the class: apart, join's beginning -/
/-- a net that was loaded: what it shows, its signs, plane -/
def ldN (y : ow_MS) (h : Nat) (A : rn_L) (sg : Nat → Bool) (T : ow_NT) : Prop := shA y h A sg T ∧ isoV A sg (fun x => x) T ∧ pm1 T ∧ nt_plane T = true
section XCA
variable {vl : Nat → Nat} {y : ow_MS} {St : plT} {x x' : Int32}
theorem xc_ldh {h d c : Nat} {A : rn_L} {sg : Nat → Bool} (hh : nH h) (hN : gN y) (hd : d < 40) (hs : slC y 1000 d (clC sg A)) (hA : okL A c) (hp : plnA A sg) : Te (fun K => ce_X7_load vl K h 1000 (nI d) y) (fun y1 => gN y1 ∧ fr (cL h) y y1 ∧ ∃ T, ldN y1 h A sg T ∧ T.1 = c) := by
  refine w_monoE (tc_ld3 hh hN hd hs hA) ?_
  rintro y2 ⟨g1, g2, S, G, g3, g4⟩
  have hV : isoV A sg (fun x => x) (c, cirs A, S, G) := isoV_of g4.2.1 g4.2.2.1
  exact ⟨g1, g2, _, ⟨g3, hV, jn_pm1 g4, hp _ _ hV (jn_pm1 g4)⟩, rfl⟩
theorem xc_loadBoth {d e c c' j : Nat} {A B : rn_L} {sg sg' : Nat → Bool} (hN : gN y) (hC : relC y St) (hd : d < 40) (he : e < 40) (hs : slC y 1000 d (clC sg A)) (hA : okL A c) (hpA : plnA A sg) (hs' : slC y 1000 e (clC sg' B)) (hB : okL B c') (hpB : plnA B sg') (hne : A ≠ []) (hj : j ≤ 1) : Te (fun K => ce_X11_loadBoth vl K 0 (nI d) (nI e) (nI j) y) (fun r => gN r.2 ∧ fr uP y r.2 ∧ relC r.2 St ∧ (∀ d C, slC y 1000 d C → slC r.2 1000 d C) ∧ (r.1 = 0 ∧ c + c' ≤ 12 ∧ A.length + B.length - j ≤ 6 ∧ (∃ T R, ldN r.2 4000 A sg T ∧ ldN r.2 5000 B sg' R ∧ T.1 = c ∧ R.1 = c') ∨ r.1 = 4 ∧ (12 < c + c' ∨ 6 < A.length + B.length - j))) := by
  refine e_X11_loadBoth ?_; unfold cm_X11_loadBoth_0
  refine w_cs0 (xc_ldh nH4 hN hd hs hA hpA) ?_
  rintro y1 ⟨hN1, f1, T, hT, hT1⟩
  have f1u : fr uP y y1 := fr_mono (fun g hg => by unfold cL at hg; unfold uP; omega) f1
  have sl1 : ∀ d C, slC y 1000 d C → slC y1 1000 d C := fun d C h => slC_fr f1 (fun q hq h9 => by unfold cW at hq; unfold cL at h9; omega) h
  refine w_cs0 (xc_ldh nH5 hN1 he (sl1 _ _ hs') hB hpB) ?_
  rintro y2 ⟨hN2, f2, R, hR, hR1⟩
  have f2u : fr uP y y2 := fr_tr f1u (fr_mono (fun g hg => by unfold cL at hg; unfold uP; omega) f2)
  have sl2 : ∀ d C, slC y 1000 d C → slC y2 1000 d C := fun d C h => slC_fr f2 (fun q hq h9 => by unfold cW at hq; unfold cL at h9; omega) (sl1 d C h)
  have hC2 : relC y2 St := relC_fr f2 (fun q hq h9 => by unfold cW at hq; unfold cL at h9; omega) (relC_fr f1 (fun q hq h9 => by unfold cW at hq; unfold cL at h9; omega) hC)
  have k4 : ∀ g, 4001 ≤ g → g ≤ 4011 → ¬ cL 5000 g := fun g g1 g2 h9 => by unfold cL at h9; omega
  have hT2' : shA y2 4000 A sg T := by
    obtain ⟨a1, a2, a3, a4, a5, a6⟩ := hT.1
    refine ⟨cAt_fr f2 (fun g hg => k4 g (by unfold cP at hg; omega) (by unfold cP at hg; omega)) a1, a2, a3, fun i q e => ?_, fun v hv => ?_, ?_⟩
    · rw [(f2 4004 (k4 _ (by omega) (by omega))).2.1]
      exact a4 i q e
    · rw [(f2 4005 (k4 _ (by omega) (by omega))).2.1]
      exact a5 v hv
    · rw [(f2 4010 (k4 _ (by omega) (by omega))).1]
      exact a6
  have t12 := hT.1.2.2.1.2.1
  have r12 := hR.1.2.2.1.2.1
  have hA6 := hA.2.2.2.2
  have hB6 := hB.2.2.2.2
  have hA1 : 1 ≤ A.length := List.length_pos_iff.mpr hne
  refine w_rdF hT2'.1.1 (w_rdF hR.1.1.1 ?_)
  rw [nI_add]
  refine w_lt (a := 12) (by omega) (by omega) (fun h9 => w_some ⟨hN2, f2u, hC2, sl2, Or.inr ⟨rfl, Or.inl (by omega)⟩⟩) (fun h9 => w_rdF hT2'.2.2.2.2.2 (w_rdF hR.1.2.2.2.2.2 ?_))
  rw [nI_add, show nI (A.length + B.length) - nI j = nI (A.length + B.length - j) from pk_sub (by omega)]
  refine w_le (b := 6) (by omega) (by omega) (fun h6 => w_some ⟨hN2, f2u, hC2, sl2, Or.inl ⟨rfl, by omega, h6, T, R, ⟨hT2', hT.2⟩, hR, hT1, hR1⟩⟩) (fun h9 => w_some ⟨hN2, f2u, hC2, sl2, Or.inr ⟨rfl, Or.inr h9⟩⟩)
theorem xc_apart (hN : gN y) (hC : relC y St) (hS : okS St) : Te (fun K => ce_X11_apart vl K 0 x x' y) (fun r => r.1 = 1 ∧ gN r.2.2 ∧ fr uP y r.2.2 ∧ relC r.2.2 St ∧ ((∀ d, d < 40 → x = nI d → St d = none) ∨ ∀ d, d < 40 → x' = nI d → St d = none) ∨ ∃ d A sg e B sg', d < 40 ∧ x = nI d ∧ St d = some (A, sg) ∧ e < 40 ∧ x' = nI e ∧ St e = some (B, sg') ∧ (r.1 = 4 ∧ gN r.2.2 ∧ fr uP y r.2.2 ∧ relC r.2.2 St ∧ (24 < A.flatten.length + B.flatten.length ∨ 6 < A.length + B.length) ∨ A.flatten.length + B.flatten.length ≤ 24 ∧ A.length + B.length ≤ 6 ∧ (r.1 = 3 ∧ gN r.2.2 ∧ fr uP y r.2.2 ∧ relC r.2.2 St ∧ allF St ∨ r.1 = 0 ∧ ∃ f, lstF St f ∧ cKp y f (A ++ shN (A.flatten.length / 2) B) (fun k => if k < A.flatten.length / 2 then sg k else sg' (k - A.flatten.length / 2)) r.2))) := by
  refine e_X11_apart ?_; unfold cm_X11_apart_0
  refine w_tc0 (xc_need hN.1 hC hS) ?_ ?_
  · rintro y1 ⟨h1, rfl⟩
    rcases h1 with h1 | ⟨-, d, A, sg, c, hd, rfl, hSt, hs, hA, hne, hpl⟩
    · exact absurd (show (0 : Nat) = 1 from h1.1) (by decide)
    · refine w_tc0 (xc_need hN.1 hC hS) ?_ ?_
      · rintro y2 ⟨h2, rfl⟩
        rcases h2 with h2 | ⟨-, e, B, sg', c', he, rfl, hSt', hs', hB, hne', hpl'⟩
        · exact absurd (show (0 : Nat) = 1 from h2.1) (by decide)
        · have lA := okF_len hA.1
          have lB := okF_len hB.1
          have ea : A.flatten.length / 2 = c := by omega
          refine w_tc0 (xc_loadBoth (j := 0) hN hC hd he hs hA hpl hs' hB hpl' hne (by omega)) ?_ ?_
          · rintro y3 ⟨hN3, f3, hC3, sl3, h3⟩
            rcases h3 with ⟨-, h12, h6, T, R, hT, hR, eT, eR⟩ | h3
            · have h12' : T.1 + R.1 ≤ 12 := by omega
              refine w_tc1 (xc_free hN3.1 hC3 hS) ?_ ?_
              · rintro v y4 ⟨h4, rfl⟩
                rcases h4 with h4 | ⟨-, q, rfl, hq⟩
                · exact absurd (show (0 : Nat) = 3 from h4.1) (by decide)
                · refine w_cs0 (tc_append nH4 nH5 (by unfold nDj; omega) hT.1.1 hR.1.1 h12') ?_
                  rintro y5 ⟨g1, g2⟩
                  have g1 : cAt y5 4000 (ntA T R) := g1
                  have nT := hT.1.2.2.1
                  have nR := hR.1.2.2.1
                  obtain ⟨a1, a2, a3, -, -⟩ := ntA_ok nT nR h12'
                  have r1 := iso_rg hT.1.2.1
                  have r2 := iso_rg hR.1.2.1
                  have hv : nv (ntA T R) := ⟨a1, h12', a2, by
                    rw [a3]
                    show np_rg T.1 T.2.2.1 + np_rg R.1 R.2.2.1 + (T.2.1 + R.2.1) ≤ 6
                    omega⟩
                  refine w_cs1 (tc_keep (gN_net nH4 g2 (fun g hg => by unfold cP at hg; omega) ⟨_, g1, a2⟩ hN3) hq.1 g1 hv) ?_
                  rintro r y6 ⟨q0, q1, q2, ⟨Cs, os, q3, q4⟩, q5, -⟩
                  have c12 := hA.2.2.2.1
                  have d12 := hB.2.2.2.1
                  have hV3 := iso_app (k := A.flatten.length / 2) hT.2.1 hR.2.1 a1 h12' (fun p hp => by rw [ea]; exact ((hA.1.2 p).mp hp).1) (fun p hp => by have := ((hB.1.2 p).mp hp).1; omega)
                  exact w_some (Or.inr ⟨d, A, sg, e, B, sg', hd, rfl, hSt, he, rfl, hSt', Or.inr ⟨by omega, by omega, Or.inr ⟨rfl, q, hq, q0, q1, fr_tr f3 (fr_tr (fr_mono (fun g hg => by unfold cP at hg; unfold uP; omega) g2) q2), ⟨ntA T R, _, Cs, os, hv, pm1_A hT.2.2.1 hR.2.2.1, hV3, pl_app nT nR h12' hT.2.2.2 hR.2.2.2, q3, q4⟩, fun d' C' h1 h2 h3 => q5 d' C' h1 h2 (slC_fr g2 (fun q hq h9 => by unfold cW at hq; unfold cP at h9; omega) (sl3 d' C' h3))⟩⟩⟩)
              · rintro a v y4 ha ⟨h4, rfl⟩
                rcases h4 with h4 | h4
                · exact w_some (Or.inr ⟨d, A, sg, e, B, sg', hd, rfl, hSt, he, rfl, hSt', Or.inr ⟨by omega, by omega, Or.inl ⟨h4.1, hN3, f3, hC3, h4.2⟩⟩⟩)
                · exact absurd h4.1 ha
            · exact absurd (show (0 : Nat) = 4 from h3.1) (by decide)
          · rintro a y3 ha ⟨hN3, f3, hC3, sl3, h3⟩
            rcases h3 with h3 | h3
            · exact absurd h3.1 ha
            · exact w_some (Or.inr ⟨d, A, sg, e, B, sg', hd, rfl, hSt, he, rfl, hSt', Or.inl ⟨h3.1, hN3, f3, hC3, by omega⟩⟩)
      · rintro a y2 ha ⟨h2, rfl⟩
        rcases h2 with h2 | h2
        · exact w_some (Or.inl ⟨h2.1, hN, fr_rf, hC, Or.inr h2.2⟩)
        · exact absurd h2.1 ha
  · rintro a y1 ha ⟨h1, rfl⟩
    rcases h1 with h1 | h1
    · exact w_some (Or.inl ⟨h1.1, hN, fr_rf, hC, Or.inl h1.2⟩)
    · exact absurd h1.1 ha
end XCA
