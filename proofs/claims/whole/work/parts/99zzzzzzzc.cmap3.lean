/-! the class: maps -/
section CMR
variable {vl : Nat → Nat} {y : ow_MS} {x x' : Int32}
def mxP (g : Nat) : Prop := 4001 ≤ g ∧ g ≤ 4011 ∨ 41001 ≤ g ∧ g ≤ 41016
theorem u_X0_countMaps_1 {vl : Nat → Nat} {x2 : Int32} {x3 : Int32} {x6 : Int32} {w4 : Int64} {r0 : Nat} {r1 : Nat} {t0 : Int32} {z : ow_MS} {Q : (Int64 × ow_MS) → Prop} (H : Tt (fun K k => cm_X0_countMaps_1 vl K (c_X0_countMaps vl K k) x2 x3 x6 w4 r0 r1 t0 z) Q) : Tt (fun K k => c_X0_countMaps vl K k 1 x2 x3 x6 w4 r0 r1 t0 z) Q := w_un (fun _ _ => rfl) H
theorem u_X0_countMaps_3 {vl : Nat → Nat} {x2 : Int32} {x3 : Int32} {x6 : Int32} {w4 : Int64} {r0 : Nat} {r1 : Nat} {t0 : Int32} {z : ow_MS} {Q : (Int64 × ow_MS) → Prop} (H : Tt (fun K k => cm_X0_countMaps_3 vl K (c_X0_countMaps vl K k) x2 x3 x6 w4 r0 r1 t0 z) Q) : Tt (fun K k => c_X0_countMaps vl K k 3 x2 x3 x6 w4 r0 r1 t0 z) Q := w_un (fun _ _ => rfl) H
theorem u_X0_countMaps_2 {vl : Nat → Nat} {x2 : Int32} {x3 : Int32} {x6 : Int32} {w4 : Int64} {r0 : Nat} {r1 : Nat} {t0 : Int32} {z : ow_MS} {Q : (Int64 × ow_MS) → Prop} (H : Tt (fun K k => cm_X0_countMaps_2 vl K (c_X0_countMaps vl K k) x2 x3 x6 w4 r0 r1 t0 z) Q) : Tt (fun K k => c_X0_countMaps vl K k 2 x2 x3 x6 w4 r0 r1 t0 z) Q := w_un (fun _ _ => rfl) H
theorem e_X0_countMaps {vl : Nat → Nat} {r0 : Nat} {r1 : Nat} {x2 : Int32} {z : ow_MS} {Q : (Int64 × ow_MS) → Prop} (H : Tt (fun K k => c_X0_countMaps vl K k 0 x2 0 0 0 r0 r1 0 z) Q) : Te (fun K => ce_X0_countMaps vl K r0 r1 x2 z) Q := w_te H
theorem u_X0_countMaps_0 {vl : Nat → Nat} {x2 : Int32} {x3 : Int32} {x6 : Int32} {w4 : Int64} {r0 : Nat} {r1 : Nat} {t0 : Int32} {z : ow_MS} {Q : (Int64 × ow_MS) → Prop} (H : Tt (fun K k => cm_X0_countMaps_0 vl K (c_X0_countMaps vl K k) x2 x3 x6 w4 r0 r1 t0 z) Q) : Tt (fun K k => c_X0_countMaps vl K k 0 x2 x3 x6 w4 r0 r1 t0 z) Q := w_un (fun _ _ => rfl) H
theorem tc_countMaps {A : rn_L} {sg : Nat → Bool} {c m : Nat} {S : ow_NP} {G : Nat → Int32} (hJ : jnN A sg c S G) (hy : cAt y 4000 (c, cirs A, S, G)) (hm : m ≤ 4) (hp : mpC y) (hst : stP y) : Te (fun K => ce_X0_countMaps vl K 41000 4000 (nI m) y) (fun r => mpC r.2 ∧ stP r.2 ∧ cAt r.2 4000 (c, cirs A, S, G) ∧ fr mxP y r.2) := by
  let Q : Int64 × ow_MS → Prop := fun r => mpC r.2 ∧ stP r.2 ∧ cAt r.2 4000 (c, cirs A, S, G) ∧ fr mxP y r.2
  obtain ⟨hA, hi, hv, hG⟩ := hJ
  have hc := hA.2.2.2.1
  have h6 := hA.2.2.2.2
  have nc := neC_cirs A
  obtain ⟨q, q1, q2, q3, R, q4, q5⟩ := iso_q hi hv
  have c1 : ∀ g : Nat, g ≤ 24 → Tt (fun K k => c_X0_countMaps vl K k 1 (nI m) 0 0 0 41000 4000 (nI g) y) Q := by
    intro g hg
    refine u_X0_countMaps_1 ?_; unfold cm_X0_countMaps_1
    refine w_cs0 (tc_markArcs (m := neC A) nH4 hy hv hc (by omega) q2 q3 q4 q5 (by omega)) ?_
    rintro y1 ⟨⟨a, n, ⟨s1, s2, s3, s4, s5⟩, n1, n2⟩, f1⟩
    have hy1 : cAt y1 4000 (c, cirs A, S, G) := cAt_fr f1 (fun g hg h9 => by unfold cP at hg; unfold arP at h9; omega) hy
    refine w_cs0 (tc_markParts nH4 hy1 (fun k hk => (hv k hk).1) hc) ?_
    rintro y2 ⟨-, g2, f2⟩
    have pl := mp_out_le S.1 (2 * c) (np_fill (y1.2.1 (4000 + 6)) 0 (2 * c) (-1)) (2 * c)
    generalize (mp_out S.1 (2 * c) (np_fill (y1.2.1 (4000 + 6)) 0 (2 * c) (-1)) (2 * c)).2 = P at g2 pl
    have hy2 : cAt y2 4000 (c, cirs A, S, G) := cAt_fr f2 (fun g hg h9 => by unfold cP at hg; unfold cQ at h9; omega) hy1
    have f02 : fr (fun g => 4001 ≤ g ∧ g ≤ 4011 ∨ g = 41001 ∨ g = 41002) y y2 := fr_tr (fr_mono (fun g hg => by unfold arP at hg; omega) f1) (fr_mono (fun g hg => by unfold cQ at hg; omega) f2)
    have hp2 : mpC y2 := mpC_fr f02 (by omega) hp
    refine w_cs0 (tc_findCl hg hp2) ?_
    rintro y3 f3
    have hN3 : plN y3 c (cirs A) S G a (n + cirs A) := by
      refine plN_fr f3 (fun g hg => by unfold cP; omega) ⟨hy2, hv, hc, by omega, fun v hv2 => ?_, ?_⟩
      · rw [(f2 41001 (by unfold cQ; omega)).2.1]
        exact ⟨(s1 v hv2).1, by have := (s1 v hv2).2; omega⟩
      · rw [(f2 41002 (by unfold cQ; omega)).1]
        exact s5
    have hp3 : mpC y3 := mpC_fr f3 (by omega) hp2
    have hs3 : stP y3 := stP_fr f3 (fun g hg => by omega) (stP_fr f02 (fun g hg => by omega) hst)
    have f03 : fr mxP y y3 := fr_tr (fr_mono (fun g hg => by unfold mxP; omega) f02) (fr_mono (fun g hg => by unfold mxP; omega) f3)
    have e3 : y3.1 4011 = nI P := (f3 4011 (by decide)).1.trans g2
    have c3 : ∀ (d i : Nat) (w : Int64) (z : ow_MS), i + d = P → mpC z → stP z → fr (fun g => 41009 ≤ g ∧ g ≤ 41016) y3 z → Tt (fun K k => c_X0_countMaps vl K k 3 (nI m) (nI g) (nI i) w 41000 4000 0 z) Q := by
      intro d
      induction d with
      | zero =>
        intro i w z hi2 hz hs hf
        have hz4 := (plN_fr hf (fun g hg => by unfold cP; omega) hN3).1
        refine u_X0_countMaps_3 ?_; unfold cm_X0_countMaps_3
        exact w_rdF ((hf 4011 (by omega)).1.trans e3) (w_leT (by omega) (by omega) (w_some ⟨hz, hs, hz4, fr_tr f03 (fr_mono (fun g hg => by unfold mxP; omega) hf)⟩))
      | succ d ih =>
        intro i w z hi2 hz hs hf
        refine u_X0_countMaps_3 ?_; unfold cm_X0_countMaps_3
        refine w_rdF ((hf 4011 (by omega)).1.trans e3) (w_leF (by omega) (by omega) (w_cs0 (tc_planPart (plN_fr hf (fun g hg => by unfold cP; omega) hN3) hs) ?_))
        rintro z1 ⟨g1, g3⟩
        have hz1 : mpC z1 := mpC_fr g3 (by unfold plR; omega) hz
        refine w_cs1 (tc_countF hg 19 0 0 20 z1 (by omega) (by omega) (by omega) hz1 g1) ?_
        rintro v z2 ⟨k1, k2⟩
        rw [nI_1]
        exact ih (i + 1) _ z2 (by omega) k1 (stP_fr k2 (fun g hg => by omega) g1) (fr_tr (fr_tr hf (fr_mono (fun g hg => by unfold plR at hg; omega) g3)) (fr_mono (fun g hg => by omega) k2))
    have c2 : ∀ (d i : Nat) (w : Int64), i + d = cirs A → Tt (fun K k => c_X0_countMaps vl K k 2 (nI m) (nI g) (nI i) w 41000 4000 0 y3) Q := by
      intro d
      induction d with
      | zero =>
        intro i w hi2
        refine u_X0_countMaps_2 ?_; unfold cm_X0_countMaps_2
        exact w_rdF (x := nI (cirs A)) hN3.1.2.1 (w_leT (by omega) (by omega) (c3 P 0 w y3 (by omega) hp3 hs3 fr_rf))
      | succ d ih =>
        intro i w hi2
        refine u_X0_countMaps_2 ?_; unfold cm_X0_countMaps_2
        rw [nI_1]
        exact w_rdF (x := nI (cirs A)) hN3.1.2.1 (w_leF (by omega) (by omega) (ih (i + 1) _ (by omega)))
    exact c2 (cirs A) 0 1 (by omega)
  refine e_X0_countMaps ?_
  refine u_X0_countMaps_0 ?_; unfold cm_X0_countMaps_0
  exact w_if (fun _ => c1 24 (by omega)) (fun _ => w_if (fun _ => c1 6 (by omega)) (fun _ => c1 m (by omega)))
theorem e_X11_maps {vl : Nat → Nat} {r0 : Nat} {x1 : Int32} {x2 : Int32} {z : ow_MS} {Q : (Nat × Int32 × ow_MS) → Prop} (H : Tt (fun K _ => cm_X11_maps_0 vl K x1 x2 r0 z) Q) : Te (fun K => ce_X11_maps vl K r0 x1 x2 z) Q := w_te0 H
theorem tc_maps (hM : gM y) (hp : mpC y) (hst : stP y) : Te (fun K => ce_X11_maps vl K 0 x x' y) (fun r => gM r.2.2 ∧ mpC r.2.2 ∧ stP r.2.2 ∧ fr mxP y r.2.2) := by
  refine e_X11_maps ?_; unfold cm_X11_maps_0
  refine w_tc0 (tc_need hM.1.1) ?_ ?_
  · rintro y1 ⟨h1, rfl⟩
    rcases h1 with ⟨-, d, A, sg, c, hd, rfl, hs, hA, hne⟩ | h1
    · refine w_if (fun _ => w_some ⟨hM, hp, hst, fr_rf⟩) (fun h0 => w_if (fun h4 => ?_) (fun _ => w_some ⟨hM, hp, hst, fr_rf⟩))
      refine w_cs0 (tc_ld3 nH4 hM.1 hd hs hA) ?_
      rintro y2 ⟨g1, g2, S, G, g3, g4⟩
      have f2 : fr mxP y1 y2 := fr_mono (fun g hg => by unfold cL at hg; unfold mxP; omega) g2
      have hp2 : mpC y2 := mpC_fr g2 (by unfold cL; omega) hp
      have hst2 : stP y2 := stP_fr g2 (fun g hg => by unfold cL at hg; omega) hst
      have hM2 : gM y2 := ⟨g1, tbs_fr g2 (fun g hg => by unfold cL at hg; omega) hM.2⟩
      refine w_rdF g3.1.1 (w_if (fun _ => w_some ⟨hM2, hp2, hst2, f2⟩) (fun _ => w_rdF rfl (w_if (fun _ => ?_) (fun _ => w_some ⟨hM2, hp2, hst2, f2⟩))))
      obtain ⟨m, m31, rfl⟩ := nI_of (x := x') (fun h => h0 (by
        rw [Int32.lt_iff_toInt_lt] at h ⊢
        exact Int.lt_trans h (by decide)))
      have hm4 : m ≤ 4 := (nI_leI m31 (by omega)).mp h4
      refine w_cs1 (tc_countMaps g4 g3.1 hm4 hp2 hst2) ?_
      rintro v y3 ⟨k1, k0, k2, k3⟩
      refine w_some ⟨⟨⟨dgC_fr k3 (fun g a1 a2 h9 => by unfold mxP at h9; omega) g1.1, nsC_put nH4 k3 (fun h' hh' hne' g hg h9 => ?_) ⟨_, k2, g3.2.2.1.2.2.1⟩ g1.2.1, kdC_fr k3 (fun g hg => by unfold mxP at hg; omega) g1.2.2⟩, tbs_fr k3 (fun g hg => by unfold mxP at hg; omega) hM2.2⟩, k1, k0, fr_tr f2 k3⟩
      have key : ∀ a, a ∈ nHL → a ≠ 4000 → 5000 ≤ a ∧ (a ≤ 40000 ∨ 44000 ≤ a) := by decide
      have := key h' hh' hne'
      unfold cP at hg
      unfold mxP at h9
      omega
    · exact absurd (show (0 : Nat) = 1 from h1.1) (by decide)
  · rintro a y1 ha ⟨h1, rfl⟩
    exact w_some ⟨hM, hp, hst, fr_rf⟩
end CMR
