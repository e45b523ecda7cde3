/-! exact calls: join, of the class -/
section XJC
variable {vl : Nat → Nat} {y : ow_MS} {St : plT} {x x' : Int32}
theorem xc_join {v0 w0 : Int32} (hN : gN y) (hC : relC y St) (hS : okS St) : Te (fun K => ce_X11_join vl K 0 x v0 x' w0 y) (fun r => r.1 = 1 ∧ gN r.2.2 ∧ fr uP y r.2.2 ∧ relC r.2.2 St ∧ joN St x v0 x' w0 ∨ ∃ A sg B sg' v w, joG St x v0 x' w0 A sg B sg' v w ∧ (r.1 = 4 ∧ gN r.2.2 ∧ fr uP y r.2.2 ∧ relC r.2.2 St ∧ (24 < A.flatten.length + B.flatten.length ∨ 6 < A.length + B.length - 1) ∨ A.flatten.length + B.flatten.length ≤ 24 ∧ A.length + B.length - 1 ≤ 6 ∧ (r.1 = 3 ∧ gN r.2.2 ∧ fr uP y r.2.2 ∧ relC r.2.2 St ∧ allF St ∨ r.1 = 0 ∧ ∃ f, lstF St f ∧ cKp y f (joV A B (A.flatten.length / 2) v w) (joS A sg sg') r.2))) := by
  refine e_X11_join ?_; unfold cm_X11_join_0
  refine w_tc0 (xc_need hN.1 hC hS) ?_ ?_
  · rintro y1 ⟨h1, rfl⟩
    rcases h1 with h1 | ⟨-, d, A, sg, c, hd, rfl, hSt, hs, hA, hne, hpl⟩
    · exact absurd (show (0 : Nat) = 1 from h1.1) (by decide)
    · have e3 : y1.2.1 1003 d = nI c := by
        have := hs.1
        rw [(okL_c (sg := sg) hA).1] at this
        exact this
      have hc12 := hA.2.2.2.1
      have lA := okF_len hA.1
      have noV : (∀ v, v < A.flatten.length → v0 ≠ nI v) → joN St (nI d) v0 x' w0 := fun hno A1 sg1 B1 sg1' v w hG => by
        obtain ⟨⟨d', a1, a2, a3⟩, -, b1, b2, -⟩ := hG
        have e1 := (pl_uni a1 hd a2 rfl a3 hSt).1
        rw [e1] at b1
        exact hno v b1 b2
      refine w_if (fun hv0 => w_some (Or.inl ⟨rfl, hN, fr_rf, hC, noV (fun v hv9 ev => ?_)⟩)) (fun v0' => w_crI (tH_3 ch_1000) rfl hd e3 ?_)
      · rw [ev] at hv0
        exact absurd hv0 (nI_pos (by omega))
      obtain ⟨i, i31, rfl⟩ := nI_of v0'
      rw [show (2 : Int32) * nI c = nI (2 * c) from pk_mul 2 _]
      refine w_lt i31 (by omega) (fun hic => ?_) (fun hic => w_some (Or.inl ⟨rfl, hN, fr_rf, hC, noV (fun v hv9 ev => ?_)⟩))
      rotate_left
      · have := nI_inj9 (a := i) (b := v) (by omega) (by omega) ev
        omega
      refine w_tc0 (xc_need hN.1 hC hS) ?_ ?_
      · rintro y2 ⟨h2, rfl⟩
        rcases h2 with h2 | ⟨-, e, B, sg', c', he, rfl, hSt', hs', hB, hne', hpl'⟩
        · exact absurd (show (0 : Nat) = 1 from h2.1) (by decide)
        · have e3' : y2.2.1 1003 e = nI c' := by
            have := hs'.1
            rw [(okL_c (sg := sg') hB).1] at this
            exact this
          have hc12' := hB.2.2.2.1
          have lB := okF_len hB.1
          have noW : (∀ w, w < B.flatten.length → w0 ≠ nI w) → joN St (nI d) (nI i) (nI e) w0 := fun hno A1 sg1 B1 sg1' v w hG => by
            obtain ⟨-, ⟨d', a1, a2, a3⟩, -, -, b1, b2⟩ := hG
            have e1 := (pl_uni a1 he a2 rfl a3 hSt').1
            rw [e1] at b1
            exact hno w b1 b2
          refine w_if (fun hw0 => w_some (Or.inl ⟨rfl, hN, fr_rf, hC, noW (fun v hv9 ev => ?_)⟩)) (fun w0' => w_crI (tH_3 ch_1000) rfl he e3' ?_)
          · rw [ev] at hw0
            exact absurd hw0 (nI_pos (by omega))
          obtain ⟨j, j31, rfl⟩ := nI_of w0'
          rw [show (2 : Int32) * nI c' = nI (2 * c') from pk_mul 2 _]
          refine w_lt j31 (by omega) (fun hjc => ?_) (fun hjc => w_some (Or.inl ⟨rfl, hN, fr_rf, hC, noW (fun v hv9 ev => ?_)⟩))
          rotate_left
          · have := nI_inj9 (a := j) (b := v) (by omega) (by omega) ev
            omega
          have hiv : i < A.flatten.length := by omega
          have hjv : j < B.flatten.length := by omega
          have hG : joG St (nI d) (nI i) (nI e) (nI j) A sg B sg' i j := ⟨⟨d, hd, rfl, hSt⟩, ⟨e, he, rfl, hSt'⟩, hiv, rfl, hjv, rfl⟩
          have ea : A.flatten.length / 2 = c := by omega
          refine w_tc0 (xc_loadBoth (j := 1) hN hC hd he hs hA hpl hs' hB hpl' hne (by omega)) ?_ ?_
          · rintro y3 ⟨hN3, f3, hC3, sl3, h3⟩
            rcases h3 with ⟨-, h12, h6, T, R, hT, hR, eT, eR⟩ | h3
            · have h12' : T.1 + R.1 ≤ 12 := by omega
              refine w_tc1 (xc_free hN3.1 hC3 hS) ?_ ?_
              · rintro u y4 ⟨h4, rfl⟩
                rcases h4 with h4 | ⟨-, q, rfl, hq⟩
                · exact absurd (show (0 : Nat) = 3 from h4.1) (by decide)
                · have nT := hT.1.2.2.1
                  have nR := hR.1.2.2.1
                  have a1' : lb (vAt A i) < 2 * T.1 := lbv_lt hT.1.2.1 hiv
                  have b1' : lb (vAt B j) < 2 * R.1 := lbv_lt hR.1.2.1 hjv
                  refine w_crI (nH_4 nH4) rfl (show i < 24 by omega) (hT.1.2.2.2.1 i _ (vAt_of hiv)) (w_rdF hT.1.1.1 (w_crI (nH_4 nH5) rfl (show j < 24 by omega) (hR.1.2.2.2.1 j _ (vAt_of hjv)) ?_))
                  refine w_cs0 (tc_append nH4 nH5 (by unfold nDj; omega) hT.1.1 hR.1.1 h12') ?_
                  rintro y5 ⟨g1, g2⟩
                  have g1 : cAt y5 4000 (ntA T R) := g1
                  obtain ⟨n1, n2, n3, n4, n5⟩ := ntA_ok nT nR h12'
                  have n1' : vn (T.1 + R.1) (ntA T R).2.2.1 := n1
                  rw [show (2 : Int32) * nI T.1 = nI (2 * T.1) from pk_mul 2 _, nI_add]
                  refine w_cs0 (tc_exchange nH4 g1 n2 (show lb (vAt A i) < 24 by omega) (show 2 * T.1 + lb (vAt B j) < 24 by omega)) ?_
                  rintro y6 ⟨g3, g4⟩
                  have hm := rg_merge (v := lb (vAt A i)) (w := 2 * T.1 + lb (vAt B j)) n1' h12' (by omega) (by omega) (fun k e9 => by
                    rw [n4 _ _ a1'] at e9
                    have := it_lt nT.1 a1' k
                    omega)
                  have r1 := iso_rg hT.1.2.1
                  have r2 := iso_rg hR.1.2.1
                  have n3' : np_rg (T.1 + R.1) (ntA T R).2.2.1 = np_rg T.1 T.2.2.1 + np_rg R.1 R.2.2.1 := n3
                  have hv : nv (ntS (ntA T R) (np_exchange (ntA T R).2.2.1 (lb (vAt A i)) (2 * T.1 + lb (vAt B j)))) := ⟨vn_exchange n1' (by omega) (by omega), h12', b24_exchange n2 (by omega) (by omega), by
                    show np_rg (T.1 + R.1) (np_exchange (ntA T R).2.2.1 (lb (vAt A i)) (2 * T.1 + lb (vAt B j))) + (T.2.1 + R.2.1) ≤ 6
                    omega⟩
                  have hV3 := iso_app (k := A.flatten.length / 2) hT.2.1 hR.2.1 n1 h12' (fun p hp => by rw [ea]; exact ((hA.1.2 p).mp hp).1) (fun p hp => by have := ((hB.1.2 p).mp hp).1; omega)
                  obtain ⟨c1, c2, c3⟩ := rn_c_in A i hiv
                  obtain ⟨j1, j2, j3⟩ := rn_c_in B j hjv
                  have bl1 := A12_bl (A := A) (B := B) (s := A.flatten.length / 2) (m := rn_c A i) (by omega)
                  have bl2 := A12_bl (A := A) (B := B) (s := A.flatten.length / 2) (m := rn_c A i + 1) (by omega)
                  have br1 := A12_br (A := A) (B := B) (s := A.flatten.length / 2) (rn_c B j)
                  have br2 : rn_b (A12 A B (A.flatten.length / 2)) (A.length + rn_c B j + 1) = A.flatten.length + rn_b B (rn_c B j + 1) := A12_br (rn_c B j + 1)
                  have nD := A12_n (A := A) (B := B) (s := A.flatten.length / 2)
                  have hV4 := iso_joC (D := A12 A B (A.flatten.length / 2)) (c := rn_c A i) (v := i) (w := A.flatten.length + j) (J := A.length + rn_c B j) hV3 (by omega) (by omega) (by omega) (by omega) (by omega) (by omega)
                  have lt1 : (vAt A i).1 < A.flatten.length / 2 := by
                    rw [ea]
                    exact ((hA.1.2 _).mp (List.mem_of_getElem? (vAt_of hiv))).1
                  have gl1 : gl (fun x => if x < A.flatten.length / 2 then x else T.1 + (x - A.flatten.length / 2)) (vAt (A12 A B (A.flatten.length / 2)) i) = lb (vAt A i) := by
                    rw [A12_l hiv]
                    show 2 * (if (vAt A i).1 < A.flatten.length / 2 then (vAt A i).1 else _) + (vAt A i).2 = _
                    rw [if_pos lt1]
                    rfl
                  have gl2 : gl (fun x => if x < A.flatten.length / 2 then x else T.1 + (x - A.flatten.length / 2)) (vAt (A12 A B (A.flatten.length / 2)) (A.flatten.length + j)) = 2 * T.1 + lb (vAt B j) := by
                    rw [A12_r hjv]
                    show 2 * (if (vAt B j).1 + A.flatten.length / 2 < A.flatten.length / 2 then (vAt B j).1 + A.flatten.length / 2 else T.1 + ((vAt B j).1 + A.flatten.length / 2 - A.flatten.length / 2)) + (vAt B j).2 = 2 * T.1 + (2 * (vAt B j).1 + (vAt B j).2)
                    rw [if_neg (by omega), Nat.add_sub_cancel]
                    omega
                  rw [gl1, gl2] at hV4
                  have hN5 := gN_net nH4 g2 (fun g hg => by unfold cP at hg; omega) ⟨_, g1, n2⟩ hN3
                  refine w_cs1 (tc_keep (gN_net nH4 g4 (fun g hg => by unfold cP at hg; omega) ⟨_, g3, hv.2.2.1⟩ hN5) hq.1 g3 hv) ?_
                  rintro r y7 ⟨q0, q1, q2, ⟨Cs, os, q3, q4⟩, q5, -⟩
                  exact w_some (Or.inr ⟨A, sg, B, sg', i, j, hG, Or.inr ⟨by omega, by omega, Or.inr ⟨rfl, q, hq, q0, q1, fr_tr f3 (fr_tr (fr_mono (fun g hg => by unfold cP at hg; unfold uP; omega) g2) (fr_tr (fr_mono (fun g hg => by unfold cP at hg; unfold uP; omega) g4) q2)), ⟨_, _, Cs, os, hv, pm1_A hT.2.2.1 hR.2.2.1, hV4, pl_join nT nR h12' hT.2.2.2 hR.2.2.2 a1' b1', q3, q4⟩, fun d' C' h1 h2 h3 => q5 d' C' h1 h2 (slC_fr g4 (fun q hq h9 => by unfold cW at hq; unfold cP at h9; omega) (slC_fr g2 (fun q hq h9 => by unfold cW at hq; unfold cP at h9; omega) (sl3 d' C' h3)))⟩⟩⟩)
              · rintro a u y4 ha ⟨h4, rfl⟩
                rcases h4 with h4 | h4
                · exact w_some (Or.inr ⟨A, sg, B, sg', i, j, hG, Or.inr ⟨by omega, by omega, Or.inl ⟨h4.1, hN3, f3, hC3, h4.2⟩⟩⟩)
                · exact absurd h4.1 ha
            · exact absurd (show (0 : Nat) = 4 from h3.1) (by decide)
          · rintro a y3 ha ⟨hN3, f3, hC3, sl3, h3⟩
            rcases h3 with h3 | h3
            · exact absurd h3.1 ha
            · exact w_some (Or.inr ⟨A, sg, B, sg', i, j, hG, Or.inl ⟨h3.1, hN3, f3, hC3, by omega⟩⟩)
      · rintro a y2 ha ⟨h2, rfl⟩
        rcases h2 with h2 | h2
        · exact w_some (Or.inl ⟨h2.1, hN, fr_rf, hC, fun A1 sg1 B1 sg1' v w ⟨_, ⟨d', a1, a2, a3⟩, _⟩ => by rw [h2.2 d' a1 a2] at a3; cases a3⟩)
        · exact absurd h2.1 ha
  · rintro a y1 ha ⟨h1, rfl⟩
    rcases h1 with h1 | h1
    · exact w_some (Or.inl ⟨h1.1, hN, fr_rf, hC, fun A1 sg1 B1 sg1' v w ⟨⟨d', a1, a2, a3⟩, _⟩ => by rw [h1.2 d' a1 a2] at a3; cases a3⟩)
    · exact absurd h1.1 ha
end XJC
