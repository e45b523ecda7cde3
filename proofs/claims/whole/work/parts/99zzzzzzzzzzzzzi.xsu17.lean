/-! summands: both sides -/
section XTD
variable {vl : Nat → Nat} {y : ow_MS} {St : plT} {x : Int32}
theorem xc_summands (hN : gM y) (hC : relC y St) (hS : okS St) : Te (fun K => ce_X11_summands vl K 0 x y) (fun r => (r.1 = 1 ∧ r.2.2 = y ∧ ∀ d, d < 40 → x = nI d → St d = none) ∨ ∃ d A sg c, d < 40 ∧ x = nI d ∧ St d = some (A, sg) ∧ okL A c ∧ A ≠ [] ∧ plnA A sg ∧ r.1 = 0 ∧ ∃ T Cs os, nv T ∧ isoV A sg (fun x => x) T ∧ pm1 T ∧ nt_plane T = true ∧ cpZ (ntS T (np_all T.1 12 T.2.2.1)) (np_parts T.1 (np_all T.1 12 T.2.2.1).1).2 Cs os ∧ tbO r.2.2 3000 12 Cs os ∧ r.2.1 = nI os.length) := by
  refine e_X11_summands ?_; unfold cm_X11_summands_0
  refine w_tc0 (xc_need hN.1.1 hC hS) ?_ ?_
  · rintro y1 ⟨h1, rfl⟩
    rcases h1 with h1 | ⟨-, d, A, sg, c, hd, rfl, hSt, hs, hA, hne, hpl⟩
    · exact absurd (show (0 : Nat) = 1 from h1.1) (by decide)
    · refine w_cs0 (xc_ld hN.1 hd hs hA hpl) ?_
      rintro y3 ⟨hN3, f3, T, hT, hT1, hV, hpm, hplT⟩
      have hv := hT.2.2.1
      have hb3 : tbs y3 := tbs_fr f3 (fun g hg => by unfold cL at hg; omega) hN.2
      refine w_cs0 (tc_partAll nH4 hT.1 hv.2.2.1 hv.1 hv.2.1) ?_
      rintro y4 ⟨g1, g2⟩
      have hfw : fwR T.1 T.2.2.1 := by
        have h6 := hv.2.2.2
        unfold fwR
        rcases Nat.eq_zero_or_pos T.1 with e | e
        · have : np_rg T.1 T.2.2.1 = 0 := by
            rw [e]
            rfl
          omega
        · have hp : 0 < (np_parts T.1 T.2.2.1.1).2 := by
            obtain ⟨r, r1, -⟩ := (parts_I hv.1 hv.2.1).2.1 0 (by omega)
            omega
          omega
      obtain ⟨n1, n2, n3⟩ := all_ok hv.2.1 12 T.2.2.1 hv.1 hv.2.2.1 hfw
      have hci : T.2.1 ≤ 6 := by have := hv.2.2.2; omega
      have hN4 : gN y4 := gN_net nH4 g2 (fun g hg => by unfold cO cP cR cQ at hg; omega) ⟨_, g1, n2⟩ hN3
      have hb4 : tbs y4 := tbs_fr g2 (fun g hg => by unfold cO cP cR cQ at hg; omega) hb3
      have hk7 := hN4.2.2 7000 (Or.inl rfl)
      obtain ⟨C3, o3, t3⟩ := hb4.2.1
      refine w_cs0 (tc_collectParts (Or.inl rfl) nH4 tH3 (by omega) (by omega) g1 n1 hv.2.1 n2 (fun r hr => (fwR_pt n1 hv.2.1 n3 hr).2) hk7.2.1 t3.2.2.2.2) ?_
      rintro y5 ⟨⟨Cs, os, z1, z2⟩, b1, b2, hy5, f5⟩
      have hl : os.length ≤ 12 := by
        have h9 := parts_le n1 hv.2.1
        have h8 : Cs.length = os.length := z2.2.1
        have h7 : Cs.length = (np_parts T.1 (np_all T.1 12 T.2.2.1).1).2 := z1.1
        have h6 : (np_parts T.1 (np_all T.1 12 T.2.2.1).1).2 ≤ T.1 := h9
        have := hv.2.1
        omega
      have ht5 : tbO y5 3000 12 Cs os := by
        refine ⟨z2, z1.2.2.2, fun C hC => ?_, hl, b2⟩
        obtain ⟨r, hr⟩ := List.getElem?_of_mem hC
        have hr2 := (List.getElem?_eq_some_iff.mp hr).1
        obtain ⟨e1, e2⟩ := z1.2.1 r C hr
        exact part_okC (T := ntS T (np_all T.1 12 T.2.2.1)) n1 hv.2.1 hci n3 (by rw [← z1.1]; exact hr2) e1 e2
      exact w_rdF (x := nI os.length) z2.1 (w_some (Or.inr ⟨d, A, sg, c, hd, rfl, hSt, hA, hne, hpl, rfl, T, Cs, os, hv, hV, hpm, hplT, z1, ht5, rfl⟩))
  · rintro a y1 ha ⟨h1, rfl⟩
    rcases h1 with h1 | h1
    · exact w_some (Or.inl ⟨h1.1, rfl, h1.2⟩)
    · exact absurd h1.1 ha
/-- the reference's end is the class's -/
theorem sm_fin {T : ow_NT} {r : Int32 × ow_MS} (hT : nv T) (h : smE T r) : ∃ D, prtD (ntS T (np_all T.1 12 T.2.2.1)) D ∧ ∃ Ms, rlR 35 39 36 16 r.2 Ms ∧ r.1 = nI Ms.length ∧ srM Ms ∧ (D.map ptM).Perm Ms := by
  obtain ⟨e1, Ms, Dn, n, S, a1, a2, a3, a4, a5, a6, a7, a8⟩ := h
  obtain ⟨⟨n', b1⟩, b2⟩ := all_end hT.1 hT.2.1
  have he := end_one (bj_vn hT.1) a7 b1 (prt_end (T := ntS T S) a8 a6 a5) b2
  exact ⟨Dn, ⟨fun d hd => row_cg he (a8.1 d hd), a8.2.1, a8.2.2⟩, Ms, a1, a2, a3, a4⟩
theorem all_vn {T : ow_NT} (hT : nv T) : vn T.1 (np_all T.1 12 T.2.2.1) := by
  have hfw : fwR T.1 T.2.2.1 := by
    have h6 := hT.2.2.2
    unfold fwR
    rcases Nat.eq_zero_or_pos T.1 with e | e
    · have : np_rg T.1 T.2.2.1 = 0 := by
        rw [e]
        rfl
      omega
    · have hp : 0 < (np_parts T.1 T.2.2.1.1).2 := by
        obtain ⟨r, r1, -⟩ := (parts_I hT.1 hT.2.1).2.1 0 (by omega)
        omega
      omega
  exact (all_ok hT.2.1 12 T.2.2.1 hT.1 hT.2.2.1 hfw).1
end XTD
section XTE
variable {X : (Nat → Nat → Int32) → Prop} {z y : ow_MS} {vl : Nat → Nat} {x : Int32}
theorem c_summands (h : rel3 X z y) : Te (fun K => qe_X13_summands K x z) (fun rr => Te (fun K => ce_X11_summands vl K 0 x y) (fun rc => rel3 X rr.2 rc.2.2 ∧ ansI [(1, 1)] rr rc)) := by
  obtain ⟨⟨St, k⟩, hM, h2⟩ := id h
  refine te_sw (te_and (te_fo (tc_summands (x := x) hM) (fun K => ff_X11_summands)) (xc_summands hM k.2.2.2.1 k.2.2.2.2)) (fun rc ⟨⟨⟨hG, _⟩, fC⟩, hc⟩ => ?_)
  rcases hc with ⟨c1, c2, c3⟩ | ⟨d, A, sg, c, hd, rfl, hSt, hA, hne, hpl, c1, T, Cs, os, t1, t2, t3, t4, t5, t6, t7⟩
  · exact w_monoE (xq_sumN k.1 k.2.2.1 c3) (fun rr hr => both_3 h (bo_fail k hr (by simp) c1 (by rw [c2]; exact k.2.1) (by rw [c2]; exact fr_rf) (by rw [c2]; exact k.2.2.2.1)))
  · refine w_monoE (te_and (te_fo (tp_summands (d := nI d) k.1) (fun K => ff_X13_summands)) (xq_sum k.2.2.1 hd hSt (isoS_iff.mp t2.1) t1.1)) (fun rr ⟨⟨hgI, fR⟩, hsm⟩ => ?_)
    obtain ⟨D, hD, Ms, m1, m2, m3, m4⟩ := sm_fin t1 hsm
    have n1 := all_vn t1
    obtain ⟨j1, j2, j3⟩ := sum_join hD n1 t1.2.1 t5 m3 m4
    have hpl2 : nt_plane (ntS T (np_all T.1 12 T.2.2.1)) = true := all_pl t1.2.1 12 T.2.2.1 t1.1 t4
    have hokM : okM Ms := fun k9 A' sg' hk9 => by
      obtain ⟨d9, hd9, e9⟩ := j3 _ (List.mem_of_getElem? hk9)
      cases e9
      have hr := hD.1 d9 hd9
      refine ⟨fun e => hr.2.1.1 (by rw [e]; rfl), em_pl hr.1 n1 (fun x hx => t3 x hx) hpl2, (prt_perm hD n1 t1.2.1 t5).2 d9 hd9⟩
    have fC : fr (fun g => 0 + 3001 ≤ g ∧ g ≤ 0 + 3005 ∨ 0 + 4001 ≤ g ∧ g ≤ 0 + 4011 ∨ 0 + 7004 ≤ g ∧ g ≤ 0 + 7006 ∨ 0 + 9001 ≤ g ∧ g ≤ 0 + 9003) y rc.2.2 := fC
    obtain ⟨k1, k2, k3, ⟨Ns, q1, q2, q3⟩, -⟩ := h2
    refine ⟨⟨⟨St, hgI, hG.1, relR_fr fR (by decide) k.2.2.1, relC_fr fC (fun q hq h9 => by unfold cW at hq; omega) k.2.2.2.1, k.2.2.2.2⟩, hG, relT_k fR fC (by decide) (by omega) k1, relB_k fR fC (by decide) (by omega) k2, brC_fr fC (by omega) k3, ⟨Ns, rlR_k fR (by decide) q1, rlC_k fC (fun q hq => by unfold cV at hq; omega) q2, q3⟩, Ms, m1, ⟨Cs, os, t6, j1, j2⟩, hokM⟩, Or.inl ⟨hsm.1, c1, ?_⟩⟩
    rw [m2, t7, j1]
theorem nm_summands (h : rel3 X z y) (hm : NM y) : Te (fun K => ce_X11_summands vl K 0 x y) (fun r => NM r.2.2) := by
  obtain ⟨⟨St, k⟩, hM, -⟩ := id h
  refine w_monoE (te_fo (xc_summands hM k.2.2.2.1 k.2.2.2.2) (fun K => ff_X11_summands)) (fun r ⟨hr, hf⟩ => ?_)
  have hf : fr (fun g => 0 + 3001 ≤ g ∧ g ≤ 0 + 3005 ∨ 0 + 4001 ≤ g ∧ g ≤ 0 + 4011 ∨ 0 + 7004 ≤ g ∧ g ≤ 0 + 7006 ∨ 0 + 9001 ≤ g ∧ g ≤ 0 + 9003) y r.2.2 := hf
  rcases hr with ⟨-, e, -⟩ | ⟨d, A, sg, c, hd, -, hSt, hA, hne, hpl, -, T, Cs, os, t1, t2, t3, t4, t5, t6, t7⟩
  · rw [e]
    exact hm
  · have hb := fr_sym hf
    refine ⟨fun d A sg c hd hs hA hne => hm.1 d A sg c hd (slC_fr hb (fun q hq h9 => by unfold cW at hq; omega) hs) hA hne, fun Cs os ht => hm.2.1 Cs os (tbO_fr hb (fun q hq h9 => by unfold cV at hq; omega) ht), fun Cs' os' ht C hC => ?_⟩
    have l1 := ht.2.2.2.1
    have l2 := t6.2.2.2.1
    rw [tab_uni ht.1 t6.1 (by omega) (by omega)] at hC
    obtain ⟨rr, -, hsm⟩ := xq_sum k.2.2.1 hd hSt (isoS_iff.mp t2.1) t1.1
    obtain ⟨D, hD, -⟩ := sm_fin t1 hsm
    have n1 := all_vn t1
    obtain ⟨p1, p2⟩ := prt_perm hD n1 t1.2.1 t5
    obtain ⟨d9, hd9, e9⟩ := List.mem_map.mp (p1.mem_iff.mpr hC)
    obtain ⟨c9, o9⟩ := p2 d9 hd9
    exact ⟨d9.1, d9.2.1, c9, o9, e9.symm, row_nrm (hD.1 d9 hd9) n1⟩
theorem s2_summands : stp2 lst_summands := by
  intro S x1 x2 x3 x4 x5 h
  have hc := rel_of (vl := S.1) (y := S.2.1) (z := S.2.2) (em := [(1, 1)]) (fc := fun K => ce_X11_summands S.1 K 0 x1 S.2.1) (fm := fun K => qe_X13_summands K x1 S.2.2) h.1 (c_summands h.1.1) (fun K => ff_X13_summands) (fun K => ff_X11_summands) (by decide) (fun g hg h9 => by unfold ciH at h9; omega)
  have hn : Te (fun K => ce_X11_summands S.1 K 0 x1 S.2.1) (fun rc => NM rc.2.2) := nm_summands h.1.1 h.2
  have hs : Te (lsV S.1 (fun K => ce_X11_summands S.1 K 0 x1 S.2.1) (fun k z => if k = 1 then some (1, z) else none) (fun K => qe_X13_summands K x1 S.2.2)) (fun S1 => REL S1 ∧ dPhi S.1 ≤ dPhi S1.1) := by
    refine st_int hc (fun j k hm => ?_)
    simp only [List.mem_cons, List.not_mem_nil, or_false, Prod.mk.injEq] at hm
    obtain ⟨rfl, rfl⟩ := hm
    exact ⟨by decide, by decide, by decide, fun _ => rfl⟩
  exact w_monoE (lsV_nm hs hn (fun k z r hr => by
    have hr : (if k = 1 then some (1, z) else none) = some r := hr
    by_cases c0 : k = 1
    · rw [if_pos c0] at hr
      cases hr
      rfl
    rw [if_neg c0] at hr
    cases hr)) (fun S1 ⟨⟨q1, q2⟩, q3⟩ => ⟨⟨q1, q3⟩, q2⟩)
end XTE
