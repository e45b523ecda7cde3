/-! two is a step of the law; what is left of the whole: five cases -/
def twQ (g : Nat) : Prop := 4001 ≤ g ∧ g ≤ 5011 ∨ 7004 ≤ g ∧ g ≤ 10005 ∨ skP g
section XTWS
variable {vl : Nat → Nat} {y : ow_MS}
theorem tc_twoF {x x1 x2 : Int32} (hM : gM y) (hB : brC y) (hk : knC y) : Te (fun K => ce_X11_two vl K 0 x x1 x2 y) (fun r => (∀ D, cOK D → slC y 25000 1 D → slC r.2.2 25000 1 D) ∧ fr twQ y r.2.2) := by
  refine e_X11_two ?_; unfold cm_X11_two_0
  refine w_tc0 (tc_needBraid (brC_E hB)) ?_ ?_
  · rintro y1 ⟨h1, rfl⟩
    rcases h1 with ⟨-, hb⟩ | h1
    · obtain ⟨b, n, l, hb20, rfl, hn2, hn5, e15, l16, e14, hw⟩ := isB_w hB hb
      refine w_crI ch_14 rfl hb20 e14 (w_le (b := 10) (by omega) (by omega) (fun h12 => ?_) (fun _ => w_some ⟨fun D _ hs => hs, fr_rf⟩))
      obtain ⟨T, t1, t2⟩ := hM.1.2.1 4000 nH4
      refine w_crI ch_14 rfl hb20 e14 (w_crI ch_15 rfl hb20 e15 ?_)
      rw [m16]
      refine w_cs0 (tc_close t1 t2 hb20 hn2 hn5 (by omega) hw) ?_
      rintro y3 ⟨⟨T1, g1, g2⟩, f3⟩
      have hN3 : gN y3 := gN_net nH4 f3 (fun g hg => by unfold clR cP at hg; omega) ⟨T1, g1, g2.2.2.1⟩ hM.1
      have hk7 : kH 7000 := Or.inl rfl
      have hb7 := hN3.2.2 7000 hk7
      refine w_cs0 (tc_encode hk7 nH4 g1 g2 hb7.1 hb7.2.1 hb7.2.2) ?_
      rintro y4 ⟨⟨Cs, os, z1, z2, z3⟩, b1, b2, b3, hy4, f4⟩
      obtain ⟨A', sg', q1, q2, -⟩ := enc_ok g2 z1
      have f14 : fr (fun g => 4001 ≤ g ∧ g ≤ 5011 ∨ 7004 ≤ g ∧ g ≤ 10005) y1 y4 := fr_tr (fr_mono (fun g hg => by unfold clR cP at hg; omega) f3) (fr_mono (fun g hg => by
        unfold enP cpP epP cV cQ at hg
        omega) f4)
      have hl4 : lvS y4 := fun j hj => by
        obtain ⟨T, t1, t2⟩ := lvS_ns hM.1.2.1 j hj
        exact ⟨T, cAt_fr f14 (fun g hg h9 => by unfold cP lv at hg; omega) t1, t2⟩
      have k4 : knC y4 := knC_fr f14 (fun g hg => by omega) hk
      rw [q2] at z2
      refine w_cs0 (te_and (tc_unfoldCode (s' := 0) (kH_out hk7) (by omega) Nat.one_pos z2 q1 b1 k4 hl4) (tc_unfK (s' := 0) (kH_out hk7) (by omega) Nat.one_pos z2 q1 b1 k4 hl4)) ?_
      rintro y5 ⟨⟨k5, l5, f5⟩, s5⟩
      refine w_cs1 tc_twoAt ?_
      rintro v z e2
      dsimp only at e2
      rw [e2]
      exact w_some ⟨fun D hD hs => s5 D hD (slC_fr f14 (fun q hq h9 => by unfold cW at hq; omega) hs), fr_tr (fr_mono (fun g hg => by unfold twQ; omega) f14) (fr_mono (fun g hg => Or.inr (Or.inr hg)) f5)⟩
    · exact absurd (show (0 : Nat) = 1 from h1.1) (by decide)
  · rintro a y1 ha ⟨h1, rfl⟩
    exact w_some ⟨fun D _ hs => hs, fr_rf⟩
/-- what the class keeps besides -/
theorem CI_tw {y1 : ow_MS} (hf : fr twQ y y1) (h1 : knC y1) (h2 : ∀ D, cOK D → slC y 25000 1 D → slC y1 25000 1 D) (h : CI vl y) : CI vl y1 := by
  obtain ⟨-, ⟨C, c1, c2, c3⟩, i3, i4, i5, i6, i7, i8⟩ := h
  have no : ∀ g, 24005 ≤ g ∧ g ≤ 25000 ∨ 38012 ≤ g → ¬ twQ g := fun g hg h9 => by unfold twQ skP at h9; omega
  refine ⟨h1, ⟨C, h2 C c2 c1, c2, c3.imp id (fun ⟨A, sg, c, q1, S, G, q2, q3, q4, q5⟩ => ⟨A, sg, c, q1, S, G, q2, (hf 40008 (no _ (by omega))).1.trans q3, (hf 24009 (no _ (by omega))).1.trans q4, fun k hk => by rw [(hf 24006 (no _ (by omega))).2.1]; exact q5 k hk⟩)⟩, bnC_fr hf (fun m hm => no _ (by omega)) i3, mpC_fr hf ⟨no _ (by omega), no _ (by omega), no _ (by omega)⟩ i4, ?_, fun m hm => ?_, fun i k hi hk => ?_, i8⟩
  · obtain ⟨k, k1, k2, k3⟩ := i5
    refine ⟨k, k1, by rw [(hf 41010 (no _ (by omega))).1]; exact k2, fun s hs => ?_⟩
    rw [(hf 41012 (no _ (by omega))).2.1, (hf 41013 (no _ (by omega))).2.1, (hf 41014 (no _ (by omega))).2.1]
    exact k3 s hs
  · rw [(hf 43005 (no _ (by omega))).2.1]
    exact i6 m hm
  · rw [(hf (45001 + i) (no _ (by omega))).2.1]
    exact i7 i k hi hk
variable {X : (Nat → Nat → Int32) → Prop} {z : ow_MS} {x i j : Int32}
theorem c_two (h : rel3 X z y) (hk : knC y) (hbn : bnC y) (hz : cwR z ∧ twR z) (hy : cwK y ∧ twK y) : Te (fun K => qe_X13_two K x i j z) (fun rr => Te (fun K => ce_X11_two vl K 0 x i j y) (fun rc => (rel3 X rr.2 rc.2.2 ∧ ansI [(1, 1), (2, 4)] rr rc) ∧ (twR rr.2 ∧ cwR rr.2) ∧ (twK rc.2.2 ∧ cwK rc.2.2) ∧ knC rc.2.2 ∧ (∀ D, cOK D → slC y 25000 1 D → slC rc.2.2 25000 1 D) ∧ fr twQ y rc.2.2)) := by
  obtain ⟨⟨St, k⟩, hM, h2⟩ := id h
  have hR : Te (fun K => qe_X13_two K x i j z) (fun rr => gI X rr.2 ∧ fr (pf [1, 2, 3, 4, 5, 6, 7, 8, 9, 27, 41, 42, 44, 45, 46, 120] []) z rr.2) := te_fo (tp_two (b := x) (k := i) (j := j) k.1) (fun K => ff_X13_two)
  have hC : Te (fun K => ce_X11_two vl K 0 x i j y) (fun rc => (gM rc.2.2 ∧ brC rc.2.2 ∧ knC rc.2.2 ∧ fr twP y rc.2.2) ∧ (∀ D, cOK D → slC y 25000 1 D → slC rc.2.2 25000 1 D) ∧ fr twQ y rc.2.2) := te_and (tc_two (x := x) (x1 := i) (x2 := j) hM h2.2.2.1 hk) (tc_twoF hM h2.2.2.1 hk)
  have fin : ∀ (rr : Int32 × ow_MS) (rc : Nat × Int32 × ow_MS), gI X rr.2 ∧ fr (pf [1, 2, 3, 4, 5, 6, 7, 8, 9, 27, 41, 42, 44, 45, 46, 120] []) z rr.2 → ((gM rc.2.2 ∧ brC rc.2.2 ∧ knC rc.2.2 ∧ fr twP y rc.2.2) ∧ (∀ D, cOK D → slC y 25000 1 D → slC rc.2.2 25000 1 D) ∧ fr twQ y rc.2.2) → (twR rr.2 ∧ cwR rr.2) → (twK rc.2.2 ∧ cwK rc.2.2) → ansI [(1, 1), (2, 4)] rr rc → ((rel3 X rr.2 rc.2.2 ∧ ansI [(1, 1), (2, 4)] rr rc) ∧ (twR rr.2 ∧ cwR rr.2) ∧ (twK rc.2.2 ∧ cwK rc.2.2) ∧ knC rc.2.2 ∧ (∀ D, cOK D → slC y 25000 1 D → slC rc.2.2 25000 1 D) ∧ fr twQ y rc.2.2) := fun rr rc ⟨hgI, fR⟩ ⟨⟨hG, hB9, hk2, _⟩, hs1, hf⟩ h1 h3 ha => by
    have no : ∀ g, g ≤ 4000 ∨ 5012 ≤ g ∧ g ≤ 7003 ∨ 10006 ≤ g ∧ g ≤ 24002 → ¬ twQ g := fun g hg h9 => by unfold twQ skP at h9; omega
    have hC9 : relC rc.2.2 St := relC_fr hf (fun q hq => no q (by unfold cW at hq; omega)) k.2.2.2.1
    have h2' : rel2 rr.2 rc.2.2 := by
      obtain ⟨k1, k2, k3, ⟨Ns, q1, q2, q3⟩, Ms, q4, q5, q6⟩ := h2
      exact ⟨relT_k fR hf (by decide) ⟨no _ (by omega), no _ (by omega)⟩ k1, relB_k fR hf (by decide) ⟨no _ (by omega), no _ (by omega), no _ (by omega)⟩ k2, brC_fr hf ⟨no _ (by omega), no _ (by omega), no _ (by omega)⟩ k3, ⟨Ns, rlR_k fR (by decide) q1, rlC_k hf (fun q hq => no q (by unfold cV at hq; omega)) q2, q3⟩, Ms, rlR_k fR (by decide) q4, rlC_k hf (fun q hq => no q (by unfold cV at hq; omega)) q5, q6⟩
    exact ⟨⟨⟨⟨St, hgI, hG.1, relR_fr fR (by decide) k.2.2.1, hC9, k.2.2.2.2⟩, hG, h2'⟩, ha⟩, h1, h3, hk2, hs1, hf⟩
  rcases br_cs k.1 x with hn | ⟨b, n, l, hb20, rfl, hh⟩
  · refine te_two (te_and hR (xq_two0 (k := i) (j := j) k.1 hn hz.2 hz.1)) (te_and hC (xc_two0 (i := i) (j := j) h2.2.2.1 (noB_iff h2.2.1 hn))) (fun rr rc ⟨a1, a2, a3⟩ ⟨b1, b2, b3⟩ => fin rr rc a1 b1 a2 (by rw [b3]; exact ⟨hy.2, hy.1⟩) (Or.inr ⟨1, 1, by simp, a3.2.1, b2⟩))
  · obtain ⟨w, lp, w1, w2, w3, w4⟩ := ltX_of hh hb20 h2.2.1
    have p1 := hh.1
    have p2 := hh.2.1
    have p3 := hh.2.2.1
    refine w_monoE (te_and hR (xq_two (k := i) (j := j) k.1 hb20 hh w1 hz.2 hz.1)) (fun rr ⟨a1, a2, hr⟩ => ?_)
    rcases hr with ⟨r1, r2⟩ | ⟨r0, r1, A, sg, r2, r3⟩
    · refine w_monoE (te_and hC (xc_two (x := i) (x' := j) (A := []) (sg := fun _ => false) hM h2.2.2.1 hk hb20 p1 p2 w3 p3 w4 w2 hbn hy.2 hy.1 (fun h9 => absurd h9 (by omega)))) (fun rc ⟨b1, b2, hc⟩ => fin rr rc a1 b1 a2 b2 ?_)
      rcases hc with ⟨c1, -⟩ | ⟨c1, -⟩
      · exact Or.inr ⟨2, 4, by simp, r1.2.1, c1⟩
      · omega
    · refine w_monoE (te_and hC (xc_two (x := i) (x' := j) (A := A) (sg := sg) hM h2.2.2.1 hk hb20 p1 p2 w3 p3 w4 w2 hbn hy.2 hy.1 (fun _ => r2))) (fun rc ⟨b1, b2, hc⟩ => fin rr rc a1 b1 a2 b2 ?_)
      rcases hc with ⟨-, -, c3⟩ | ⟨-, c1, W, ov, c2, c3⟩
      · omega
      · exact Or.inl ⟨r1, c1, twN_uni (r3 n W ov (by omega) c2) c3⟩
end XTWS
section XTWS2
variable {Pc Pr : ow_MS → Prop}
theorem s3_two (hc : keepP ciX Pc) (hk : ∀ y, Pc y → cwK y ∧ twK y) (hp : ∀ y y1, fr twQ y y1 → cwK y1 → twK y1 → (∀ D, cOK D → slC y 25000 1 D → slC y1 25000 1 D) → Pc y → Pc y1) (hz : ∀ z, Pr z → cwR z ∧ twR z) (hq : ∀ z z1, fr (pf [1, 2, 3, 4, 5, 6, 7, 8, 9, 27, 41, 42, 44, 45, 46, 120] []) z z1 → cwR z1 → twR z1 → Pr z → Pr z1) : stpX Pc Pr lst_two := by
  intro S x1 x2 x3 x4 x5 h pc pr
  have hci := h.1.2.1
  have hc1 : Te (fun K => qe_X13_two K x1 x2 x3 S.2.2) (fun rr => Te (fun K => ce_X11_two S.1 K 0 x1 x2 x3 S.2.1) (fun rc => (REL (S.1, rc.2.2, rr.2) ∧ ansI [(1, 1), (2, 4)] rr rc) ∧ NM rc.2.2 ∧ Pc rc.2.2 ∧ Pr rr.2)) := w_monoE (te_fo (c_two (vl := S.1) (x := x1) (i := x2) (j := x3) h.1.1 hci.1 hci.2.2.1 (hz _ pr) (hk _ pc)) (fun K => ff_X13_two)) (fun rr ⟨hr, fR⟩ => w_monoE hr (fun rc ⟨⟨q1, q2⟩, q3, q4, q5, q6, q7⟩ => ⟨⟨⟨q1, CI_tw q7 q5 q6 hci, jnR_fr fR (by decide) (by decide) h.1.2.2⟩, q2⟩, NM_fr q7 (fun g hg h9 => by unfold twQ skP at hg; omega) h.2, hp _ _ q7 q4.2 q4.1 q6 pc, hq _ _ fR q3.2 q3.1 pr⟩))
  have hs0 : Te (lsV S.1 (fun K => ce_X11_two S.1 K 0 x1 x2 x3 S.2.1) (fun k z => if k = 1 then some (1, z) else if k = 4 then some (2, z) else none) (fun K => qe_X13_two K x1 x2 x3 S.2.2)) (fun S1 => REL S1 ∧ dPhi S.1 ≤ dPhi S1.1) := by
    refine st_int (w_monoE hc1 (fun rr hr => w_monoE hr (fun rc hb => hb.1))) (fun j k hm => ?_)
    simp only [List.mem_cons, List.not_mem_nil, or_false, Prod.mk.injEq] at hm
    rcases hm with ⟨rfl, rfl⟩ | ⟨rfl, rfl⟩
    · exact ⟨by decide, by decide, by decide, fun _ => rfl⟩
    · exact ⟨by decide, by decide, by decide, fun _ => rfl⟩
  have hmp : ∀ (k : Nat) (z : ow_MS) (r : Int32 × ow_MS), ((fun k z => if k = 1 then some (1, z) else if k = 4 then some (2, z) else none) : Nat → ow_MS → Option (Int32 × ow_MS)) k z = some r → r.2 = z := (fun k z r hr => by
    have hr : (if k = 1 then some (1, z) else if k = 4 then some (2, z) else none) = some r := hr
    by_cases c0 : k = 1
    · rw [if_pos c0] at hr
      cases hr
      rfl
    by_cases c1 : k = 4
    · rw [if_neg c0, if_pos c1] at hr
      cases hr
      rfl
    rw [if_neg c0, if_neg c1] at hr
    cases hr)
  have hs : Te (lsV S.1 (fun K => ce_X11_two S.1 K 0 x1 x2 x3 S.2.1) (fun k z => if k = 1 then some (1, z) else if k = 4 then some (2, z) else none) (fun K => qe_X13_two K x1 x2 x3 S.2.2)) (fun S1 => REL2 S1 ∧ dPhi S.1 ≤ dPhi S1.1) := w_monoE (lsV_nm hs0 (w_monoE (te_in2 hc1) (fun rc ⟨_, hb⟩ => hb.2.1)) hmp) (fun S1 ⟨⟨q1, q2⟩, q3⟩ => ⟨⟨q1, q3⟩, q2⟩)
  exact lsV_pp hs (w_monoE (te_in2 hc1) (fun rc ⟨_, hb⟩ => hb.2.2.1)) (w_monoE (te_out hc1) (fun rr ⟨_, hb⟩ => hb.2.2.2)) (fun y v hy => hc (fun g => g = 52001) y _ (fr_J rfl) (fun g hg h9 => by unfold ciX at h9; omega) hy) hmp
theorem s3_conway2 (hc : keepP ciX Pc) (hk : ∀ y, Pc y → cwK y ∧ twK y) (hp : ∀ y y1, fr skP y y1 → cwK y1 → twK y1 → knC y1 → (∀ D, cOK D → slC y 25000 1 D → slC y1 25000 1 D) → Pc y → Pc y1) (hz : ∀ z, Pr z → cwR z ∧ twR z) (hq : ∀ z z1, fr (pf [1, 41, 42, 43, 44, 46] []) z z1 → cwR z1 → twR z1 → Pr z → Pr z1) : stpX Pc Pr lst_conway := by
  intro S x1 x2 x3 x4 x5 h pc pr
  obtain ⟨⟨St, kS⟩, hMS, -⟩ := id h.1.1
  have hc1 : Te (fun K => qe_X13_conway K x1 x2 S.2.2) (fun rr => Te (fun K => ce_X11_conway S.1 K 0 x1 x2 S.2.1) (fun rc => (REL (S.1, rc.2.2, rr.2) ∧ ansI [(1, 1)] rr rc) ∧ NM rc.2.2 ∧ Pc rc.2.2 ∧ Pr rr.2)) := w_monoE (te_and (te_fo (c_conway (vl := S.1) (x := x1) (x' := x2) h.1.1 h.1.2.1.1 h.2 (hz _ pr).1 (hk _ pc).1) (fun K => ff_X13_conway)) (xq_conT (d := x1) (x := x2) kS.1 kS.2.2.1 kS.2.2.2.2 (hz _ pr).2)) (fun rr ⟨⟨hr, fR⟩, qT⟩ => w_monoE (te_and hr (te_and (tc_conK (x := x1) (x' := x2) h.1.1.2.1 h.1.2.1.1) (xc_conT (x := x1) (x' := x2) hMS kS.2.2.2.1 kS.2.2.2.2 h.1.2.1.2.2.1 (hk _ pc).2))) (fun rc ⟨⟨⟨q1, q2⟩, q3, q4, q5, q6⟩, q7, q8⟩ => ⟨⟨⟨q1, CI_sk q6 q5 q7 h.1.2.1, jnR_fr fR (by decide) (by decide) h.1.2.2⟩, q2⟩, NM_fr q6 (fun g hg h9 => by unfold skP at hg; omega) h.2, hp _ _ q6 q4 q8 q5 q7 pc, hq _ _ fR q3 qT pr⟩))
  have hs0 : Te (lsV S.1 (fun K => ce_X11_conway S.1 K 0 x1 x2 S.2.1) (fun k z => if k = 1 then some (1, z) else none) (fun K => qe_X13_conway K x1 x2 S.2.2)) (fun S1 => REL S1 ∧ dPhi S.1 ≤ dPhi S1.1) := by
    refine st_int (w_monoE hc1 (fun rr hr => w_monoE hr (fun rc hb => hb.1))) (fun j k hm => ?_)
    simp only [List.mem_cons, List.not_mem_nil, or_false, Prod.mk.injEq] at hm
    obtain ⟨rfl, rfl⟩ := hm
    exact ⟨by decide, by decide, by decide, fun _ => rfl⟩
  have hmp : ∀ (k : Nat) (z : ow_MS) (r : Int32 × ow_MS), ((fun k z => if k = 1 then some (1, z) else none) : Nat → ow_MS → Option (Int32 × ow_MS)) k z = some r → r.2 = z := (fun k z r hr => by
    have hr : (if k = 1 then some (1, z) else none) = some r := hr
    by_cases c0 : k = 1
    · rw [if_pos c0] at hr
      cases hr
      rfl
    rw [if_neg c0] at hr
    cases hr)
  have hs : Te (lsV S.1 (fun K => ce_X11_conway S.1 K 0 x1 x2 S.2.1) (fun k z => if k = 1 then some (1, z) else none) (fun K => qe_X13_conway K x1 x2 S.2.2)) (fun S1 => REL2 S1 ∧ dPhi S.1 ≤ dPhi S1.1) := w_monoE (lsV_nm hs0 (w_monoE (te_in2 hc1) (fun rc ⟨_, hb⟩ => hb.2.1)) hmp) (fun S1 ⟨⟨q1, q2⟩, q3⟩ => ⟨⟨q1, q3⟩, q2⟩)
  exact lsV_pp hs (w_monoE (te_in2 hc1) (fun rc ⟨_, hb⟩ => hb.2.2.1)) (w_monoE (te_out hc1) (fun rr ⟨_, hb⟩ => hb.2.2.2)) (fun y v hy => hc (fun g => g = 52001) y _ (fr_J rfl) (fun g hg h9 => by unfold ciX at h9; omega) hy) hmp
variable {Qc Qr : ow_MS → Prop}
theorem twK_0 {y : ow_MS} (hY : ∀ g, ¬ spc g → y.1 g = 0 ∧ ∀ i, y.2.1 g i = 0) : twK y := ⟨(0, []), ⟨(hY 25003 (by unfold spc; omega)).2 0, (hY 25002 (by unfold spc; omega)).2 0, fun i a hi => (by rw [List.getElem?_nil] at hi; cases hi)⟩, ⟨Nat.zero_le _, Nat.zero_le _, fun a ha => absurd ha List.not_mem_nil⟩, Or.inl rfl⟩
theorem twR_0 {z : ow_MS} (hz : ∀ g i, ¬ (73 ≤ g ∧ g ≤ 76 ∨ 97 ≤ g ∧ g ≤ 107) → z.2.1 g i = 0) : twR z := fun T1 hT => Or.inl (by
  have e := hT.2.2.1
  rw [hz 45 0 (by omega)] at e
  have l := hT.1
  exact List.eq_nil_of_length_eq_zero (nI_inj9 (a := 0) (b := T1.length) (by omega) (by omega) e).symm)
theorem pc_keep5 (hc : keepP ciX Qc) : keepP ciX (fun y => cwK y ∧ cjT y ∧ twK y ∧ Qc y) := fun F y y1 hf hF h => ⟨cwK_fr hf (fun g hg h9 => hF g hg (by unfold ciX; omega)) h.1, cjT_fr hf (fun h9 => hF _ h9 (by unfold ciX; omega)) (fun h9 => hF _ h9 (by unfold ciX; omega)) h.2.1, twK_fr hf (fun g hg h9 => hF g hg (by unfold ciX; omega)) h.2.2.1, hc F y y1 hf hF h.2.2.2⟩
theorem pr_keep5 (hr : keepP rfX Qr) : keepP rfX (fun z => cwR z ∧ enW z ∧ epA z ∧ twR z ∧ Qr z) := fun F z z1 hf hF h => ⟨cwR_fr hf (fun h9 => hF _ h9 (by unfold rfX; omega)) (fun h9 => hF _ h9 (by unfold rfX; omega)) h.1, enW_fr hf (fun h9 => hF _ h9 (by unfold rfX; omega)) h.2.1, epA_keep F z z1 hf hF h.2.2.1, twR_fr hf (fun h9 => hF _ h9 (by unfold rfX; omega)) (fun h9 => hF _ h9 (by unfold rfX; omega)) h.2.2.2.1, hr F z z1 hf hF h.2.2.2.2⟩
theorem tw_jn {y y1 : ow_MS} (hf : fr jnP y y1) (hs : ∀ D, cOK D → slC y 25000 0 D → slC y1 25000 0 D) (h : twK y) : twK y1 := by
  obtain ⟨C, c1, c2, c3⟩ := h
  exact ⟨C, hs C c2 c1, c2, c3.imp id (fun ⟨A, sg, c, q1, q2, q3⟩ => ⟨A, sg, c, q1, q2, gdK_fr hf (by unfold jnP; omega) q3⟩)⟩
/-- PureAll from FIVE cases -/
theorem pure_of5 (hc : keepP ciX Qc) (hr : keepP rfX Qr) (hj : ∀ y y1, fr jnP y y1 → (∀ D, cOK D → slC y 25000 0 D → slC y1 25000 0 D) → Qc y → Qc y1) (hp : ∀ y y1, fr skP y y1 → (∀ D, cOK D → slC y 25000 1 D → slC y1 25000 1 D) → Qc y → Qc y1) (hm : ∀ y y1, fr mxQ y y1 → Qc y → Qc y1) (ht : ∀ y y1, fr twQ y y1 → (∀ D, cOK D → slC y 25000 1 D → slC y1 25000 1 D) → Qc y → Qc y1) (hq : ∀ z z1, fr (pf [1, 41, 42, 43, 44, 46] []) z z1 → Qr z → Qr z1) (hn : ∀ z z1, fr (pf [1, 58, 59, 60, 61, 62, 63, 77, 78, 79, 80] []) z z1 → Qr z → Qr z1) (hw : ∀ z z1, fr (pf [1, 2, 3, 4, 5, 6, 7, 8, 9, 27, 41, 42, 44, 45, 46, 120] []) z z1 → Qr z → Qr z1) (h_signature : stpX (fun y => cwK y ∧ cjT y ∧ twK y ∧ Qc y) (fun z => cwR z ∧ enW z ∧ epA z ∧ twR z ∧ Qr z) lst_signature) (h_cover : stpX (fun y => cwK y ∧ cjT y ∧ twK y ∧ Qc y) (fun z => cwR z ∧ enW z ∧ epA z ∧ twR z ∧ Qr z) lst_cover) (h_colours : stpX (fun y => cwK y ∧ cjT y ∧ twK y ∧ Qc y) (fun z => cwR z ∧ enW z ∧ epA z ∧ twR z ∧ Qr z) lst_colours) (h_chain : stpX (fun y => cwK y ∧ cjT y ∧ twK y ∧ Qc y) (fun z => cwR z ∧ enW z ∧ epA z ∧ twR z ∧ Qr z) lst_chain) (h_rank : stpX (fun y => cwK y ∧ cjT y ∧ twK y ∧ Qc y) (fun z => cwR z ∧ enW z ∧ epA z ∧ twR z ∧ Qr z) lst_rank) (i_c : ∀ y, (∀ g, ¬ spc g → y.1 g = 0 ∧ ∀ i, y.2.1 g i = 0) → (∃ z8 z0 zA z1 b, (∀ K, b ≤ K → ce_X8i_b8 K 24000 zeroS = some z8 ∧ ce_X0i_b0 K 41000 53001 zeroS = some z0 ∧ ce_X1i_b1 K 43000 zeroS = some zA ∧ ce_X1j_b1b K 43000 53001 (usZ zA [53]) = some z1) ∧ y = Zc z8 z0 z1) → Qc y) (i_r : ∀ z, (∀ g, g < 73 → z.1 g = 0) → (∀ g i, ¬ (73 ≤ g ∧ g ≤ 76 ∨ 97 ≤ g ∧ g ≤ 107) → z.2.1 g i = 0) → (∃ m1 m2 b, (∀ K, b ≤ K → qe_X13_makeSimples_a K Z13 = some m1 ∧ qe_X13_makePermutations_a K m1 = some m2) ∧ z = usZ m2 blM) → Qr z) : PureAll :=
  pure_ofW (pc_keep5 hc) (pr_keep5 hr) (fun y y1 f s h => ⟨pc_jn f s h.1, cjT_fr f (by unfold jnP; omega) (by unfold jnP; omega) h.2.1, tw_jn f s h.2.2.1, hj y y1 f s h.2.2.2⟩)
    (s3_conway2 (pc_keep5 hc) (fun y h => ⟨h.1, h.2.2.1⟩) (fun y y1 f k t _ s h => ⟨k, cjT_fr f (by unfold skP; omega) (by unfold skP; omega) h.2.1, t, hp y y1 f s h.2.2.2⟩) (fun z h => ⟨h.1, h.2.2.2.1⟩) (fun z z1 f k t h => ⟨k, enW_fr f (by decide) h.2.1, epA_fr f (fun g g1 g2 h9 => pf_n8 h9 (by decide) g1 g2) h.2.2.1, t, hq z z1 f h.2.2.2.2⟩))
    h_signature h_cover h_colours
    (s3_maps (pc_keep5 hc) (fun y h => h.2.1) (fun y y1 f h => ⟨cwK_fr f (fun g hg h9 => by unfold mxQ at hg; omega) h.1, cjT_fr f (by unfold mxQ; omega) (by unfold mxQ; omega) h.2.1, twK_fr f (fun g hg h9 => by unfold mxQ at hg; omega) h.2.2.1, hm y y1 f h.2.2.2⟩) (fun z h => h.2.2.1) (fun z z1 f h => ⟨cwR_fr f (by decide) (by decide) h.1, enW_fr f (by decide) h.2.1, epA_fr f (fun g g1 g2 h9 => pf_n8 h9 (by decide) g1 g2) h.2.2.1, twR_fr f (by decide) (by decide) h.2.2.2.1, hn z z1 f h.2.2.2.2⟩))
    h_chain h_rank (s3_normal (pc_keep5 hc) (pr_keep5 hr)) (s3_factor (pc_keep5 hc) (pr_keep5 hr) (fun z h => h.2.1)) (s3_equal (pc_keep5 hc) (pr_keep5 hr)) (s3_summit (pc_keep5 hc) (pr_keep5 hr)) (s3_conjugate (pc_keep5 hc) (pr_keep5 hr))
    (s3_two (pc_keep5 hc) (fun y h => ⟨h.1, h.2.2.1⟩) (fun y y1 f k t s h => ⟨k, cjT_fr f (by unfold twQ skP; omega) (by unfold twQ skP; omega) h.2.1, t, ht y y1 f s h.2.2.2⟩) (fun z h => ⟨h.1, h.2.2.2.1⟩) (fun z z1 f k t h => ⟨k, enW_fr f (by decide) h.2.1, epA_fr f (fun g g1 g2 h9 => pf_n8 h9 (by decide) g1 g2) h.2.2.1, t, hw z z1 f h.2.2.2.2⟩))
    (fun y hY hI => ⟨cwK_0 hY, by obtain ⟨z8, z0, zA, z1, b, hb, rfl⟩ := id hI; exact cj_init (fun K hK => (hb K hK).2.1), twK_0 hY, i_c y hY hI⟩) (fun z h1 h2 h3 => ⟨cwR_0 h2, by obtain ⟨m1, m2, b, hb, rfl⟩ := id h3; exact en_init hb, by obtain ⟨m1, m2, b, hb, rfl⟩ := id h3; exact ep_init hb, twR_0 h2, i_r z h1 h2 h3⟩)
end XTWS2
