/-! conway is a step of the law; what is left of the whole -/
section XSB
variable {vl : Nat → Nat} {y : ow_MS}
theorem te_in2 {O P : Type} {f : Nat → Option O} {g : Nat → Option P} {M : O → P → Prop} (h : Te f (fun a => Te g (fun b => M a b))) : Te g (fun b => ∃ a, M a b) := by
  obtain ⟨a, -, ⟨b, hb, hM⟩⟩ := h
  exact ⟨b, hb, a, hM⟩
theorem te_out {O P : Type} {f : Nat → Option O} {g : Nat → Option P} {M : O → P → Prop} (h : Te f (fun a => Te g (fun b => M a b))) : Te f (fun a => ∃ b, M a b) := by
  obtain ⟨a, ha, ⟨b, hb, hM⟩⟩ := h
  exact ⟨a, ha, b, hM⟩
theorem tc_unfK {g' p' s' c : Nat} {A : rn_L} {sg : Nat → Bool} (hg' : tH g' p') (hd : g' + 6 ≤ 24000) (hs' : s' < p') (hb : slC y g' s' (clC sg A)) (hA : okL A c) (hby : byR y (g' + 1)) (hk : knC y) (hl : lvS y) : Te (fun K => ce_X8_unfoldCode vl K 24000 g' (nI s') y) (fun y1 => ∀ D, cOK D → slC y 25000 1 D → slC y1 25000 1 D) := by
  obtain ⟨C, cc1, cc2⟩ := hk.2.1 0 (by omega)
  refine e_X8_unfoldCode ?_; unfold cm_X8_unfoldCode_0
  refine w_cs1 (tc_isKnown2 (s := 0) (by omega) hg' (by omega) hs' hb (okL_c hA).2 hby cc1 cc2) ?_
  rintro v y1 ⟨h1, k1, -, f1⟩
  dsimp only at h1 k1 f1
  have f1s : fr skP y y1 := fr_mono (fun g hg => by unfold cW at hg; unfold skP; omega) f1
  have l1 : lvS y1 := fun j hj => by
    obtain ⟨T, t1, t2⟩ := hl j hj
    exact ⟨T, cAt_fr f1 (fun g hg h9 => by unfold cP lv at hg; unfold cW at h9; omega) t1, t2⟩
  refine w_if (fun _ => ?_) (fun _ => w_some (fun D hD hs => k1 1 D (by omega) hD hs))
  refine w_cs0 (tc_fillA ch_24003 (by omega)) ?_
  rintro y2 ⟨-, f2⟩
  refine w_cs0 (tc_fillA ch_24004 (by omega)) ?_
  rintro y3 ⟨-, f3⟩
  have f13 : fr skP y1 y3 := fr_tr (fr_mono (fun g hg => by unfold skP; omega) f2) (fr_mono (fun g hg => by unfold skP; omega) f3)
  have f13a : fr (fun g => g = 24003 ∨ g = 24004) y1 y3 := fr_tr (fr_mono (fun g hg => by omega) f2) (fr_mono (fun g hg => by omega) f3)
  have l3 : lvS y3 := fun j hj => by
    obtain ⟨T, t1, t2⟩ := l1 j hj
    exact ⟨T, cAt_fr f13a (fun g hg h9 => by unfold cP lv at hg; omega) t1, t2⟩
  obtain ⟨T, t1, t2⟩ := l3 0 (by omega)
  have s3 : slC y3 g' s' (clC sg A) := slC_fr (fr_tr f1s f13) (fun q hq h9 => by unfold cW at hq; unfold skP at h9; omega) hb
  refine w_crX (j := 0) rfl (by omega) (w_cs0 (tc_load2 (lv_nH (L := 0) (by omega)) hg' (Or.inr (by omega)) hs' hA s3 t1 t2) ?_)
  rintro y4 ⟨⟨T1, q1, q2, q3⟩, f4⟩
  have n4 := q1.2.2.1
  have l4 : lvS y4 := lvS_fr (L := 0) f4 (fun g hg => Or.inl (cL_in hg)) ⟨T1, q1.1, n4.2.2.1⟩ l3
  refine w_cs0 (tc_unfold l4 q1.1 ⟨n4.1, n4.2.1, n4.2.2.1, by have := n4.2.2.2; omega⟩) ?_
  rintro y5 ⟨l5, f5⟩
  have f45 : fr (fun g => 24003 ≤ g ∧ g ≤ 24004 ∨ 26001 ≤ g ∧ g ≤ 38011) y1 y5 := fr_tr (fr_mono (fun g hg => by omega) f13a) (fr_tr (fr_mono (fun g hg => by unfold cL at hg; omega) f4) (fr_mono (fun g hg => by unfold unP at hg; omega) f5))
  exact w_some (fun D hD hs => slC_fr f45 (fun q hq h9 => by unfold cW at hq; omega) (k1 1 D (by omega) hD hs))
theorem tc_conK {x x' : Int32} (hM : gM y) (hk : knC y) : Te (fun K => ce_X11_conway vl K 0 x x' y) (fun r => ∀ D, cOK D → slC y 25000 1 D → slC r.2.2 25000 1 D) := by
  refine e_X11_conway ?_; unfold cm_X11_conway_0
  refine w_tc0 (tc_need hM.1.1) ?_ ?_
  · rintro y1 ⟨h1, rfl⟩
    rcases h1 with ⟨-, d, A, sg, c, hd, rfl, hs, hA, hne⟩ | h1
    · refine w_cs0 (tc_unfK ch_1000 (by omega) hd hs hA hM.1.1.1 hk (lvS_ns hM.1.2.1)) ?_
      rintro y2 k2
      refine w_cs1 tc_conwayAt ?_
      rintro v z ⟨e2, -⟩
      dsimp only at e2
      rw [e2]
      exact w_some k2
    · exact absurd (show (0 : Nat) = 1 from h1.1) (by decide)
  · rintro a y1 ha ⟨h1, rfl⟩
    exact w_some (fun D _ hs => hs)
/-- what the class keeps besides, where only the skein's rows changed -/
theorem CI_sk {y1 : ow_MS} (hf : fr skP y y1) (h1 : knC y1) (h2 : ∀ D, cOK D → slC y 25000 1 D → slC y1 25000 1 D) (h : CI vl y) : CI vl y1 := by
  obtain ⟨-, ⟨C, c1, c2, c3⟩, i3, i4, i5, i6, i7, i8⟩ := h
  have no : ∀ g, 24005 ≤ g ∧ g ≤ 25000 ∨ 38012 ≤ g → ¬ skP g := fun g hg h9 => by unfold skP at h9; omega
  refine ⟨h1, ⟨C, h2 C c2 c1, c2, c3.imp id (fun ⟨A, sg, c, q1, S, G, q2, q3, q4, q5⟩ => ⟨A, sg, c, q1, S, G, q2, (hf 40008 (no _ (by omega))).1.trans q3, (hf 24009 (no _ (by omega))).1.trans q4, fun k hk => by rw [(hf 24006 (no _ (by omega))).2.1]; exact q5 k hk⟩)⟩, bnC_fr hf (fun m hm => no _ (by omega)) i3, mpC_fr hf ⟨no _ (by omega), no _ (by omega), no _ (by omega)⟩ i4, ?_, fun m hm => ?_, fun i k hi hk => ?_, i8⟩
  · obtain ⟨k, k1, k2, k3⟩ := i5
    refine ⟨k, k1, by rw [(hf 41010 (no _ (by omega))).1]; exact k2, fun s hs => ?_⟩
    rw [(hf 41012 (no _ (by omega))).2.1, (hf 41013 (no _ (by omega))).2.1, (hf 41014 (no _ (by omega))).2.1]
    exact k3 s hs
  · rw [(hf 43005 (no _ (by omega))).2.1]
    exact i6 m hm
  · rw [(hf (45001 + i) (no _ (by omega))).2.1]
    exact i7 i k hi hk
variable {Pc Pr : ow_MS → Prop}
theorem s3_conway (hc : keepP ciX Pc) (hk : ∀ y, Pc y → cwK y) (hp : ∀ y y1, fr skP y y1 → cwK y1 → knC y1 → (∀ D, cOK D → slC y 25000 1 D → slC y1 25000 1 D) → Pc y → Pc y1) (hz : ∀ z, Pr z → cwR z) (hq : ∀ z z1, fr (pf [1, 41, 42, 43, 44, 46] []) z z1 → cwR z1 → Pr z → Pr z1) : stpX Pc Pr lst_conway := by
  intro S x1 x2 x3 x4 x5 h pc pr
  have hc1 : Te (fun K => qe_X13_conway K x1 x2 S.2.2) (fun rr => Te (fun K => ce_X11_conway S.1 K 0 x1 x2 S.2.1) (fun rc => (REL (S.1, rc.2.2, rr.2) ∧ ansI [(1, 1)] rr rc) ∧ NM rc.2.2 ∧ Pc rc.2.2 ∧ Pr rr.2)) := w_monoE (te_fo (c_conway (vl := S.1) (x := x1) (x' := x2) h.1.1 h.1.2.1.1 h.2 (hz _ pr) (hk _ pc)) (fun K => ff_X13_conway)) (fun rr ⟨hr, fR⟩ => w_monoE (te_and hr (tc_conK (x := x1) (x' := x2) h.1.1.2.1 h.1.2.1.1)) (fun rc ⟨⟨⟨q1, q2⟩, q3, q4, q5, q6⟩, q7⟩ => ⟨⟨⟨q1, CI_sk q6 q5 q7 h.1.2.1, jnR_fr fR (by decide) (by decide) h.1.2.2⟩, q2⟩, NM_fr q6 (fun g hg h9 => by unfold skP at hg; omega) h.2, hp _ _ q6 q4 q5 q7 pc, hq _ _ fR q3 pr⟩))
  have hs0 : Te (lsV S.1 (fun K => ce_X11_conway S.1 K 0 x1 x2 S.2.1) (fun k z => if k = 1 then some (1, z) else none) (fun K => qe_X13_conway K x1 x2 S.2.2)) (fun S1 => REL S1 ∧ dPhi S.1 ≤ dPhi S1.1) := by
    refine st_int (w_monoE hc1 (fun rr hr => w_monoE hr (fun rc hb => hb.1))) (fun j k hm => ?_)
    simp only [List.mem_cons, List.not_mem_nil, or_false, Prod.mk.injEq] at hm
    obtain ⟨rfl, rfl⟩ := hm
    exact ⟨by decide, by decide, by decide, fun _ => rfl⟩
  have hmp : ∀ (k : Nat) (z : ow_MS) (r : Int32 × ow_MS), ((fun k z => if k = 1 then some (1, z) else none) : Nat → ow_MS → Option (Int32 × ow_MS)) k z = some r → r.2 = z := (fun k z r hr => by
    have hr : (if k = 1 then some (1, z) else none) = some r := hr
    by_cases c0 : k = 1
    · rw [if_pos c0] at hr
      cases hr
      rfl
    rw [if_neg c0] at hr
    cases hr)
  have hs : Te (lsV S.1 (fun K => ce_X11_conway S.1 K 0 x1 x2 S.2.1) (fun k z => if k = 1 then some (1, z) else none) (fun K => qe_X13_conway K x1 x2 S.2.2)) (fun S1 => REL2 S1 ∧ dPhi S.1 ≤ dPhi S1.1) := w_monoE (lsV_nm hs0 (w_monoE (te_in2 hc1) (fun rc ⟨_, hb⟩ => hb.2.1)) hmp) (fun S1 ⟨⟨q1, q2⟩, q3⟩ => ⟨⟨q1, q3⟩, q2⟩)
  exact lsV_pp hs (w_monoE (te_in2 hc1) (fun rc ⟨_, hb⟩ => hb.2.2.1)) (w_monoE (te_out hc1) (fun rr ⟨_, hb⟩ => hb.2.2.2)) (fun y v hy => hc (fun g => g = 52001) y _ (fr_J rfl) (fun g hg h9 => by unfold ciX at h9; omega) hy) hmp
end XSB
