section
/-! the law's steps without a comparison: cover and colours -/
section XPT1
variable {X : (Nat → Nat → Int32) → Prop} {z y : ow_MS} {vl : Nat → Nat} {x x' : Int32} {α β : Type} {Pc Pr : ow_MS → Prop} {P P' : Nat → Prop}
def lsN9 (vl : Nat → Nat) (fc : Nat → Option (Nat × α × ow_MS)) (cv : α → Int64) (mp : Nat → ow_MS → Option (Int32 × ow_MS)) (fm : Nat → Option (β × ow_MS)) (K : Nat) : Option ow_LwS := cs1 (tc1 (fc K) mp fun v3 z1 => ctJ (cX vl) z1 52001 0 (cv v3) fun z4 => some (0, z4)) fun v2 zc1 => cs1 (fm K) fun v4 zm3 => some (vl, zc1, zm3)
theorem st_N9 {fc : Nat → Option (Nat × α × ow_MS)} {cv : α → Int64} {mp : Nat → ow_MS → Option (Int32 × ow_MS)} {fm : Nat → Option (β × ow_MS)} {B : Nat → Prop} (hkc : ∀ y1, fr (fun g => P' g ∨ g = 52001) y y1 → Pc y1) (hkr : ∀ z1, fr P z z1 → Pr z1) (h : REL2 (vl, y, z)) (hP : ¬ P 48 ∧ ¬ P 50) (hP' : ∀ g, P' g → ¬ ciH g) (hN : ∀ g, P' g → ¬ (1001 ≤ g ∧ g ≤ 1003 ∨ 2001 ≤ g ∧ g ≤ 2005 ∨ 3001 ≤ g ∧ g ≤ 3005)) (hc : Te fm (fun rr => Te fc (fun rc => rel3 XR rr.2 rc.2.2 ∧ B rc.1 ∧ fr P z rr.2 ∧ fr P' y rc.2.2))) (hmp : ∀ k, B k → k ≠ 0 → ∃ j, ∀ w, mp k w = some (j, w)) : Te (lsN9 vl fc cv mp fm) (fun S1 => (REL2 S1 ∧ dPhi vl ≤ dPhi S1.1) ∧ Pc S1.2.1 ∧ Pr S1.2.2) := by
  obtain ⟨⟨a, zm⟩, ⟨b1, hb1⟩, ⟨k, v, zc⟩, ⟨b2, hb2⟩, hR, hB, f1, f2⟩ := hc
  have f1 : fr P z zm := f1
  have f2 : fr P' y zc := f2
  have hR : rel3 XR zm zc := hR
  have hB : B k := hB
  have hRE : REL (vl, zc, zm) := ⟨hR, CI_fr f2 hP' h.1.2.1, jnR_fr f1 hP.1 hP.2 h.1.2.2⟩
  have hNM : NM zc := NM_fr f2 hN h.2
  by_cases k0 : k = 0
  · subst k0
    refine ⟨(vl, usJ zc 52001 0 (cv v), zm), ⟨b1 + b2, fun K hK => ?_⟩, ⟨⟨REL_J hRE, NM_J hNM⟩, Nat.le_refl _⟩, hkc _ (fr_J2 (fr_mono (fun g hg => Or.inl hg) f2) (Or.inr rfl)), hkr _ f1⟩
    unfold lsN9
    rw [hb1 K (by omega), hb2 K (by omega)]
    rfl
  · obtain ⟨j, hj⟩ := hmp k hB k0
    refine ⟨(vl, zc, zm), ⟨b1 + b2, fun K hK => ?_⟩, ⟨⟨hRE, hNM⟩, Nat.le_refl _⟩, hkc _ (fr_mono (fun g hg => Or.inl hg) f2), hkr _ f1⟩
    unfold lsN9
    rw [hb1 K (by omega), hb2 K (by omega)]
    have e1 : tc1 (some (k, v, zc)) mp (fun v3 z1 => ctJ (cX vl) z1 52001 0 (cv v3) fun z4 => some (0, z4)) = some (j, zc) := by
      show (if k = 0 then _ else mp k zc) = _
      rw [if_neg k0, hj]
    rw [e1]
    rfl
theorem tc_coverK (hM : gM y) : Te (fun K => ce_X11_cover vl K 0 x x' y) (fun r => (gM r.2.2 ∧ fr cxP y r.2.2) ∧ (r.1 = 0 ∨ r.1 = 1)) := by
  refine e_X11_cover ?_; unfold cm_X11_cover_0
  refine w_tc0 (tc_need hM.1.1) ?_ ?_
  · rintro y1 ⟨h1, rfl⟩
    rcases h1 with ⟨-, d, A, sg, c, hd, rfl, hs, hA, hne⟩ | h1
    · refine w_cs0 (tc_ld3 nH4 hM.1 hd hs hA) ?_
      rintro y2 ⟨g1, g2, S, G, g3, g4⟩
      refine w_cs0 (tc_findCover nH4 g4 g3.1) ?_
      rintro y3 ⟨k1, k2⟩
      refine w_cs1 (tc_coverAt k1) ?_
      rintro v z e
      dsimp only at e
      rw [e]
      exact w_some ⟨⟨gM_cv g1 g2 k2 hM, fr_tr (fr_mono (fun g hg => Or.inl hg) g2) (fr_mono (fun g hg => Or.inr hg) k2)⟩, Or.inl rfl⟩
    · exact absurd (show (0 : Nat) = 1 from h1.1) (by decide)
  · rintro a y1 ha ⟨h1, rfl⟩
    rcases h1 with h1 | h1
    · exact absurd h1.1 ha
    · exact w_some ⟨⟨hM, fr_rf⟩, Or.inr h1.1⟩
theorem tc_coloursK (hM : gM y) : Te (fun K => ce_X11_colours vl K 0 x x' y) (fun r => (gM r.2.2 ∧ fr cxP y r.2.2) ∧ (r.1 = 0 ∨ r.1 = 1 ∨ r.1 = 2)) := by
  refine e_X11_colours ?_; unfold cm_X11_colours_0
  refine w_tc0 (tc_need hM.1.1) ?_ ?_
  · rintro y1 ⟨h1, rfl⟩
    rcases h1 with ⟨-, d, A, sg, c, hd, rfl, hs, hA, hne⟩ | h1
    · refine w_if (fun _ => w_some ⟨⟨hM, fr_rf⟩, Or.inr (Or.inr rfl)⟩) (fun _ => w_if (fun _ => ?_) (fun _ => w_some ⟨⟨hM, fr_rf⟩, Or.inr (Or.inr rfl)⟩))
      refine w_cs0 (tc_ld3 nH4 hM.1 hd hs hA) ?_
      rintro y2 ⟨g1, g2, S, G, g3, g4⟩
      refine w_cs0 (tc_findCover nH4 g4 g3.1) ?_
      rintro y3 ⟨k1, k2⟩
      refine w_cs1 (tc_countCol k1) ?_
      rintro v z e
      dsimp only at e
      rw [e]
      exact w_some ⟨⟨gM_cv g1 g2 k2 hM, fr_tr (fr_mono (fun g hg => Or.inl hg) g2) (fr_mono (fun g hg => Or.inr hg) k2)⟩, Or.inl rfl⟩
    · exact absurd (show (0 : Nat) = 1 from h1.1) (by decide)
  · rintro a y1 ha ⟨h1, rfl⟩
    rcases h1 with h1 | h1
    · exact absurd h1.1 ha
    · exact w_some ⟨⟨hM, fr_rf⟩, Or.inr (Or.inl h1.1)⟩
theorem rel_cv9 {z1 y1 : ow_MS} (h : rel3 X z y) (hgI : gI X z1) (fR : fr (pf [1, 58, 59, 60, 61, 62, 63, 64, 65, 66, 67, 68, 69, 70, 71, 72] []) z z1) (hG : gM y1) (hf : fr cxP y y1) : rel3 X z1 y1 := by
  obtain ⟨⟨St, k⟩, hM, h2⟩ := h
  have hC : relC y1 St := relC_fr hf (fun q hq h9 => by unfold cW at hq; unfold cxP cL cvP at h9; omega) k.2.2.2.1
  have h2' : rel2 z1 y1 := by
    obtain ⟨k1, k2, k3, ⟨Ns, q1, q2, q3⟩, Ms, q4, q5, q6⟩ := h2
    exact ⟨relT_k fR hf (by decide) (by unfold cxP cL cvP; omega) k1, relB_k fR hf (by decide) (by unfold cxP cL cvP; omega) k2, brC_fr hf (by unfold cxP cL cvP; omega) k3, ⟨Ns, rlR_k fR (by decide) q1, rlC_k hf (fun q hq => by unfold cV at hq; unfold cxP cL cvP; omega) q2, q3⟩, Ms, rlR_k fR (by decide) q4, rlC_k hf (fun q hq => by unfold cV at hq; unfold cxP cL cvP; omega) q5, q6⟩
  exact ⟨⟨St, hgI, hG.1, relR_fr fR (by decide) k.2.2.1, hC, k.2.2.2.2⟩, hG, h2'⟩
theorem c_coverN9 (h : rel3 X z y) : Te (fun K => qe_X13_cover K x x' z) (fun rr => Te (fun K => ce_X11_cover vl K 0 x x' y) (fun rc => rel3 X rr.2 rc.2.2 ∧ (rc.1 = 0 ∨ rc.1 = 1) ∧ fr (pf [1, 58, 59, 60, 61, 62, 63, 64, 65, 66, 67, 68, 69, 70, 71, 72] []) z rr.2 ∧ fr cxP y rc.2.2)) := by
  obtain ⟨⟨St, k⟩, hM, h2⟩ := id h
  exact te_two (te_fo (tp_cover (d := x) (k := x') k.1) (fun K => ff_X13_cover)) (tc_coverK (x := x) (x' := x') hM) (fun rr rc ⟨hgI, fR⟩ ⟨⟨hG, hf⟩, hb⟩ => ⟨rel_cv9 h hgI fR hG hf, hb, fR, hf⟩)
theorem c_coloursN9 (h : rel3 X z y) : Te (fun K => qe_X13_colours K x x' z) (fun rr => Te (fun K => ce_X11_colours vl K 0 x x' y) (fun rc => rel3 X rr.2 rc.2.2 ∧ (rc.1 = 0 ∨ rc.1 = 1 ∨ rc.1 = 2) ∧ fr (pf [1, 58, 59, 60, 61, 62, 63, 64, 65, 66, 67, 68, 69, 70, 71, 72] []) z rr.2 ∧ fr cxP y rc.2.2)) := by
  obtain ⟨⟨St, k⟩, hM, h2⟩ := id h
  exact te_two (te_fo (tp_colours (d := x) (k := x') k.1) (fun K => ff_X13_colours)) (tc_coloursK (x := x) (x' := x') hM) (fun rr rc ⟨hgI, fR⟩ ⟨⟨hG, hf⟩, hb⟩ => ⟨rel_cv9 h hgI fR hG hf, hb, fR, hf⟩)
/-- cover without a comparison is a step -/
theorem s3n_cover (hkc : ∀ y y1, fr (fun g => cxP g ∨ g = 52001) y y1 → Pc y → Pc y1) (hkr : ∀ z z1, fr (pf [1, 58, 59, 60, 61, 62, 63, 64, 65, 66, 67, 68, 69, 70, 71, 72] []) z z1 → Pr z → Pr z1) : stpX Pc Pr (fun vl K x1 x2 _ _ _ zc zm => lsN9 vl (fun K => ce_X11_cover vl K 0 x1 x2 zc) (fun v => v.toInt64) (fun k z => if k = 1 then some (1, z) else none) (fun K => qe_X13_cover K x1 x2 zm) K) := by
  intro S x1 x2 x3 x4 x5 h pc pr
  refine st_N9 (P := pf [1, 58, 59, 60, 61, 62, 63, 64, 65, 66, 67, 68, 69, 70, 71, 72] []) (P' := cxP) (B := fun k => k = 0 ∨ k = 1) (fun y1 f => hkc _ _ f pc) (fun z1 f => hkr _ _ f pr) h (by decide) (fun g hg h9 => by unfold cxP cL cvP at hg; unfold ciH at h9; omega) (fun g hg h9 => by unfold cxP cL cvP at hg; omega) (c_coverN9 h.1.1) (fun k hk k0 => ⟨1, fun w => ?_⟩)
  rcases hk with hk | hk
  · exact absurd hk k0
  · exact if_pos hk
theorem s3n_colours (hkc : ∀ y y1, fr (fun g => cxP g ∨ g = 52001) y y1 → Pc y → Pc y1) (hkr : ∀ z z1, fr (pf [1, 58, 59, 60, 61, 62, 63, 64, 65, 66, 67, 68, 69, 70, 71, 72] []) z z1 → Pr z → Pr z1) : stpX Pc Pr (fun vl K x1 x2 _ _ _ zc zm => lsN9 vl (fun K => ce_X11_colours vl K 0 x1 x2 zc) (fun v => v) (fun k z => if k = 1 then some (1, z) else if k = 2 then some (2, z) else none) (fun K => qe_X13_colours K x1 x2 zm) K) := by
  intro S x1 x2 x3 x4 x5 h pc pr
  refine st_N9 (P := pf [1, 58, 59, 60, 61, 62, 63, 64, 65, 66, 67, 68, 69, 70, 71, 72] []) (P' := cxP) (B := fun k => k = 0 ∨ k = 1 ∨ k = 2) (fun y1 f => hkc _ _ f pc) (fun z1 f => hkr _ _ f pr) h (by decide) (fun g hg h9 => by unfold cxP cL cvP at hg; unfold ciH at h9; omega) (fun g hg h9 => by unfold cxP cL cvP at hg; omega) (c_coloursN9 h.1.1) (fun k hk k0 => ?_)
  rcases hk with hk | hk | hk
  · exact absurd hk k0
  · exact ⟨1, fun w => if_pos hk⟩
  · exact ⟨2, fun w => (if_neg (by omega)).trans (if_pos hk)⟩
end XPT1
end
