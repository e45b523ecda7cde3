/-! the steps of the law with the codes of their own lists; what is left of the whole -/
def REL2 (S : ow_LwS) : Prop := REL S ∧ NM S.2.1
def stp2 (f : (Nat → Nat) → Nat → Int32 → Int32 → Int32 → Int32 → Int32 → ow_MS → ow_MS → Option ow_LwS) : Prop := ∀ (S : ow_LwS) (x1 x2 x3 x4 x5 : Int32), REL2 S → Te (fun K => f S.1 K x1 x2 x3 x4 x5 S.2.1 S.2.2) (fun S1 => REL2 S1 ∧ dPhi S.1 ≤ dPhi S1.1)
section XS3
variable {vl : Nat → Nat} {Q : ow_LwS → Prop}
theorem NM_J {y : ow_MS} {v : Int64} (h : NM y) : NM (usJ y 52001 0 v) := h
theorem lsV_nm {fc : Nat → Option (Nat × Int32 × ow_MS)} {mp : Nat → ow_MS → Option (Int32 × ow_MS)} {fm : Nat → Option (Int32 × ow_MS)} (h : Te (lsV vl fc mp fm) Q) (hn : Te fc (fun rc => NM rc.2.2)) (hmp : ∀ k z r, mp k z = some r → r.2 = z) : Te (lsV vl fc mp fm) (fun S1 => Q S1 ∧ NM S1.2.1) := by
  obtain ⟨S1, ⟨b1, hb1⟩, hQ⟩ := h
  obtain ⟨⟨k, v, zc⟩, ⟨b2, hb2⟩, hN⟩ := hn
  have hN : NM zc := hN
  refine ⟨S1, ⟨b1, hb1⟩, hQ, ?_⟩
  have e1 := hb1 (b1 + b2) (by omega)
  have e2 := hb2 (b1 + b2) (by omega)
  have main : ∀ (a : Int32) (zc1 : ow_MS), NM zc1 → (cs1 (fm (b1 + b2)) fun v4 zm3 => cs1 (qe_X13_thrown (b1 + b2) zm3) fun v6 zm5 => (if v6 = a then (if a = 0 then crJ (cX vl) zc1 52001 0 fun v7 => (if (lg_cmp v7 v4.toInt64) = 0 then some (vl, zc1, zm5) else none) else some (vl, zc1, zm5)) else none)) = some S1 → NM S1.2.1 := by
    intro a zc1 hz h9
    cases hf : fm (b1 + b2) with
    | none =>
      rw [hf] at h9
      cases h9
    | some q =>
      obtain ⟨v4, zm3⟩ := q
      rw [hf] at h9
      have h9 : (if zm3.1 1 = a then (if a = 0 then crJ (cX vl) zc1 52001 0 fun v7 => (if (lg_cmp v7 v4.toInt64) = 0 then some (vl, zc1, zm3) else none) else some (vl, zc1, zm3)) else none) = some S1 := h9
      by_cases c1 : zm3.1 1 = a
      · rw [if_pos c1] at h9
        by_cases c2 : a = 0
        · rw [if_pos c2] at h9
          have h9 : (if lg_cmp (zc1.2.2 52001 0) v4.toInt64 = 0 then some (vl, zc1, zm3) else none) = some S1 := h9
          by_cases c3 : lg_cmp (zc1.2.2 52001 0) v4.toInt64 = 0
          · rw [if_pos c3] at h9
            cases h9
            exact hz
          · rw [if_neg c3] at h9
            cases h9
        · rw [if_neg c2] at h9
          cases h9
          exact hz
      · rw [if_neg c1] at h9
        cases h9
  unfold lsV at e1
  rw [e2] at e1
  by_cases hk : k = 0
  · have e3 : tc1 (some (k, v, zc)) mp (fun v3 z1 => ctJ (cX vl) z1 52001 0 v3.toInt64 fun z4 => some (0, z4)) = some (0, usJ zc 52001 0 v.toInt64) := by
      show (if k = 0 then ctJ (cX vl) zc 52001 0 v.toInt64 (fun z4 => some (0, z4)) else mp k zc) = _
      rw [if_pos hk]
      rfl
    rw [e3] at e1
    exact main 0 _ (NM_J hN) e1
  · have e3 : tc1 (some (k, v, zc)) mp (fun v3 z1 => ctJ (cX vl) z1 52001 0 v3.toInt64 fun z4 => some (0, z4)) = mp k zc := by
      show (if k = 0 then ctJ (cX vl) zc 52001 0 v.toInt64 (fun z4 => some (0, z4)) else mp k zc) = _
      rw [if_neg hk]
    rw [e3] at e1
    cases hm : mp k zc with
    | none =>
      rw [hm] at e1
      cases e1
    | some q =>
      obtain ⟨a, zc1⟩ := q
      have ez : zc1 = zc := hmp k zc _ hm
      rw [hm, ez] at e1
      exact main a zc hN e1
theorem lsB_nm {fc fm : Nat → Option (Int32 × ow_MS)} (h : Te (fun K => cs1 (fc K) fun v2 zc1 => cs1 (fm K) fun v4 zm3 => (if v2 = v4 then some (vl, zc1, zm3) else none)) Q) (hn : Te fc (fun rc => NM rc.2)) : Te (fun K => cs1 (fc K) fun v2 zc1 => cs1 (fm K) fun v4 zm3 => (if v2 = v4 then some (vl, zc1, zm3) else none)) (fun S1 => Q S1 ∧ NM S1.2.1) := by
  obtain ⟨S1, ⟨b1, hb1⟩, hQ⟩ := h
  obtain ⟨⟨v, zc⟩, ⟨b2, hb2⟩, hN⟩ := hn
  have hN : NM zc := hN
  refine ⟨S1, ⟨b1, hb1⟩, hQ, ?_⟩
  have e1 := hb1 (b1 + b2) (by omega)
  have e2 := hb2 (b1 + b2) (by omega)
  have e1 : (cs1 (fc (b1 + b2)) fun v2 zc1 => cs1 (fm (b1 + b2)) fun v4 zm3 => (if v2 = v4 then some (vl, zc1, zm3) else none)) = some S1 := e1
  rw [e2] at e1
  have e1 : (cs1 (fm (b1 + b2)) fun v4 zm3 => (if v = v4 then some (vl, zc, zm3) else none)) = some S1 := e1
  cases hf : fm (b1 + b2) with
  | none =>
    rw [hf] at e1
    cases e1
  | some q =>
    obtain ⟨v4, zm3⟩ := q
    rw [hf] at e1
    have e1 : (if v = v4 then some (vl, zc, zm3) else none) = some S1 := e1
    by_cases c1 : v = v4
    · rw [if_pos c1] at e1
      cases e1
      exact hN
    · rw [if_neg c1] at e1
      cases e1
theorem te_nmF {P : Nat → Prop} {y : ow_MS} {fc : Nat → Option (Nat × Int32 × ow_MS)} {R : Nat × Int32 × ow_MS → Prop} (hT : Te fc R) (hf : ∀ K, Fo (fun r => r.2.2) P y (fc K)) (hP : ∀ g, P g → ¬ (1001 ≤ g ∧ g ≤ 1003 ∨ 2001 ≤ g ∧ g ≤ 2005 ∨ 3001 ≤ g ∧ g ≤ 3005)) (h : NM y) : Te fc (fun rc => NM rc.2.2) := w_monoE (te_fo hT hf) (fun rc ⟨_, f⟩ => NM_fr f hP h)
theorem te_nmP {P : Nat → Prop} {y : ow_MS} {fc : Nat → Option (Nat × Int32 × ow_MS)} (hT : Te fc (fun rc => nmC rc.2.2)) (hf : ∀ K, Fo (fun r => r.2.2) P y (fc K)) (hP : ∀ g, P g → ¬ (2001 ≤ g ∧ g ≤ 2005 ∨ 3001 ≤ g ∧ g ≤ 3005)) (h : NM y) : Te fc (fun rc => NM rc.2.2) := w_monoE (te_fo hT hf) (fun rc ⟨hn, f⟩ => NM_pl f hP hn h)
theorem te_in {O P : Type} {f : Nat → Option O} {g : Nat → Option P} {M : O → P → Prop} (h : Te f (fun a => Te g (fun b => M a b))) : Te g (fun _ => True) := by
  obtain ⟨a, -, b, hb, -⟩ := h
  exact ⟨b, hb, trivial⟩
theorem nm_moved {X : (Nat → Nat → Int32) → Prop} {z y : ow_MS} {x : Int32} (h : rel3 X z y) (hm : NM y) : Te (fun K => ce_X11_moved vl K 0 x y) (fun r => nmC r.2.2) := by
  obtain ⟨Ms, m1, m2, m3⟩ := h.2.2.2.2.2.1
  refine e_X11_moved ?_; unfold cm_X11_moved_0
  refine w_tc1 (nm_copy h hm.1 tH2 (Or.inl rfl) m2 m3 hm.2.1) ?_ ?_
  · rintro v y1 h1
    exact w_some h1
  · rintro a v y1 ha h1
    exact w_some h1
theorem nm_summand {X : (Nat → Nat → Int32) → Prop} {z y : ow_MS} {x : Int32} (h : rel3 X z y) (hm : NM y) : Te (fun K => ce_X11_summand vl K 0 x y) (fun r => nmC r.2.2) := by
  obtain ⟨Ms, m1, m2, m3⟩ := h.2.2.2.2.2.2
  refine e_X11_summand ?_; unfold cm_X11_summand_0
  refine w_tc1 (nm_copy h hm.1 tH3 (Or.inr rfl) m2 m3 hm.2.2) ?_ ?_
  · rintro v y1 h1
    exact w_some h1
  · rintro a v y1 ha h1
    exact w_some h1
theorem nm_moves {X : (Nat → Nat → Int32) → Prop} {z y : ow_MS} {x x' : Int32} (h : rel3 X z y) (hm : NM y) : Te (fun K => ce_X11_moves vl K 0 x x' y) (fun r => NM r.2.2) := by
  obtain ⟨⟨St, k⟩, hM, -⟩ := id h
  refine w_monoE (xc_moves hM k.2.2.2.1 k.2.2.2.2) (fun r hr => ?_)
  rcases hr with ⟨-, e, -⟩ | ⟨d, A, sg, c, hd, -, hSt, hA, hne, hpl, hr⟩
  · rw [e]
    exact hm
  · rcases hr with ⟨-, e, -⟩ | ⟨kd, hk, -, -, -, hf, R, X9, os, b1, b2, b3, b4, b5, b6, b7, b8⟩
    · rw [e]
      exact hm
    · have hb := fr_sym hf
      refine ⟨fun d A sg c hd hs hA hne => hm.1 d A sg c hd (slC_fr hb (fun q hq h9 => by unfold cW at hq; unfold coP cV at h9; omega) hs) hA hne, fun Cs os' ht C hC => ?_, fun Cs os ht => hm.2.2 Cs os (tbO_fr hb (fun q hq h9 => by unfold cV at hq; unfold coP cV at h9; omega) ht)⟩
      have l1 := ht.2.2.2.1
      have l2 := b4.2.2.2.1
      rw [tab_uni ht.1 b4.1 (by omega) (by omega)] at hC
      obtain ⟨j, j1, j2⟩ := b6 C hC
      exact mv_cdNm ⟨hA, b2, b1, b3⟩ hpl hne hk j1 j2
end XS3
section XS4
theorem s2_feed : stp2 lst_feed := by
  intro S x1 x2 x3 x4 x5 h
  have hn : Te (fun K => ce_X11_feed S.1 K 0 x1 x2 x3 x4 x5 S.2.1) (fun rc => NM rc.2.2) := te_nmF (te_in (c_feed h.1.1)) (fun K => ff_X11_feed) (fun g hg h9 => by omega) h.2
  have hs : Te (lsV S.1 (fun K => ce_X11_feed S.1 K 0 x1 x2 x3 x4 x5 S.2.1) (fun k z => if k = 3 then some (1, z) else none) (fun K => qe_X13_feed K x1 x2 x3 x4 x5 S.2.2)) (fun S1 => REL S1 ∧ dPhi S.1 ≤ dPhi S1.1) := st_feed S x1 x2 x3 x4 x5 h.1
  exact w_monoE (lsV_nm hs hn (fun k z r hr => by
    have hr : (if k = 3 then some (1, z) else none) = some r := hr
    by_cases c0 : k = 3
    · rw [if_pos c0] at hr
      cases hr
      rfl
    rw [if_neg c0] at hr
    cases hr)) (fun S1 ⟨⟨q1, q2⟩, q3⟩ => ⟨⟨q1, q3⟩, q2⟩)
theorem s2_diagram : stp2 lst_diagram := by
  intro S x1 x2 x3 x4 x5 h
  have hn : Te (fun K => ce_X11_diagram S.1 K 0  S.2.1) (fun rc => NM rc.2.2) := te_nmP (nm_diagram h.1.1 h.2.1) (fun K => ff_X11_diagram) (fun g hg h9 => by omega) h.2
  have hs : Te (lsV S.1 (fun K => ce_X11_diagram S.1 K 0  S.2.1) (fun k z => if k = 3 then some (1, z) else none) (fun K => qe_X13_diagram K  S.2.2)) (fun S1 => REL S1 ∧ dPhi S.1 ≤ dPhi S1.1) := st_diagram S x1 x2 x3 x4 x5 h.1
  exact w_monoE (lsV_nm hs hn (fun k z r hr => by
    have hr : (if k = 3 then some (1, z) else none) = some r := hr
    by_cases c0 : k = 3
    · rw [if_pos c0] at hr
      cases hr
      rfl
    rw [if_neg c0] at hr
    cases hr)) (fun S1 ⟨⟨q1, q2⟩, q3⟩ => ⟨⟨q1, q3⟩, q2⟩)
theorem s2_braid : stp2 lst_braid := by
  intro S x1 x2 x3 x4 x5 h
  have hn : Te (fun K => ce_X11_braid S.1 K 0 x1 S.2.1) (fun rc => NM rc.2.2) := te_nmF (te_in (c_braid h.1.1)) (fun K => ff_X11_braid) (fun g hg h9 => by omega) h.2
  have hs : Te (lsV S.1 (fun K => ce_X11_braid S.1 K 0 x1 S.2.1) (fun k z => if k = 2 then some (1, z) else if k = 3 then some (2, z) else none) (fun K => qe_X13_braid K x1 S.2.2)) (fun S1 => REL S1 ∧ dPhi S.1 ≤ dPhi S1.1) := st_braid S x1 x2 x3 x4 x5 h.1
  exact w_monoE (lsV_nm hs hn (fun k z r hr => by
    have hr : (if k = 2 then some (1, z) else if k = 3 then some (2, z) else none) = some r := hr
    by_cases c0 : k = 2
    · rw [if_pos c0] at hr
      cases hr
      rfl
    by_cases c1 : k = 3
    · rw [if_neg c0, if_pos c1] at hr
      cases hr
      rfl
    rw [if_neg c0, if_neg c1] at hr
    cases hr)) (fun S1 ⟨⟨q1, q2⟩, q3⟩ => ⟨⟨q1, q3⟩, q2⟩)
theorem s2_figure : stp2 lst_figure := by
  intro S x1 x2 x3 x4 x5 h
  have hn : Te (fun K => ce_X11_figure S.1 K 0 x1 x2 S.2.1) (fun rc => NM rc.2.2) := te_nmF (te_in (by
    obtain ⟨⟨St, k⟩, -⟩ := id h.1.1
    exact b_figure k)) (fun K => ff_X11_figure) (fun g hg h9 => by omega) h.2
  have hs : Te (lsV S.1 (fun K => ce_X11_figure S.1 K 0 x1 x2 S.2.1) (fun k z => if k = 1 then some (1, z) else if k = 2 then some (2, z) else none) (fun K => qe_X13_figure K x1 x2 S.2.2)) (fun S1 => REL S1 ∧ dPhi S.1 ≤ dPhi S1.1) := st_figure S x1 x2 x3 x4 x5 h.1
  exact w_monoE (lsV_nm hs hn (fun k z r hr => by
    have hr : (if k = 1 then some (1, z) else if k = 2 then some (2, z) else none) = some r := hr
    by_cases c0 : k = 1
    · rw [if_pos c0] at hr
      cases hr
      rfl
    by_cases c1 : k = 2
    · rw [if_neg c0, if_pos c1] at hr
      cases hr
      rfl
    rw [if_neg c0, if_neg c1] at hr
    cases hr)) (fun S1 ⟨⟨q1, q2⟩, q3⟩ => ⟨⟨q1, q3⟩, q2⟩)
theorem s2_visit : stp2 lst_visit := by
  intro S x1 x2 x3 x4 x5 h
  have hn : Te (fun K => ce_X11_visit S.1 K 0 x1 x2 x3 S.2.1) (fun rc => NM rc.2.2) := te_nmF (te_in (by
    obtain ⟨⟨St, k⟩, -⟩ := id h.1.1
    exact b_visit k)) (fun K => ff_X11_visit) (fun g hg h9 => by omega) h.2
  have hs : Te (lsV S.1 (fun K => ce_X11_visit S.1 K 0 x1 x2 x3 S.2.1) (fun k z => if k = 1 then some (1, z) else if k = 2 then some (2, z) else none) (fun K => qe_X13_visit K x1 x2 x3 S.2.2)) (fun S1 => REL S1 ∧ dPhi S.1 ≤ dPhi S1.1) := st_visit S x1 x2 x3 x4 x5 h.1
  exact w_monoE (lsV_nm hs hn (fun k z r hr => by
    have hr : (if k = 1 then some (1, z) else if k = 2 then some (2, z) else none) = some r := hr
    by_cases c0 : k = 1
    · rw [if_pos c0] at hr
      cases hr
      rfl
    by_cases c1 : k = 2
    · rw [if_neg c0, if_pos c1] at hr
      cases hr
      rfl
    rw [if_neg c0, if_neg c1] at hr
    cases hr)) (fun S1 ⟨⟨q1, q2⟩, q3⟩ => ⟨⟨q1, q3⟩, q2⟩)
theorem s2_linking : stp2 lst_linking := by
  intro S x1 x2 x3 x4 x5 h
  have hn : Te (fun K => ce_X11_linking S.1 K 0 x1 x2 x3 S.2.1) (fun rc => NM rc.2.2) := te_nmF (te_in (by
    obtain ⟨⟨St, k⟩, -⟩ := id h.1.1
    exact b_linking k)) (fun K => ff_X11_linking) (fun g hg h9 => by omega) h.2
  have hs : Te (lsV S.1 (fun K => ce_X11_linking S.1 K 0 x1 x2 x3 S.2.1) (fun k z => if k = 1 then some (1, z) else if k = 2 then some (2, z) else none) (fun K => qe_X13_linking K x1 x2 x3 S.2.2)) (fun S1 => REL S1 ∧ dPhi S.1 ≤ dPhi S1.1) := st_linking S x1 x2 x3 x4 x5 h.1
  exact w_monoE (lsV_nm hs hn (fun k z r hr => by
    have hr : (if k = 1 then some (1, z) else if k = 2 then some (2, z) else none) = some r := hr
    by_cases c0 : k = 1
    · rw [if_pos c0] at hr
      cases hr
      rfl
    by_cases c1 : k = 2
    · rw [if_neg c0, if_pos c1] at hr
      cases hr
      rfl
    rw [if_neg c0, if_neg c1] at hr
    cases hr)) (fun S1 ⟨⟨q1, q2⟩, q3⟩ => ⟨⟨q1, q3⟩, q2⟩)
theorem s2_mirror : stp2 lst_mirror := by
  intro S x1 x2 x3 x4 x5 h
  have hn : Te (fun K => ce_X11_mirror S.1 K 0 x1 S.2.1) (fun rc => NM rc.2.2) := te_nmP (nm_mirror h.1.1 h.2.1) (fun K => ff_X11_mirror) (fun g hg h9 => by omega) h.2
  have hs : Te (lsV S.1 (fun K => ce_X11_mirror S.1 K 0 x1 S.2.1) (fun k z => if k = 1 then some (1, z) else if k = 3 then some (2, z) else none) (fun K => qe_X13_mirror K x1 S.2.2)) (fun S1 => REL S1 ∧ dPhi S.1 ≤ dPhi S1.1) := st_mirror S x1 x2 x3 x4 x5 h.1
  exact w_monoE (lsV_nm hs hn (fun k z r hr => by
    have hr : (if k = 1 then some (1, z) else if k = 3 then some (2, z) else none) = some r := hr
    by_cases c0 : k = 1
    · rw [if_pos c0] at hr
      cases hr
      rfl
    by_cases c1 : k = 3
    · rw [if_neg c0, if_pos c1] at hr
      cases hr
      rfl
    rw [if_neg c0, if_neg c1] at hr
    cases hr)) (fun S1 ⟨⟨q1, q2⟩, q3⟩ => ⟨⟨q1, q3⟩, q2⟩)
theorem s2_reverse : stp2 lst_reverse := by
  intro S x1 x2 x3 x4 x5 h
  have hn : Te (fun K => ce_X11_reverse S.1 K 0 x1 x2 S.2.1) (fun rc => NM rc.2.2) := te_nmP (nm_reverse h.1.1 h.2.1) (fun K => ff_X11_reverse) (fun g hg h9 => by omega) h.2
  have hs : Te (lsV S.1 (fun K => ce_X11_reverse S.1 K 0 x1 x2 S.2.1) (fun k z => if k = 1 then some (1, z) else if k = 3 then some (2, z) else none) (fun K => qe_X13_reverse K x1 x2 S.2.2)) (fun S1 => REL S1 ∧ dPhi S.1 ≤ dPhi S1.1) := st_reverse S x1 x2 x3 x4 x5 h.1
  exact w_monoE (lsV_nm hs hn (fun k z r hr => by
    have hr : (if k = 1 then some (1, z) else if k = 3 then some (2, z) else none) = some r := hr
    by_cases c0 : k = 1
    · rw [if_pos c0] at hr
      cases hr
      rfl
    by_cases c1 : k = 3
    · rw [if_neg c0, if_pos c1] at hr
      cases hr
      rfl
    rw [if_neg c0, if_neg c1] at hr
    cases hr)) (fun S1 ⟨⟨q1, q2⟩, q3⟩ => ⟨⟨q1, q3⟩, q2⟩)
theorem s2_change : stp2 lst_change := by
  intro S x1 x2 x3 x4 x5 h
  have hn : Te (fun K => ce_X11_change S.1 K 0 x1 x2 S.2.1) (fun rc => NM rc.2.2) := te_nmP (nm_change h.1.1 h.2.1) (fun K => ff_X11_change) (fun g hg h9 => by omega) h.2
  have hs : Te (lsV S.1 (fun K => ce_X11_change S.1 K 0 x1 x2 S.2.1) (fun k z => if k = 1 then some (1, z) else if k = 3 then some (2, z) else none) (fun K => qe_X13_change K x1 x2 S.2.2)) (fun S1 => REL S1 ∧ dPhi S.1 ≤ dPhi S1.1) := st_change S x1 x2 x3 x4 x5 h.1
  exact w_monoE (lsV_nm hs hn (fun k z r hr => by
    have hr : (if k = 1 then some (1, z) else if k = 3 then some (2, z) else none) = some r := hr
    by_cases c0 : k = 1
    · rw [if_pos c0] at hr
      cases hr
      rfl
    by_cases c1 : k = 3
    · rw [if_neg c0, if_pos c1] at hr
      cases hr
      rfl
    rw [if_neg c0, if_neg c1] at hr
    cases hr)) (fun S1 ⟨⟨q1, q2⟩, q3⟩ => ⟨⟨q1, q3⟩, q2⟩)
theorem s2_smooth : stp2 lst_smooth := by
  intro S x1 x2 x3 x4 x5 h
  have hn : Te (fun K => ce_X11_smooth S.1 K 0 x1 x2 S.2.1) (fun rc => NM rc.2.2) := te_nmP (nm_smooth h.1.1 h.2.1) (fun K => ff_X11_smooth) (fun g hg h9 => by omega) h.2
  have hs : Te (lsV S.1 (fun K => ce_X11_smooth S.1 K 0 x1 x2 S.2.1) (fun k z => if k = 1 then some (1, z) else if k = 4 then some (2, z) else if k = 3 then some (3, z) else none) (fun K => qe_X13_smooth K x1 x2 S.2.2)) (fun S1 => REL S1 ∧ dPhi S.1 ≤ dPhi S1.1) := st_smooth S x1 x2 x3 x4 x5 h.1
  exact w_monoE (lsV_nm hs hn (fun k z r hr => by
    have hr : (if k = 1 then some (1, z) else if k = 4 then some (2, z) else if k = 3 then some (3, z) else none) = some r := hr
    by_cases c0 : k = 1
    · rw [if_pos c0] at hr
      cases hr
      rfl
    by_cases c1 : k = 4
    · rw [if_neg c0, if_pos c1] at hr
      cases hr
      rfl
    by_cases c2 : k = 3
    · rw [if_neg c0, if_neg c1, if_pos c2] at hr
      cases hr
      rfl
    rw [if_neg c0, if_neg c1, if_neg c2] at hr
    cases hr)) (fun S1 ⟨⟨q1, q2⟩, q3⟩ => ⟨⟨q1, q3⟩, q2⟩)
theorem s2_apart : stp2 lst_apart := by
  intro S x1 x2 x3 x4 x5 h
  have hn : Te (fun K => ce_X11_apart S.1 K 0 x1 x2 S.2.1) (fun rc => NM rc.2.2) := te_nmP (nm_apart h.1.1 h.2.1) (fun K => ff_X11_apart) (fun g hg h9 => by omega) h.2
  have hs : Te (lsV S.1 (fun K => ce_X11_apart S.1 K 0 x1 x2 S.2.1) (fun k z => if k = 1 then some (1, z) else if k = 4 then some (2, z) else if k = 3 then some (3, z) else none) (fun K => qe_X13_apart K x1 x2 S.2.2)) (fun S1 => REL S1 ∧ dPhi S.1 ≤ dPhi S1.1) := st_apart S x1 x2 x3 x4 x5 h.1
  exact w_monoE (lsV_nm hs hn (fun k z r hr => by
    have hr : (if k = 1 then some (1, z) else if k = 4 then some (2, z) else if k = 3 then some (3, z) else none) = some r := hr
    by_cases c0 : k = 1
    · rw [if_pos c0] at hr
      cases hr
      rfl
    by_cases c1 : k = 4
    · rw [if_neg c0, if_pos c1] at hr
      cases hr
      rfl
    by_cases c2 : k = 3
    · rw [if_neg c0, if_neg c1, if_pos c2] at hr
      cases hr
      rfl
    rw [if_neg c0, if_neg c1, if_neg c2] at hr
    cases hr)) (fun S1 ⟨⟨q1, q2⟩, q3⟩ => ⟨⟨q1, q3⟩, q2⟩)
theorem s2_join : stp2 lst_join := by
  intro S x1 x2 x3 x4 x5 h
  have hn : Te (fun K => ce_X11_join S.1 K 0 x1 x2 x3 x4 S.2.1) (fun rc => NM rc.2.2) := te_nmP (nm_join h.1.1 h.2.1) (fun K => ff_X11_join) (fun g hg h9 => by omega) h.2
  have hs : Te (lsV S.1 (fun K => ce_X11_join S.1 K 0 x1 x2 x3 x4 S.2.1) (fun k z => if k = 1 then some (1, z) else if k = 4 then some (2, z) else if k = 3 then some (3, z) else none) (fun K => qe_X13_join K x1 x2 x3 x4 S.2.2)) (fun S1 => REL S1 ∧ dPhi S.1 ≤ dPhi S1.1) := st_join S x1 x2 x3 x4 x5 h.1
  exact w_monoE (lsV_nm hs hn (fun k z r hr => by
    have hr : (if k = 1 then some (1, z) else if k = 4 then some (2, z) else if k = 3 then some (3, z) else none) = some r := hr
    by_cases c0 : k = 1
    · rw [if_pos c0] at hr
      cases hr
      rfl
    by_cases c1 : k = 4
    · rw [if_neg c0, if_pos c1] at hr
      cases hr
      rfl
    by_cases c2 : k = 3
    · rw [if_neg c0, if_neg c1, if_pos c2] at hr
      cases hr
      rfl
    rw [if_neg c0, if_neg c1, if_neg c2] at hr
    cases hr)) (fun S1 ⟨⟨q1, q2⟩, q3⟩ => ⟨⟨q1, q3⟩, q2⟩)
theorem s2_moves : stp2 lst_moves := by
  intro S x1 x2 x3 x4 x5 h
  have hn : Te (fun K => ce_X11_moves S.1 K 0 x1 x2 S.2.1) (fun rc => NM rc.2.2) := nm_moves h.1.1 h.2
  have hs : Te (lsV S.1 (fun K => ce_X11_moves S.1 K 0 x1 x2 S.2.1) (fun k z => if k = 1 then some (1, z) else if k = 2 then some (2, z) else none) (fun K => qe_X13_moves K x1 x2 S.2.2)) (fun S1 => REL S1 ∧ dPhi S.1 ≤ dPhi S1.1) := st_moves S x1 x2 x3 x4 x5 h.1
  exact w_monoE (lsV_nm hs hn (fun k z r hr => by
    have hr : (if k = 1 then some (1, z) else if k = 2 then some (2, z) else none) = some r := hr
    by_cases c0 : k = 1
    · rw [if_pos c0] at hr
      cases hr
      rfl
    by_cases c1 : k = 2
    · rw [if_neg c0, if_pos c1] at hr
      cases hr
      rfl
    rw [if_neg c0, if_neg c1] at hr
    cases hr)) (fun S1 ⟨⟨q1, q2⟩, q3⟩ => ⟨⟨q1, q3⟩, q2⟩)
theorem s2_moved : stp2 lst_moved := by
  intro S x1 x2 x3 x4 x5 h
  have hn : Te (fun K => ce_X11_moved S.1 K 0 x1 S.2.1) (fun rc => NM rc.2.2) := te_nmP (nm_moved h.1.1 h.2) (fun K => ff_X11_moved) (fun g hg h9 => by omega) h.2
  have hs : Te (lsV S.1 (fun K => ce_X11_moved S.1 K 0 x1 S.2.1) (fun k z => if k = 1 then some (1, z) else if k = 3 then some (2, z) else none) (fun K => qe_X13_moved K x1 S.2.2)) (fun S1 => REL S1 ∧ dPhi S.1 ≤ dPhi S1.1) := st_moved S x1 x2 x3 x4 x5 h.1
  exact w_monoE (lsV_nm hs hn (fun k z r hr => by
    have hr : (if k = 1 then some (1, z) else if k = 3 then some (2, z) else none) = some r := hr
    by_cases c0 : k = 1
    · rw [if_pos c0] at hr
      cases hr
      rfl
    by_cases c1 : k = 3
    · rw [if_neg c0, if_pos c1] at hr
      cases hr
      rfl
    rw [if_neg c0, if_neg c1] at hr
    cases hr)) (fun S1 ⟨⟨q1, q2⟩, q3⟩ => ⟨⟨q1, q3⟩, q2⟩)
theorem s2_simplify : stp2 lst_simplify := by
  intro S x1 x2 x3 x4 x5 h
  have hn : Te (fun K => ce_X11_simplify S.1 K 0 x1 S.2.1) (fun rc => NM rc.2.2) := te_nmP (nm_simplify h.1.1 h.2.1) (fun K => ff_X11_simplify) (fun g hg h9 => by omega) h.2
  have hs : Te (lsV S.1 (fun K => ce_X11_simplify S.1 K 0 x1 S.2.1) (fun k z => if k = 1 then some (1, z) else if k = 3 then some (2, z) else none) (fun K => qe_X13_simplify K x1 S.2.2)) (fun S1 => REL S1 ∧ dPhi S.1 ≤ dPhi S1.1) := st_simplify S x1 x2 x3 x4 x5 h.1
  exact w_monoE (lsV_nm hs hn (fun k z r hr => by
    have hr : (if k = 1 then some (1, z) else if k = 3 then some (2, z) else none) = some r := hr
    by_cases c0 : k = 1
    · rw [if_pos c0] at hr
      cases hr
      rfl
    by_cases c1 : k = 3
    · rw [if_neg c0, if_pos c1] at hr
      cases hr
      rfl
    rw [if_neg c0, if_neg c1] at hr
    cases hr)) (fun S1 ⟨⟨q1, q2⟩, q3⟩ => ⟨⟨q1, q3⟩, q2⟩)
theorem s2_summand : stp2 lst_summand := by
  intro S x1 x2 x3 x4 x5 h
  have hn : Te (fun K => ce_X11_summand S.1 K 0 x1 S.2.1) (fun rc => NM rc.2.2) := te_nmP (nm_summand h.1.1 h.2) (fun K => ff_X11_summand) (fun g hg h9 => by omega) h.2
  have hs : Te (lsV S.1 (fun K => ce_X11_summand S.1 K 0 x1 S.2.1) (fun k z => if k = 1 then some (1, z) else if k = 3 then some (2, z) else none) (fun K => qe_X13_summand K x1 S.2.2)) (fun S1 => REL S1 ∧ dPhi S.1 ≤ dPhi S1.1) := st_summand S x1 x2 x3 x4 x5 h.1
  exact w_monoE (lsV_nm hs hn (fun k z r hr => by
    have hr : (if k = 1 then some (1, z) else if k = 3 then some (2, z) else none) = some r := hr
    by_cases c0 : k = 1
    · rw [if_pos c0] at hr
      cases hr
      rfl
    by_cases c1 : k = 3
    · rw [if_neg c0, if_pos c1] at hr
      cases hr
      rfl
    rw [if_neg c0, if_neg c1] at hr
    cases hr)) (fun S1 ⟨⟨q1, q2⟩, q3⟩ => ⟨⟨q1, q3⟩, q2⟩)
theorem s2_jones : stp2 lst_jones := by
  intro S x1 x2 x3 x4 x5 h
  have hn : Te (fun K => ce_X11_jones S.1 K 0 x1 x2 S.2.1) (fun rc => NM rc.2.2) := w_monoE (tc_jones h.1.1.2.1 h.1.2.1.2.1) (fun rc ⟨_, _, _, _, f, _⟩ => NM_fr f (fun g hg h9 => by unfold jnP at hg; omega) h.2)
  have hs : Te (lsV S.1 (fun K => ce_X11_jones S.1 K 0 x1 x2 S.2.1) (fun k z => if k = 1 then some (1, z) else none) (fun K => qe_X13_jones K x1 x2 S.2.2)) (fun S1 => REL S1 ∧ dPhi S.1 ≤ dPhi S1.1) := st_jones S x1 x2 x3 x4 x5 h.1
  exact w_monoE (lsV_nm hs hn (fun k z r hr => by
    have hr : (if k = 1 then some (1, z) else none) = some r := hr
    by_cases c0 : k = 1
    · rw [if_pos c0] at hr
      cases hr
      rfl
    rw [if_neg c0] at hr
    cases hr)) (fun S1 ⟨⟨q1, q2⟩, q3⟩ => ⟨⟨q1, q3⟩, q2⟩)
theorem s2_closure : stp2 lst_closure := by
  intro S x1 x2 x3 x4 x5 h
  have hn : Te (fun K => ce_X11_closure S.1 K 0 x1 S.2.1) (fun rc => NM rc.2.2) := te_nmP (nm_closure h.1.1 h.2.1) (fun K => ff_X11_closure) (fun g hg h9 => by omega) h.2
  have hs : Te (lsV S.1 (fun K => ce_X11_closure S.1 K 0 x1 S.2.1) (fun k z => if k = 1 then some (1, z) else if k = 4 then some (2, z) else if k = 3 then some (3, z) else none) (fun K => qe_X13_closure K x1 S.2.2)) (fun S1 => REL S1 ∧ dPhi S.1 ≤ dPhi S1.1) := st_closure S x1 x2 x3 x4 x5 h.1
  exact w_monoE (lsV_nm hs hn (fun k z r hr => by
    have hr : (if k = 1 then some (1, z) else if k = 4 then some (2, z) else if k = 3 then some (3, z) else none) = some r := hr
    by_cases c0 : k = 1
    · rw [if_pos c0] at hr
      cases hr
      rfl
    by_cases c1 : k = 4
    · rw [if_neg c0, if_pos c1] at hr
      cases hr
      rfl
    by_cases c2 : k = 3
    · rw [if_neg c0, if_neg c1, if_pos c2] at hr
      cases hr
      rfl
    rw [if_neg c0, if_neg c1, if_neg c2] at hr
    cases hr)) (fun S1 ⟨⟨q1, q2⟩, q3⟩ => ⟨⟨q1, q3⟩, q2⟩)
theorem s2_product : stp2 lst_product := by
  intro S x1 x2 x3 x4 x5 h
  have hn : Te (fun K => ce_X11_product S.1 K 0 x1 x2 S.2.1) (fun rc => NM rc.2.2) := te_nmF (te_in (c_product h.1.1)) (fun K => ff_X11_product) (fun g hg h9 => by omega) h.2
  have hs : Te (lsV S.1 (fun K => ce_X11_product S.1 K 0 x1 x2 S.2.1) (fun k z => if k = 1 then some (1, z) else if k = 2 then some (2, z) else if k = 4 then some (3, z) else if k = 3 then some (4, z) else none) (fun K => qe_X13_product K x1 x2 S.2.2)) (fun S1 => REL S1 ∧ dPhi S.1 ≤ dPhi S1.1) := st_product S x1 x2 x3 x4 x5 h.1
  exact w_monoE (lsV_nm hs hn (fun k z r hr => by
    have hr : (if k = 1 then some (1, z) else if k = 2 then some (2, z) else if k = 4 then some (3, z) else if k = 3 then some (4, z) else none) = some r := hr
    by_cases c0 : k = 1
    · rw [if_pos c0] at hr
      cases hr
      rfl
    by_cases c1 : k = 2
    · rw [if_neg c0, if_pos c1] at hr
      cases hr
      rfl
    by_cases c2 : k = 4
    · rw [if_neg c0, if_neg c1, if_pos c2] at hr
      cases hr
      rfl
    by_cases c3 : k = 3
    · rw [if_neg c0, if_neg c1, if_neg c2, if_pos c3] at hr
      cases hr
      rfl
    rw [if_neg c0, if_neg c1, if_neg c2, if_neg c3] at hr
    cases hr)) (fun S1 ⟨⟨q1, q2⟩, q3⟩ => ⟨⟨q1, q3⟩, q2⟩)
theorem s2_inverse : stp2 lst_inverse := by
  intro S x1 x2 x3 x4 x5 h
  have hn : Te (fun K => ce_X11_inverse S.1 K 0 x1 S.2.1) (fun rc => NM rc.2.2) := te_nmF (te_in (c_inverse h.1.1)) (fun K => ff_X11_inverse) (fun g hg h9 => by omega) h.2
  have hs : Te (lsV S.1 (fun K => ce_X11_inverse S.1 K 0 x1 S.2.1) (fun k z => if k = 1 then some (1, z) else if k = 3 then some (2, z) else none) (fun K => qe_X13_inverse K x1 S.2.2)) (fun S1 => REL S1 ∧ dPhi S.1 ≤ dPhi S1.1) := st_inverse S x1 x2 x3 x4 x5 h.1
  exact w_monoE (lsV_nm hs hn (fun k z r hr => by
    have hr : (if k = 1 then some (1, z) else if k = 3 then some (2, z) else none) = some r := hr
    by_cases c0 : k = 1
    · rw [if_pos c0] at hr
      cases hr
      rfl
    by_cases c1 : k = 3
    · rw [if_neg c0, if_pos c1] at hr
      cases hr
      rfl
    rw [if_neg c0, if_neg c1] at hr
    cases hr)) (fun S1 ⟨⟨q1, q2⟩, q3⟩ => ⟨⟨q1, q3⟩, q2⟩)
theorem s2_way : stp2 lst_way := by
  intro S x1 x2 x3 x4 x5 h
  have hc := rel_of (vl := S.1) (y := S.2.1) (z := S.2.2) (em := [(1, 1), (2, 4)]) (fc := fun K => ce_X11_way S.1 K 0 x1 x2 S.2.1) (fm := fun K => qe_X13_way K x1 x2 S.2.2) h.1 (w_monoE (c_way h.1.1 h.2.1) (fun rr hr => w_monoE hr (fun rc hb => hb.1))) (fun K => ff_X13_way) (fun K => ff_X11_way) (by decide) (fun g hg h9 => by unfold ciH at h9; omega)
  have hn : Te (fun K => ce_X11_way S.1 K 0 x1 x2 S.2.1) (fun rc => NM rc.2.2) := te_nmF (te_in hc) (fun K => ff_X11_way) (fun g hg h9 => by omega) h.2
  have hs : Te (lsV S.1 (fun K => ce_X11_way S.1 K 0 x1 x2 S.2.1) (fun k z => if k = 1 then some (1, z) else if k = 4 then some (2, z) else none) (fun K => qe_X13_way K x1 x2 S.2.2)) (fun S1 => REL S1 ∧ dPhi S.1 ≤ dPhi S1.1) := by
    refine st_int hc (fun j k hm => ?_)
    simp only [List.mem_cons, List.not_mem_nil, or_false, Prod.mk.injEq] at hm
    rcases hm with ⟨rfl, rfl⟩ | ⟨rfl, rfl⟩ <;> exact ⟨by decide, by decide, by decide, fun _ => rfl⟩
  exact w_monoE (lsV_nm hs hn (fun k z r hr => by
    have hr : (if k = 1 then some (1, z) else if k = 4 then some (2, z) else none) = some r := hr
    by_cases c0 : k = 1
    · rw [if_pos c0] at hr
      cases hr
      rfl
    by_cases c1 : k = 4
    · rw [if_neg c0, if_pos c1] at hr
      cases hr
      rfl
    rw [if_neg c0, if_neg c1] at hr
    cases hr)) (fun S1 ⟨⟨q1, q2⟩, q3⟩ => ⟨⟨q1, q3⟩, q2⟩)
theorem s2_alike : stp2 lst_alike := by
  intro S x1 x2 x3 x4 x5 h
  have hn : Te (fun K => ce_X11_alike S.1 K 0 x1 x2 S.2.1) (fun rc => NM rc.2) := (w_monoE (te_fo (te_in (by
    obtain ⟨⟨St, k⟩, -⟩ := id h.1.1
    exact b_alike k)) (fun K => ff_X11_alike)) (fun rc ⟨_, f⟩ => NM_fr f (fun g hg => hg.elim) h.2))
  exact w_monoE (lsB_nm (fc := (fun K => ce_X11_alike S.1 K 0 x1 x2 S.2.1)) (fm := fun K => qe_X13_alike K x1 x2 S.2.2) (st_alike S x1 x2 x3 x4 x5 h.1) hn) (fun S1 ⟨⟨q1, q2⟩, q3⟩ => ⟨⟨q1, q3⟩, q2⟩)
theorem s2_drop : stp2 lst_drop := by
  intro S x1 x2 x3 x4 x5 h
  have hn : Te (fun K => ce_X11_drop S.1 K 0 x1 S.2.1) (fun rc => NM rc.2) := (w_monoE (te_fo (nm_drop h.1.1 h.2.1) (fun K => ff_X11_drop)) (fun rc ⟨hn, f⟩ => NM_pl f (fun g hg h9 => by omega) hn h.2))
  exact w_monoE (lsB_nm (fc := (fun K => ce_X11_drop S.1 K 0 x1 S.2.1)) (fm := fun K => qe_X13_drop K x1 S.2.2) (st_drop S x1 x2 x3 x4 x5 h.1) hn) (fun S1 ⟨⟨q1, q2⟩, q3⟩ => ⟨⟨q1, q3⟩, q2⟩)
theorem s2_dropBraid : stp2 lst_dropBraid := by
  intro S x1 x2 x3 x4 x5 h
  have hn : Te (fun K => ce_X11_dropBraid S.1 K 0 x1 S.2.1) (fun rc => NM rc.2) := (w_monoE (te_fo (te_in (c_dropBraid h.1.1)) (fun K => ff_X11_dropBraid)) (fun rc ⟨_, f⟩ => NM_fr f (fun g hg h9 => by omega) h.2))
  exact w_monoE (lsB_nm (fc := (fun K => ce_X11_dropBraid S.1 K 0 x1 S.2.1)) (fm := fun K => qe_X13_dropBraid K x1 S.2.2) (st_dropBraid S x1 x2 x3 x4 x5 h.1) hn) (fun S1 ⟨⟨q1, q2⟩, q3⟩ => ⟨⟨q1, q3⟩, q2⟩)
theorem s2_end : stp2 lst_end := by
  intro S x1 x2 x3 x4 x5 h
  obtain ⟨zm, ⟨b1, hb1⟩, ⟨⟨k, zc⟩, ⟨b2, hb2⟩, ⟨hR, ha⟩, f2⟩, f1⟩ := te_fo (st := id) (P := pf [1, 11] []) (z0 := S.2.2) (w_monoE (c_end (vl := S.1) (x := x1) h.1.1) (fun rr h1 => te_fo (st := Prod.snd) (P := fun g => g = 0 + 11001) (z0 := S.2.1) h1 (fun K => ff_X11_end))) (fun K => ff_X13_end)
  refine ⟨(S.1, zc, zm), ⟨b1 + b2, fun K hK => ?_⟩, ⟨⟨hR, CI_fr f2 (fun g hg h9 => by unfold ciH at h9; omega) h.1.2.1, jnR_fr f1 (by decide) (by decide) h.1.2.2⟩, NM_fr f2 (fun g hg h9 => by omega) h.2⟩, Nat.le_refl _⟩
  have q1 : qe_X13_end K x1 S.2.2 = some zm := hb1 K (by omega)
  have q2 : ce_X11_end S.1 K 0 x1 S.2.1 = some (k, zc) := hb2 K (by omega)
  have hl : le_L_end S.1 K 0 x1 S.2.1 = if k = 0 then some (0, zc) else if k = 2 then some (1, zc) else none := by
    unfold le_L_end
    rw [q2]
    rfl
  show (cs1 (le_L_end S.1 K 0 x1 S.2.1) fun v2 zc1 => cs0 (qe_X13_end K x1 S.2.2) fun zm3 => cs1 (qe_X13_thrown K zm3) fun v5 zm4 => (if v5 = v2 then some (S.1, zc1, zm4) else none)) = _
  rw [hl, q1]
  rcases ha with ⟨t0, k0⟩ | ⟨t0, k0⟩
  · have k0 : k = 0 := k0
    rw [k0, if_pos rfl]
    exact if_pos t0
  · have k0 : k = 2 := k0
    rw [k0, if_neg (by decide), if_pos rfl]
    exact if_pos t0
end XS4
section XS5
theorem run_rel2 (H : ∀ (S : ow_LwS) (x0 x1 x2 x3 x4 x5 : Int32), REL2 S → Te (fun K => lstep K x0 x1 x2 x3 x4 x5 S) (fun S1 => REL2 S1 ∧ dPhi S.1 ≤ dPhi S1.1)) (xs : Nat → Int32) : ∀ (k n : Nat) (S : ow_LwS), REL2 S → ∃ SE b, ∀ K, b ≤ K → lrun K xs k n S = some SE
  | 0, n, S, _ => ⟨S, 0, fun K _ => rfl⟩
  | k + 1, n, S, h => by
    obtain ⟨S1, ⟨b1, hb1⟩, h1, h2⟩ := H S (xs (6 * n)) (xs (6 * n + 1)) (xs (6 * n + 2)) (xs (6 * n + 3)) (xs (6 * n + 4)) (xs (6 * n + 5)) h
    obtain ⟨SE, b2, hb2⟩ := run_rel2 H xs k (n + 1) S1 h1
    refine ⟨SE, b1 + b2, fun K hK => ?_⟩
    have e : lstep K (xs (6 * n)) (xs (6 * n + 1)) (xs (6 * n + 2)) (xs (6 * n + 3)) (xs (6 * n + 4)) (xs (6 * n + 5)) S = some S1 := hb1 K (by omega)
    show (match lstep K (xs (6 * n)) (xs (6 * n + 1)) (xs (6 * n + 2)) (xs (6 * n + 3)) (xs (6 * n + 4)) (xs (6 * n + 5)) S with
      | none => none
      | some S1 => if dPhi S.1 ≤ dPhi S1.1 ∧ dPhi S1.1 ≤ 2800000 then lrun K xs k (n + 1) S1 else none) = some SE
    rw [e]
    show (if dPhi S.1 ≤ dPhi S1.1 ∧ dPhi S1.1 ≤ 2800000 then lrun K xs k (n + 1) S1 else none) = some SE
    rw [if_pos ⟨h2, rel_phi h1.1⟩]
    exact hb2 K (by omega)
/-- one call -/
theorem step_all2 (h_summands : stp2 lst_summands) (h_conway : stp2 lst_conway) (h_signature : stp2 lst_signature) (h_cover : stp2 lst_cover) (h_colours : stp2 lst_colours) (h_maps : stp2 lst_maps) (h_chain : stp2 lst_chain) (h_rank : stp2 lst_rank) (h_normal : stp2 lst_normal) (h_factor : stp2 lst_factor) (h_equal : stp2 lst_equal) (h_summit : stp2 lst_summit) (h_conjugate : stp2 lst_conjugate) (h_two : stp2 lst_two) (S : ow_LwS) (x0 x1 x2 x3 x4 x5 : Int32) (h : REL2 S) : Te (fun K => lstep K x0 x1 x2 x3 x4 x5 S) (fun S1 => REL2 S1 ∧ dPhi S.1 ≤ dPhi S1.1) := by
  unfold lstep
  refine te_if (fun _ => ⟨S, ⟨0, fun K _ => rfl⟩, h, Nat.le_refl _⟩) (fun hx => ?_)
  refine te_if (fun _ => s2_feed S x1 x2 x3 x4 x5 h) (fun n_feed => ?_)
  refine te_if (fun _ => s2_end S x1 x2 x3 x4 x5 h) (fun n_end => ?_)
  refine te_if (fun _ => s2_diagram S x1 x2 x3 x4 x5 h) (fun n_diagram => ?_)
  refine te_if (fun _ => s2_braid S x1 x2 x3 x4 x5 h) (fun n_braid => ?_)
  refine te_if (fun _ => s2_drop S x1 x2 x3 x4 x5 h) (fun n_drop => ?_)
  refine te_if (fun _ => s2_dropBraid S x1 x2 x3 x4 x5 h) (fun n_dropBraid => ?_)
  refine te_if (fun _ => s2_figure S x1 x2 x3 x4 x5 h) (fun n_figure => ?_)
  refine te_if (fun _ => s2_visit S x1 x2 x3 x4 x5 h) (fun n_visit => ?_)
  refine te_if (fun _ => s2_linking S x1 x2 x3 x4 x5 h) (fun n_linking => ?_)
  refine te_if (fun _ => s2_alike S x1 x2 x3 x4 x5 h) (fun n_alike => ?_)
  refine te_if (fun _ => s2_mirror S x1 x2 x3 x4 x5 h) (fun n_mirror => ?_)
  refine te_if (fun _ => s2_reverse S x1 x2 x3 x4 x5 h) (fun n_reverse => ?_)
  refine te_if (fun _ => s2_change S x1 x2 x3 x4 x5 h) (fun n_change => ?_)
  refine te_if (fun _ => s2_smooth S x1 x2 x3 x4 x5 h) (fun n_smooth => ?_)
  refine te_if (fun _ => s2_apart S x1 x2 x3 x4 x5 h) (fun n_apart => ?_)
  refine te_if (fun _ => s2_join S x1 x2 x3 x4 x5 h) (fun n_join => ?_)
  refine te_if (fun _ => s2_moves S x1 x2 x3 x4 x5 h) (fun n_moves => ?_)
  refine te_if (fun _ => s2_moved S x1 x2 x3 x4 x5 h) (fun n_moved => ?_)
  refine te_if (fun _ => s2_simplify S x1 x2 x3 x4 x5 h) (fun n_simplify => ?_)
  refine te_if (fun _ => s2_way S x1 x2 x3 x4 x5 h) (fun n_way => ?_)
  refine te_if (fun _ => h_summands S x1 x2 x3 x4 x5 h) (fun n_summands => ?_)
  refine te_if (fun _ => s2_summand S x1 x2 x3 x4 x5 h) (fun n_summand => ?_)
  refine te_if (fun _ => h_conway S x1 x2 x3 x4 x5 h) (fun n_conway => ?_)
  refine te_if (fun _ => s2_jones S x1 x2 x3 x4 x5 h) (fun n_jones => ?_)
  refine te_if (fun _ => h_signature S x1 x2 x3 x4 x5 h) (fun n_signature => ?_)
  refine te_if (fun _ => h_cover S x1 x2 x3 x4 x5 h) (fun n_cover => ?_)
  refine te_if (fun _ => h_colours S x1 x2 x3 x4 x5 h) (fun n_colours => ?_)
  refine te_if (fun _ => h_maps S x1 x2 x3 x4 x5 h) (fun n_maps => ?_)
  refine te_if (fun _ => h_chain S x1 x2 x3 x4 x5 h) (fun n_chain => ?_)
  refine te_if (fun _ => h_rank S x1 x2 x3 x4 x5 h) (fun n_rank => ?_)
  refine te_if (fun _ => s2_closure S x1 x2 x3 x4 x5 h) (fun n_closure => ?_)
  refine te_if (fun _ => s2_product S x1 x2 x3 x4 x5 h) (fun n_product => ?_)
  refine te_if (fun _ => s2_inverse S x1 x2 x3 x4 x5 h) (fun n_inverse => ?_)
  refine te_if (fun _ => h_normal S x1 x2 x3 x4 x5 h) (fun n_normal => ?_)
  refine te_if (fun _ => h_factor S x1 x2 x3 x4 x5 h) (fun n_factor => ?_)
  refine te_if (fun _ => h_equal S x1 x2 x3 x4 x5 h) (fun n_equal => ?_)
  refine te_if (fun _ => h_summit S x1 x2 x3 x4 x5 h) (fun n_summit => ?_)
  refine te_if (fun _ => h_conjugate S x1 x2 x3 x4 x5 h) (fun n_conjugate => ?_)
  refine te_if (fun _ => h_two S x1 x2 x3 x4 x5 h) (fun n_two => ?_)
  exfalso
  obtain ⟨i, hi, e⟩ := x63 hx
  rw [e] at n_feed n_end n_diagram n_braid n_drop n_dropBraid n_figure n_visit n_linking n_alike n_mirror n_reverse n_change n_smooth n_apart n_join n_moves n_moved n_simplify n_way n_summands n_summand n_conway n_jones n_signature n_cover n_colours n_maps n_chain n_rank n_closure n_product n_inverse n_normal n_factor n_equal n_summit n_conjugate n_two
  have key : ∀ i : Fin 39, ¬ (¬ nI i.val = 0 ∧ ¬ nI i.val = 1 ∧ ¬ nI i.val = 2 ∧ ¬ nI i.val = 3 ∧ ¬ nI i.val = 4 ∧ ¬ nI i.val = 5 ∧ ¬ nI i.val = 6 ∧ ¬ nI i.val = 7 ∧ ¬ nI i.val = 8 ∧ ¬ nI i.val = 9 ∧ ¬ nI i.val = 10 ∧ ¬ nI i.val = 11 ∧ ¬ nI i.val = 12 ∧ ¬ nI i.val = 13 ∧ ¬ nI i.val = 14 ∧ ¬ nI i.val = 15 ∧ ¬ nI i.val = 16 ∧ ¬ nI i.val = 17 ∧ ¬ nI i.val = 18 ∧ ¬ nI i.val = 19 ∧ ¬ nI i.val = 20 ∧ ¬ nI i.val = 21 ∧ ¬ nI i.val = 22 ∧ ¬ nI i.val = 23 ∧ ¬ nI i.val = 24 ∧ ¬ nI i.val = 25 ∧ ¬ nI i.val = 26 ∧ ¬ nI i.val = 27 ∧ ¬ nI i.val = 28 ∧ ¬ nI i.val = 29 ∧ ¬ nI i.val = 30 ∧ ¬ nI i.val = 31 ∧ ¬ nI i.val = 32 ∧ ¬ nI i.val = 33 ∧ ¬ nI i.val = 34 ∧ ¬ nI i.val = 35 ∧ ¬ nI i.val = 36 ∧ ¬ nI i.val = 37 ∧ ¬ nI i.val = 38) := by decide +kernel
  exact key ⟨i, hi⟩ ⟨n_feed, n_end, n_diagram, n_braid, n_drop, n_dropBraid, n_figure, n_visit, n_linking, n_alike, n_mirror, n_reverse, n_change, n_smooth, n_apart, n_join, n_moves, n_moved, n_simplify, n_way, n_summands, n_summand, n_conway, n_jones, n_signature, n_cover, n_colours, n_maps, n_chain, n_rank, n_closure, n_product, n_inverse, n_normal, n_factor, n_equal, n_summit, n_conjugate, n_two⟩
/-- the whole, when the cases that are left keep the relation -/
theorem pure_of2 (h_summands : stp2 lst_summands) (h_conway : stp2 lst_conway) (h_signature : stp2 lst_signature) (h_cover : stp2 lst_cover) (h_colours : stp2 lst_colours) (h_maps : stp2 lst_maps) (h_chain : stp2 lst_chain) (h_rank : stp2 lst_rank) (h_normal : stp2 lst_normal) (h_factor : stp2 lst_factor) (h_equal : stp2 lst_equal) (h_summit : stp2 lst_summit) (h_conjugate : stp2 lst_conjugate) (h_two : stp2 lst_two) : PureAll := by
  intro L xs hL
  obtain ⟨z8, z0, zA, z1, m1, m2, b, hb, hR, n1, n2, n3⟩ := both_init0
  have hNM : NM (Zc z8 z0 z1) := by
    refine ⟨fun d A sg c hd hs hA hne => ?_, fun Cs os ht C hC => ?_, fun Cs os ht C hC => ?_⟩
    · have h8 : (Zc z8 z0 z1).2.1 1002 d = nI (clC sg A).2.length := hs.2.1
      rw [n1 d] at h8
      have hl := len_cl (sg := sg) hne
      have ok := (okL_c (sg := sg) hA).2
      have := nI_inj9 (a := 0) (b := (clC sg A).2.length) (by omega) (by have := ok.2.1; omega) h8
      omega
    · have h8 : (Zc z8 z0 z1).1 2005 = nI os.length := ht.1.1
      rw [n2] at h8
      have l1 := ht.2.2.2.1
      have := nI_inj9 (a := 0) (b := os.length) (by omega) (by omega) h8
      have l2 := ht.1.2.1
      rw [List.eq_nil_of_length_eq_zero (show Cs.length = 0 by omega)] at hC
      cases hC
    · have h8 : (Zc z8 z0 z1).1 3005 = nI os.length := ht.1.1
      rw [n3] at h8
      have l1 := ht.2.2.2.1
      have := nI_inj9 (a := 0) (b := os.length) (by omega) (by omega) h8
      have l2 := ht.1.2.1
      rw [List.eq_nil_of_length_eq_zero (show Cs.length = 0 by omega)] at hC
      cases hC
  obtain ⟨SE, b2, hb2⟩ := run_rel2 (step_all2 h_summands h_conway h_signature h_cover h_colours h_maps h_chain h_rank h_normal h_factor h_equal h_summit h_conjugate h_two) xs (L / 6) 0 _ ⟨hR, hNM⟩
  obtain ⟨q1, q2, q3, q4, q5, q6⟩ := hb (b + b2) (by omega)
  exact ⟨b + b2, z8, z0, zA, z1, m1, m2, SE, q1, q2, q3, q4, q5, q6, hb2 (b + b2) (by omega)⟩
end XS5
