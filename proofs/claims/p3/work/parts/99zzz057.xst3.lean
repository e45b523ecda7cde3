section
/-! 99zzzzzzzzzzzzq.xst3 -/
/-! the steps of the law with the codes of their own lists; what is left of the whole -/
def REL2 (S : ow_LwS) : Prop := REL S ∧ NM S.2.1
def stp2 (f : (Nat → Nat) → Nat → Int32 → Int32 → Int32 → Int32 → Int32 → ow_MS → ow_MS → Option ow_LwS) : Prop := ∀ (S : ow_LwS) (x1 x2 x3 x4 x5 : Int32), REL2 S → Te (fun K => f S.1 K x1 x2 x3 x4 x5 S.2.1 S.2.2) (fun S1 => REL2 S1 ∧ dPhi S.1 ≤ dPhi S1.1)
section XS3
variable {vl : Nat → Nat} {Q : ow_LwS → Prop}
theorem NM_J {y : ow_MS} {v : Int64} (h : NM y) : NM (usJ y 52001 0 v) := h
theorem lsV_nm {fc : Nat → Option (Nat × Int32 × ow_MS)} {mp : Nat → ow_MS → Option (Int32 × ow_MS)} {fm : Nat → Option (Int32 × ow_MS)} (h : Te (lsV vl fc mp fm) Q) (hn : Te fc (fun rc => NM rc.2.2)) (hmp : ∀ k z r, mp k z = some r → r.2 = z) : Te (lsV vl fc mp fm) (fun S1 => Q S1 ∧ NM S1.2.1) := by
  obtain ⟨S1, ⟨b1, hb1⟩, hQ⟩ := h
  obtain ⟨⟨k, v, zc⟩, ⟨b2, hb2⟩, hN⟩ := hn
  have hN : NM zc := hN
  refine ⟨S1, ⟨b1, hb1⟩, hQ, ?_⟩
  have e1 := hb1 (b1 + b2) (by omega)
  have e2 := hb2 (b1 + b2) (by omega)
  have main : ∀ (a : Int32) (zc1 : ow_MS), NM zc1 → (cs1 (fm (b1 + b2)) fun v4 zm3 => cs1 (qe_X13_thrown (b1 + b2) zm3) fun v6 zm5 => (if v6 = a then (if a = 0 then crJ (cX vl) zc1 52001 0 fun v7 => (if (lg_cmp v7 v4.toInt64) = 0 then some (vl, zc1, zm5) else none) else some (vl, zc1, zm5)) else none)) = some S1 → NM S1.2.1 := by
    intro a zc1 hz h9
    cases hf : fm (b1 + b2) with
    | none =>
      rw [hf] at h9
      cases h9
    | some q =>
      obtain ⟨v4, zm3⟩ := q
      rw [hf] at h9
      have h9 : (if zm3.1 1 = a then (if a = 0 then crJ (cX vl) zc1 52001 0 fun v7 => (if (lg_cmp v7 v4.toInt64) = 0 then some (vl, zc1, zm3) else none) else some (vl, zc1, zm3)) else none) = some S1 := h9
      by_cases c1 : zm3.1 1 = a
      · rw [if_pos c1] at h9
        by_cases c2 : a = 0
        · rw [if_pos c2] at h9
          have h9 : (if lg_cmp (zc1.2.2 52001 0) v4.toInt64 = 0 then some (vl, zc1, zm3) else none) = some S1 := h9
          by_cases c3 : lg_cmp (zc1.2.2 52001 0) v4.toInt64 = 0
          · rw [if_pos c3] at h9
            cases h9
            exact hz
          · rw [if_neg c3] at h9
            cases h9
        · rw [if_neg c2] at h9
          cases h9
          exact hz
      · rw [if_neg c1] at h9
        cases h9
  unfold lsV at e1
  rw [e2] at e1
  by_cases hk : k = 0
  · have e3 : tc1 (some (k, v, zc)) mp (fun v3 z1 => ctJ (cX vl) z1 52001 0 v3.toInt64 fun z4 => some (0, z4)) = some (0, usJ zc 52001 0 v.toInt64) := by
      show (if k = 0 then ctJ (cX vl) zc 52001 0 v.toInt64 (fun z4 => some (0, z4)) else mp k zc) = _
      rw [if_pos hk]
      rfl
    rw [e3] at e1
    exact main 0 _ (NM_J hN) e1
  · have e3 : tc1 (some (k, v, zc)) mp (fun v3 z1 => ctJ (cX vl) z1 52001 0 v3.toInt64 fun z4 => some (0, z4)) = mp k zc := by
      show (if k = 0 then ctJ (cX vl) zc 52001 0 v.toInt64 (fun z4 => some (0, z4)) else mp k zc) = _
      rw [if_neg hk]
    rw [e3] at e1
    cases hm : mp k zc with
    | none =>
      rw [hm] at e1
      cases e1
    | some q =>
      obtain ⟨a, zc1⟩ := q
      have ez : zc1 = zc := hmp k zc _ hm
      rw [hm, ez] at e1
      exact main a zc hN e1
theorem lsB_nm {fc fm : Nat → Option (Int32 × ow_MS)} (h : Te (fun K => cs1 (fc K) fun v2 zc1 => cs1 (fm K) fun v4 zm3 => (if v2 = v4 then some (vl, zc1, zm3) else none)) Q) (hn : Te fc (fun rc => NM rc.2)) : Te (fun K => cs1 (fc K) fun v2 zc1 => cs1 (fm K) fun v4 zm3 => (if v2 = v4 then some (vl, zc1, zm3) else none)) (fun S1 => Q S1 ∧ NM S1.2.1) := by
  obtain ⟨S1, ⟨b1, hb1⟩, hQ⟩ := h
  obtain ⟨⟨v, zc⟩, ⟨b2, hb2⟩, hN⟩ := hn
  have hN : NM zc := hN
  refine ⟨S1, ⟨b1, hb1⟩, hQ, ?_⟩
  have e1 := hb1 (b1 + b2) (by omega)
  have e2 := hb2 (b1 + b2) (by omega)
  have e1 : (cs1 (fc (b1 + b2)) fun v2 zc1 => cs1 (fm (b1 + b2)) fun v4 zm3 => (if v2 = v4 then some (vl, zc1, zm3) else none)) = some S1 := e1
  rw [e2] at e1
  have e1 : (cs1 (fm (b1 + b2)) fun v4 zm3 => (if v = v4 then some (vl, zc, zm3) else none)) = some S1 := e1
  cases hf : fm (b1 + b2) with
  | none =>
    rw [hf] at e1
    cases e1
  | some q =>
    obtain ⟨v4, zm3⟩ := q
    rw [hf] at e1
    have e1 : (if v = v4 then some (vl, zc, zm3) else none) = some S1 := e1
    by_cases c1 : v = v4
    · rw [if_pos c1] at e1
      cases e1
      exact hN
    · rw [if_neg c1] at e1
      cases e1
theorem te_nmF {P : Nat → Prop} {y : ow_MS} {fc : Nat → Option (Nat × Int32 × ow_MS)} {R : Nat × Int32 × ow_MS → Prop} (hT : Te fc R) (hf : ∀ K, Fo (fun r => r.2.2) P y (fc K)) (hP : ∀ g, P g → ¬ (1001 ≤ g ∧ g ≤ 1003 ∨ 2001 ≤ g ∧ g ≤ 2005 ∨ 3001 ≤ g ∧ g ≤ 3005)) (h : NM y) : Te fc (fun rc => NM rc.2.2) := w_monoE (te_fo hT hf) (fun rc ⟨_, f⟩ => NM_fr f hP h)
theorem te_nmP {P : Nat → Prop} {y : ow_MS} {fc : Nat → Option (Nat × Int32 × ow_MS)} (hT : Te fc (fun rc => nmC rc.2.2)) (hf : ∀ K, Fo (fun r => r.2.2) P y (fc K)) (hP : ∀ g, P g → ¬ (2001 ≤ g ∧ g ≤ 2005 ∨ 3001 ≤ g ∧ g ≤ 3005)) (h : NM y) : Te fc (fun rc => NM rc.2.2) := w_monoE (te_fo hT hf) (fun rc ⟨hn, f⟩ => NM_pl f hP hn h)
theorem te_in {O P : Type} {f : Nat → Option O} {g : Nat → Option P} {M : O → P → Prop} (h : Te f (fun a => Te g (fun b => M a b))) : Te g (fun _ => True) := by
  obtain ⟨a, -, b, hb, -⟩ := h
  exact ⟨b, hb, trivial⟩
theorem nm_moved {X : (Nat → Nat → Int32) → Prop} {z y : ow_MS} {x : Int32} (h : rel3 X z y) (hm : NM y) : Te (fun K => ce_X11_moved vl K 0 x y) (fun r => nmC r.2.2) := by
  obtain ⟨Ms, m1, m2, m3⟩ := h.2.2.2.2.2.1
  refine e_X11_moved ?_; unfold cm_X11_moved_0
  refine w_tc1 (nm_copy h hm.1 tH2 (Or.inl rfl) m2 m3 hm.2.1) ?_ ?_
  · rintro v y1 h1
    exact w_some h1
  · rintro a v y1 ha h1
    exact w_some h1
theorem nm_summand {X : (Nat → Nat → Int32) → Prop} {z y : ow_MS} {x : Int32} (h : rel3 X z y) (hm : NM y) : Te (fun K => ce_X11_summand vl K 0 x y) (fun r => nmC r.2.2) := by
  obtain ⟨Ms, m1, m2, m3⟩ := h.2.2.2.2.2.2
  refine e_X11_summand ?_; unfold cm_X11_summand_0
  refine w_tc1 (nm_copy h hm.1 tH3 (Or.inr rfl) m2 m3 hm.2.2) ?_ ?_
  · rintro v y1 h1
    exact w_some h1
  · rintro a v y1 ha h1
    exact w_some h1
theorem nm_moves {X : (Nat → Nat → Int32) → Prop} {z y : ow_MS} {x x' : Int32} (h : rel3 X z y) (hm : NM y) : Te (fun K => ce_X11_moves vl K 0 x x' y) (fun r => NM r.2.2) := by
  obtain ⟨⟨St, k⟩, hM, -⟩ := id h
  refine w_monoE (xc_moves hM k.2.2.2.1 k.2.2.2.2) (fun r hr => ?_)
  rcases hr with ⟨-, e, -⟩ | ⟨d, A, sg, c, hd, -, hSt, hA, hne, hpl, hr⟩
  · rw [e]
    exact hm
  · rcases hr with ⟨-, e, -⟩ | ⟨kd, hk, -, -, -, hf, R, X9, os, b1, b2, b3, b4, b5, b6, b7, b8⟩
    · rw [e]
      exact hm
    · have hb := fr_sym hf
      refine ⟨fun d A sg c hd hs hA hne => hm.1 d A sg c hd (slC_fr hb (fun q hq h9 => by unfold cW at hq; unfold coP cV at h9; omega) hs) hA hne, fun Cs os' ht C hC => ?_, fun Cs os ht => hm.2.2 Cs os (tbO_fr hb (fun q hq h9 => by unfold cV at hq; unfold coP cV at h9; omega) ht)⟩
      have l1 := ht.2.2.2.1
      have l2 := b4.2.2.2.1
      rw [tab_uni ht.1 b4.1 (by omega) (by omega)] at hC
      obtain ⟨j, j1, j2⟩ := b6 C hC
      exact mv_cdNm ⟨hA, b2, b1, b3⟩ hpl hne hk j1 j2
end XS3
section XS4
theorem s2_feed : stp2 lst_feed := by
  intro S x1 x2 x3 x4 x5 h
  have hn : Te (fun K => ce_X11_feed S.1 K 0 x1 x2 x3 x4 x5 S.2.1) (fun rc => NM rc.2.2) := te_nmF (te_in (c_feed h.1.1)) (fun K => ff_X11_feed) (fun g hg h9 => by omega) h.2
  have hs : Te (lsV S.1 (fun K => ce_X11_feed S.1 K 0 x1 x2 x3 x4 x5 S.2.1) (fun k z => if k = 3 then some (1, z) else none) (fun K => qe_X13_feed K x1 x2 x3 x4 x5 S.2.2)) (fun S1 => REL S1 ∧ dPhi S.1 ≤ dPhi S1.1) := st_feed S x1 x2 x3 x4 x5 h.1
  exact w_monoE (lsV_nm hs hn (fun k z r hr => by
    have hr : (if k = 3 then some (1, z) else none) = some r := hr
    by_cases c0 : k = 3
    · rw [if_pos c0] at hr
      cases hr
      rfl
    rw [if_neg c0] at hr
    cases hr)) (fun S1 ⟨⟨q1, q2⟩, q3⟩ => ⟨⟨q1, q3⟩, q2⟩)
theorem s2_diagram : stp2 lst_diagram := by
  intro S x1 x2 x3 x4 x5 h
  have hn : Te (fun K => ce_X11_diagram S.1 K 0  S.2.1) (fun rc => NM rc.2.2) := te_nmP (nm_diagram h.1.1 h.2.1) (fun K => ff_X11_diagram) (fun g hg h9 => by omega) h.2
  have hs : Te (lsV S.1 (fun K => ce_X11_diagram S.1 K 0  S.2.1) (fun k z => if k = 3 then some (1, z) else none) (fun K => qe_X13_diagram K  S.2.2)) (fun S1 => REL S1 ∧ dPhi S.1 ≤ dPhi S1.1) := st_diagram S x1 x2 x3 x4 x5 h.1
  exact w_monoE (lsV_nm hs hn (fun k z r hr => by
    have hr : (if k = 3 then some (1, z) else none) = some r := hr
    by_cases c0 : k = 3
    · rw [if_pos c0] at hr
      cases hr
      rfl
    rw [if_neg c0] at hr
    cases hr)) (fun S1 ⟨⟨q1, q2⟩, q3⟩ => ⟨⟨q1, q3⟩, q2⟩)
theorem s2_braid : stp2 lst_braid := by
  intro S x1 x2 x3 x4 x5 h
  have hn : Te (fun K => ce_X11_braid S.1 K 0 x1 S.2.1) (fun rc => NM rc.2.2) := te_nmF (te_in (c_braid h.1.1)) (fun K => ff_X11_braid) (fun g hg h9 => by omega) h.2
  have hs : Te (lsV S.1 (fun K => ce_X11_braid S.1 K 0 x1 S.2.1) (fun k z => if k = 2 then some (1, z) else if k = 3 then some (2, z) else none) (fun K => qe_X13_braid K x1 S.2.2)) (fun S1 => REL S1 ∧ dPhi S.1 ≤ dPhi S1.1) := st_braid S x1 x2 x3 x4 x5 h.1
  exact w_monoE (lsV_nm hs hn (fun k z r hr => by
    have hr : (if k = 2 then some (1, z) else if k = 3 then some (2, z) else none) = some r := hr
    by_cases c0 : k = 2
    · rw [if_pos c0] at hr
      cases hr
      rfl
    by_cases c1 : k = 3
    · rw [if_neg c0, if_pos c1] at hr
      cases hr
      rfl
    rw [if_neg c0, if_neg c1] at hr
    cases hr)) (fun S1 ⟨⟨q1, q2⟩, q3⟩ => ⟨⟨q1, q3⟩, q2⟩)
theorem s2_figure : stp2 lst_figure := by
  intro S x1 x2 x3 x4 x5 h
  have hn : Te (fun K => ce_X11_figure S.1 K 0 x1 x2 S.2.1) (fun rc => NM rc.2.2) := te_nmF (te_in (by
    obtain ⟨⟨St, k⟩, -⟩ := id h.1.1
    exact b_figure k)) (fun K => ff_X11_figure) (fun g hg h9 => by omega) h.2
  have hs : Te (lsV S.1 (fun K => ce_X11_figure S.1 K 0 x1 x2 S.2.1) (fun k z => if k = 1 then some (1, z) else if k = 2 then some (2, z) else none) (fun K => qe_X13_figure K x1 x2 S.2.2)) (fun S1 => REL S1 ∧ dPhi S.1 ≤ dPhi S1.1) := st_figure S x1 x2 x3 x4 x5 h.1
  exact w_monoE (lsV_nm hs hn (fun k z r hr => by
    have hr : (if k = 1 then some (1, z) else if k = 2 then some (2, z) else none) = some r := hr
    by_cases c0 : k = 1
    · rw [if_pos c0] at hr
      cases hr
      rfl
    by_cases c1 : k = 2
    · rw [if_neg c0, if_pos c1] at hr
      cases hr
      rfl
    rw [if_neg c0, if_neg c1] at hr
    cases hr)) (fun S1 ⟨⟨q1, q2⟩, q3⟩ => ⟨⟨q1, q3⟩, q2⟩)
theorem s2_visit : stp2 lst_visit := by
  intro S x1 x2 x3 x4 x5 h
  have hn : Te (fun K => ce_X11_visit S.1 K 0 x1 x2 x3 S.2.1) (fun rc => NM rc.2.2) := te_nmF (te_in (by
    obtain ⟨⟨St, k⟩, -⟩ := id h.1.1
    exact b_visit k)) (fun K => ff_X11_visit) (fun g hg h9 => by omega) h.2
  have hs : Te (lsV S.1 (fun K => ce_X11_visit S.1 K 0 x1 x2 x3 S.2.1) (fun k z => if k = 1 then some (1, z) else if k = 2 then some (2, z) else none) (fun K => qe_X13_visit K x1 x2 x3 S.2.2)) (fun S1 => REL S1 ∧ dPhi S.1 ≤ dPhi S1.1) := st_visit S x1 x2 x3 x4 x5 h.1
  exact w_monoE (lsV_nm hs hn (fun k z r hr => by
    have hr : (if k = 1 then some (1, z) else if k = 2 then some (2, z) else none) = some r := hr
    by_cases c0 : k = 1
    · rw [if_pos c0] at hr
      cases hr
      rfl
    by_cases c1 : k = 2
    · rw [if_neg c0, if_pos c1] at hr
      cases hr
      rfl
    rw [if_neg c0, if_neg c1] at hr
    cases hr)) (fun S1 ⟨⟨q1, q2⟩, q3⟩ => ⟨⟨q1, q3⟩, q2⟩)
theorem s2_linking : stp2 lst_linking := by
  intro S x1 x2 x3 x4 x5 h
  have hn : Te (fun K => ce_X11_linking S.1 K 0 x1 x2 x3 S.2.1) (fun rc => NM rc.2.2) := te_nmF (te_in (by
    obtain ⟨⟨St, k⟩, -⟩ := id h.1.1
    exact b_linking k)) (fun K => ff_X11_linking) (fun g hg h9 => by omega) h.2
  have hs : Te (lsV S.1 (fun K => ce_X11_linking S.1 K 0 x1 x2 x3 S.2.1) (fun k z => if k = 1 then some (1, z) else if k = 2 then some (2, z) else none) (fun K => qe_X13_linking K x1 x2 x3 S.2.2)) (fun S1 => REL S1 ∧ dPhi S.1 ≤ dPhi S1.1) := st_linking S x1 x2 x3 x4 x5 h.1
  exact w_monoE (lsV_nm hs hn (fun k z r hr => by
    have hr : (if k = 1 then some (1, z) else if k = 2 then some (2, z) else none) = some r := hr
    by_cases c0 : k = 1
    · rw [if_pos c0] at hr
      cases hr
      rfl
    by_cases c1 : k = 2
    · rw [if_neg c0, if_pos c1] at hr
      cases hr
      rfl
    rw [if_neg c0, if_neg c1] at hr
    cases hr)) (fun S1 ⟨⟨q1, q2⟩, q3⟩ => ⟨⟨q1, q3⟩, q2⟩)
theorem s2_mirror : stp2 lst_mirror := by
  intro S x1 x2 x3 x4 x5 h
  have hn : Te (fun K => ce_X11_mirror S.1 K 0 x1 S.2.1) (fun rc => NM rc.2.2) := te_nmP (nm_mirror h.1.1 h.2.1) (fun K => ff_X11_mirror) (fun g hg h9 => by omega) h.2
  have hs : Te (lsV S.1 (fun K => ce_X11_mirror S.1 K 0 x1 S.2.1) (fun k z => if k = 1 then some (1, z) else if k = 3 then some (2, z) else none) (fun K => qe_X13_mirror K x1 S.2.2)) (fun S1 => REL S1 ∧ dPhi S.1 ≤ dPhi S1.1) := st_mirror S x1 x2 x3 x4 x5 h.1
  exact w_monoE (lsV_nm hs hn (fun k z r hr => by
    have hr : (if k = 1 then some (1, z) else if k = 3 then some (2, z) else none) = some r := hr
    by_cases c0 : k = 1
    · rw [if_pos c0] at hr
      cases hr
      rfl
    by_cases c1 : k = 3
    · rw [if_neg c0, if_pos c1] at hr
      cases hr
      rfl
    rw [if_neg c0, if_neg c1] at hr
    cases hr)) (fun S1 ⟨⟨q1, q2⟩, q3⟩ => ⟨⟨q1, q3⟩, q2⟩)
theorem s2_reverse : stp2 lst_reverse := by
  intro S x1 x2 x3 x4 x5 h
  have hn : Te (fun K => ce_X11_reverse S.1 K 0 x1 x2 S.2.1) (fun rc => NM rc.2.2) := te_nmP (nm_reverse h.1.1 h.2.1) (fun K => ff_X11_reverse) (fun g hg h9 => by omega) h.2
  have hs : Te (lsV S.1 (fun K => ce_X11_reverse S.1 K 0 x1 x2 S.2.1) (fun k z => if k = 1 then some (1, z) else if k = 3 then some (2, z) else none) (fun K => qe_X13_reverse K x1 x2 S.2.2)) (fun S1 => REL S1 ∧ dPhi S.1 ≤ dPhi S1.1) := st_reverse S x1 x2 x3 x4 x5 h.1
  exact w_monoE (lsV_nm hs hn (fun k z r hr => by
    have hr : (if k = 1 then some (1, z) else if k = 3 then some (2, z) else none) = some r := hr
    by_cases c0 : k = 1
    · rw [if_pos c0] at hr
      cases hr
      rfl
    by_cases c1 : k = 3
    · rw [if_neg c0, if_pos c1] at hr
      cases hr
      rfl
    rw [if_neg c0, if_neg c1] at hr
    cases hr)) (fun S1 ⟨⟨q1, q2⟩, q3⟩ => ⟨⟨q1, q3⟩, q2⟩)
theorem s2_change : stp2 lst_change := by
  intro S x1 x2 x3 x4 x5 h
  have hn : Te (fun K => ce_X11_change S.1 K 0 x1 x2 S.2.1) (fun rc => NM rc.2.2) := te_nmP (nm_change h.1.1 h.2.1) (fun K => ff_X11_change) (fun g hg h9 => by omega) h.2
  have hs : Te (lsV S.1 (fun K => ce_X11_change S.1 K 0 x1 x2 S.2.1) (fun k z => if k = 1 then some (1, z) else if k = 3 then some (2, z) else none) (fun K => qe_X13_change K x1 x2 S.2.2)) (fun S1 => REL S1 ∧ dPhi S.1 ≤ dPhi S1.1) := st_change S x1 x2 x3 x4 x5 h.1
  exact w_monoE (lsV_nm hs hn (fun k z r hr => by
    have hr : (if k = 1 then some (1, z) else if k = 3 then some (2, z) else none) = some r := hr
    by_cases c0 : k = 1
    · rw [if_pos c0] at hr
      cases hr
      rfl
    by_cases c1 : k = 3
    · rw [if_neg c0, if_pos c1] at hr
      cases hr
      rfl
    rw [if_neg c0, if_neg c1] at hr
    cases hr)) (fun S1 ⟨⟨q1, q2⟩, q3⟩ => ⟨⟨q1, q3⟩, q2⟩)
theorem s2_smooth : stp2 lst_smooth := by
  intro S x1 x2 x3 x4 x5 h
  have hn : Te (fun K => ce_X11_smooth S.1 K 0 x1 x2 S.2.1) (fun rc => NM rc.2.2) := te_nmP (nm_smooth h.1.1 h.2.1) (fun K => ff_X11_smooth) (fun g hg h9 => by omega) h.2
  have hs : Te (lsV S.1 (fun K => ce_X11_smooth S.1 K 0 x1 x2 S.2.1) (fun k z => if k = 1 then some (1, z) else if k = 4 then some (2, z) else if k = 3 then some (3, z) else none) (fun K => qe_X13_smooth K x1 x2 S.2.2)) (fun S1 => REL S1 ∧ dPhi S.1 ≤ dPhi S1.1) := st_smooth S x1 x2 x3 x4 x5 h.1
  exact w_monoE (lsV_nm hs hn (fun k z r hr => by
    have hr : (if k = 1 then some (1, z) else if k = 4 then some (2, z) else if k = 3 then some (3, z) else none) = some r := hr
    by_cases c0 : k = 1
    · rw [if_pos c0] at hr
      cases hr
      rfl
    by_cases c1 : k = 4
    · rw [if_neg c0, if_pos c1] at hr
      cases hr
      rfl
    by_cases c2 : k = 3
    · rw [if_neg c0, if_neg c1, if_pos c2] at hr
      cases hr
      rfl
    rw [if_neg c0, if_neg c1, if_neg c2] at hr
    cases hr)) (fun S1 ⟨⟨q1, q2⟩, q3⟩ => ⟨⟨q1, q3⟩, q2⟩)
theorem s2_apart : stp2 lst_apart := by
  intro S x1 x2 x3 x4 x5 h
  have hn : Te (fun K => ce_X11_apart S.1 K 0 x1 x2 S.2.1) (fun rc => NM rc.2.2) := te_nmP (nm_apart h.1.1 h.2.1) (fun K => ff_X11_apart) (fun g hg h9 => by omega) h.2
  have hs : Te (lsV S.1 (fun K => ce_X11_apart S.1 K 0 x1 x2 S.2.1) (fun k z => if k = 1 then some (1, z) else if k = 4 then some (2, z) else if k = 3 then some (3, z) else none) (fun K => qe_X13_apart K x1 x2 S.2.2)) (fun S1 => REL S1 ∧ dPhi S.1 ≤ dPhi S1.1) := st_apart S x1 x2 x3 x4 x5 h.1
  exact w_monoE (lsV_nm hs hn (fun k z r hr => by
    have hr : (if k = 1 then some (1, z) else if k = 4 then some (2, z) else if k = 3 then some (3, z) else none) = some r := hr
    by_cases c0 : k = 1
    · rw [if_pos c0] at hr
      cases hr
      rfl
    by_cases c1 : k = 4
    · rw [if_neg c0, if_pos c1] at hr
      cases hr
      rfl
    by_cases c2 : k = 3
    · rw [if_neg c0, if_neg c1, if_pos c2] at hr
      cases hr
      rfl
    rw [if_neg c0, if_neg c1, if_neg c2] at hr
    cases hr)) (fun S1 ⟨⟨q1, q2⟩, q3⟩ => ⟨⟨q1, q3⟩, q2⟩)
theorem s2_join : stp2 lst_join := by
  intro S x1 x2 x3 x4 x5 h
  have hn : Te (fun K => ce_X11_join S.1 K 0 x1 x2 x3 x4 S.2.1) (fun rc => NM rc.2.2) := te_nmP (nm_join h.1.1 h.2.1) (fun K => ff_X11_join) (fun g hg h9 => by omega) h.2
  have hs : Te (lsV S.1 (fun K => ce_X11_join S.1 K 0 x1 x2 x3 x4 S.2.1) (fun k z => if k = 1 then some (1, z) else if k = 4 then some (2, z) else if k = 3 then some (3, z) else none) (fun K => qe_X13_join K x1 x2 x3 x4 S.2.2)) (fun S1 => REL S1 ∧ dPhi S.1 ≤ dPhi S1.1) := st_join S x1 x2 x3 x4 x5 h.1
  exact w_monoE (lsV_nm hs hn (fun k z r hr => by
    have hr : (if k = 1 then some (1, z) else if k = 4 then some (2, z) else if k = 3 then some (3, z) else none) = some r := hr
    by_cases c0 : k = 1
    · rw [if_pos c0] at hr
      cases hr
      rfl
    by_cases c1 : k = 4
    · rw [if_neg c0, if_pos c1] at hr
      cases hr
      rfl
    by_cases c2 : k = 3
    · rw [if_neg c0, if_neg c1, if_pos c2] at hr
      cases hr
      rfl
    rw [if_neg c0, if_neg c1, if_neg c2] at hr
    cases hr)) (fun S1 ⟨⟨q1, q2⟩, q3⟩ => ⟨⟨q1, q3⟩, q2⟩)
theorem s2_moves : stp2 lst_moves := by
  intro S x1 x2 x3 x4 x5 h
  have hn : Te (fun K => ce_X11_moves S.1 K 0 x1 x2 S.2.1) (fun rc => NM rc.2.2) := nm_moves h.1.1 h.2
  have hs : Te (lsV S.1 (fun K => ce_X11_moves S.1 K 0 x1 x2 S.2.1) (fun k z => if k = 1 then some (1, z) else if k = 2 then some (2, z) else none) (fun K => qe_X13_moves K x1 x2 S.2.2)) (fun S1 => REL S1 ∧ dPhi S.1 ≤ dPhi S1.1) := st_moves S x1 x2 x3 x4 x5 h.1
  exact w_monoE (lsV_nm hs hn (fun k z r hr => by
    have hr : (if k = 1 then some (1, z) else if k = 2 then some (2, z) else none) = some r := hr
    by_cases c0 : k = 1
    · rw [if_pos c0] at hr
      cases hr
      rfl
    by_cases c1 : k = 2
    · rw [if_neg c0, if_pos c1] at hr
      cases hr
      rfl
    rw [if_neg c0, if_neg c1] at hr
    cases hr)) (fun S1 ⟨⟨q1, q2⟩, q3⟩ => ⟨⟨q1, q3⟩, q2⟩)
theorem s2_moved : stp2 lst_moved := by
  intro S x1 x2 x3 x4 x5 h
  have hn : Te (fun K => ce_X11_moved S.1 K 0 x1 S.2.1) (fun rc => NM rc.2.2) := te_nmP (nm_moved h.1.1 h.2) (fun K => ff_X11_moved) (fun g hg h9 => by omega) h.2
  have hs : Te (lsV S.1 (fun K => ce_X11_moved S.1 K 0 x1 S.2.1) (fun k z => if k = 1 then some (1, z) else if k = 3 then some (2, z) else none) (fun K => qe_X13_moved K x1 S.2.2)) (fun S1 => REL S1 ∧ dPhi S.1 ≤ dPhi S1.1) := st_moved S x1 x2 x3 x4 x5 h.1
  exact w_monoE (lsV_nm hs hn (fun k z r hr => by
    have hr : (if k = 1 then some (1, z) else if k = 3 then some (2, z) else none) = some r := hr
    by_cases c0 : k = 1
    · rw [if_pos c0] at hr
      cases hr
      rfl
    by_cases c1 : k = 3
    · rw [if_neg c0, if_pos c1] at hr
      cases hr
      rfl
    rw [if_neg c0, if_neg c1] at hr
    cases hr)) (fun S1 ⟨⟨q1, q2⟩, q3⟩ => ⟨⟨q1, q3⟩, q2⟩)
theorem s2_simplify : stp2 lst_simplify := by
  intro S x1 x2 x3 x4 x5 h
  have hn : Te (fun K => ce_X11_simplify S.1 K 0 x1 S.2.1) (fun rc => NM rc.2.2) := te_nmP (nm_simplify h.1.1 h.2.1) (fun K => ff_X11_simplify) (fun g hg h9 => by omega) h.2
  have hs : Te (lsV S.1 (fun K => ce_X11_simplify S.1 K 0 x1 S.2.1) (fun k z => if k = 1 then some (1, z) else if k = 3 then some (2, z) else none) (fun K => qe_X13_simplify K x1 S.2.2)) (fun S1 => REL S1 ∧ dPhi S.1 ≤ dPhi S1.1) := st_simplify S x1 x2 x3 x4 x5 h.1
  exact w_monoE (lsV_nm hs hn (fun k z r hr => by
    have hr : (if k = 1 then some (1, z) else if k = 3 then some (2, z) else none) = some r := hr
    by_cases c0 : k = 1
    · rw [if_pos c0] at hr
      cases hr
      rfl
    by_cases c1 : k = 3
    · rw [if_neg c0, if_pos c1] at hr
      cases hr
      rfl
    rw [if_neg c0, if_neg c1] at hr
    cases hr)) (fun S1 ⟨⟨q1, q2⟩, q3⟩ => ⟨⟨q1, q3⟩, q2⟩)
theorem s2_summand : stp2 lst_summand := by
  intro S x1 x2 x3 x4 x5 h
  have hn : Te (fun K => ce_X11_summand S.1 K 0 x1 S.2.1) (fun rc => NM rc.2.2) := te_nmP (nm_summand h.1.1 h.2) (fun K => ff_X11_summand) (fun g hg h9 => by omega) h.2
  have hs : Te (lsV S.1 (fun K => ce_X11_summand S.1 K 0 x1 S.2.1) (fun k z => if k = 1 then some (1, z) else if k = 3 then some (2, z) else none) (fun K => qe_X13_summand K x1 S.2.2)) (fun S1 => REL S1 ∧ dPhi S.1 ≤ dPhi S1.1) := st_summand S x1 x2 x3 x4 x5 h.1
  exact w_monoE (lsV_nm hs hn (fun k z r hr => by
    have hr : (if k = 1 then some (1, z) else if k = 3 then some (2, z) else none) = some r := hr
    by_cases c0 : k = 1
    · rw [if_pos c0] at hr
      cases hr
      rfl
    by_cases c1 : k = 3
    · rw [if_neg c0, if_pos c1] at hr
      cases hr
      rfl
    rw [if_neg c0, if_neg c1] at hr
    cases hr)) (fun S1 ⟨⟨q1, q2⟩, q3⟩ => ⟨⟨q1, q3⟩, q2⟩)
theorem s2_jones : stp2 lst_jones := by
  intro S x1 x2 x3 x4 x5 h
  have hn : Te (fun K => ce_X11_jones S.1 K 0 x1 x2 S.2.1) (fun rc => NM rc.2.2) := w_monoE (tc_jones h.1.1.2.1 h.1.2.1.2.1) (fun rc ⟨_, _, _, _, f, _⟩ => NM_fr f (fun g hg h9 => by unfold jnP at hg; omega) h.2)
  have hs : Te (lsV S.1 (fun K => ce_X11_jones S.1 K 0 x1 x2 S.2.1) (fun k z => if k = 1 then some (1, z) else none) (fun K => qe_X13_jones K x1 x2 S.2.2)) (fun S1 => REL S1 ∧ dPhi S.1 ≤ dPhi S1.1) := st_jones S x1 x2 x3 x4 x5 h.1
  exact w_monoE (lsV_nm hs hn (fun k z r hr => by
    have hr : (if k = 1 then some (1, z) else none) = some r := hr
    by_cases c0 : k = 1
    · rw [if_pos c0] at hr
      cases hr
      rfl
    rw [if_neg c0] at hr
    cases hr)) (fun S1 ⟨⟨q1, q2⟩, q3⟩ => ⟨⟨q1, q3⟩, q2⟩)
theorem s2_closure : stp2 lst_closure := by
  intro S x1 x2 x3 x4 x5 h
  have hn : Te (fun K => ce_X11_closure S.1 K 0 x1 S.2.1) (fun rc => NM rc.2.2) := te_nmP (nm_closure h.1.1 h.2.1) (fun K => ff_X11_closure) (fun g hg h9 => by omega) h.2
  have hs : Te (lsV S.1 (fun K => ce_X11_closure S.1 K 0 x1 S.2.1) (fun k z => if k = 1 then some (1, z) else if k = 4 then some (2, z) else if k = 3 then some (3, z) else none) (fun K => qe_X13_closure K x1 S.2.2)) (fun S1 => REL S1 ∧ dPhi S.1 ≤ dPhi S1.1) := st_closure S x1 x2 x3 x4 x5 h.1
  exact w_monoE (lsV_nm hs hn (fun k z r hr => by
    have hr : (if k = 1 then some (1, z) else if k = 4 then some (2, z) else if k = 3 then some (3, z) else none) = some r := hr
    by_cases c0 : k = 1
    · rw [if_pos c0] at hr
      cases hr
      rfl
    by_cases c1 : k = 4
    · rw [if_neg c0, if_pos c1] at hr
      cases hr
      rfl
    by_cases c2 : k = 3
    · rw [if_neg c0, if_neg c1, if_pos c2] at hr
      cases hr
      rfl
    rw [if_neg c0, if_neg c1, if_neg c2] at hr
    cases hr)) (fun S1 ⟨⟨q1, q2⟩, q3⟩ => ⟨⟨q1, q3⟩, q2⟩)
theorem s2_product : stp2 lst_product := by
  intro S x1 x2 x3 x4 x5 h
  have hn : Te (fun K => ce_X11_product S.1 K 0 x1 x2 S.2.1) (fun rc => NM rc.2.2) := te_nmF (te_in (c_product h.1.1)) (fun K => ff_X11_product) (fun g hg h9 => by omega) h.2
  have hs : Te (lsV S.1 (fun K => ce_X11_product S.1 K 0 x1 x2 S.2.1) (fun k z => if k = 1 then some (1, z) else if k = 2 then some (2, z) else if k = 4 then some (3, z) else if k = 3 then some (4, z) else none) (fun K => qe_X13_product K x1 x2 S.2.2)) (fun S1 => REL S1 ∧ dPhi S.1 ≤ dPhi S1.1) := st_product S x1 x2 x3 x4 x5 h.1
  exact w_monoE (lsV_nm hs hn (fun k z r hr => by
    have hr : (if k = 1 then some (1, z) else if k = 2 then some (2, z) else if k = 4 then some (3, z) else if k = 3 then some (4, z) else none) = some r := hr
    by_cases c0 : k = 1
    · rw [if_pos c0] at hr
      cases hr
      rfl
    by_cases c1 : k = 2
    · rw [if_neg c0, if_pos c1] at hr
      cases hr
      rfl
    by_cases c2 : k = 4
    · rw [if_neg c0, if_neg c1, if_pos c2] at hr
      cases hr
      rfl
    by_cases c3 : k = 3
    · rw [if_neg c0, if_neg c1, if_neg c2, if_pos c3] at hr
      cases hr
      rfl
    rw [if_neg c0, if_neg c1, if_neg c2, if_neg c3] at hr
    cases hr)) (fun S1 ⟨⟨q1, q2⟩, q3⟩ => ⟨⟨q1, q3⟩, q2⟩)
theorem s2_inverse : stp2 lst_inverse := by
  intro S x1 x2 x3 x4 x5 h
  have hn : Te (fun K => ce_X11_inverse S.1 K 0 x1 S.2.1) (fun rc => NM rc.2.2) := te_nmF (te_in (c_inverse h.1.1)) (fun K => ff_X11_inverse) (fun g hg h9 => by omega) h.2
  have hs : Te (lsV S.1 (fun K => ce_X11_inverse S.1 K 0 x1 S.2.1) (fun k z => if k = 1 then some (1, z) else if k = 3 then some (2, z) else none) (fun K => qe_X13_inverse K x1 S.2.2)) (fun S1 => REL S1 ∧ dPhi S.1 ≤ dPhi S1.1) := st_inverse S x1 x2 x3 x4 x5 h.1
  exact w_monoE (lsV_nm hs hn (fun k z r hr => by
    have hr : (if k = 1 then some (1, z) else if k = 3 then some (2, z) else none) = some r := hr
    by_cases c0 : k = 1
    · rw [if_pos c0] at hr
      cases hr
      rfl
    by_cases c1 : k = 3
    · rw [if_neg c0, if_pos c1] at hr
      cases hr
      rfl
    rw [if_neg c0, if_neg c1] at hr
    cases hr)) (fun S1 ⟨⟨q1, q2⟩, q3⟩ => ⟨⟨q1, q3⟩, q2⟩)
theorem s2_way : stp2 lst_way := by
  intro S x1 x2 x3 x4 x5 h
  have hc := rel_of (vl := S.1) (y := S.2.1) (z := S.2.2) (em := [(1, 1), (2, 4)]) (fc := fun K => ce_X11_way S.1 K 0 x1 x2 S.2.1) (fm := fun K => qe_X13_way K x1 x2 S.2.2) h.1 (w_monoE (c_way h.1.1 h.2.1) (fun rr hr => w_monoE hr (fun rc hb => hb.1))) (fun K => ff_X13_way) (fun K => ff_X11_way) (by decide) (fun g hg h9 => by unfold ciH at h9; omega)
  have hn : Te (fun K => ce_X11_way S.1 K 0 x1 x2 S.2.1) (fun rc => NM rc.2.2) := te_nmF (te_in hc) (fun K => ff_X11_way) (fun g hg h9 => by omega) h.2
  have hs : Te (lsV S.1 (fun K => ce_X11_way S.1 K 0 x1 x2 S.2.1) (fun k z => if k = 1 then some (1, z) else if k = 4 then some (2, z) else none) (fun K => qe_X13_way K x1 x2 S.2.2)) (fun S1 => REL S1 ∧ dPhi S.1 ≤ dPhi S1.1) := by
    refine st_int hc (fun j k hm => ?_)
    simp only [List.mem_cons, List.not_mem_nil, or_false, Prod.mk.injEq] at hm
    rcases hm with ⟨rfl, rfl⟩ | ⟨rfl, rfl⟩ <;> exact ⟨by decide, by decide, by decide, fun _ => rfl⟩
  exact w_monoE (lsV_nm hs hn (fun k z r hr => by
    have hr : (if k = 1 then some (1, z) else if k = 4 then some (2, z) else none) = some r := hr
    by_cases c0 : k = 1
    · rw [if_pos c0] at hr
      cases hr
      rfl
    by_cases c1 : k = 4
    · rw [if_neg c0, if_pos c1] at hr
      cases hr
      rfl
    rw [if_neg c0, if_neg c1] at hr
    cases hr)) (fun S1 ⟨⟨q1, q2⟩, q3⟩ => ⟨⟨q1, q3⟩, q2⟩)
theorem s2_alike : stp2 lst_alike := by
  intro S x1 x2 x3 x4 x5 h
  have hn : Te (fun K => ce_X11_alike S.1 K 0 x1 x2 S.2.1) (fun rc => NM rc.2) := (w_monoE (te_fo (te_in (by
    obtain ⟨⟨St, k⟩, -⟩ := id h.1.1
    exact b_alike k)) (fun K => ff_X11_alike)) (fun rc ⟨_, f⟩ => NM_fr f (fun g hg => hg.elim) h.2))
  exact w_monoE (lsB_nm (fc := (fun K => ce_X11_alike S.1 K 0 x1 x2 S.2.1)) (fm := fun K => qe_X13_alike K x1 x2 S.2.2) (st_alike S x1 x2 x3 x4 x5 h.1) hn) (fun S1 ⟨⟨q1, q2⟩, q3⟩ => ⟨⟨q1, q3⟩, q2⟩)
theorem s2_drop : stp2 lst_drop := by
  intro S x1 x2 x3 x4 x5 h
  have hn : Te (fun K => ce_X11_drop S.1 K 0 x1 S.2.1) (fun rc => NM rc.2) := (w_monoE (te_fo (nm_drop h.1.1 h.2.1) (fun K => ff_X11_drop)) (fun rc ⟨hn, f⟩ => NM_pl f (fun g hg h9 => by omega) hn h.2))
  exact w_monoE (lsB_nm (fc := (fun K => ce_X11_drop S.1 K 0 x1 S.2.1)) (fm := fun K => qe_X13_drop K x1 S.2.2) (st_drop S x1 x2 x3 x4 x5 h.1) hn) (fun S1 ⟨⟨q1, q2⟩, q3⟩ => ⟨⟨q1, q3⟩, q2⟩)
theorem s2_dropBraid : stp2 lst_dropBraid := by
  intro S x1 x2 x3 x4 x5 h
  have hn : Te (fun K => ce_X11_dropBraid S.1 K 0 x1 S.2.1) (fun rc => NM rc.2) := (w_monoE (te_fo (te_in (c_dropBraid h.1.1)) (fun K => ff_X11_dropBraid)) (fun rc ⟨_, f⟩ => NM_fr f (fun g hg h9 => by omega) h.2))
  exact w_monoE (lsB_nm (fc := (fun K => ce_X11_dropBraid S.1 K 0 x1 S.2.1)) (fm := fun K => qe_X13_dropBraid K x1 S.2.2) (st_dropBraid S x1 x2 x3 x4 x5 h.1) hn) (fun S1 ⟨⟨q1, q2⟩, q3⟩ => ⟨⟨q1, q3⟩, q2⟩)
theorem s2_end : stp2 lst_end := by
  intro S x1 x2 x3 x4 x5 h
  obtain ⟨zm, ⟨b1, hb1⟩, ⟨⟨k, zc⟩, ⟨b2, hb2⟩, ⟨hR, ha⟩, f2⟩, f1⟩ := te_fo (st := id) (P := pf [1, 11] []) (z0 := S.2.2) (w_monoE (c_end (vl := S.1) (x := x1) h.1.1) (fun rr h1 => te_fo (st := Prod.snd) (P := fun g => g = 0 + 11001) (z0 := S.2.1) h1 (fun K => ff_X11_end))) (fun K => ff_X13_end)
  refine ⟨(S.1, zc, zm), ⟨b1 + b2, fun K hK => ?_⟩, ⟨⟨hR, CI_fr f2 (fun g hg h9 => by unfold ciH at h9; omega) h.1.2.1, jnR_fr f1 (by decide) (by decide) h.1.2.2⟩, NM_fr f2 (fun g hg h9 => by omega) h.2⟩, Nat.le_refl _⟩
  have q1 : qe_X13_end K x1 S.2.2 = some zm := hb1 K (by omega)
  have q2 : ce_X11_end S.1 K 0 x1 S.2.1 = some (k, zc) := hb2 K (by omega)
  have hl : le_L_end S.1 K 0 x1 S.2.1 = if k = 0 then some (0, zc) else if k = 2 then some (1, zc) else none := by
    unfold le_L_end
    rw [q2]
    rfl
  show (cs1 (le_L_end S.1 K 0 x1 S.2.1) fun v2 zc1 => cs0 (qe_X13_end K x1 S.2.2) fun zm3 => cs1 (qe_X13_thrown K zm3) fun v5 zm4 => (if v5 = v2 then some (S.1, zc1, zm4) else none)) = _
  rw [hl, q1]
  rcases ha with ⟨t0, k0⟩ | ⟨t0, k0⟩
  · have k0 : k = 0 := k0
    rw [k0, if_pos rfl]
    exact if_pos t0
  · have k0 : k = 2 := k0
    rw [k0, if_neg (by decide), if_pos rfl]
    exact if_pos t0
end XS4
section XS5
end XS5
end
section
/-! 99zzzzzzzzzzzzr.xsu1 -/
/-! parting: whatever is parted first, the end is one -/
/-- two gaps are exchanged -/
def exN (N : Nat → Nat) (v w k : Nat) : Nat := if k = w then N v else if k = v then N w else N k
/-- one part: every mark that is kept along rings and through crossings is the same -/
def ptN (c : Nat) (N : Nat → Nat) (a b : Nat) : Prop := ∀ m : Nat → Nat, (∀ k, k < 2 * c → m (N k) = m k ∧ m (mt k) = m k) → m a = m b
def bjN (c : Nat) (N : Nat → Nat) : Prop := (∀ k, k < 2 * c → N k < 2 * c) ∧ ∀ j k, j < 2 * c → k < 2 * c → N j = N k → j = k
def prN (c : Nat) (N : Nat → Nat) (v w : Nat) : Prop := v < 2 * c ∧ w < 2 * c ∧ v ≠ w ∧ (∃ i, it N i v = w) ∧ ¬ ptN c (exN N v w) v w
def stN (c : Nat) : Nat → (Nat → Nat) → (Nat → Nat) → Prop
  | 0, N, M => N = M
  | n + 1, N, M => ∃ v w, prN c N v w ∧ stN c n (exN N v w) M
def irN (c : Nat) (N : Nat → Nat) : Prop := ∀ v w, ¬ prN c N v w
section XSU
variable {c : Nat} {N M : Nat → Nat} {v w v' w' a b : Nat}
theorem exN_v (h : v ≠ w) : exN N v w v = N w := by
  unfold exN
  rw [if_neg h, if_pos rfl]
theorem exN_w : exN N v w w = N v := if_pos rfl
theorem exN_o (h1 : a ≠ v) (h2 : a ≠ w) : exN N v w a = N a := by
  unfold exN
  rw [if_neg h2, if_neg h1]
theorem exN_sy (h : v ≠ w) : exN N v w = exN N w v := by
  funext k
  unfold exN
  by_cases e1 : k = w
  · rw [if_pos e1, if_neg (fun e => h (e.symm.trans e1)), if_pos e1]
  · by_cases e2 : k = v
    · rw [if_neg e1, if_pos e2, if_pos e2]
    · rw [if_neg e1, if_neg e2, if_neg e2, if_neg e1]
theorem bj_ex (h : bjN c N) (hv : v < 2 * c) (hw : w < 2 * c) : bjN c (exN N v w) := by
  by_cases e : v = w
  · subst e
    have : exN N v v = N := by
      funext k
      unfold exN
      by_cases e1 : k = v
      · rw [if_pos e1, e1]
      · rw [if_neg e1, if_neg e1]
    rw [this]
    exact h
  · have key : ∀ k, exN N v w k = N (if k = w then v else if k = v then w else k) := fun k => by
      unfold exN
      by_cases e1 : k = w
      · rw [if_pos e1, if_pos e1]
      · by_cases e2 : k = v
        · rw [if_neg e1, if_pos e2, if_neg e1, if_pos e2]
        · rw [if_neg e1, if_neg e2, if_neg e1, if_neg e2]
    have lt : ∀ k, k < 2 * c → (if k = w then v else if k = v then w else k) < 2 * c := fun k hk => by
      split
      · exact hv
      · split
        · exact hw
        · exact hk
    refine ⟨fun k hk => by rw [key]; exact h.1 _ (lt k hk), fun j k hj hk he => ?_⟩
    rw [key, key] at he
    have e9 := h.2 _ _ (lt j hj) (lt k hk) he
    repeat' split at e9
    all_goals omega
theorem pt_rf : ptN c N a a := fun _ _ => rfl
theorem pt_sy (h : ptN c N a b) : ptN c N b a := fun m hm => (h m hm).symm
theorem pt_tr {d : Nat} (h : ptN c N a b) (h2 : ptN c N b d) : ptN c N a d := fun m hm => (h m hm).trans (h2 m hm)
theorem pt_it (hb : bjN c N) : ∀ (i a : Nat), a < 2 * c → ptN c N a (it N i a) ∧ it N i a < 2 * c
  | 0, a, ha => ⟨pt_rf, ha⟩
  | i + 1, a, ha => by
    obtain ⟨h1, h2⟩ := pt_it hb i a ha
    exact ⟨fun m hm => (h1 m hm).trans (hm _ h2).1.symm, hb.1 _ h2⟩
/-- an exchange within one part joins nothing -/
theorem pt_ex (hv : v < 2 * c) (hw : w < 2 * c) (h : ptN c N v w) (h2 : ptN c (exN N v w) a b) : ptN c N a b := by
  intro m hm
  refine h2 m (fun k hk => ⟨?_, (hm k hk).2⟩)
  have e := h m hm
  unfold exN
  by_cases e1 : k = w
  · rw [if_pos e1, (hm v hv).1, e1, e]
  · by_cases e2 : k = v
    · rw [if_neg e1, if_pos e2, (hm w hw).1, e2, e]
    · rw [if_neg e1, if_neg e2]
      exact (hm k hk).1
/-- the ring of v, by places: v = place 0, of n places -/
theorem pos_ex (hb : bjN c N) (hv : v < 2 * c) : ∃ n, 0 < n ∧ it N n v = v ∧ (∀ i j, i < n → j < n → it N i v = it N j v → i = j) ∧ ∀ i, ∃ j, j < n ∧ it N i v = it N j v := by
  have it_add9 : ∀ (i j x : Nat), it N (i + j) x = it N j (it N i x) := fun i j x => by
    rw [Nat.add_comm]
    exact it_add N x j i
  have injI : ∀ (i x y : Nat), x < 2 * c → y < 2 * c → it N i x = it N i y → x = y := by
    intro i
    induction i with
    | zero => exact fun x y _ _ e => e
    | succ i ih =>
      intro x y hx hy e
      exact ih x y hx hy (hb.2 _ _ (pt_it hb i x hx).2 (pt_it hb i y hy).2 e)
  have lt : ∀ i, it N i v < 2 * c := fun i => (pt_it hb i v hv).2
  obtain ⟨i, j, h1, h2, h3⟩ := ow_pig (2 * c) (fun i => it N i v) (fun i _ => lt i)
  have hp : it N (j - i) v = v := by
    have e : it N j v = it N i (it N (j - i) v) := by rw [← it_add9, show j - i + i = j by omega]
    have h3 : it N i v = it N j v := h3
    rw [e] at h3
    exact (injI i _ _ hv (lt _) h3).symm
  have ex : ∃ n, 0 < n ∧ it N n v = v := ⟨j - i, by omega, hp⟩
  obtain ⟨n, ⟨n1, n2⟩, n3⟩ : ∃ n, (0 < n ∧ it N n v = v) ∧ ∀ m, m < n → ¬ (0 < m ∧ it N m v = v) := by
    obtain ⟨n, hn⟩ := ex
    induction n using Nat.strongRecOn with
    | _ n ih =>
      by_cases h9 : ∃ m, m < n ∧ 0 < m ∧ it N m v = v
      · obtain ⟨m, m1, m2⟩ := h9
        exact ih m m1 m2
      · exact ⟨n, hn, fun m m1 m2 => h9 ⟨m, m1, m2⟩⟩
  refine ⟨n, n1, n2, fun i j hi hj e => ?_, fun i => ⟨i % n, Nat.mod_lt _ n1, ?_⟩⟩
  · rcases Nat.lt_trichotomy i j with q | q | q
    · exfalso
      have e2 : it N j v = it N i (it N (j - i) v) := by rw [← it_add9, show j - i + i = j by omega]
      rw [e2] at e
      exact n3 (j - i) (by omega) ⟨by omega, (injI i _ _ hv (lt _) e).symm⟩
    · exact q
    · exfalso
      have e2 : it N i v = it N j (it N (i - j) v) := by rw [← it_add9, show i - j + j = i by omega]
      rw [e2] at e
      exact n3 (i - j) (by omega) ⟨by omega, (injI j _ _ hv (lt _) e.symm).symm⟩
  · have key : ∀ q r, it N (n * q + r) v = it N r v := by
      intro q
      induction q with
      | zero =>
        intro r
        rw [Nat.mul_zero, Nat.zero_add]
      | succ q ih =>
        intro r
        rw [Nat.mul_succ, show n * q + n + r = n + (n * q + r) by omega, it_add9, n2]
        exact ih r
    have := key (i / n) (i % n)
    rw [Nat.div_add_mod] at this
    exact this
end XSU
end
section
/-! 99zzzzzzzzzzzzs.xsu2 -/
/-! parting: the end is one, by first returns -/
def lbN (c : Nat) (N m : Nat → Nat) : Prop := ∀ k, k < 2 * c → m (N k) = m k ∧ m (mt k) = m k
/-- M is where N comes back to the same part of M for the first time -/
def frN (c : Nat) (N M : Nat → Nat) : Prop := ∀ a, a < 2 * c → ∃ j, it N (j + 1) a = M a ∧ ∀ k, 0 < k → k < j + 1 → ¬ ptN c M a (it N k a)
section XSV
variable {c : Nat} {N M : Nat → Nat} {v w a b : Nat}
theorem sepE (h : ¬ ptN c N a b) : ∃ m, lbN c N m ∧ m a ≠ m b := by
  refine Classical.byContradiction (fun h9 => h (fun m hm => ?_))
  exact Classical.byContradiction (fun h8 => h9 ⟨m, hm, h8⟩)
theorem leastE {P : Nat → Prop} (h : ∃ n, P n) : ∃ n, P n ∧ ∀ k, k < n → ¬ P k := by
  obtain ⟨n, hn⟩ := h
  induction n using Nat.strongRecOn with
  | _ n ih =>
    by_cases h9 : ∃ m, m < n ∧ P m
    · obtain ⟨m, m1, m2⟩ := h9
      exact ih m m1 m2
    · exact ⟨n, hn, fun m m1 m2 => h9 ⟨m, m1, m2⟩⟩
theorem it_sub (i k a : Nat) (h : k ≤ i) : it N i a = it N (i - k) (it N k a) := by
  rw [← it_add, Nat.sub_add_cancel h]
theorem injI (hb : bjN c N) : ∀ (i x y : Nat), x < 2 * c → y < 2 * c → it N i x = it N i y → x = y
  | 0, _, _, _, _, e => e
  | i + 1, x, y, hx, hy, e => injI hb i x y hx hy (hb.2 _ _ (pt_it hb i x hx).2 (pt_it hb i y hy).2 e)
theorem pr_sy (hb : bjN c N) (h : prN c N v w) : prN c N w v := by
  obtain ⟨h1, h2, h3, ⟨i, h4⟩, h5⟩ := h
  refine ⟨h2, h1, fun e => h3 e.symm, ?_, fun h => h5 ?_⟩
  · obtain ⟨n, n1, n2, n3, n4⟩ := pos_ex hb h1
    obtain ⟨j, j1, j2⟩ := n4 i
    refine ⟨n - j, ?_⟩
    rw [← h4, j2, ← it_add, Nat.sub_add_cancel (Nat.le_of_lt j1), n2]
  · rw [exN_sy h3]
    exact pt_sy h
theorem lb_run (hn : v ≠ w) {i : Nat} (hi : it N i v = w) (hl : ∀ k, k < i → it N k v ≠ w) {m : Nat → Nat} (hv : v < 2 * c) (hw : w < 2 * c) (hb : bjN c N) (hm : lbN c (exN N v w) m) : ∀ k, k < i → m (it N (k + 1) v) = m w
  | 0, _ => by
    have e := (hm w hw).1
    rw [exN_w] at e
    exact e
  | k + 1, hk => by
    have ih := lb_run hn hi hl hv hw hb hm k (by omega)
    have lt := (pt_it hb (k + 1) v hv).2
    have e := (hm _ lt).1
    rw [exN_o (fun e9 => ?_) (hl _ hk), ih] at e
    · exact e
    · have e2 := it_sub (N := N) i (k + 1) v (by omega)
      rw [e9, hi] at e2
      exact hl (i - (k + 1)) (by omega) e2.symm
theorem one_v (hb : bjN c N) (h : prN c N v w) {m : Nat → Nat} (hm : lbN c (exN N v w) m) (hd : m v ≠ m w) : ∃ i, it N (i + 1) v = exN N v w v ∧ ∀ k, 0 < k → k < i + 1 → m (it N k v) ≠ m v := by
  obtain ⟨i, hi, hl⟩ := leastE h.2.2.2.1
  refine ⟨i, ?_, fun k k1 k2 e => hd ?_⟩
  · rw [exN_v h.2.2.1, ← hi]
    rfl
  · rw [← e]
    have := lb_run h.2.2.1 hi hl h.1 h.2.1 hb hm (k - 1) (by omega)
    rw [Nat.sub_add_cancel k1] at this
    exact this
theorem one_a (hb : bjN c N) (h : prN c N v w) {m : Nat → Nat} (hm : lbN c (exN N v w) m) (hd : m v ≠ m w) (a : Nat) : ∃ i, it N (i + 1) a = exN N v w a ∧ ∀ k, 0 < k → k < i + 1 → m (it N k a) ≠ m a := by
  by_cases e1 : a = v
  · rw [e1]
    exact one_v hb h hm hd
  · by_cases e2 : a = w
    · rw [e2]
      rw [exN_sy h.2.2.1] at hm ⊢
      exact one_v hb (pr_sy hb h) hm (fun e => hd e.symm)
    · refine ⟨0, ?_, fun k k1 k2 => by omega⟩
      rw [exN_o e1 e2]
      rfl
theorem bj_pr (hb : bjN c N) (h : prN c N v w) : bjN c (exN N v w) := bj_ex hb h.1 h.2.1
theorem fr9_one (hb : bjN c N) (h : prN c N v w) : frN c N (exN N v w) := by
  intro a ha
  obtain ⟨m, hm, hd⟩ := sepE h.2.2.2.2
  obtain ⟨i, i1, i2⟩ := one_a hb h hm hd a
  exact ⟨i, i1, fun k k1 k2 p => i2 k k1 k2 (p m hm).symm⟩
theorem fr9_lb (hb : bjN c N) (h : frN c N M) {m : Nat → Nat} (hm : lbN c N m) : lbN c M m := by
  intro k hk
  refine ⟨?_, (hm k hk).2⟩
  obtain ⟨j, j1, _⟩ := h k hk
  rw [← j1]
  exact ((pt_it hb (j + 1) k hk).1 m hm).symm
theorem fr9_pt (hb : bjN c N) (h : frN c N M) (p : ptN c M a b) : ptN c N a b := fun m hm => p m (fr9_lb hb h hm)
theorem fr9_back (hb : bjN c N) (h : prN c N v w) {m : Nat → Nat} (hm : lbN c (exN N v w) m) (hd : m v ≠ m w) : ∀ (j a : Nat), a < 2 * c → m (it N (j + 1) a) = m a → ∃ j', it (exN N v w) (j' + 1) a = it N (j + 1) a ∧ ∀ k, 0 < k → k < j' + 1 → ∃ k', 0 < k' ∧ k' < j + 1 ∧ it (exN N v w) k a = it N k' a := by
  intro j
  induction j using Nat.strongRecOn with
  | _ j ih =>
    intro a ha e
    obtain ⟨i, i1, i2⟩ := one_a hb h hm hd a
    rcases Nat.lt_trichotomy i j with q | q | q
    · have hlt : exN N v w a < 2 * c := (bj_pr hb h).1 a ha
      have e9 : it N (j - i - 1 + 1) (exN N v w a) = it N (j + 1) a := by
        rw [← i1, ← it_add]
        exact congrArg (fun z => it N z a) (by omega)
      obtain ⟨j', j1, j2⟩ := ih (j - i - 1) (by omega) (exN N v w a) hlt (by rw [e9, e]; exact (hm a ha).1.symm)
      have shE : ∀ k, it (exN N v w) (k + 1) a = it (exN N v w) k (exN N v w a) := fun k => it_add (exN N v w) a k 1
      refine ⟨j' + 1, ?_, fun k k1 k2 => ?_⟩
      · rw [shE, j1, e9]
      · rcases Nat.eq_or_lt_of_le (show 1 ≤ k from k1) with q9 | q9
        · exact ⟨i + 1, by omega, by omega, by rw [← q9, i1]; rfl⟩
        · obtain ⟨k', l1, l2, l3⟩ := j2 (k - 1) (by omega) (by omega)
          refine ⟨k' + (i + 1), by omega, by omega, ?_⟩
          have := shE (k - 1)
          rw [Nat.sub_add_cancel k1] at this
          rw [this, l3, it_add, i1]
    · exact ⟨0, by rw [← q, i1]; rfl, fun k k1 k2 => by omega⟩
    · exact absurd e (i2 (j + 1) (by omega) (by omega))
theorem fr9_chg {m : Nat → Nat} (hb : bjN c N) (hm : lbN c (exN N v w) m) (ha : a < 2 * c) (n : Nat) (h : ∀ i, i < n → it N i a ≠ v ∧ it N i a ≠ w) : m (it N n a) = m a := by
  induction n with
  | zero => rfl
  | succ n ih =>
    have e := (hm _ (pt_it hb n a ha).2).1
    rw [exN_o (h n (by omega)).1 (h n (by omega)).2] at e
    exact e.trans (ih (fun i hi => h i (by omega)))
def chN (c : Nat) (N M : Nat → Nat) (b g : Nat) : Prop := ∃ j i, it N (j + 1) b = M b ∧ (∀ k, 0 < k → k < j + 1 → ¬ ptN c M b (it N k b)) ∧ i < j + 1 ∧ it N i b = g
theorem ch_one (hb : bjN c N) {x y g : Nat} (hx : x < 2 * c) (hy : y < 2 * c) (h1 : chN c N M x g) (h2 : chN c N M y g) (hp : ptN c M x y) : x = y := by
  obtain ⟨j, i, a1, a2, a3, a4⟩ := h1
  obtain ⟨j', i', b1, b2, b3, b4⟩ := h2
  rcases Nat.lt_trichotomy i i' with q | q | q
  · exfalso
    have e := it_sub (N := N) i' (i' - i) y (by omega)
    rw [b4, ← a4, show i' - (i' - i) = i by omega] at e
    have e := injI hb i _ _ hx (pt_it hb _ y hy).2 e
    exact b2 (i' - i) (by omega) (by omega) (by rw [← e]; exact pt_sy hp)
  · rw [q, ← b4] at a4
    exact injI hb i' _ _ hx hy a4
  · exfalso
    have e := it_sub (N := N) i (i - i') x (by omega)
    rw [a4, ← b4, show i - (i - i') = i' by omega] at e
    have e := injI hb i' _ _ hy (pt_it hb _ x hx).2 e
    exact a2 (i - i') (by omega) (by omega) (by rw [← e]; exact hp)
theorem ch_ex (hb : bjN c N) (hR : frN c N M) {m : Nat → Nat} (hm : lbN c (exN N v w) m) (ha : a < 2 * c) (h : m (M a) ≠ m a) : chN c N M a v ∨ chN c N M a w := by
  obtain ⟨j, j1, j2⟩ := hR a ha
  refine Classical.byContradiction (fun h9 => h ?_)
  rw [← j1]
  exact fr9_chg hb hm ha _ (fun i hi => ⟨fun e => h9 (Or.inl ⟨j, i, j1, j2, hi, e⟩), fun e => h9 (Or.inr ⟨j, i, j1, j2, hi, e⟩)⟩)
/-- a mark that one parting leaves is kept by every end -/
theorem fr9_star (hb : bjN c N) (hbM : bjN c M) (hR : frN c N M) (hi : irN c M) {m : Nat → Nat} (hm : lbN c (exN N v w) m) : ∀ a, a < 2 * c → m (M a) = m a := by
  intro x hx
  refine Classical.byContradiction (fun hne => ?_)
  obtain ⟨n, n1, n2, _, _⟩ := pos_ex hbM hx
  have ex : ∃ i, m (it M (i + 2) x) = m x := by
    refine ⟨n - 2, ?_⟩
    by_cases e : n = 1
    · rw [e] at n2
      exact absurd (congrArg m n2) hne
    · rw [show n - 2 + 2 = n by omega, n2]
  obtain ⟨i, i1, i2⟩ := leastE ex
  have off : ∀ k, k ≤ i → m (it M (k + 1) x) ≠ m x := by
    intro k hk
    cases k with
    | zero => exact hne
    | succ k => exact i2 k (by omega)
  obtain ⟨py, hy⟩ := pt_it hbM (i + 1) x hx
  generalize hY : it M (i + 1) x = y at py hy
  have my : m (M y) = m x := by
    rw [← hY]
    exact i1
  have yx : m y ≠ m x := by
    rw [← hY]
    exact off i (Nat.le_refl _)
  have ney : x ≠ y := fun e => yx (by rw [← e])
  have cx := ch_ex hb hR hm hx hne
  have cy := ch_ex hb hR hm hy (fun e => yx (e.symm.trans my))
  have two : ∀ z, z < 2 * c → ptN c M x z → m (M z) ≠ m z → z = x ∨ z = y := by
    intro z hz pz hmz
    have cz := ch_ex hb hR hm hz hmz
    have pyz : ptN c M y z := pt_tr (pt_sy py) pz
    rcases cx with cx | cx <;> rcases cy with cy | cy <;> rcases cz with cz | cz
    · exact absurd (ch_one hb hx hy cx cy py) ney
    · exact absurd (ch_one hb hx hy cx cy py) ney
    · exact Or.inl (ch_one hb hx hz cx cz pz).symm
    · exact Or.inr (ch_one hb hy hz cy cz pyz).symm
    · exact Or.inr (ch_one hb hy hz cy cz pyz).symm
    · exact Or.inl (ch_one hb hx hz cx cz pz).symm
    · exact absurd (ch_one hb hx hy cx cy py) ney
    · exact absurd (ch_one hb hx hy cx cy py) ney
  have same : ∀ k, k ≤ i → m (it M (k + 1) x) = m (M x) := by
    intro k
    induction k with
    | zero => exact fun _ => rfl
    | succ k ih =>
      intro hk
      rw [← ih (by omega)]
      refine Classical.byContradiction (fun h9 => ?_)
      obtain ⟨pz, hz⟩ := pt_it hbM (k + 1) x hx
      rcases two _ hz pz h9 with e | e
      · exact off k (by omega) (by rw [e])
      · refine off (k + 1) hk ?_
        show m (M (it M (k + 1) x)) = m x
        rw [e, my]
  have mxy : m (M x) = m y := by
    rw [← hY]
    exact (same i (Nat.le_refl _)).symm
  refine hi x y ⟨hx, hy, ney, ⟨i + 1, hY⟩, fun p => ?_⟩
  have hself : ∀ k, k < 2 * c → ptN c M k (M k) ∧ ptN c M k (mt k) := fun k hk => ⟨fun m hm => (hm k hk).1.symm, fun m hm => (hm k hk).2.symm⟩
  have hdec : DecidablePred (fun k => ptN c M x k) := fun k => Classical.propDecidable _
  have q := p (fun k => if ptN c M x k then m k + 1 else 0) (fun k hk => ⟨?_, ?_⟩)
  · rw [if_pos pt_rf, if_pos py] at q
    omega
  · by_cases e1 : k = y
    · show (if ptN c M x (exN M x y k) then m (exN M x y k) + 1 else 0) = if ptN c M x k then m k + 1 else 0
      rw [e1, exN_w, if_pos (hself x hx).1, if_pos py, mxy]
    · by_cases e2 : k = x
      · show (if ptN c M x (exN M x y k) then m (exN M x y k) + 1 else 0) = if ptN c M x k then m k + 1 else 0
        rw [e2, exN_v ney, if_pos (pt_tr py (hself y hy).1), if_pos pt_rf, my]
      · show (if ptN c M x (exN M x y k) then m (exN M x y k) + 1 else 0) = if ptN c M x k then m k + 1 else 0
        rw [exN_o e2 e1]
        by_cases e3 : ptN c M x k
        · rw [if_pos (pt_tr e3 (hself k hk).1), if_pos e3]
          refine congrArg (· + 1) (Classical.byContradiction (fun h9 => ?_))
          rcases two k hk e3 h9 with e | e
          · exact e2 e
          · exact e1 e
        · rw [if_neg (fun h9 => e3 (pt_tr h9 (pt_sy (hself k hk).1))), if_neg e3]
  · show (if ptN c M x (mt k) then m (mt k) + 1 else 0) = if ptN c M x k then m k + 1 else 0
    by_cases e3 : ptN c M x k
    · rw [if_pos (pt_tr e3 (hself k hk).2), if_pos e3, (hm k hk).2]
    · rw [if_neg (fun h9 => e3 (pt_tr h9 (pt_sy (hself k hk).2))), if_neg e3]
theorem fr9_step (hb : bjN c N) (hbM : bjN c M) (hR : frN c N M) (hi : irN c M) (h : prN c N v w) : frN c (exN N v w) M := by
  obtain ⟨m, hm, hd⟩ := sepE h.2.2.2.2
  intro a ha
  obtain ⟨j, j1, j2⟩ := hR a ha
  obtain ⟨j', l1, l2⟩ := fr9_back hb h hm hd j a ha (by rw [j1]; exact fr9_star hb hbM hR hi hm a ha)
  refine ⟨j', l1.trans j1, fun k k1 k2 => ?_⟩
  obtain ⟨k', p1, p2, p3⟩ := l2 k k1 k2
  rw [p3]
  exact j2 k' p1 p2
theorem fr9_rf : frN c N N := fun a _ => ⟨0, rfl, fun k k1 k2 => by omega⟩
theorem fr9_tr {M' : Nat → Nat} (hb : bjN c N) (hbM : bjN c M) (h1 : frN c N M) (h2 : frN c M M') : frN c N M' := by
  have key : ∀ (j a : Nat), a < 2 * c → ∃ J, it N J a = it M j a ∧ (j = 0 ↔ J = 0) ∧ ∀ K, 0 < K → K < J → (∃ k, 0 < k ∧ k < j ∧ it N K a = it M k a) ∨ ¬ ptN c M a (it N K a) := by
    intro j
    induction j with
    | zero => exact fun a _ => ⟨0, rfl, Iff.rfl, fun K k1 k2 => by omega⟩
    | succ j ih =>
      intro a ha
      obtain ⟨J, J1, J2, J3⟩ := ih a ha
      obtain ⟨pb, hlt⟩ := pt_it hbM j a ha
      obtain ⟨s, s1, s2⟩ := h1 (it M j a) hlt
      refine ⟨s + 1 + J, by rw [it_add, J1, s1]; rfl, by omega, fun K k1 k2 => ?_⟩
      rcases Nat.lt_trichotomy K J with q | q | q
      · rcases J3 K k1 q with ⟨k, l1, l2, l3⟩ | l
        · exact Or.inl ⟨k, l1, by omega, l3⟩
        · exact Or.inr l
      · refine Or.inl ⟨j, ?_, by omega, by rw [q, J1]⟩
        rcases Nat.eq_zero_or_pos j with q9 | q9
        · have := J2.1 q9
          omega
        · exact q9
      · refine Or.inr ?_
        rw [it_sub K J a (by omega), J1]
        exact fun p => s2 (K - J) (by omega) (by omega) (pt_tr (pt_sy pb) p)
  intro a ha
  obtain ⟨j, j1, j2⟩ := h2 a ha
  obtain ⟨J, J1, J2, J3⟩ := key (j + 1) a ha
  have h0 : J ≠ 0 := fun e => by
    have := J2.2 e
    omega
  refine ⟨J - 1, by rw [show J - 1 + 1 = J by omega, J1, j1], fun K k1 k2 p => ?_⟩
  rcases J3 K k1 (by omega) with ⟨k, l1, l2, l3⟩ | l
  · rw [l3] at p
    exact j2 k l1 l2 p
  · exact l (fr9_pt hbM h2 p)
theorem fr9_of : ∀ (n : Nat) (N M : Nat → Nat), bjN c N → stN c n N M → frN c N M ∧ bjN c M
  | 0, N, M, hb, h => by
    have h : N = M := h
    rw [← h]
    exact ⟨fr9_rf, hb⟩
  | n + 1, N, M, hb, h => by
    obtain ⟨v, w, h1, h2⟩ := h
    obtain ⟨r1, r2⟩ := fr9_of n _ M (bj_pr hb h1) h2
    exact ⟨fr9_tr hb (bj_pr hb h1) (fr9_one hb h1) r1, r2⟩
theorem fr9_all (hbM : bjN c M) (hi : irN c M) : ∀ (n : Nat) (N M9 : Nat → Nat), bjN c N → frN c N M → stN c n N M9 → frN c M9 M
  | 0, N, M9, hb, hR, h => by
    have h : N = M9 := h
    rw [← h]
    exact hR
  | n + 1, N, M9, hb, hR, h => by
    obtain ⟨v, w, h1, h2⟩ := h
    exact fr9_all hbM hi n _ M9 (bj_pr hb h1) (fr9_step hb hbM hR hi h1) h2
/-- the end of all parting is one -/
theorem end_one {n n' : Nat} {M' : Nat → Nat} (hb : bjN c N) (h1 : stN c n N M) (h2 : stN c n' N M') (i1 : irN c M) (i2 : irN c M') : ∀ a, a < 2 * c → M a = M' a := by
  obtain ⟨r1, b1⟩ := fr9_of n N M hb h1
  obtain ⟨r2, b2⟩ := fr9_of n' N M' hb h2
  have q1 : frN c M' M := fr9_all b1 i1 n' N M' hb r1 h2
  have q2 : frN c M M' := fr9_all b2 i2 n N M hb r2 h1
  intro a ha
  obtain ⟨j, j1, j2⟩ := q1 a ha
  rcases Nat.eq_zero_or_pos j with e | e
  · rw [← j1, e]
    rfl
  · exact absurd (fr9_pt b1 q2 (fun m hm => (hm a ha).1.symm)) (j2 1 (by omega) (by omega))
end XSV
end
section
/-! 99zzzzzzzzzzzzt.xsu3 -/
/-! parting: what the class does -/
section XSW
variable {c : Nat} {N : Nat → Nat} {S : ow_NP} {x : Int32}
theorem mr_in_off : ∀ (d : Nat) (F : Nat → Int32) (v k : Nat), (∀ i, it N i v ≠ k) → mr_in N x d F v k = F k
  | 0, _, _, _, _ => rfl
  | d + 1, F, v, k, h => by
    show (if F v = -1 then mr_in N x d (su F v x) (N v) else F) k = F k
    by_cases e : F v = -1
    · rw [if_pos e, mr_in_off d _ (N v) k (fun i e9 => h (i + 1) ((it_add N v i 1).trans e9))]
      show (if k = v then x else F k) = F k
      rw [if_neg (fun e9 => h 0 e9.symm)]
    · rw [if_neg e]
theorem mr_in_val : ∀ (d : Nat) (F : Nat → Int32) (v k : Nat), mr_in N x d F v k = F k ∨ mr_in N x d F v k = x
  | 0, _, _, _ => Or.inl rfl
  | d + 1, F, v, k => by
    show (if F v = -1 then mr_in N x d (su F v x) (N v) else F) k = F k ∨ (if F v = -1 then mr_in N x d (su F v x) (N v) else F) k = x
    by_cases e : F v = -1
    · rw [if_pos e]
      rcases mr_in_val d (su F v x) (N v) k with h | h
      · rw [h]
        show (if k = v then x else F k) = F k ∨ (if k = v then x else F k) = x
        by_cases e1 : k = v
        · exact Or.inr (if_pos e1)
        · exact Or.inl (if_neg e1)
      · exact Or.inr h
    · rw [if_neg e]
      exact Or.inl rfl
theorem bj_vn (h : vn c S) : bjN c S.1 := ⟨fun k hk => (h k hk).1, fun j k hj hk e => by
  have h1 := (h j hj).2.2.1
  rw [e, (h k hk).2.2.1] at h1
  exact h1.symm⟩
theorem rg_sy (hb : bjN c N) {k j : Nat} (hk : k < 2 * c) (h : ∃ i, it N i k = j) : ∃ i, it N i j = k := by
  obtain ⟨i, h4⟩ := h
  obtain ⟨n, n1, n2, n3, n4⟩ := pos_ex hb hk
  obtain ⟨i2, j1, j2⟩ := n4 i
  refine ⟨n - i2, ?_⟩
  rw [← h4, j2, ← it_add, Nat.sub_add_cancel (Nat.le_of_lt j1), n2]
theorem rg_tr {k j l : Nat} (h : ∃ i, it N i k = j) (h2 : ∃ i, it N i j = l) : ∃ i, it N i k = l := by
  obtain ⟨i, h⟩ := h
  obtain ⟨i2, h2⟩ := h2
  exact ⟨i2 + i, by rw [it_add, h, h2]⟩
def rgI (c : Nat) (N : Nat → Nat) (n : Nat) (t : (Nat → Int32) × Nat) : Prop := t.2 ≤ n ∧ (∀ k, k < 2 * c → t.1 k ≠ -1 → (∃ r, r < t.2 ∧ t.1 k = nI r) ∧ ∀ j, j < 2 * c → (t.1 j = t.1 k ↔ ∃ i, it N i k = j)) ∧ ∀ k, k < n → k < 2 * c → t.1 k ≠ -1
theorem rg_inv (h : vn c S) (hc : c ≤ 12) : ∀ n, n ≤ 2 * c → rgI c S.1 n (mr_out S.1 (2 * c) (fun _ => -1) n)
  | 0, _ => ⟨Nat.le_refl _, fun k _ h9 => absurd rfl h9, fun k hk => absurd hk (Nat.not_lt_zero _)⟩
  | n + 1, hn => by
    obtain ⟨i1, i3, i4⟩ := rg_inv h hc n (by omega)
    have hb := bj_vn h
    have hn2 : n < 2 * c := by omega
    rw [mr_out]
    generalize mr_out S.1 (2 * c) (fun _ => -1) n = t at i1 i3 i4
    by_cases e : t.1 n = -1
    · rw [if_pos e]
      have hx : nI t.2 ≠ -1 := nI_nm1 (by omega)
      have cl : ∀ k, k < 2 * c → (∃ i, it S.1 i n = k) → t.1 k = -1 := fun k hk hr => by
        refine Classical.byContradiction (fun h9 => h9 ?_)
        rw [← ((i3 k hk h9).2 n hn2).mpr (rg_sy hb hn2 hr), e]
      obtain ⟨m, hm1, hm2⟩ := ring_ex h hn2
      have on : ∀ k, k < 2 * c → (∃ i, it S.1 i n = k) → mr_in S.1 (nI t.2) (2 * c) t.1 n k = nI t.2 := fun k hk hr => by
        rcases mr_in_val (N := S.1) (x := nI t.2) (2 * c) t.1 n k with h9 | h9
        · exfalso
          have hm3 := mr_in_mk h hn2 hm2 hx (2 * c) 0 t.1 (Nat.zero_le _) (by omega) (fun _ => Or.inr trivial) (fun j _ hj => cl _ (it_lt h hn2 j) ⟨j, rfl⟩) (fun j hj => absurd hj (Nat.not_lt_zero _)) k
          obtain ⟨i, hi⟩ := hr
          obtain ⟨j2, j3, j4⟩ := it_mod hm2 i
          exact (hm3.mp (h9.trans (cl k hk ⟨i, hi⟩))).2 j2 (Nat.zero_le _) j3 (hi.symm.trans j4)
        · exact h9
      have off : ∀ k, ¬ (∃ i, it S.1 i n = k) → mr_in S.1 (nI t.2) (2 * c) t.1 n k = t.1 k := fun k hr => mr_in_off _ _ _ _ (fun i e9 => hr ⟨i, e9⟩)
      refine ⟨by show t.2 + 1 ≤ n + 1; omega, fun k hk hne => ?_, fun k hk hk2 => ?_⟩
      · have hne : mr_in S.1 (nI t.2) (2 * c) t.1 n k ≠ -1 := hne
        show (∃ r, r < t.2 + 1 ∧ mr_in S.1 (nI t.2) (2 * c) t.1 n k = nI r) ∧ ∀ j, j < 2 * c → (mr_in S.1 (nI t.2) (2 * c) t.1 n j = mr_in S.1 (nI t.2) (2 * c) t.1 n k ↔ ∃ i, it S.1 i k = j)
        by_cases hr : ∃ i, it S.1 i n = k
        · rw [on k hk hr]
          refine ⟨⟨t.2, by omega, rfl⟩, fun j hj => ⟨fun e9 => ?_, fun e9 => on j hj (rg_tr hr e9)⟩⟩
          refine rg_tr (rg_sy hb hn2 hr) (Classical.byContradiction (fun h9 => ?_))
          rw [off j h9] at e9
          obtain ⟨⟨r, r1, r2⟩, _⟩ := i3 j hj (by rw [e9]; exact hx)
          have := nI_inj9 (by omega) (by omega) (r2.symm.trans e9)
          omega
        · rw [off k hr] at hne ⊢
          obtain ⟨⟨r, r1, r2⟩, k3⟩ := i3 k hk hne
          refine ⟨⟨r, by omega, r2⟩, fun j hj => ?_⟩
          by_cases hj2 : ∃ i, it S.1 i n = j
          · rw [on j hj hj2]
            refine ⟨fun e9 => ?_, fun e9 => absurd (rg_tr hj2 (rg_sy hb hk e9)) hr⟩
            have := nI_inj9 (by omega) (by omega) (r2.symm.trans e9.symm)
            omega
          · rw [off j hj2]
            exact k3 j hj
      · show mr_in S.1 (nI t.2) (2 * c) t.1 n k ≠ -1
        by_cases hr : ∃ i, it S.1 i n = k
        · rw [on k hk2 hr]
          exact hx
        · rw [off k hr]
          refine i4 k ?_ hk2
          rcases Nat.lt_or_ge k n with q | q
          · exact q
          · exact absurd ⟨0, show n = k by omega⟩ hr
    · rw [if_neg e]
      refine ⟨by omega, i3, fun k hk hk2 => ?_⟩
      rcases Nat.lt_or_ge k n with q | q
      · exact i4 k q hk2
      · rw [show k = n by omega]
        exact e
/-- rings' marks are alike on one ring and there alone -/
theorem rg_iff (h : vn c S) (hc : c ≤ 12) {v w : Nat} (hv : v < 2 * c) (hw : w < 2 * c) : (np_rings c S.1).1 v = (np_rings c S.1).1 w ↔ ∃ i, it S.1 i v = w := by
  obtain ⟨_, i3, i4⟩ := rg_inv h hc (2 * c) (Nat.le_refl _)
  exact eq_comm.trans ((i3 v hv (i4 v hv hv)).2 w hw)
theorem pt_iff9 (hv : vn c S) (hc : c ≤ 12) {v w : Nat} (h1 : v < 2 * c) (h2 : w < 2 * c) : (np_parts c S.1).1 v = (np_parts c S.1).1 w ↔ ptN c S.1 v w := by
  refine ⟨fun e m hm => (parts_iff hv hc h1 h2).mp e (fun k => m v = m k) rfl (fun j hj e => e.trans (hm j hj).1.symm) (fun j hj e => e.trans (hm j hj).2.symm), fun h => ?_⟩
  have hcl := (parts_I hv hc).1
  have q := h (fun k => if (np_parts c S.1).1 k = (np_parts c S.1).1 v then 1 else 0) (fun k hk => by
    rw [(hcl k hk).1, (hcl k hk).2]
    exact ⟨rfl, rfl⟩)
  rw [if_pos rfl] at q
  by_cases e : (np_parts c S.1).1 w = (np_parts c S.1).1 v
  · exact e.symm
  · rw [if_neg e] at q
    exact absurd q (by decide)
theorem ex_ex {v w : Nat} (h : v ≠ w) : exN (exN N v w) v w = N := by
  funext k
  by_cases e1 : k = w
  · rw [e1, exN_w, exN_v h]
  · by_cases e2 : k = v
    · rw [e2, exN_v h, exN_w]
    · rw [exN_o e2 e1, exN_o e2 e1]
theorem cnt_inj {P P' : Nat} (s : Nat → Nat) (h1 : ∀ i, i < P → s i < P') (h2 : ∀ i j, i < j → j < P → s i ≠ s j) : P ≤ P' := by
  rcases Nat.lt_or_ge P' P with q | q
  · obtain ⟨i, j, a1, a2, a3⟩ := ow_pig P' s (fun i hi => h1 i (by omega))
    exact absurd a3 (h2 i j a1 (by omega))
  · exact q
theorem pr_cnt (hv : vn c S) (hc : c ≤ 12) {v w : Nat} (h1 : v < 2 * c) (h2 : w < 2 * c) (hn : v ≠ w) (hp : ptN c S.1 v w) : (np_parts c S.1).2 < (np_parts c (np_exchange S v w).1).2 ↔ ¬ ptN c (exN S.1 v w) v w := by
  have hv' := vn_exchange hv h1 h2
  obtain ⟨i1, i2, i3, i4⟩ := parts_I hv hc
  obtain ⟨j1, j2, j3, j4⟩ := parts_I hv' hc
  have f1 : ∀ a b, a < 2 * c → b < 2 * c → ((np_parts c S.1).1 a = (np_parts c S.1).1 b ↔ ptN c S.1 a b) := fun a b ha hb => pt_iff9 hv hc ha hb
  have f2 : ∀ a b, a < 2 * c → b < 2 * c → ((np_parts c (np_exchange S v w).1).1 a = (np_parts c (np_exchange S v w).1).1 b ↔ ptN c (exN S.1 v w) a b) := fun a b ha hb => pt_iff9 hv' hc ha hb
  generalize (np_parts c S.1).1 = F at i1 i2 i3 f1
  generalize (np_parts c (np_exchange S v w).1).1 = F' at j1 j2 j3 f2
  generalize (np_parts c S.1).2 = P at i2 i3 i4
  generalize (np_parts c (np_exchange S v w).1).2 = P' at j2 j3 j4
  constructor
  · intro hlt h9
    have back : ∀ a b, ptN c S.1 a b → ptN c (exN S.1 v w) a b := fun a b p => pt_ex h1 h2 h9 (by rw [ex_ex hn]; exact p)
    have ch : ∀ r, ∃ q, r < P' → q < P ∧ ∃ k, k < 2 * c ∧ F' k = nI r ∧ F k = nI q := fun r => by
      by_cases hr : r < P'
      · obtain ⟨k, k1, k2⟩ := j3 r hr
        obtain ⟨q, q1, q2⟩ := i2 k k1
        exact ⟨q, fun _ => ⟨q1, k, k1, k2, q2⟩⟩
      · exact ⟨0, fun h => absurd h hr⟩
    obtain ⟨s, hs⟩ := Classical.axiomOfChoice ch
    have := cnt_inj s (fun i hi => (hs i hi).1) (fun i j a1 a2 a3 => by
      obtain ⟨_, k, k1, k2, k3⟩ := hs i (by omega)
      obtain ⟨_, l, l1, l2, l3⟩ := hs j a2
      have e : F' k = F' l := (f2 k l k1 l1).mpr (back _ _ ((f1 k l k1 l1).mp (by rw [k3, l3, a3])))
      have := nI_inj9 (by omega) (by omega) (k2.symm.trans (e.trans l2))
      omega)
    omega
  · intro h9
    have ch : ∀ r, ∃ q, (r < P → q < P' ∧ ∃ k, k < 2 * c ∧ F k = nI r ∧ F' k = nI q ∧ (F v = nI r → k = v)) ∧ (r = P → q < P' ∧ F' w = nI q) := fun r => by
      by_cases hr : r < P
      · by_cases hv9 : F v = nI r
        · obtain ⟨q, q1, q2⟩ := j2 v h1
          exact ⟨q, fun _ => ⟨q1, v, h1, hv9, q2, fun _ => rfl⟩, fun h => by omega⟩
        · obtain ⟨k, k1, k2⟩ := i3 r hr
          obtain ⟨q, q1, q2⟩ := j2 k k1
          exact ⟨q, fun _ => ⟨q1, k, k1, k2, q2, fun h => absurd h hv9⟩, fun h => by omega⟩
      · obtain ⟨q, q1, q2⟩ := j2 w h2
        exact ⟨q, fun h => absurd h hr, fun _ => ⟨q1, q2⟩⟩
    obtain ⟨s, hs⟩ := Classical.axiomOfChoice ch
    refine cnt_inj (P := P + 1) s (fun i hi => ?_) (fun i j a1 a2 a3 => ?_)
    · rcases Nat.lt_or_ge i P with q | q
      · exact ((hs i).1 q).1
      · exact ((hs i).2 (by omega)).1
    · obtain ⟨_, k, k1, k2, k3, k4⟩ := (hs i).1 (by omega)
      rcases Nat.lt_or_ge j P with q | q
      · obtain ⟨_, l, l1, l2, l3, l4⟩ := (hs j).1 q
        have e : F k = F l := (f1 k l k1 l1).mpr (pt_ex h1 h2 hp ((f2 k l k1 l1).mp (by rw [k3, l3, a3])))
        have := nI_inj9 (by omega) (by omega) (k2.symm.trans (e.trans l2))
        omega
      · obtain ⟨_, l3⟩ := (hs j).2 (by omega)
        have p2 := (f2 k w k1 h2).mp (by rw [k3, l3, a3])
        have e : F v = F k := (f1 v k h1 k1).mpr (pt_tr hp (pt_sy (pt_ex h1 h2 hp p2)))
        rw [k4 (e.trans k2)] at p2
        exact h9 p2
theorem po_iff (hv : vn c S) (hc : c ≤ 12) {v w : Nat} (h1 : v < 2 * c) (h2 : w < 2 * c) (hn : v ≠ w) : po_P c S v w = true ↔ prN c S.1 v w := by
  have hpt : (∃ i, it S.1 i v = w) → ptN c S.1 v w := fun ⟨i, e⟩ => by
    rw [← e]
    exact (pt_it (bj_vn hv) i v h1).1
  constructor
  · intro h
    obtain ⟨a1, a2⟩ := of_decide_eq_true h
    have r := (rg_iff hv hc h1 h2).mp a1
    exact ⟨h1, h2, hn, r, (pr_cnt hv hc h1 h2 hn (hpt r)).mp a2⟩
  · rintro ⟨_, _, _, r, p⟩
    exact decide_eq_true ⟨(rg_iff hv hc h1 h2).mpr r, (pr_cnt hv hc h1 h2 hn (hpt r)).mpr p⟩
theorem po_w_no {P : Nat → Bool} : ∀ (d w : Nat), po_w P d w = none → ∀ b, w ≤ b → b < w + d → P b = false
  | 0, _, _, _, _, _ => by omega
  | d + 1, w, h, b, b1, b2 => by
    have h : (if P w then some w else po_w P d (w + 1)) = none := h
    by_cases e : P w = true
    · rw [if_pos e] at h
      cases h
    · rw [if_neg e] at h
      rcases Nat.eq_or_lt_of_le b1 with q | q
      · rw [← q]
        exact Bool.eq_false_iff.mpr e
      · exact po_w_no d (w + 1) h b q (by omega)
theorem po_v_no {P : Nat → Nat → Bool} {n : Nat} : ∀ (d v : Nat), po_v P n d v = none → ∀ a b, v ≤ a → a < v + d → a < b → b < n → P a b = false
  | 0, _, _, _, _, _, _, _, _ => by omega
  | d + 1, v, h, a, b, a1, a2, a3, a4 => by
    have h : po_in P n d v (po_v P n d) (po_w (P v) (n - (v + 1)) (v + 1)) = none := h
    cases e : po_w (P v) (n - (v + 1)) (v + 1) with
    | none =>
      rw [e] at h
      rcases Nat.eq_or_lt_of_le a1 with q | q
      · rw [← q]
        exact po_w_no _ _ e b (by omega) (by omega)
      · exact po_v_no d (v + 1) h a b q (by omega) a3 a4
    | some w =>
      rw [e] at h
      cases h
theorem po_v_lt {P : Nat → Nat → Bool} {n : Nat} : ∀ (d v : Nat) {q : Nat × Nat}, po_v P n d v = some q → q.1 < q.2
  | 0, _, _, h => by cases h
  | d + 1, v, q, h => by
    have h : po_in P n d v (po_v P n d) (po_w (P v) (n - (v + 1)) (v + 1)) = some q := h
    cases e : po_w (P v) (n - (v + 1)) (v + 1) with
    | none =>
      rw [e] at h
      exact po_v_lt d (v + 1) h
    | some w =>
      rw [e] at h
      have h : some (v, w) = some q := h
      cases h
      exact (po_w_in _ _ e).1
theorem once_ir (hv : vn c S) (hc : c ≤ 12) (h : np_once c S = none) : irN c S.1 := by
  intro v w hp
  have key : ∀ a b, a < b → b < 2 * c → ¬ prN c S.1 a b := fun a b a1 a2 p => by
    have := po_v_no _ _ h a b (by omega) (by omega) a1 a2
    rw [(po_iff hv hc (by omega) a2 (by omega)).mpr p] at this
    cases this
  rcases Nat.lt_trichotomy v w with q | q | q
  · exact key v w q hp.2.1 hp
  · exact hp.2.2.1 q
  · exact key w v q hp.1 (pr_sy (bj_vn hv) hp)
theorem all_st (hc : c ≤ 12) : ∀ (d : Nat) (S : ow_NP), vn c S → (∃ n, stN c n S.1 (np_all c d S).1) ∧ (c < (np_parts c S.1).2 + d → irN c (np_all c d S).1)
  | 0, S, hv => ⟨⟨0, rfl⟩, fun h => by have := parts_le hv hc; omega⟩
  | d + 1, S, hv => by
    rw [np_all]
    cases e : np_once c S with
    | none =>
      rw [if_neg (by rw [Option.isSome_none]; decide)]
      exact ⟨⟨0, rfl⟩, fun _ => once_ir hv hc e⟩
    | some q =>
      rw [if_pos Option.isSome_some]
      have h1 := po_v_in (2 * c) 0 (by omega) e
      have h2 := po_v_lt _ _ e
      have h3 := po_v_P _ _ e
      have hp := (po_iff hv hc h1.1 h1.2 (by omega)).mp h3
      have h4 := (of_decide_eq_true h3).2
      obtain ⟨⟨n, n1⟩, n2⟩ := all_st hc d (np_exchange S q.1 q.2) (vn_exchange hv h1.1 h1.2)
      exact ⟨⟨n + 1, q.1, q.2, hp, n1⟩, fun h => n2 (by omega)⟩
/-- the class parts as long as a part can be parted -/
theorem all_end (hv : vn c S) (hc : c ≤ 12) : (∃ n, stN c n S.1 (np_all c 12 S).1) ∧ irN c (np_all c 12 S).1 := by
  obtain ⟨h1, h2⟩ := all_st hc 12 S hv
  refine ⟨h1, h2 ?_⟩
  rcases Nat.eq_zero_or_pos c with e | e
  · omega
  · obtain ⟨r, r1, _⟩ := (parts_I hv hc).2.1 0 (by omega)
    omega
end XSW
end
