/-! the steps of the law with whatever else is kept; what is left of the whole -/
def keepP (H : Nat → Prop) (P : ow_MS → Prop) : Prop := ∀ (F : Nat → Prop) (y y1 : ow_MS), fr F y y1 → (∀ g, F g → ¬ H g) → P y → P y1
def ciX (g : Nat) : Prop := 24001 ≤ g ∧ g ≤ 25003 ∨ 39001 ≤ g ∧ g ≤ 45011
def rfX (g : Nat) : Prop := 42 ≤ g ∧ g ≤ 46 ∨ 58 ≤ g ∧ g ≤ 93 ∨ 97 ≤ g ∧ g ≤ 107
def rfL : List Nat := [42, 43, 44, 45, 46] ++ ((List.range 36).map (fun i => 58 + i) ++ (List.range 11).map (fun i => 97 + i))
theorem rfX_m {g : Nat} : rfX g ↔ g ∈ rfL := by
  unfold rfX rfL
  rw [List.mem_append, List.mem_append, List.mem_map, List.mem_map]
  constructor
  · rintro (h | h | h)
    · exact Or.inl (by
        rcases (show g = 42 ∨ g = 43 ∨ g = 44 ∨ g = 45 ∨ g = 46 by omega) with rfl | rfl | rfl | rfl | rfl <;> decide)
    · exact Or.inr (Or.inl ⟨g - 58, List.mem_range.mpr (by omega), by omega⟩)
    · exact Or.inr (Or.inr ⟨g - 97, List.mem_range.mpr (by omega), by omega⟩)
  · rintro (h | ⟨i, h1, h2⟩ | ⟨i, h1, h2⟩)
    · have key : ∀ a, a ∈ [42, 43, 44, 45, 46] → 42 ≤ a ∧ a ≤ 46 := by decide
      exact Or.inl (key g h)
    · have := List.mem_range.mp h1
      omega
    · have := List.mem_range.mp h1
      omega
theorem pf_rf {L : List Nat} (h : (L.all (fun g => !rfL.contains g)) = true) : ∀ g, pf L [] g → ¬ rfX g := by
  rintro g (h1 | h1 | h1) h9
  · have h2 := List.all_eq_true.mp h g h1
    rw [List.contains_iff_mem.mpr (rfX_m.mp h9)] at h2
    exact absurd h2 (by decide)
  · exact absurd h1 List.not_mem_nil
  · unfold rfX at h9
    omega
def stpX (Pc Pr : ow_MS → Prop) (f : (Nat → Nat) → Nat → Int32 → Int32 → Int32 → Int32 → Int32 → ow_MS → ow_MS → Option ow_LwS) : Prop := ∀ (S : ow_LwS) (x1 x2 x3 x4 x5 : Int32), REL2 S → Pc S.2.1 → Pr S.2.2 → Te (fun K => f S.1 K x1 x2 x3 x4 x5 S.2.1 S.2.2) (fun S1 => (REL2 S1 ∧ dPhi S.1 ≤ dPhi S1.1) ∧ Pc S1.2.1 ∧ Pr S1.2.2)
section XS6
variable {vl : Nat → Nat} {Q : ow_LwS → Prop}
theorem lsV_core {fc : Nat → Option (Nat × Int32 × ow_MS)} {mp : Nat → ow_MS → Option (Int32 × ow_MS)} {fm : Nat → Option (Int32 × ow_MS)} (hmp : ∀ k z r, mp k z = some r → r.2 = z) {K : Nat} {S1 : ow_LwS} (e1 : lsV vl fc mp fm K = some S1) : ∃ k v zc v4 zm, fc K = some (k, v, zc) ∧ fm K = some (v4, zm) ∧ (S1.2.1 = zc ∨ S1.2.1 = usJ zc 52001 0 v.toInt64) ∧ S1.2.2 = zm := by
  unfold lsV at e1
  cases hf : fc K with
  | none =>
    rw [hf] at e1
    cases e1
  | some q =>
    obtain ⟨k, v, zc⟩ := q
    rw [hf] at e1
    have main : ∀ (a : Int32) (zc1 : ow_MS), (cs1 (fm K) fun v4 zm3 => cs1 (qe_X13_thrown K zm3) fun v6 zm5 => (if v6 = a then (if a = 0 then crJ (cX vl) zc1 52001 0 fun v7 => (if (lg_cmp v7 v4.toInt64) = 0 then some (vl, zc1, zm5) else none) else some (vl, zc1, zm5)) else none)) = some S1 → ∃ v4 zm, fm K = some (v4, zm) ∧ S1.2.1 = zc1 ∧ S1.2.2 = zm := by
      intro a zc1 h9
      cases hm : fm K with
      | none =>
        rw [hm] at h9
        cases h9
      | some q =>
        obtain ⟨v4, zm3⟩ := q
        rw [hm] at h9
        have h9 : (if zm3.1 1 = a then (if a = 0 then crJ (cX vl) zc1 52001 0 fun v7 => (if (lg_cmp v7 v4.toInt64) = 0 then some (vl, zc1, zm3) else none) else some (vl, zc1, zm3)) else none) = some S1 := h9
        by_cases c1 : zm3.1 1 = a
        · rw [if_pos c1] at h9
          by_cases c2 : a = 0
          · rw [if_pos c2] at h9
            have h9 : (if lg_cmp (zc1.2.2 52001 0) v4.toInt64 = 0 then some (vl, zc1, zm3) else none) = some S1 := h9
            by_cases c3 : lg_cmp (zc1.2.2 52001 0) v4.toInt64 = 0
            · rw [if_pos c3] at h9
              cases h9
              exact ⟨v4, zm3, rfl, rfl, rfl⟩
            · rw [if_neg c3] at h9
              cases h9
          · rw [if_neg c2] at h9
            cases h9
            exact ⟨v4, zm3, rfl, rfl, rfl⟩
        · rw [if_neg c1] at h9
          cases h9
    by_cases hk : k = 0
    · have e3 : tc1 (some (k, v, zc)) mp (fun v3 z1 => ctJ (cX vl) z1 52001 0 v3.toInt64 fun z4 => some (0, z4)) = some (0, usJ zc 52001 0 v.toInt64) := by
        show (if k = 0 then ctJ (cX vl) zc 52001 0 v.toInt64 (fun z4 => some (0, z4)) else mp k zc) = _
        rw [if_pos hk]
        rfl
      rw [e3] at e1
      obtain ⟨v4, zm, a1, a2, a3⟩ := main 0 _ e1
      exact ⟨k, v, zc, v4, zm, rfl, a1, Or.inr a2, a3⟩
    · have e3 : tc1 (some (k, v, zc)) mp (fun v3 z1 => ctJ (cX vl) z1 52001 0 v3.toInt64 fun z4 => some (0, z4)) = mp k zc := by
        show (if k = 0 then ctJ (cX vl) zc 52001 0 v.toInt64 (fun z4 => some (0, z4)) else mp k zc) = _
        rw [if_neg hk]
      rw [e3] at e1
      cases hm : mp k zc with
      | none =>
        rw [hm] at e1
        cases e1
      | some q =>
        obtain ⟨a, zc1⟩ := q
        have ez : zc1 = zc := hmp k zc _ hm
        rw [hm, ez] at e1
        obtain ⟨v4, zm, a1, a2, a3⟩ := main a zc e1
        exact ⟨k, v, zc, v4, zm, rfl, a1, Or.inl a2, a3⟩
theorem lsV_fo {P P' : Nat → Prop} {y z : ow_MS} {fc : Nat → Option (Nat × Int32 × ow_MS)} {mp : Nat → ow_MS → Option (Int32 × ow_MS)} {fm : Nat → Option (Int32 × ow_MS)} (h : Te (lsV vl fc mp fm) Q) (hc : ∀ K, Fo (fun r => r.2.2) P y (fc K)) (hm : ∀ K, Fo Prod.snd P' z (fm K)) (hmp : ∀ k z r, mp k z = some r → r.2 = z) : Te (lsV vl fc mp fm) (fun S1 => Q S1 ∧ fr (fun g => P g ∨ g = 52001) y S1.2.1 ∧ fr P' z S1.2.2) := by
  obtain ⟨S1, ⟨b1, hb1⟩, hQ⟩ := h
  obtain ⟨k, v, zc, v4, zm, a1, a2, a3, a4⟩ := lsV_core hmp (hb1 b1 (Nat.le_refl _))
  have f1 : fr P y zc := hc b1 _ a1
  have f2 : fr P' z zm := hm b1 _ a2
  refine ⟨S1, ⟨b1, hb1⟩, hQ, ?_, by rw [a4]; exact f2⟩
  rcases a3 with e | e
  · rw [e]
    exact fr_mono (fun g hg => Or.inl hg) f1
  · rw [e]
    exact fr_J2 (fr_mono (fun g hg => Or.inl hg) f1) (Or.inr rfl)
theorem lsV_pp {Pc Pr : ow_MS → Prop} {fc : Nat → Option (Nat × Int32 × ow_MS)} {mp : Nat → ow_MS → Option (Int32 × ow_MS)} {fm : Nat → Option (Int32 × ow_MS)} (h : Te (lsV vl fc mp fm) Q) (hn : Te fc (fun rc => Pc rc.2.2)) (hm : Te fm (fun rr => Pr rr.2)) (hJ : ∀ y v, Pc y → Pc (usJ y 52001 0 v)) (hmp : ∀ k z r, mp k z = some r → r.2 = z) : Te (lsV vl fc mp fm) (fun S1 => Q S1 ∧ Pc S1.2.1 ∧ Pr S1.2.2) := by
  obtain ⟨S1, ⟨b1, hb1⟩, hQ⟩ := h
  obtain ⟨⟨k', v', zc'⟩, ⟨b2, hb2⟩, hN⟩ := hn
  obtain ⟨⟨v4', zm'⟩, ⟨b3, hb3⟩, hz⟩ := hm
  have hN : Pc zc' := hN
  have hz : Pr zm' := hz
  obtain ⟨k, v, zc, v4, zm, a1, a2, a3, a4⟩ := lsV_core hmp (hb1 (b1 + b2 + b3) (by omega))
  rw [hb2 (b1 + b2 + b3) (by omega)] at a1
  rw [hb3 (b1 + b2 + b3) (by omega)] at a2
  cases a1
  cases a2
  refine ⟨S1, ⟨b1, hb1⟩, hQ, ?_, by rw [a4]; exact hz⟩
  rcases a3 with e | e
  · rw [e]
    exact hN
  · rw [e]
    exact hJ _ _ hN
theorem lsB_fo {P P' : Nat → Prop} {y z : ow_MS} {fc fm : Nat → Option (Int32 × ow_MS)} (h : Te (fun K => cs1 (fc K) fun v2 zc1 => cs1 (fm K) fun v4 zm3 => (if v2 = v4 then some (vl, zc1, zm3) else none)) Q) (hc : ∀ K, Fo Prod.snd P y (fc K)) (hm : ∀ K, Fo Prod.snd P' z (fm K)) : Te (fun K => cs1 (fc K) fun v2 zc1 => cs1 (fm K) fun v4 zm3 => (if v2 = v4 then some (vl, zc1, zm3) else none)) (fun S1 => Q S1 ∧ fr P y S1.2.1 ∧ fr P' z S1.2.2) := by
  obtain ⟨S1, ⟨b1, hb1⟩, hQ⟩ := h
  have e1 : (cs1 (fc b1) fun v2 zc1 => cs1 (fm b1) fun v4 zm3 => (if v2 = v4 then some (vl, zc1, zm3) else none)) = some S1 := hb1 b1 (Nat.le_refl _)
  refine ⟨S1, ⟨b1, hb1⟩, hQ, ?_⟩
  cases hf : fc b1 with
  | none =>
    rw [hf] at e1
    cases e1
  | some q =>
    obtain ⟨v, zc⟩ := q
    rw [hf] at e1
    have f1 : fr P y zc := hc b1 _ hf
    cases hg : fm b1 with
    | none =>
      rw [hg] at e1
      cases e1
    | some q =>
      obtain ⟨v4, zm⟩ := q
      rw [hg] at e1
      have f2 : fr P' z zm := hm b1 _ hg
      have e1 : (if v = v4 then some (vl, zc, zm) else none) = some S1 := e1
      by_cases c1 : v = v4
      · rw [if_pos c1] at e1
        cases e1
        exact ⟨f1, f2⟩
      · rw [if_neg c1] at e1
        cases e1
end XS6
section XS7
variable {Pc Pr : ow_MS → Prop}
theorem s3_feed (hc : keepP ciX Pc) (hr : keepP rfX Pr) : stpX Pc Pr lst_feed := by
  intro S x1 x2 x3 x4 x5 h pc pr
  have hs : Te (lsV S.1 (fun K => ce_X11_feed S.1 K 0 x1 x2 x3 x4 x5 S.2.1) (fun k z => if k = 3 then some (1, z) else none) (fun K => qe_X13_feed K x1 x2 x3 x4 x5 S.2.2)) (fun S1 => REL2 S1 ∧ dPhi S.1 ≤ dPhi S1.1) := s2_feed S x1 x2 x3 x4 x5 h
  exact w_monoE (lsV_fo hs (fun K => ff_X11_feed) (fun K => ff_X13_feed) (fun k z r hr => by
    have hr : (if k = 3 then some (1, z) else none) = some r := hr
    by_cases c0 : k = 3
    · rw [if_pos c0] at hr
      cases hr
      rfl
    rw [if_neg c0] at hr
    cases hr)) (fun S1 ⟨q, f1, f2⟩ => ⟨q, hc _ _ _ f1 (fun g hg h9 => by unfold ciX at h9; omega) pc, hr _ _ _ f2 (pf_rf (by decide)) pr⟩)
theorem s3_diagram (hc : keepP ciX Pc) (hr : keepP rfX Pr) : stpX Pc Pr lst_diagram := by
  intro S x1 x2 x3 x4 x5 h pc pr
  have hs : Te (lsV S.1 (fun K => ce_X11_diagram S.1 K 0  S.2.1) (fun k z => if k = 3 then some (1, z) else none) (fun K => qe_X13_diagram K  S.2.2)) (fun S1 => REL2 S1 ∧ dPhi S.1 ≤ dPhi S1.1) := s2_diagram S x1 x2 x3 x4 x5 h
  exact w_monoE (lsV_fo hs (fun K => ff_X11_diagram) (fun K => ff_X13_diagram) (fun k z r hr => by
    have hr : (if k = 3 then some (1, z) else none) = some r := hr
    by_cases c0 : k = 3
    · rw [if_pos c0] at hr
      cases hr
      rfl
    rw [if_neg c0] at hr
    cases hr)) (fun S1 ⟨q, f1, f2⟩ => ⟨q, hc _ _ _ f1 (fun g hg h9 => by unfold ciX at h9; omega) pc, hr _ _ _ f2 (pf_rf (by decide)) pr⟩)
theorem s3_braid (hc : keepP ciX Pc) (hr : keepP rfX Pr) : stpX Pc Pr lst_braid := by
  intro S x1 x2 x3 x4 x5 h pc pr
  have hs : Te (lsV S.1 (fun K => ce_X11_braid S.1 K 0 x1 S.2.1) (fun k z => if k = 2 then some (1, z) else if k = 3 then some (2, z) else none) (fun K => qe_X13_braid K x1 S.2.2)) (fun S1 => REL2 S1 ∧ dPhi S.1 ≤ dPhi S1.1) := s2_braid S x1 x2 x3 x4 x5 h
  exact w_monoE (lsV_fo hs (fun K => ff_X11_braid) (fun K => ff_X13_braid) (fun k z r hr => by
    have hr : (if k = 2 then some (1, z) else if k = 3 then some (2, z) else none) = some r := hr
    by_cases c0 : k = 2
    · rw [if_pos c0] at hr
      cases hr
      rfl
    by_cases c1 : k = 3
    · rw [if_neg c0, if_pos c1] at hr
      cases hr
      rfl
    rw [if_neg c0, if_neg c1] at hr
    cases hr)) (fun S1 ⟨q, f1, f2⟩ => ⟨q, hc _ _ _ f1 (fun g hg h9 => by unfold ciX at h9; omega) pc, hr _ _ _ f2 (pf_rf (by decide)) pr⟩)
theorem s3_figure (hc : keepP ciX Pc) (hr : keepP rfX Pr) : stpX Pc Pr lst_figure := by
  intro S x1 x2 x3 x4 x5 h pc pr
  have hs : Te (lsV S.1 (fun K => ce_X11_figure S.1 K 0 x1 x2 S.2.1) (fun k z => if k = 1 then some (1, z) else if k = 2 then some (2, z) else none) (fun K => qe_X13_figure K x1 x2 S.2.2)) (fun S1 => REL2 S1 ∧ dPhi S.1 ≤ dPhi S1.1) := s2_figure S x1 x2 x3 x4 x5 h
  exact w_monoE (lsV_fo hs (fun K => ff_X11_figure) (fun K => ff_X13_figure) (fun k z r hr => by
    have hr : (if k = 1 then some (1, z) else if k = 2 then some (2, z) else none) = some r := hr
    by_cases c0 : k = 1
    · rw [if_pos c0] at hr
      cases hr
      rfl
    by_cases c1 : k = 2
    · rw [if_neg c0, if_pos c1] at hr
      cases hr
      rfl
    rw [if_neg c0, if_neg c1] at hr
    cases hr)) (fun S1 ⟨q, f1, f2⟩ => ⟨q, hc _ _ _ f1 (fun g hg h9 => by unfold ciX at h9; omega) pc, hr _ _ _ f2 (pf_rf (by decide)) pr⟩)
theorem s3_visit (hc : keepP ciX Pc) (hr : keepP rfX Pr) : stpX Pc Pr lst_visit := by
  intro S x1 x2 x3 x4 x5 h pc pr
  have hs : Te (lsV S.1 (fun K => ce_X11_visit S.1 K 0 x1 x2 x3 S.2.1) (fun k z => if k = 1 then some (1, z) else if k = 2 then some (2, z) else none) (fun K => qe_X13_visit K x1 x2 x3 S.2.2)) (fun S1 => REL2 S1 ∧ dPhi S.1 ≤ dPhi S1.1) := s2_visit S x1 x2 x3 x4 x5 h
  exact w_monoE (lsV_fo hs (fun K => ff_X11_visit) (fun K => ff_X13_visit) (fun k z r hr => by
    have hr : (if k = 1 then some (1, z) else if k = 2 then some (2, z) else none) = some r := hr
    by_cases c0 : k = 1
    · rw [if_pos c0] at hr
      cases hr
      rfl
    by_cases c1 : k = 2
    · rw [if_neg c0, if_pos c1] at hr
      cases hr
      rfl
    rw [if_neg c0, if_neg c1] at hr
    cases hr)) (fun S1 ⟨q, f1, f2⟩ => ⟨q, hc _ _ _ f1 (fun g hg h9 => by unfold ciX at h9; omega) pc, hr _ _ _ f2 (pf_rf (by decide)) pr⟩)
theorem s3_linking (hc : keepP ciX Pc) (hr : keepP rfX Pr) : stpX Pc Pr lst_linking := by
  intro S x1 x2 x3 x4 x5 h pc pr
  have hs : Te (lsV S.1 (fun K => ce_X11_linking S.1 K 0 x1 x2 x3 S.2.1) (fun k z => if k = 1 then some (1, z) else if k = 2 then some (2, z) else none) (fun K => qe_X13_linking K x1 x2 x3 S.2.2)) (fun S1 => REL2 S1 ∧ dPhi S.1 ≤ dPhi S1.1) := s2_linking S x1 x2 x3 x4 x5 h
  exact w_monoE (lsV_fo hs (fun K => ff_X11_linking) (fun K => ff_X13_linking) (fun k z r hr => by
    have hr : (if k = 1 then some (1, z) else if k = 2 then some (2, z) else none) = some r := hr
    by_cases c0 : k = 1
    · rw [if_pos c0] at hr
      cases hr
      rfl
    by_cases c1 : k = 2
    · rw [if_neg c0, if_pos c1] at hr
      cases hr
      rfl
    rw [if_neg c0, if_neg c1] at hr
    cases hr)) (fun S1 ⟨q, f1, f2⟩ => ⟨q, hc _ _ _ f1 (fun g hg h9 => by unfold ciX at h9; omega) pc, hr _ _ _ f2 (pf_rf (by decide)) pr⟩)
theorem s3_mirror (hc : keepP ciX Pc) (hr : keepP rfX Pr) : stpX Pc Pr lst_mirror := by
  intro S x1 x2 x3 x4 x5 h pc pr
  have hs : Te (lsV S.1 (fun K => ce_X11_mirror S.1 K 0 x1 S.2.1) (fun k z => if k = 1 then some (1, z) else if k = 3 then some (2, z) else none) (fun K => qe_X13_mirror K x1 S.2.2)) (fun S1 => REL2 S1 ∧ dPhi S.1 ≤ dPhi S1.1) := s2_mirror S x1 x2 x3 x4 x5 h
  exact w_monoE (lsV_fo hs (fun K => ff_X11_mirror) (fun K => ff_X13_mirror) (fun k z r hr => by
    have hr : (if k = 1 then some (1, z) else if k = 3 then some (2, z) else none) = some r := hr
    by_cases c0 : k = 1
    · rw [if_pos c0] at hr
      cases hr
      rfl
    by_cases c1 : k = 3
    · rw [if_neg c0, if_pos c1] at hr
      cases hr
      rfl
    rw [if_neg c0, if_neg c1] at hr
    cases hr)) (fun S1 ⟨q, f1, f2⟩ => ⟨q, hc _ _ _ f1 (fun g hg h9 => by unfold ciX at h9; omega) pc, hr _ _ _ f2 (pf_rf (by decide)) pr⟩)
theorem s3_reverse (hc : keepP ciX Pc) (hr : keepP rfX Pr) : stpX Pc Pr lst_reverse := by
  intro S x1 x2 x3 x4 x5 h pc pr
  have hs : Te (lsV S.1 (fun K => ce_X11_reverse S.1 K 0 x1 x2 S.2.1) (fun k z => if k = 1 then some (1, z) else if k = 3 then some (2, z) else none) (fun K => qe_X13_reverse K x1 x2 S.2.2)) (fun S1 => REL2 S1 ∧ dPhi S.1 ≤ dPhi S1.1) := s2_reverse S x1 x2 x3 x4 x5 h
  exact w_monoE (lsV_fo hs (fun K => ff_X11_reverse) (fun K => ff_X13_reverse) (fun k z r hr => by
    have hr : (if k = 1 then some (1, z) else if k = 3 then some (2, z) else none) = some r := hr
    by_cases c0 : k = 1
    · rw [if_pos c0] at hr
      cases hr
      rfl
    by_cases c1 : k = 3
    · rw [if_neg c0, if_pos c1] at hr
      cases hr
      rfl
    rw [if_neg c0, if_neg c1] at hr
    cases hr)) (fun S1 ⟨q, f1, f2⟩ => ⟨q, hc _ _ _ f1 (fun g hg h9 => by unfold ciX at h9; omega) pc, hr _ _ _ f2 (pf_rf (by decide)) pr⟩)
theorem s3_change (hc : keepP ciX Pc) (hr : keepP rfX Pr) : stpX Pc Pr lst_change := by
  intro S x1 x2 x3 x4 x5 h pc pr
  have hs : Te (lsV S.1 (fun K => ce_X11_change S.1 K 0 x1 x2 S.2.1) (fun k z => if k = 1 then some (1, z) else if k = 3 then some (2, z) else none) (fun K => qe_X13_change K x1 x2 S.2.2)) (fun S1 => REL2 S1 ∧ dPhi S.1 ≤ dPhi S1.1) := s2_change S x1 x2 x3 x4 x5 h
  exact w_monoE (lsV_fo hs (fun K => ff_X11_change) (fun K => ff_X13_change) (fun k z r hr => by
    have hr : (if k = 1 then some (1, z) else if k = 3 then some (2, z) else none) = some r := hr
    by_cases c0 : k = 1
    · rw [if_pos c0] at hr
      cases hr
      rfl
    by_cases c1 : k = 3
    · rw [if_neg c0, if_pos c1] at hr
      cases hr
      rfl
    rw [if_neg c0, if_neg c1] at hr
    cases hr)) (fun S1 ⟨q, f1, f2⟩ => ⟨q, hc _ _ _ f1 (fun g hg h9 => by unfold ciX at h9; omega) pc, hr _ _ _ f2 (pf_rf (by decide)) pr⟩)
theorem s3_smooth (hc : keepP ciX Pc) (hr : keepP rfX Pr) : stpX Pc Pr lst_smooth := by
  intro S x1 x2 x3 x4 x5 h pc pr
  have hs : Te (lsV S.1 (fun K => ce_X11_smooth S.1 K 0 x1 x2 S.2.1) (fun k z => if k = 1 then some (1, z) else if k = 4 then some (2, z) else if k = 3 then some (3, z) else none) (fun K => qe_X13_smooth K x1 x2 S.2.2)) (fun S1 => REL2 S1 ∧ dPhi S.1 ≤ dPhi S1.1) := s2_smooth S x1 x2 x3 x4 x5 h
  exact w_monoE (lsV_fo hs (fun K => ff_X11_smooth) (fun K => ff_X13_smooth) (fun k z r hr => by
    have hr : (if k = 1 then some (1, z) else if k = 4 then some (2, z) else if k = 3 then some (3, z) else none) = some r := hr
    by_cases c0 : k = 1
    · rw [if_pos c0] at hr
      cases hr
      rfl
    by_cases c1 : k = 4
    · rw [if_neg c0, if_pos c1] at hr
      cases hr
      rfl
    by_cases c2 : k = 3
    · rw [if_neg c0, if_neg c1, if_pos c2] at hr
      cases hr
      rfl
    rw [if_neg c0, if_neg c1, if_neg c2] at hr
    cases hr)) (fun S1 ⟨q, f1, f2⟩ => ⟨q, hc _ _ _ f1 (fun g hg h9 => by unfold ciX at h9; omega) pc, hr _ _ _ f2 (pf_rf (by decide)) pr⟩)
theorem s3_apart (hc : keepP ciX Pc) (hr : keepP rfX Pr) : stpX Pc Pr lst_apart := by
  intro S x1 x2 x3 x4 x5 h pc pr
  have hs : Te (lsV S.1 (fun K => ce_X11_apart S.1 K 0 x1 x2 S.2.1) (fun k z => if k = 1 then some (1, z) else if k = 4 then some (2, z) else if k = 3 then some (3, z) else none) (fun K => qe_X13_apart K x1 x2 S.2.2)) (fun S1 => REL2 S1 ∧ dPhi S.1 ≤ dPhi S1.1) := s2_apart S x1 x2 x3 x4 x5 h
  exact w_monoE (lsV_fo hs (fun K => ff_X11_apart) (fun K => ff_X13_apart) (fun k z r hr => by
    have hr : (if k = 1 then some (1, z) else if k = 4 then some (2, z) else if k = 3 then some (3, z) else none) = some r := hr
    by_cases c0 : k = 1
    · rw [if_pos c0] at hr
      cases hr
      rfl
    by_cases c1 : k = 4
    · rw [if_neg c0, if_pos c1] at hr
      cases hr
      rfl
    by_cases c2 : k = 3
    · rw [if_neg c0, if_neg c1, if_pos c2] at hr
      cases hr
      rfl
    rw [if_neg c0, if_neg c1, if_neg c2] at hr
    cases hr)) (fun S1 ⟨q, f1, f2⟩ => ⟨q, hc _ _ _ f1 (fun g hg h9 => by unfold ciX at h9; omega) pc, hr _ _ _ f2 (pf_rf (by decide)) pr⟩)
theorem s3_join (hc : keepP ciX Pc) (hr : keepP rfX Pr) : stpX Pc Pr lst_join := by
  intro S x1 x2 x3 x4 x5 h pc pr
  have hs : Te (lsV S.1 (fun K => ce_X11_join S.1 K 0 x1 x2 x3 x4 S.2.1) (fun k z => if k = 1 then some (1, z) else if k = 4 then some (2, z) else if k = 3 then some (3, z) else none) (fun K => qe_X13_join K x1 x2 x3 x4 S.2.2)) (fun S1 => REL2 S1 ∧ dPhi S.1 ≤ dPhi S1.1) := s2_join S x1 x2 x3 x4 x5 h
  exact w_monoE (lsV_fo hs (fun K => ff_X11_join) (fun K => ff_X13_join) (fun k z r hr => by
    have hr : (if k = 1 then some (1, z) else if k = 4 then some (2, z) else if k = 3 then some (3, z) else none) = some r := hr
    by_cases c0 : k = 1
    · rw [if_pos c0] at hr
      cases hr
      rfl
    by_cases c1 : k = 4
    · rw [if_neg c0, if_pos c1] at hr
      cases hr
      rfl
    by_cases c2 : k = 3
    · rw [if_neg c0, if_neg c1, if_pos c2] at hr
      cases hr
      rfl
    rw [if_neg c0, if_neg c1, if_neg c2] at hr
    cases hr)) (fun S1 ⟨q, f1, f2⟩ => ⟨q, hc _ _ _ f1 (fun g hg h9 => by unfold ciX at h9; omega) pc, hr _ _ _ f2 (pf_rf (by decide)) pr⟩)
theorem s3_moves (hc : keepP ciX Pc) (hr : keepP rfX Pr) : stpX Pc Pr lst_moves := by
  intro S x1 x2 x3 x4 x5 h pc pr
  have hs : Te (lsV S.1 (fun K => ce_X11_moves S.1 K 0 x1 x2 S.2.1) (fun k z => if k = 1 then some (1, z) else if k = 2 then some (2, z) else none) (fun K => qe_X13_moves K x1 x2 S.2.2)) (fun S1 => REL2 S1 ∧ dPhi S.1 ≤ dPhi S1.1) := s2_moves S x1 x2 x3 x4 x5 h
  exact w_monoE (lsV_fo hs (fun K => ff_X11_moves) (fun K => ff_X13_moves) (fun k z r hr => by
    have hr : (if k = 1 then some (1, z) else if k = 2 then some (2, z) else none) = some r := hr
    by_cases c0 : k = 1
    · rw [if_pos c0] at hr
      cases hr
      rfl
    by_cases c1 : k = 2
    · rw [if_neg c0, if_pos c1] at hr
      cases hr
      rfl
    rw [if_neg c0, if_neg c1] at hr
    cases hr)) (fun S1 ⟨q, f1, f2⟩ => ⟨q, hc _ _ _ f1 (fun g hg h9 => by unfold ciX at h9; omega) pc, hr _ _ _ f2 (pf_rf (by decide)) pr⟩)
theorem s3_moved (hc : keepP ciX Pc) (hr : keepP rfX Pr) : stpX Pc Pr lst_moved := by
  intro S x1 x2 x3 x4 x5 h pc pr
  have hs : Te (lsV S.1 (fun K => ce_X11_moved S.1 K 0 x1 S.2.1) (fun k z => if k = 1 then some (1, z) else if k = 3 then some (2, z) else none) (fun K => qe_X13_moved K x1 S.2.2)) (fun S1 => REL2 S1 ∧ dPhi S.1 ≤ dPhi S1.1) := s2_moved S x1 x2 x3 x4 x5 h
  exact w_monoE (lsV_fo hs (fun K => ff_X11_moved) (fun K => ff_X13_moved) (fun k z r hr => by
    have hr : (if k = 1 then some (1, z) else if k = 3 then some (2, z) else none) = some r := hr
    by_cases c0 : k = 1
    · rw [if_pos c0] at hr
      cases hr
      rfl
    by_cases c1 : k = 3
    · rw [if_neg c0, if_pos c1] at hr
      cases hr
      rfl
    rw [if_neg c0, if_neg c1] at hr
    cases hr)) (fun S1 ⟨q, f1, f2⟩ => ⟨q, hc _ _ _ f1 (fun g hg h9 => by unfold ciX at h9; omega) pc, hr _ _ _ f2 (pf_rf (by decide)) pr⟩)
theorem s3_simplify (hc : keepP ciX Pc) (hr : keepP rfX Pr) : stpX Pc Pr lst_simplify := by
  intro S x1 x2 x3 x4 x5 h pc pr
  have hs : Te (lsV S.1 (fun K => ce_X11_simplify S.1 K 0 x1 S.2.1) (fun k z => if k = 1 then some (1, z) else if k = 3 then some (2, z) else none) (fun K => qe_X13_simplify K x1 S.2.2)) (fun S1 => REL2 S1 ∧ dPhi S.1 ≤ dPhi S1.1) := s2_simplify S x1 x2 x3 x4 x5 h
  exact w_monoE (lsV_fo hs (fun K => ff_X11_simplify) (fun K => ff_X13_simplify) (fun k z r hr => by
    have hr : (if k = 1 then some (1, z) else if k = 3 then some (2, z) else none) = some r := hr
    by_cases c0 : k = 1
    · rw [if_pos c0] at hr
      cases hr
      rfl
    by_cases c1 : k = 3
    · rw [if_neg c0, if_pos c1] at hr
      cases hr
      rfl
    rw [if_neg c0, if_neg c1] at hr
    cases hr)) (fun S1 ⟨q, f1, f2⟩ => ⟨q, hc _ _ _ f1 (fun g hg h9 => by unfold ciX at h9; omega) pc, hr _ _ _ f2 (pf_rf (by decide)) pr⟩)
theorem s3_summand (hc : keepP ciX Pc) (hr : keepP rfX Pr) : stpX Pc Pr lst_summand := by
  intro S x1 x2 x3 x4 x5 h pc pr
  have hs : Te (lsV S.1 (fun K => ce_X11_summand S.1 K 0 x1 S.2.1) (fun k z => if k = 1 then some (1, z) else if k = 3 then some (2, z) else none) (fun K => qe_X13_summand K x1 S.2.2)) (fun S1 => REL2 S1 ∧ dPhi S.1 ≤ dPhi S1.1) := s2_summand S x1 x2 x3 x4 x5 h
  exact w_monoE (lsV_fo hs (fun K => ff_X11_summand) (fun K => ff_X13_summand) (fun k z r hr => by
    have hr : (if k = 1 then some (1, z) else if k = 3 then some (2, z) else none) = some r := hr
    by_cases c0 : k = 1
    · rw [if_pos c0] at hr
      cases hr
      rfl
    by_cases c1 : k = 3
    · rw [if_neg c0, if_pos c1] at hr
      cases hr
      rfl
    rw [if_neg c0, if_neg c1] at hr
    cases hr)) (fun S1 ⟨q, f1, f2⟩ => ⟨q, hc _ _ _ f1 (fun g hg h9 => by unfold ciX at h9; omega) pc, hr _ _ _ f2 (pf_rf (by decide)) pr⟩)
theorem s3_closure (hc : keepP ciX Pc) (hr : keepP rfX Pr) : stpX Pc Pr lst_closure := by
  intro S x1 x2 x3 x4 x5 h pc pr
  have hs : Te (lsV S.1 (fun K => ce_X11_closure S.1 K 0 x1 S.2.1) (fun k z => if k = 1 then some (1, z) else if k = 4 then some (2, z) else if k = 3 then some (3, z) else none) (fun K => qe_X13_closure K x1 S.2.2)) (fun S1 => REL2 S1 ∧ dPhi S.1 ≤ dPhi S1.1) := s2_closure S x1 x2 x3 x4 x5 h
  exact w_monoE (lsV_fo hs (fun K => ff_X11_closure) (fun K => ff_X13_closure) (fun k z r hr => by
    have hr : (if k = 1 then some (1, z) else if k = 4 then some (2, z) else if k = 3 then some (3, z) else none) = some r := hr
    by_cases c0 : k = 1
    · rw [if_pos c0] at hr
      cases hr
      rfl
    by_cases c1 : k = 4
    · rw [if_neg c0, if_pos c1] at hr
      cases hr
      rfl
    by_cases c2 : k = 3
    · rw [if_neg c0, if_neg c1, if_pos c2] at hr
      cases hr
      rfl
    rw [if_neg c0, if_neg c1, if_neg c2] at hr
    cases hr)) (fun S1 ⟨q, f1, f2⟩ => ⟨q, hc _ _ _ f1 (fun g hg h9 => by unfold ciX at h9; omega) pc, hr _ _ _ f2 (pf_rf (by decide)) pr⟩)
theorem s3_product (hc : keepP ciX Pc) (hr : keepP rfX Pr) : stpX Pc Pr lst_product := by
  intro S x1 x2 x3 x4 x5 h pc pr
  have hs : Te (lsV S.1 (fun K => ce_X11_product S.1 K 0 x1 x2 S.2.1) (fun k z => if k = 1 then some (1, z) else if k = 2 then some (2, z) else if k = 4 then some (3, z) else if k = 3 then some (4, z) else none) (fun K => qe_X13_product K x1 x2 S.2.2)) (fun S1 => REL2 S1 ∧ dPhi S.1 ≤ dPhi S1.1) := s2_product S x1 x2 x3 x4 x5 h
  exact w_monoE (lsV_fo hs (fun K => ff_X11_product) (fun K => ff_X13_product) (fun k z r hr => by
    have hr : (if k = 1 then some (1, z) else if k = 2 then some (2, z) else if k = 4 then some (3, z) else if k = 3 then some (4, z) else none) = some r := hr
    by_cases c0 : k = 1
    · rw [if_pos c0] at hr
      cases hr
      rfl
    by_cases c1 : k = 2
    · rw [if_neg c0, if_pos c1] at hr
      cases hr
      rfl
    by_cases c2 : k = 4
    · rw [if_neg c0, if_neg c1, if_pos c2] at hr
      cases hr
      rfl
    by_cases c3 : k = 3
    · rw [if_neg c0, if_neg c1, if_neg c2, if_pos c3] at hr
      cases hr
      rfl
    rw [if_neg c0, if_neg c1, if_neg c2, if_neg c3] at hr
    cases hr)) (fun S1 ⟨q, f1, f2⟩ => ⟨q, hc _ _ _ f1 (fun g hg h9 => by unfold ciX at h9; omega) pc, hr _ _ _ f2 (pf_rf (by decide)) pr⟩)
theorem s3_inverse (hc : keepP ciX Pc) (hr : keepP rfX Pr) : stpX Pc Pr lst_inverse := by
  intro S x1 x2 x3 x4 x5 h pc pr
  have hs : Te (lsV S.1 (fun K => ce_X11_inverse S.1 K 0 x1 S.2.1) (fun k z => if k = 1 then some (1, z) else if k = 3 then some (2, z) else none) (fun K => qe_X13_inverse K x1 S.2.2)) (fun S1 => REL2 S1 ∧ dPhi S.1 ≤ dPhi S1.1) := s2_inverse S x1 x2 x3 x4 x5 h
  exact w_monoE (lsV_fo hs (fun K => ff_X11_inverse) (fun K => ff_X13_inverse) (fun k z r hr => by
    have hr : (if k = 1 then some (1, z) else if k = 3 then some (2, z) else none) = some r := hr
    by_cases c0 : k = 1
    · rw [if_pos c0] at hr
      cases hr
      rfl
    by_cases c1 : k = 3
    · rw [if_neg c0, if_pos c1] at hr
      cases hr
      rfl
    rw [if_neg c0, if_neg c1] at hr
    cases hr)) (fun S1 ⟨q, f1, f2⟩ => ⟨q, hc _ _ _ f1 (fun g hg h9 => by unfold ciX at h9; omega) pc, hr _ _ _ f2 (pf_rf (by decide)) pr⟩)
theorem s3_way (hc : keepP ciX Pc) (hr : keepP rfX Pr) : stpX Pc Pr lst_way := by
  intro S x1 x2 x3 x4 x5 h pc pr
  have hs : Te (lsV S.1 (fun K => ce_X11_way S.1 K 0 x1 x2 S.2.1) (fun k z => if k = 1 then some (1, z) else if k = 4 then some (2, z) else none) (fun K => qe_X13_way K x1 x2 S.2.2)) (fun S1 => REL2 S1 ∧ dPhi S.1 ≤ dPhi S1.1) := s2_way S x1 x2 x3 x4 x5 h
  exact w_monoE (lsV_fo hs (fun K => ff_X11_way) (fun K => ff_X13_way) (fun k z r hr => by
    have hr : (if k = 1 then some (1, z) else if k = 4 then some (2, z) else none) = some r := hr
    by_cases c0 : k = 1
    · rw [if_pos c0] at hr
      cases hr
      rfl
    by_cases c1 : k = 4
    · rw [if_neg c0, if_pos c1] at hr
      cases hr
      rfl
    rw [if_neg c0, if_neg c1] at hr
    cases hr)) (fun S1 ⟨q, f1, f2⟩ => ⟨q, hc _ _ _ f1 (fun g hg h9 => by unfold ciX at h9; omega) pc, hr _ _ _ f2 (pf_rf (by decide)) pr⟩)
theorem s3_summands (hc : keepP ciX Pc) (hr : keepP rfX Pr) : stpX Pc Pr lst_summands := by
  intro S x1 x2 x3 x4 x5 h pc pr
  have hs : Te (lsV S.1 (fun K => ce_X11_summands S.1 K 0 x1 S.2.1) (fun k z => if k = 1 then some (1, z) else none) (fun K => qe_X13_summands K x1 S.2.2)) (fun S1 => REL2 S1 ∧ dPhi S.1 ≤ dPhi S1.1) := s2_summands S x1 x2 x3 x4 x5 h
  exact w_monoE (lsV_fo hs (fun K => ff_X11_summands) (fun K => ff_X13_summands) (fun k z r hr => by
    have hr : (if k = 1 then some (1, z) else none) = some r := hr
    by_cases c0 : k = 1
    · rw [if_pos c0] at hr
      cases hr
      rfl
    rw [if_neg c0] at hr
    cases hr)) (fun S1 ⟨q, f1, f2⟩ => ⟨q, hc _ _ _ f1 (fun g hg h9 => by unfold ciX at h9; omega) pc, hr _ _ _ f2 (pf_rf (by decide)) pr⟩)
theorem s3_alike (hc : keepP ciX Pc) (hr : keepP rfX Pr) : stpX Pc Pr lst_alike := by
  intro S x1 x2 x3 x4 x5 h pc pr
  exact w_monoE (lsB_fo (fc := (fun K => ce_X11_alike S.1 K 0 x1 x2 S.2.1)) (fm := (fun K => qe_X13_alike K x1 x2 S.2.2)) (s2_alike S x1 x2 x3 x4 x5 h) (fun K => ff_X11_alike) (fun K => ff_X13_alike)) (fun S1 ⟨q, f1, f2⟩ => ⟨q, hc _ _ _ f1 (fun g hg => hg.elim) pc, hr _ _ _ f2 (pf_rf (by decide)) pr⟩)
theorem s3_drop (hc : keepP ciX Pc) (hr : keepP rfX Pr) : stpX Pc Pr lst_drop := by
  intro S x1 x2 x3 x4 x5 h pc pr
  exact w_monoE (lsB_fo (fc := (fun K => ce_X11_drop S.1 K 0 x1 S.2.1)) (fm := (fun K => qe_X13_drop K x1 S.2.2)) (s2_drop S x1 x2 x3 x4 x5 h) (fun K => ff_X11_drop) (fun K => ff_X13_drop)) (fun S1 ⟨q, f1, f2⟩ => ⟨q, hc _ _ _ f1 (fun g hg h9 => by unfold ciX at h9; omega) pc, hr _ _ _ f2 (pf_rf (by decide)) pr⟩)
theorem s3_dropBraid (hc : keepP ciX Pc) (hr : keepP rfX Pr) : stpX Pc Pr lst_dropBraid := by
  intro S x1 x2 x3 x4 x5 h pc pr
  exact w_monoE (lsB_fo (fc := (fun K => ce_X11_dropBraid S.1 K 0 x1 S.2.1)) (fm := (fun K => qe_X13_dropBraid K x1 S.2.2)) (s2_dropBraid S x1 x2 x3 x4 x5 h) (fun K => ff_X11_dropBraid) (fun K => ff_X13_dropBraid)) (fun S1 ⟨q, f1, f2⟩ => ⟨q, hc _ _ _ f1 (fun g hg h9 => by unfold ciX at h9; omega) pc, hr _ _ _ f2 (pf_rf (by decide)) pr⟩)
theorem s3_end (hc : keepP ciX Pc) (hr : keepP rfX Pr) : stpX Pc Pr lst_end := by
  intro S x1 x2 x3 x4 x5 h pc pr
  obtain ⟨S1, ⟨b, hb⟩, hQ⟩ := s2_end S x1 x2 x3 x4 x5 h
  refine ⟨S1, ⟨b, hb⟩, hQ, ?_⟩
  have e1 : (cs1 (le_L_end S.1 b 0 x1 S.2.1) fun v2 zc1 => cs0 (qe_X13_end b x1 S.2.2) fun zm3 => cs1 (qe_X13_thrown b zm3) fun v5 zm4 => (if v5 = v2 then some (S.1, zc1, zm4) else none)) = some S1 := hb b (Nat.le_refl _)
  cases q2 : ce_X11_end S.1 b 0 x1 S.2.1 with
  | none =>
    have hl : le_L_end S.1 b 0 x1 S.2.1 = none := by
      unfold le_L_end
      rw [q2]
      rfl
    rw [hl] at e1
    cases e1
  | some q =>
    obtain ⟨k, zc⟩ := q
    have f1 : fr (fun g => g = 0 + 11001) S.2.1 zc := ff_X11_end _ q2
    have hl : le_L_end S.1 b 0 x1 S.2.1 = if k = 0 then some (0, zc) else if k = 2 then some (1, zc) else none := by
      unfold le_L_end
      rw [q2]
      rfl
    rw [hl] at e1
    have main : ∀ a : Int32, (cs0 (qe_X13_end b x1 S.2.2) fun zm3 => cs1 (qe_X13_thrown b zm3) fun v5 zm4 => (if v5 = a then some (S.1, zc, zm4) else none)) = some S1 → Pc S1.2.1 ∧ Pr S1.2.2 := by
      intro a h9
      cases q3 : qe_X13_end b x1 S.2.2 with
      | none =>
        rw [q3] at h9
        cases h9
      | some zm =>
        rw [q3] at h9
        have f2 : fr (pf [1, 11] []) S.2.2 zm := ff_X13_end _ q3
        have h9 : (if zm.1 1 = a then some (S.1, zc, zm) else none) = some S1 := h9
        by_cases c1 : zm.1 1 = a
        · rw [if_pos c1] at h9
          cases h9
          exact ⟨hc _ _ _ f1 (fun g hg h9 => by unfold ciX at h9; omega) pc, hr _ _ _ f2 (pf_rf (by decide)) pr⟩
        · rw [if_neg c1] at h9
          cases h9
    by_cases k0 : k = 0
    · rw [if_pos k0] at e1
      exact main 0 e1
    · rw [if_neg k0] at e1
      by_cases k2 : k = 2
      · rw [if_pos k2] at e1
        exact main 1 e1
      · rw [if_neg k2] at e1
        cases e1
theorem s3_jones (hc : keepP ciX Pc) (hr : keepP rfX Pr) (hj : ∀ y y1, fr jnP y y1 → (∀ D, cOK D → slC y 25000 0 D → slC y1 25000 0 D) → Pc y → Pc y1) : stpX Pc Pr lst_jones := by
  intro S x1 x2 x3 x4 x5 h pc pr
  have hs : Te (lsV S.1 (fun K => ce_X11_jones S.1 K 0 x1 x2 S.2.1) (fun k z => if k = 1 then some (1, z) else none) (fun K => qe_X13_jones K x1 x2 S.2.2)) (fun S1 => REL2 S1 ∧ dPhi S.1 ≤ dPhi S1.1) := s2_jones S x1 x2 x3 x4 x5 h
  have hn : Te (fun K => ce_X11_jones S.1 K 0 x1 x2 S.2.1) (fun rc => Pc rc.2.2) := w_monoE (tc_jones h.1.1.2.1 h.1.2.1.2.1) (fun rc ⟨_, _, hD, _, f, _⟩ => hj _ _ f hD pc)
  obtain ⟨⟨St, k⟩, -⟩ := id h.1.1
  have hm : Te (fun K => qe_X13_jones K x1 x2 S.2.2) (fun rr => Pr rr.2) := w_monoE (te_fo (tp_jones (d := x1) (k := x2) k.1) (fun K => ff_X13_jones)) (fun rr ⟨_, f⟩ => hr _ _ _ f (pf_rf (by decide)) pr)
  exact lsV_pp hs hn hm (fun y v hy => hc (fun g => g = 52001) y _ (fr_J rfl) (fun g hg h9 => by unfold ciX at h9; omega) hy) (fun k z r hr => by
    have hr : (if k = 1 then some (1, z) else none) = some r := hr
    by_cases c0 : k = 1
    · rw [if_pos c0] at hr
      cases hr
      rfl
    rw [if_neg c0] at hr
    cases hr)
end XS7
section XS8
variable {Pc Pr : ow_MS → Prop}
def rel9 (Pc Pr : ow_MS → Prop) (S : ow_LwS) : Prop := REL2 S ∧ Pc S.2.1 ∧ Pr S.2.2
theorem run_rel9 (H : ∀ (S : ow_LwS) (x0 x1 x2 x3 x4 x5 : Int32), rel9 Pc Pr S → Te (fun K => lstep K x0 x1 x2 x3 x4 x5 S) (fun S1 => rel9 Pc Pr S1 ∧ dPhi S.1 ≤ dPhi S1.1)) (xs : Nat → Int32) : ∀ (k n : Nat) (S : ow_LwS), rel9 Pc Pr S → ∃ SE b, ∀ K, b ≤ K → lrun K xs k n S = some SE
  | 0, n, S, _ => ⟨S, 0, fun K _ => rfl⟩
  | k + 1, n, S, h => by
    obtain ⟨S1, ⟨b1, hb1⟩, h1, h2⟩ := H S (xs (6 * n)) (xs (6 * n + 1)) (xs (6 * n + 2)) (xs (6 * n + 3)) (xs (6 * n + 4)) (xs (6 * n + 5)) h
    obtain ⟨SE, b2, hb2⟩ := run_rel9 H xs k (n + 1) S1 h1
    refine ⟨SE, b1 + b2, fun K hK => ?_⟩
    have e : lstep K (xs (6 * n)) (xs (6 * n + 1)) (xs (6 * n + 2)) (xs (6 * n + 3)) (xs (6 * n + 4)) (xs (6 * n + 5)) S = some S1 := hb1 K (by omega)
    show (match lstep K (xs (6 * n)) (xs (6 * n + 1)) (xs (6 * n + 2)) (xs (6 * n + 3)) (xs (6 * n + 4)) (xs (6 * n + 5)) S with
      | none => none
      | some S1 => if dPhi S.1 ≤ dPhi S1.1 ∧ dPhi S1.1 ≤ 2800000 then lrun K xs k (n + 1) S1 else none) = some SE
    rw [e]
    show (if dPhi S.1 ≤ dPhi S1.1 ∧ dPhi S1.1 ≤ 2800000 then lrun K xs k (n + 1) S1 else none) = some SE
    rw [if_pos ⟨h2, rel_phi h1.1.1⟩]
    exact hb2 K (by omega)
theorem st9 {f : (Nat → Nat) → Nat → Int32 → Int32 → Int32 → Int32 → Int32 → ow_MS → ow_MS → Option ow_LwS} (h : stpX Pc Pr f) (S : ow_LwS) (x1 x2 x3 x4 x5 : Int32) (hS : rel9 Pc Pr S) : Te (fun K => f S.1 K x1 x2 x3 x4 x5 S.2.1 S.2.2) (fun S1 => rel9 Pc Pr S1 ∧ dPhi S.1 ≤ dPhi S1.1) := w_monoE (h S x1 x2 x3 x4 x5 hS.1 hS.2.1 hS.2.2) (fun S1 ⟨⟨q1, q2⟩, q3⟩ => ⟨⟨q1, q3⟩, q2⟩)
/-- one call -/
theorem step_allX (hc : keepP ciX Pc) (hr : keepP rfX Pr) (hj : ∀ y y1, fr jnP y y1 → (∀ D, cOK D → slC y 25000 0 D → slC y1 25000 0 D) → Pc y → Pc y1) (h_conway : stpX Pc Pr lst_conway) (h_signature : stpX Pc Pr lst_signature) (h_cover : stpX Pc Pr lst_cover) (h_colours : stpX Pc Pr lst_colours) (h_maps : stpX Pc Pr lst_maps) (h_chain : stpX Pc Pr lst_chain) (h_rank : stpX Pc Pr lst_rank) (h_normal : stpX Pc Pr lst_normal) (h_factor : stpX Pc Pr lst_factor) (h_equal : stpX Pc Pr lst_equal) (h_summit : stpX Pc Pr lst_summit) (h_conjugate : stpX Pc Pr lst_conjugate) (h_two : stpX Pc Pr lst_two) (S : ow_LwS) (x0 x1 x2 x3 x4 x5 : Int32) (h : rel9 Pc Pr S) : Te (fun K => lstep K x0 x1 x2 x3 x4 x5 S) (fun S1 => rel9 Pc Pr S1 ∧ dPhi S.1 ≤ dPhi S1.1) := by
  unfold lstep
  refine te_if (fun _ => ⟨S, ⟨0, fun K _ => rfl⟩, h, Nat.le_refl _⟩) (fun hx => ?_)
  refine te_if (fun _ => st9 (s3_feed hc hr) S x1 x2 x3 x4 x5 h) (fun n_feed => ?_)
  refine te_if (fun _ => st9 (s3_end hc hr) S x1 x2 x3 x4 x5 h) (fun n_end => ?_)
  refine te_if (fun _ => st9 (s3_diagram hc hr) S x1 x2 x3 x4 x5 h) (fun n_diagram => ?_)
  refine te_if (fun _ => st9 (s3_braid hc hr) S x1 x2 x3 x4 x5 h) (fun n_braid => ?_)
  refine te_if (fun _ => st9 (s3_drop hc hr) S x1 x2 x3 x4 x5 h) (fun n_drop => ?_)
  refine te_if (fun _ => st9 (s3_dropBraid hc hr) S x1 x2 x3 x4 x5 h) (fun n_dropBraid => ?_)
  refine te_if (fun _ => st9 (s3_figure hc hr) S x1 x2 x3 x4 x5 h) (fun n_figure => ?_)
  refine te_if (fun _ => st9 (s3_visit hc hr) S x1 x2 x3 x4 x5 h) (fun n_visit => ?_)
  refine te_if (fun _ => st9 (s3_linking hc hr) S x1 x2 x3 x4 x5 h) (fun n_linking => ?_)
  refine te_if (fun _ => st9 (s3_alike hc hr) S x1 x2 x3 x4 x5 h) (fun n_alike => ?_)
  refine te_if (fun _ => st9 (s3_mirror hc hr) S x1 x2 x3 x4 x5 h) (fun n_mirror => ?_)
  refine te_if (fun _ => st9 (s3_reverse hc hr) S x1 x2 x3 x4 x5 h) (fun n_reverse => ?_)
  refine te_if (fun _ => st9 (s3_change hc hr) S x1 x2 x3 x4 x5 h) (fun n_change => ?_)
  refine te_if (fun _ => st9 (s3_smooth hc hr) S x1 x2 x3 x4 x5 h) (fun n_smooth => ?_)
  refine te_if (fun _ => st9 (s3_apart hc hr) S x1 x2 x3 x4 x5 h) (fun n_apart => ?_)
  refine te_if (fun _ => st9 (s3_join hc hr) S x1 x2 x3 x4 x5 h) (fun n_join => ?_)
  refine te_if (fun _ => st9 (s3_moves hc hr) S x1 x2 x3 x4 x5 h) (fun n_moves => ?_)
  refine te_if (fun _ => st9 (s3_moved hc hr) S x1 x2 x3 x4 x5 h) (fun n_moved => ?_)
  refine te_if (fun _ => st9 (s3_simplify hc hr) S x1 x2 x3 x4 x5 h) (fun n_simplify => ?_)
  refine te_if (fun _ => st9 (s3_way hc hr) S x1 x2 x3 x4 x5 h) (fun n_way => ?_)
  refine te_if (fun _ => st9 (s3_summands hc hr) S x1 x2 x3 x4 x5 h) (fun n_summands => ?_)
  refine te_if (fun _ => st9 (s3_summand hc hr) S x1 x2 x3 x4 x5 h) (fun n_summand => ?_)
  refine te_if (fun _ => st9 h_conway S x1 x2 x3 x4 x5 h) (fun n_conway => ?_)
  refine te_if (fun _ => st9 (s3_jones hc hr hj) S x1 x2 x3 x4 x5 h) (fun n_jones => ?_)
  refine te_if (fun _ => st9 h_signature S x1 x2 x3 x4 x5 h) (fun n_signature => ?_)
  refine te_if (fun _ => st9 h_cover S x1 x2 x3 x4 x5 h) (fun n_cover => ?_)
  refine te_if (fun _ => st9 h_colours S x1 x2 x3 x4 x5 h) (fun n_colours => ?_)
  refine te_if (fun _ => st9 h_maps S x1 x2 x3 x4 x5 h) (fun n_maps => ?_)
  refine te_if (fun _ => st9 h_chain S x1 x2 x3 x4 x5 h) (fun n_chain => ?_)
  refine te_if (fun _ => st9 h_rank S x1 x2 x3 x4 x5 h) (fun n_rank => ?_)
  refine te_if (fun _ => st9 (s3_closure hc hr) S x1 x2 x3 x4 x5 h) (fun n_closure => ?_)
  refine te_if (fun _ => st9 (s3_product hc hr) S x1 x2 x3 x4 x5 h) (fun n_product => ?_)
  refine te_if (fun _ => st9 (s3_inverse hc hr) S x1 x2 x3 x4 x5 h) (fun n_inverse => ?_)
  refine te_if (fun _ => st9 h_normal S x1 x2 x3 x4 x5 h) (fun n_normal => ?_)
  refine te_if (fun _ => st9 h_factor S x1 x2 x3 x4 x5 h) (fun n_factor => ?_)
  refine te_if (fun _ => st9 h_equal S x1 x2 x3 x4 x5 h) (fun n_equal => ?_)
  refine te_if (fun _ => st9 h_summit S x1 x2 x3 x4 x5 h) (fun n_summit => ?_)
  refine te_if (fun _ => st9 h_conjugate S x1 x2 x3 x4 x5 h) (fun n_conjugate => ?_)
  refine te_if (fun _ => st9 h_two S x1 x2 x3 x4 x5 h) (fun n_two => ?_)
  exfalso
  obtain ⟨i, hi, e⟩ := x63 hx
  rw [e] at n_feed n_end n_diagram n_braid n_drop n_dropBraid n_figure n_visit n_linking n_alike n_mirror n_reverse n_change n_smooth n_apart n_join n_moves n_moved n_simplify n_way n_summands n_summand n_conway n_jones n_signature n_cover n_colours n_maps n_chain n_rank n_closure n_product n_inverse n_normal n_factor n_equal n_summit n_conjugate n_two
  have key : ∀ i : Fin 39, ¬ (¬ nI i.val = 0 ∧ ¬ nI i.val = 1 ∧ ¬ nI i.val = 2 ∧ ¬ nI i.val = 3 ∧ ¬ nI i.val = 4 ∧ ¬ nI i.val = 5 ∧ ¬ nI i.val = 6 ∧ ¬ nI i.val = 7 ∧ ¬ nI i.val = 8 ∧ ¬ nI i.val = 9 ∧ ¬ nI i.val = 10 ∧ ¬ nI i.val = 11 ∧ ¬ nI i.val = 12 ∧ ¬ nI i.val = 13 ∧ ¬ nI i.val = 14 ∧ ¬ nI i.val = 15 ∧ ¬ nI i.val = 16 ∧ ¬ nI i.val = 17 ∧ ¬ nI i.val = 18 ∧ ¬ nI i.val = 19 ∧ ¬ nI i.val = 20 ∧ ¬ nI i.val = 21 ∧ ¬ nI i.val = 22 ∧ ¬ nI i.val = 23 ∧ ¬ nI i.val = 24 ∧ ¬ nI i.val = 25 ∧ ¬ nI i.val = 26 ∧ ¬ nI i.val = 27 ∧ ¬ nI i.val = 28 ∧ ¬ nI i.val = 29 ∧ ¬ nI i.val = 30 ∧ ¬ nI i.val = 31 ∧ ¬ nI i.val = 32 ∧ ¬ nI i.val = 33 ∧ ¬ nI i.val = 34 ∧ ¬ nI i.val = 35 ∧ ¬ nI i.val = 36 ∧ ¬ nI i.val = 37 ∧ ¬ nI i.val = 38) := by decide +kernel
  exact key ⟨i, hi⟩ ⟨n_feed, n_end, n_diagram, n_braid, n_drop, n_dropBraid, n_figure, n_visit, n_linking, n_alike, n_mirror, n_reverse, n_change, n_smooth, n_apart, n_join, n_moves, n_moved, n_simplify, n_way, n_summands, n_summand, n_conway, n_jones, n_signature, n_cover, n_colours, n_maps, n_chain, n_rank, n_closure, n_product, n_inverse, n_normal, n_factor, n_equal, n_summit, n_conjugate, n_two⟩
end XS8
section XS9
variable {Pc Pr : ow_MS → Prop}
theorem both_init1 : ∃ z8 z0 zA z1 m1 m2 b, (∀ K, b ≤ K → ce_X8i_b8 K 24000 zeroS = some z8 ∧ ce_X0i_b0 K 41000 53001 zeroS = some z0 ∧ ce_X1i_b1 K 43000 zeroS = some zA ∧ ce_X1j_b1b K 43000 53001 (usZ zA [53]) = some z1 ∧ qe_X13_makeSimples_a K Z13 = some m1 ∧ qe_X13_makePermutations_a K m1 = some m2) ∧ REL (vl0, Zc z8 z0 z1, usZ m2 blM) ∧ (∀ g, ¬ spc g → (Zc z8 z0 z1).1 g = 0 ∧ ∀ i, (Zc z8 z0 z1).2.1 g i = 0) ∧ (∀ g, g < 73 → (usZ m2 blM).1 g = 0) ∧ ∀ g i, ¬ (73 ≤ g ∧ g ≤ 76 ∨ 97 ≤ g ∧ g ≤ 107) → (usZ m2 blM).2.1 g i = 0 := by
  obtain ⟨z8, ⟨b8, hb8⟩, k8, f8⟩ := ti_b8 (z := zeroS) (fun m i _ => rfl)
  obtain ⟨z0, ⟨b0, hb0⟩, k0, f0⟩ := ti_b0 (z := zeroS)
  obtain ⟨zA, ⟨bA, hbA⟩, kA, fA⟩ := ti_b1 (z := zeroS) (fun m i _ => rfl)
  have u53 : ∀ r, (usZ zA [53]).2.1 53001 r = 0 := fun r => by
    show (if ([53] : List Nat).contains (53001 / 1000) = true then (fun _ => 0) else zA.2.1 53001) r = 0
    rw [if_pos (by decide)]
  obtain ⟨z1, ⟨b1, hb1⟩, k1, f1⟩ := ti_b1b (z := usZ zA [53]) u53
  obtain ⟨m1, m2, ⟨c1, hc1⟩, ⟨c2, hc2⟩, hgI, hz1, hz2⟩ := ref_init2
  have uA : ∀ g, g / 1000 ≠ 53 → (usZ zA [53]).1 g = zA.1 g ∧ (usZ zA [53]).2.1 g = zA.2.1 g ∧ (usZ zA [53]).2.2 g = zA.2.2 g := fun g hg => by
    have e : ¬ ([53] : List Nat).contains (g / 1000) = true := by
      simp only [List.contains_cons, List.contains_nil, Bool.or_false, beq_iff_eq]
      exact hg
    exact ⟨if_neg e, if_neg e, if_neg e⟩
  have f1' : ∀ g, g / 1000 ≠ 53 → ¬ (45001 ≤ g ∧ g < 45012 ∨ g = 43005) → z1.1 g = 0 ∧ ∀ i, z1.2.1 g i = 0 := fun g h9 hg => by
    obtain ⟨a1, a2, -⟩ := f1 g (by omega)
    obtain ⟨a3, a4, -⟩ := uA g h9
    obtain ⟨a5, a6, -⟩ := fA g (by omega)
    rw [a1, a2, a3, a4, a5, a6]
    exact ⟨rfl, fun _ => rfl⟩
  have hY : ∀ g, ¬ spc g → (Zc z8 z0 z1).1 g = 0 ∧ ∀ i, (Zc z8 z0 z1).2.1 g i = 0 := by
    intro g hg
    unfold spc at hg
    by_cases c8 : 24 ≤ g / 1000 ∧ g / 1000 ≤ 40
    · obtain ⟨e1, e2⟩ := Zj_8 (z8 := z8) (z0 := z0) (z1 := z1) c8.1 c8.2
      rw [e1, e2, (f8 g (by omega)).1, (f8 g (by omega)).2.1]
      exact ⟨rfl, fun _ => rfl⟩
    · by_cases c0 : 41 ≤ g / 1000 ∧ g / 1000 ≤ 42
      · obtain ⟨e1, e2⟩ := Zc_z (z8 := z8) (z0 := z0) (z1 := z1) c0.1 c0.2
        rw [e1, e2, (f0 g (by omega)).1, (f0 g (by omega)).2.1]
        exact ⟨rfl, fun _ => rfl⟩
      · by_cases c1 : 43 ≤ g / 1000 ∧ g / 1000 ≤ 45
        · obtain ⟨e1, e2⟩ := Zj_1 (z8 := z8) (z0 := z0) (z1 := z1) c1.1 c1.2
          rw [e1, e2]
          exact f1' g (by omega) (by omega)
        · obtain ⟨e1, e2⟩ := Zc_n (z8 := z8) (z0 := z0) (z1 := z1) (g := g) (by omega)
          rw [e1, e2]
          exact ⟨rfl, fun _ => rfl⟩
  have n : ∀ g, g < 39001 ∨ 39025 ≤ g ∧ g < 41006 ∨ 41007 < g ∧ g < 43005 → ¬ spc g := fun g hg h9 => by unfold spc at h9; omega
  have hM := gM_0 hY
  obtain ⟨y, hy⟩ : ∃ y, y = Zc z8 z0 z1 := ⟨_, rfl⟩
  obtain ⟨w, hw⟩ : ∃ w, w = usZ m2 blM := ⟨_, rfl⟩
  have e39 : ∀ m, m < 24 → y.2.1 (39001 + m) = z8.2.1 (39001 + m) := fun m hm => by rw [hy]; exact (Zj_8 (by omega) (by omega)).2
  have e41 : ∀ g, 41000 ≤ g → g < 42000 → y.2.1 g = z0.2.1 g := fun g g1 g2 => by rw [hy]; exact (Zc_z (by omega) (by omega)).2
  have e43 : ∀ g, 43000 ≤ g → g < 46000 → y.2.1 g = z1.2.1 g := fun g g1 g2 => by rw [hy]; exact (Zj_1 (by omega) (by omega)).2
  rw [← hy] at hY hM
  rw [← hw] at hgI hz1 hz2
  have sl0 : ∀ (g s : Nat), g + 3 < 39001 → slC y g s (0, []) := fun g s hg => ⟨(hY _ (n _ (by omega))).2 s, (hY _ (n _ (by omega))).2 s, fun i a hi => (by rw [List.getElem?_nil] at hi; cases hi)⟩
  have by0 : ∀ g, g < 39001 → byR y g := fun g hg => by_0 (hY g (n g (by omega))).2
  have hrel : rel3 XR w y := by
    refine ⟨⟨fun _ => none, hgI, hM.1, fun d hd => ⟨fun _ => hz2 12 _ (by omega), fun A sg h9 => by cases h9⟩, fun d hd => ⟨fun _ => (hY 1002 (n _ (by omega))).2 d, fun A sg h9 => by cases h9⟩, fun d A sg hd h9 => by cases h9⟩, hM, ⟨0, by omega, hz1 11 (by omega), (hY 11001 (n _ (by omega))).1, fun k hk => absurd hk (Nat.not_lt_zero _)⟩, fun b hb => ⟨?_, fun h9 => absurd (hz2 96 b (by omega)) h9⟩, fun b hb => ⟨0, 0, by omega, by omega, (hY 15 (n _ (by omega))).2 b, fun h9 => absurd h9 (Nat.lt_irrefl _)⟩, ⟨[], ⟨by decide, hz1 22 (by omega), fun k A sg h9 => (by rw [List.getElem?_nil] at h9; cases h9)⟩, ⟨[], [], tbO_nil (hY 2005 (n _ (by omega))).1 (by0 2001 (by omega)), rfl, fun k A sg h9 => (by rw [List.getElem?_nil] at h9; cases h9)⟩, fun k A sg h9 => (by rw [List.getElem?_nil] at h9; cases h9)⟩, [], ⟨by decide, hz1 36 (by omega), fun k A sg h9 => (by rw [List.getElem?_nil] at h9; cases h9)⟩, ⟨[], [], tbO_nil (hY 3005 (n _ (by omega))).1 (by0 3001 (by omega)), rfl, fun k A sg h9 => (by rw [List.getElem?_nil] at h9; cases h9)⟩, fun k A sg h9 => (by rw [List.getElem?_nil] at h9; cases h9)⟩
    rw [hz2 96 b (by omega), (hY 15 (n _ (by omega))).2 b]
  have hci : CI vl0 y := by
    refine ⟨⟨by0 25001 (by omega), fun s _ => ⟨(0, []), sl0 25000 s (by omega), cOK_0⟩, 0, by omega, (hY 40008 (n _ (by omega))).1⟩, ⟨(0, []), sl0 25000 1 (by omega), cOK_0, Or.inl rfl⟩, fun m i hm hi => ?_, ⟨fun i hi => ?_, fun i hi => ?_, fun i hi => ⟨0, by omega, (hY 41009 (n _ (by omega))).2 i⟩⟩, ⟨0, by omega, (hY 41010 (n _ (by omega))).1, fun s hs => absurd hs (Nat.not_lt_zero _)⟩, fun m hm => ?_, fun i k hi hk => ?_, 640, 20000, rfl, rfl, rfl, rfl, rfl, rfl, by decide, by decide, by decide, by decide⟩
    · rw [e39 m (by omega)]
      exact k8 m i (by omega) hi
    · rw [e41 41006 (by omega) (by omega)]
      exact k0.1 i hi
    · rw [e41 41007 (by omega) (by omega)]
      exact k0.2 i hi
    · rw [e43 43005 (by omega) (by omega)]
      exact k1 m hm
    · rw [e43 (45001 + i) (by omega) (by omega), (f1 (45001 + i) (by omega)).2.1, (uA (45001 + i) (by omega)).2.1, biN_n]
      exact kA i k (by omega) hk
  have hj : jnR w := fun T1 hT => Or.inl (List.eq_nil_of_length_eq_zero (by
    have h9 := hT.2.2.1
    rw [hz2 50 0 (by omega)] at h9
    have hl := hT.1
    have := nI_inj9 (a := 0) (b := T1.length) (by omega) (by omega) h9
    omega))
  exact ⟨z8, z0, zA, z1, m1, m2, b8 + b0 + bA + b1 + c1 + c2, fun K hK => ⟨hb8 K (by omega), hb0 K (by omega), hbA K (by omega), hb1 K (by omega), hc1 K (by omega), hc2 K (by omega)⟩, by rw [← hy, ← hw]; exact ⟨⟨hrel, hci, hj⟩, hY, hz1, hz2⟩⟩
/-- the whole, when the cases that are left keep the relation -/
theorem pure_ofX (hc : keepP ciX Pc) (hr : keepP rfX Pr) (hj : ∀ y y1, fr jnP y y1 → (∀ D, cOK D → slC y 25000 0 D → slC y1 25000 0 D) → Pc y → Pc y1) (h_conway : stpX Pc Pr lst_conway) (h_signature : stpX Pc Pr lst_signature) (h_cover : stpX Pc Pr lst_cover) (h_colours : stpX Pc Pr lst_colours) (h_maps : stpX Pc Pr lst_maps) (h_chain : stpX Pc Pr lst_chain) (h_rank : stpX Pc Pr lst_rank) (h_normal : stpX Pc Pr lst_normal) (h_factor : stpX Pc Pr lst_factor) (h_equal : stpX Pc Pr lst_equal) (h_summit : stpX Pc Pr lst_summit) (h_conjugate : stpX Pc Pr lst_conjugate) (h_two : stpX Pc Pr lst_two) (i_c : ∀ y, (∀ g, ¬ spc g → y.1 g = 0 ∧ ∀ i, y.2.1 g i = 0) → Pc y) (i_r : ∀ z, (∀ g, g < 73 → z.1 g = 0) → (∀ g i, ¬ (73 ≤ g ∧ g ≤ 76 ∨ 97 ≤ g ∧ g ≤ 107) → z.2.1 g i = 0) → (∃ m1 m2 b, (∀ K, b ≤ K → qe_X13_makeSimples_a K Z13 = some m1 ∧ qe_X13_makePermutations_a K m1 = some m2) ∧ z = usZ m2 blM) → Pr z) : PureAll := by
  intro L xs hL
  obtain ⟨z8, z0, zA, z1, m1, m2, b, hb, hR, hY, hz1, hz2⟩ := both_init1
  have n1 : ∀ d, (Zc z8 z0 z1).2.1 1002 d = 0 := (hY 1002 (by unfold spc; omega)).2
  have n2 : (Zc z8 z0 z1).1 2005 = 0 := (hY 2005 (by unfold spc; omega)).1
  have n3 : (Zc z8 z0 z1).1 3005 = 0 := (hY 3005 (by unfold spc; omega)).1
  have hNM : NM (Zc z8 z0 z1) := by
    refine ⟨fun d A sg c hd hs hA hne => ?_, fun Cs os ht C hC => ?_, fun Cs os ht C hC => ?_⟩
    · have h8 : (Zc z8 z0 z1).2.1 1002 d = nI (clC sg A).2.length := hs.2.1
      rw [n1 d] at h8
      have hl := len_cl (sg := sg) hne
      have ok := (okL_c (sg := sg) hA).2
      have := nI_inj9 (a := 0) (b := (clC sg A).2.length) (by omega) (by have := ok.2.1; omega) h8
      omega
    · have h8 : (Zc z8 z0 z1).1 2005 = nI os.length := ht.1.1
      rw [n2] at h8
      have l1 := ht.2.2.2.1
      have := nI_inj9 (a := 0) (b := os.length) (by omega) (by omega) h8
      have l2 := ht.1.2.1
      rw [List.eq_nil_of_length_eq_zero (show Cs.length = 0 by omega)] at hC
      cases hC
    · have h8 : (Zc z8 z0 z1).1 3005 = nI os.length := ht.1.1
      rw [n3] at h8
      have l1 := ht.2.2.2.1
      have := nI_inj9 (a := 0) (b := os.length) (by omega) (by omega) h8
      have l2 := ht.1.2.1
      rw [List.eq_nil_of_length_eq_zero (show Cs.length = 0 by omega)] at hC
      cases hC
  obtain ⟨SE, b2, hb2⟩ := run_rel9 (step_allX hc hr hj h_conway h_signature h_cover h_colours h_maps h_chain h_rank h_normal h_factor h_equal h_summit h_conjugate h_two) xs (L / 6) 0 _ ⟨⟨hR, hNM⟩, i_c _ hY, i_r _ hz1 hz2 ⟨m1, m2, b, fun K hK => ⟨(hb K hK).2.2.2.2.1, (hb K hK).2.2.2.2.2⟩, rfl⟩⟩
  obtain ⟨q1, q2, q3, q4, q5, q6⟩ := hb (b + b2) (by omega)
  exact ⟨b + b2, z8, z0, zA, z1, m1, m2, SE, q1, q2, q3, q4, q5, q6, hb2 (b + b2) (by omega)⟩
end XS9
