/-! summit, conjugate are steps of the law; what is left of the whole: six cases -/
section XSF
variable {Pc Pr : ow_MS → Prop}
theorem s3_summit (hc : keepP ciX Pc) (hr : keepP rfX Pr) : stpX Pc Pr lst_summit := by
  intro S x1 x2 x3 x4 x5 h pc pr
  have hc0 := rel_of (vl := S.1) (y := S.2.1) (z := S.2.2) (em := [(1, 1), (2, 4)]) (fc := fun K => ce_X11_summit S.1 K 0 x1 S.2.1) (fm := fun K => qe_X13_summit K x1 S.2.2) h.1 (c_summit (fun _ => XR_G) h.1.1) (fun K => ff_X13_summit) (fun K => ff_X11_summit) (by decide) (fun g hg h9 => by unfold ciH at h9; omega)
  have hn : Te (fun K => ce_X11_summit S.1 K 0 x1 S.2.1) (fun rc => NM rc.2.2) := te_nmF (te_in hc0) (fun K => ff_X11_summit) (fun g hg h9 => by omega) h.2
  have hs0 : Te (lsV S.1 (fun K => ce_X11_summit S.1 K 0 x1 S.2.1) (fun k z => if k = 1 then some (1, z) else if k = 4 then some (2, z) else none) (fun K => qe_X13_summit K x1 S.2.2)) (fun S1 => REL S1 ∧ dPhi S.1 ≤ dPhi S1.1) := by
    refine st_int hc0 (fun j k hm => ?_)
    simp only [List.mem_cons, List.not_mem_nil, or_false, Prod.mk.injEq] at hm
    rcases hm with ⟨rfl, rfl⟩ | ⟨rfl, rfl⟩
    · exact ⟨by decide, by decide, by decide, fun _ => rfl⟩
    · exact ⟨by decide, by decide, by decide, fun _ => rfl⟩
  have hmp : ∀ (k : Nat) (z : ow_MS) (r : Int32 × ow_MS), ((fun k z => if k = 1 then some (1, z) else if k = 4 then some (2, z) else none) : Nat → ow_MS → Option (Int32 × ow_MS)) k z = some r → r.2 = z := (fun k z r hr => by
    have hr : (if k = 1 then some (1, z) else if k = 4 then some (2, z) else none) = some r := hr
    by_cases c0 : k = 1
    · rw [if_pos c0] at hr
      cases hr
      rfl
    by_cases c1 : k = 4
    · rw [if_neg c0, if_pos c1] at hr
      cases hr
      rfl
    rw [if_neg c0, if_neg c1] at hr
    cases hr)
  have hs : Te (lsV S.1 (fun K => ce_X11_summit S.1 K 0 x1 S.2.1) (fun k z => if k = 1 then some (1, z) else if k = 4 then some (2, z) else none) (fun K => qe_X13_summit K x1 S.2.2)) (fun S1 => REL2 S1 ∧ dPhi S.1 ≤ dPhi S1.1) := w_monoE (lsV_nm hs0 hn hmp) (fun S1 ⟨⟨q1, q2⟩, q3⟩ => ⟨⟨q1, q3⟩, q2⟩)
  exact w_monoE (lsV_fo hs (fun K => ff_X11_summit) (fun K => ff_X13_summit) hmp) (fun S1 ⟨q, f1, f2⟩ => ⟨q, hc _ _ _ f1 (fun g hg h9 => by unfold ciX at h9; omega) pc, hr _ _ _ f2 (pf_rf (by decide)) pr⟩)
theorem s3_conjugate (hc : keepP ciX Pc) (hr : keepP rfX Pr) : stpX Pc Pr lst_conjugate := by
  intro S x1 x2 x3 x4 x5 h pc pr
  have hc0 := rel_of (vl := S.1) (y := S.2.1) (z := S.2.2) (em := [(1, 1), (2, 2), (3, 4)]) (fc := fun K => ce_X11_conjugate S.1 K 0 x1 x2 S.2.1) (fm := fun K => qe_X13_conjugate K x1 x2 S.2.2) h.1 (c_conjugate (fun _ => XR_G) h.1.1) (fun K => ff_X13_conjugate) (fun K => ff_X11_conjugate) (by decide) (fun g hg h9 => by unfold ciH at h9; omega)
  have hn : Te (fun K => ce_X11_conjugate S.1 K 0 x1 x2 S.2.1) (fun rc => NM rc.2.2) := te_nmF (te_in hc0) (fun K => ff_X11_conjugate) (fun g hg h9 => by omega) h.2
  have hs0 : Te (lsV S.1 (fun K => ce_X11_conjugate S.1 K 0 x1 x2 S.2.1) (fun k z => if k = 1 then some (1, z) else if k = 2 then some (2, z) else if k = 4 then some (3, z) else none) (fun K => qe_X13_conjugate K x1 x2 S.2.2)) (fun S1 => REL S1 ∧ dPhi S.1 ≤ dPhi S1.1) := by
    refine st_int hc0 (fun j k hm => ?_)
    simp only [List.mem_cons, List.not_mem_nil, or_false, Prod.mk.injEq] at hm
    rcases hm with ⟨rfl, rfl⟩ | ⟨rfl, rfl⟩ | ⟨rfl, rfl⟩
    · exact ⟨by decide, by decide, by decide, fun _ => rfl⟩
    · exact ⟨by decide, by decide, by decide, fun _ => rfl⟩
    · exact ⟨by decide, by decide, by decide, fun _ => rfl⟩
  have hmp : ∀ (k : Nat) (z : ow_MS) (r : Int32 × ow_MS), ((fun k z => if k = 1 then some (1, z) else if k = 2 then some (2, z) else if k = 4 then some (3, z) else none) : Nat → ow_MS → Option (Int32 × ow_MS)) k z = some r → r.2 = z := (fun k z r hr => by
    have hr : (if k = 1 then some (1, z) else if k = 2 then some (2, z) else if k = 4 then some (3, z) else none) = some r := hr
    by_cases c0 : k = 1
    · rw [if_pos c0] at hr
      cases hr
      rfl
    by_cases c1 : k = 2
    · rw [if_neg c0, if_pos c1] at hr
      cases hr
      rfl
    by_cases c2 : k = 4
    · rw [if_neg c0, if_neg c1, if_pos c2] at hr
      cases hr
      rfl
    rw [if_neg c0, if_neg c1, if_neg c2] at hr
    cases hr)
  have hs : Te (lsV S.1 (fun K => ce_X11_conjugate S.1 K 0 x1 x2 S.2.1) (fun k z => if k = 1 then some (1, z) else if k = 2 then some (2, z) else if k = 4 then some (3, z) else none) (fun K => qe_X13_conjugate K x1 x2 S.2.2)) (fun S1 => REL2 S1 ∧ dPhi S.1 ≤ dPhi S1.1) := w_monoE (lsV_nm hs0 hn hmp) (fun S1 ⟨⟨q1, q2⟩, q3⟩ => ⟨⟨q1, q3⟩, q2⟩)
  exact w_monoE (lsV_fo hs (fun K => ff_X11_conjugate) (fun K => ff_X13_conjugate) hmp) (fun S1 ⟨q, f1, f2⟩ => ⟨q, hc _ _ _ f1 (fun g hg h9 => by unfold ciX at h9; omega) pc, hr _ _ _ f2 (pf_rf (by decide)) pr⟩)
variable {Qc Qr : ow_MS → Prop}
theorem pure_of6 (hc : keepP ciX Qc) (hr : keepP rfX Qr) (hj : ∀ y y1, fr jnP y y1 → (∀ D, cOK D → slC y 25000 0 D → slC y1 25000 0 D) → Qc y → Qc y1) (hp : ∀ y y1, fr skP y y1 → (∀ D, cOK D → slC y 25000 1 D → slC y1 25000 1 D) → Qc y → Qc y1) (hm : ∀ y y1, fr mxQ y y1 → Qc y → Qc y1) (hq : ∀ z z1, fr (pf [1, 41, 42, 43, 44, 46] []) z z1 → Qr z → Qr z1) (hn : ∀ z z1, fr (pf [1, 58, 59, 60, 61, 62, 63, 77, 78, 79, 80] []) z z1 → Qr z → Qr z1) (h_signature : stpX (fun y => cwK y ∧ cjT y ∧ Qc y) (fun z => cwR z ∧ enW z ∧ epA z ∧ Qr z) lst_signature) (h_cover : stpX (fun y => cwK y ∧ cjT y ∧ Qc y) (fun z => cwR z ∧ enW z ∧ epA z ∧ Qr z) lst_cover) (h_colours : stpX (fun y => cwK y ∧ cjT y ∧ Qc y) (fun z => cwR z ∧ enW z ∧ epA z ∧ Qr z) lst_colours) (h_chain : stpX (fun y => cwK y ∧ cjT y ∧ Qc y) (fun z => cwR z ∧ enW z ∧ epA z ∧ Qr z) lst_chain) (h_rank : stpX (fun y => cwK y ∧ cjT y ∧ Qc y) (fun z => cwR z ∧ enW z ∧ epA z ∧ Qr z) lst_rank) (h_two : stpX (fun y => cwK y ∧ cjT y ∧ Qc y) (fun z => cwR z ∧ enW z ∧ epA z ∧ Qr z) lst_two) (i_c : ∀ y, (∀ g, ¬ spc g → y.1 g = 0 ∧ ∀ i, y.2.1 g i = 0) → (∃ z8 z0 zA z1 b, (∀ K, b ≤ K → ce_X8i_b8 K 24000 zeroS = some z8 ∧ ce_X0i_b0 K 41000 53001 zeroS = some z0 ∧ ce_X1i_b1 K 43000 zeroS = some zA ∧ ce_X1j_b1b K 43000 53001 (usZ zA [53]) = some z1) ∧ y = Zc z8 z0 z1) → Qc y) (i_r : ∀ z, (∀ g, g < 73 → z.1 g = 0) → (∀ g i, ¬ (73 ≤ g ∧ g ≤ 76 ∨ 97 ≤ g ∧ g ≤ 107) → z.2.1 g i = 0) → (∃ m1 m2 b, (∀ K, b ≤ K → qe_X13_makeSimples_a K Z13 = some m1 ∧ qe_X13_makePermutations_a K m1 = some m2) ∧ z = usZ m2 blM) → Qr z) : PureAll := pure_of8 hc hr hj hp hm hq hn h_signature h_cover h_colours h_chain h_rank (s3_summit (pc_keep8 hc) (pr_keep8 hr)) (s3_conjugate (pc_keep8 hc) (pr_keep8 hr)) h_two i_c i_r
end XSF
