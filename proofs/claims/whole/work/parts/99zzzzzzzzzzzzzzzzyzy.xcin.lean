/-! chain and rank: steps of the law -/
section XCL5
variable {X : (Nat → Nat → Int32) → Prop} {z y : ow_MS} {vl : Nat → Nat} {x x' : Int32} {D : Int → Int → Int}
theorem c_rank (h : rel3 X z y) (hc : tcD D y) (hr : trD D z) : Te (fun K => qe_X13_rank K x x' z) (fun rr => Te (fun K => ce_X11_rank vl K 0 x x' y) (fun rc => rel3 X rr.2 rc.2 ∧ rr.2.1 1 = 0 ∧ rr.1 = rc.1)) := by
  have hI := r3_g h
  refine te_two (te_fo (te_and (tp_rank (i := x) (q := x') hI) (re_rank hr)) (fun K => ff_X13_rank)) (te_fo (te_rank hc) (fun K => ff_X11_rank)) (fun rr rc ⟨⟨hgI, r0, hr⟩, fR⟩ ⟨hc, fC⟩ => ⟨rel3_nf fR fC (pf_nf (by decide)) (fun g hg => by first | exact hg.elim | omega) hgI h, r0, hr.trans hc.2.symm⟩)
variable {Pc Pr : ow_MS → Prop}
theorem s3_rank (hc : keepP ciX Pc) (hr : keepP rfX Pr) (kc : ∀ y, Pc y → tcD D y) (kr : ∀ z, Pr z → trD D z) : stpX Pc Pr lst_rank := by
  intro S x1 x2 x3 x4 x5 h pc pr
  have hs0 := st_bool (vl := S.1) (y := S.2.1) (z := S.2.2) (fc := fun K => ce_X11_rank S.1 K 0 x1 x2 S.2.1) (fm := fun K => qe_X13_rank K x1 x2 S.2.2) h.1 (c_rank h.1.1 (kc _ pc) (kr _ pr)) (fun K => ff_X13_rank) (fun K => ff_X11_rank) (by decide) (fun g hg h9 => by first | exact hg.elim | (unfold ciH at h9; omega))
  have hn : Te (fun K => ce_X11_rank S.1 K 0 x1 x2 S.2.1) (fun rc => NM rc.2) := w_monoE (te_fo (te_in (c_rank h.1.1 (kc _ pc) (kr _ pr))) (fun K => ff_X11_rank)) (fun rc ⟨_, f⟩ => NM_fr f (fun g hg h9 => by first | exact hg.elim | omega) h.2)
  exact w_monoE (lsB_fo (w_monoE (lsB_nm hs0 hn) (fun S1 ⟨⟨q1, q2⟩, q3⟩ => (⟨⟨q1, q3⟩, q2⟩ : REL2 S1 ∧ dPhi S.1 ≤ dPhi S1.1))) (fun K => ff_X11_rank) (fun K => ff_X13_rank)) (fun S1 ⟨q, f1, f2⟩ => ⟨q, hc _ _ _ f1 (fun g hg h9 => by first | exact hg.elim | (unfold ciX at h9; omega)) pc, hr _ _ _ f2 (pf_rf (by decide)) pr⟩)
theorem CI_ch {vl' : Nat → Nat} {y1 : ow_MS} (hf : fr chG y y1) (hv : ∃ W C, vI vl' W C) (h : CI vl y) : CI vl' y1 := by
  obtain ⟨i1, ⟨C, c1, c2, c3⟩, i3, i4, i5, i6, i7, i8⟩ := h
  have no : ∀ g, 4012 ≤ g ∧ g ≤ 43001 ∨ g = 43005 ∨ 45000 ≤ g → ¬ chG g := fun g hg h9 => by unfold chG cmG cP at h9; omega
  exact ⟨knC_fr hf (fun g hg h9 => by unfold chG cmG cP at hg; omega) i1, ⟨C, slC_fr hf (fun q hq => no q (by unfold cW at hq; omega)) c1, c2, c3.imp id (fun ⟨A, sg, c, e, hT⟩ => ⟨A, sg, c, e, jnT_fr hf ⟨no _ (by omega), no _ (by omega), no _ (by omega)⟩ hT⟩)⟩, bnC_fr hf (fun m hm => no _ (by omega)) i3, mpC_fr hf ⟨no _ (by omega), no _ (by omega), no _ (by omega)⟩ i4, stP_fr hf (fun g hg => by unfold chG cmG cP at hg; omega) i5, tbP_fr hf (no _ (by omega)) i6, chP_fr hf (fun g hg => by unfold chG cmG cP at hg; omega) i7, hv⟩
theorem s3_chain {S : ow_LwS} {x1 x2 x3 x4 x5 : Int32} (h : REL2 S) (hRc : ∀ y y1, fr chG y y1 → Pc y → Pc y1) (hJ : ∀ y v, Pc y → Pc (usJ y 52001 0 v)) (hRr : ∀ z z1, fr (pf [1, 47, 81, 82, 83, 84, 85, 86, 87, 88, 89, 90, 91, 92, 93] []) z z1 → Pr z → Pr z1) (pc : Pc S.2.1) (pr : Pr S.2.2) (dc : tcD D S.2.1) (dr : trD D S.2.2) : Te (fun K => lst_chain S.1 K x1 x2 x3 x4 x5 S.2.1 S.2.2) (fun S1 => (REL2 S1 ∧ dPhi S.1 ≤ dPhi S1.1) ∧ Pc S1.2.1 ∧ Pr S1.2.2 ∧ ∃ D', tcD D' S1.2.1 ∧ trD D' S1.2.2) := by
  have hci := h.1.2.1
  obtain ⟨W, C, hv⟩ := hci.2.2.2.2.2.2.2
  obtain ⟨⟨a, zm⟩, ⟨b1, hb1⟩, ⟨k, v, vm, zc⟩, ⟨b2, hb2⟩, ⟨hR, ha⟩, hf, fR, hd, hW, hD0⟩ := c_chain (x := x1) (x' := x2) h.1.1 hv hci.2.2.2.2.2.1 hci.2.2.2.2.2.2.1
  have hb1 : ∀ K, b1 ≤ K → qe_X13_chain K x1 x2 S.2.2 = some (a, zm) := hb1
  have hb2 : ∀ K, b2 ≤ K → ce_X11_chain K 0 x1 x2 S.1 S.2.1 = some (k, v, vm, zc) := hb2
  have hR : rel3 XR zm zc := hR
  have hf : fr chG S.2.1 zc := hf
  have fR : fr (pf [1, 47, 81, 82, 83, 84, 85, 86, 87, 88, 89, 90, 91, 92, 93] []) S.2.2 zm := fR
  have hW : ∃ W' C', vI vm W' C' := hW
  have hd : dPhi S.1 ≤ dPhi vm := hd
  have hD : ∃ D', tcD D' zc ∧ trD D' zm := by
    rcases hD0 with ⟨d1, d2⟩ | h9
    · exact ⟨D, tcD_k d2 dc, trD_k d1 dr⟩
    · exact h9
  have hREL : REL (vm, zc, zm) := ⟨hR, CI_ch hf hW hci, jnR_fr fR (by decide) (by decide) h.1.2.2⟩
  have hNM : NM zc := NM_fr hf (fun g hg h9 => by unfold chG cmG cP at hg; omega) h.2
  have hpc : Pc zc := hRc _ _ hf pc
  have hpr : Pr zm := hRr _ _ fR pr
  rcases ha with ⟨t0, k0, e⟩ | ⟨j, k', hm, t0, k0⟩
  · have k0 : k = 0 := k0
    have e : a = v := e
    have t0 : zm.1 1 = 0 := t0
    subst k0
    subst e
    refine ⟨(vm, usJ zc 52001 0 a.toInt64, zm), ⟨b1 + b2, fun K hK => ?_⟩, ⟨⟨REL_J hREL, hNM⟩, hd⟩, hJ _ _ hpc, hpr, hD⟩
    show lst_chain S.1 K x1 x2 x3 x4 x5 S.2.1 S.2.2 = _
    unfold lst_chain le_L_chain
    rw [hb1 K (by omega), hb2 K (by omega)]
    show (if zm.1 1 = 0 then (if (0 : Int32) = 0 then _ else _) else none) = _
    rw [if_pos t0, if_pos rfl]
    show (if lg_cmp ((usJ zc 52001 0 a.toInt64).2.2 52001 0) a.toInt64 = 0 then some (vm, usJ zc 52001 0 a.toInt64, zm) else none) = _
    rw [if_pos ((lg_cmp_eq _ _).mpr usJ_at)]
  · have k0 : k = k' := k0
    have t0 : zm.1 1 = nI j := t0
    subst k0
    refine ⟨(vm, zc, zm), ⟨b1 + b2, fun K hK => ?_⟩, ⟨⟨hREL, hNM⟩, hd⟩, hpc, hpr, hD⟩
    simp only [List.mem_cons, List.not_mem_nil, or_false, Prod.mk.injEq] at hm
    show lst_chain S.1 K x1 x2 x3 x4 x5 S.2.1 S.2.2 = _
    unfold lst_chain le_L_chain
    rw [hb1 K (by omega), hb2 K (by omega)]
    rcases hm with ⟨rfl, rfl⟩ | ⟨rfl, rfl⟩ | ⟨rfl, rfl⟩
    · show (if zm.1 1 = 1 then (if (1 : Int32) = 0 then _ else some (vm, zc, zm)) else none) = _
      rw [if_pos (t0.trans (by decide)), if_neg (by decide)]
    · show (if zm.1 1 = 2 then (if (2 : Int32) = 0 then _ else some (vm, zc, zm)) else none) = _
      rw [if_pos (t0.trans (by decide)), if_neg (by decide)]
    · show (if zm.1 1 = 3 then (if (3 : Int32) = 0 then _ else some (vm, zc, zm)) else none) = _
      rw [if_pos (t0.trans (by decide)), if_neg (by decide)]
theorem m88_init {m1 m2 : ow_MS} {b : Nat} (hb : ∀ K, b ≤ K → qe_X13_makeSimples_a K Z13 = some m1 ∧ qe_X13_makePermutations_a K m1 = some m2) : (usZ m2 blM).1 88 = 0 := by
  have h2 : ∀ g i, g ≠ 73 → Z13.2.1 g i = 0 := fun g i hg => by
    show (if g = 73 then fT13 else fun _ => 0) i = 0
    rw [if_neg hg]
  obtain ⟨r1, ⟨b1, hb1⟩, ⟨hD, hf1⟩⟩ := tp_simE (z := Z13) (fun n _ => h2 100 _ (by omega))
  have er1 : r1 = m1 := Option.some.inj ((hb1 (b + b1) (by omega)).symm.trans (hb (b + b1) (by omega)).1)
  subst er1
  have m1I : ∀ g i, ¬ (97 ≤ g ∧ g ≤ 107) → g ≠ 73 → r1.2.1 g i = 0 := fun g i hg h9 => by
    rw [(hf1 g hg).2.1]
    exact h2 g i h9
  obtain ⟨r2, ⟨b2, hb2⟩, -, hf2⟩ := tp_perms_a (z := r1) ⟨fun i => ⟨0, by omega, m1I 74 i (by omega) (by omega)⟩, fun m g1 g4 o p ho hp => ⟨⟨0, by omega, m1I 75 _ (by omega) (by omega)⟩, 0, by omega, m1I 76 _ (by omega) (by omega)⟩⟩
  have er2 : r2 = m2 := Option.some.inj ((hb2 (b + b2) (by omega)).symm.trans (hb (b + b2) (by omega)).2)
  subst er2
  show (if blM.contains (88 / 1000) = true then (0 : Int32) else r2.1 88) = 0
  rw [if_neg (by decide), (hf2 88 (by unfold pmP; omega)).1, (hf1 88 (show ¬ (97 ≤ 88 ∧ 88 ≤ 107) by omega)).1]
  rfl
end XCL5
