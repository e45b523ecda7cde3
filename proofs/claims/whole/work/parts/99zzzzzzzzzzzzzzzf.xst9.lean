/-! maps is a step of the law; what is left of the whole: eight cases -/
section XSE
variable {vl : Nat → Nat} {y : ow_MS}
theorem CI_mx {y1 : ow_MS} (hf : fr mxQ y y1) (h4 : mpC y1) (h5 : stP y1) (h : CI vl y) : CI vl y1 := by
  obtain ⟨i1, ⟨C, c1, c2, c3⟩, i3, -, -, i6, i7, i8⟩ := h
  have no : ∀ g, 4012 ≤ g ∧ g ≤ 41000 ∨ 41017 ≤ g → ¬ mxQ g := fun g hg h9 => by unfold mxQ at h9; omega
  refine ⟨knC_fr hf (fun g hg h9 => by unfold mxQ at hg; omega) i1, ⟨C, slC_fr hf (fun q hq => no q (by unfold cW at hq; omega)) c1, c2, c3.imp id (fun ⟨A, sg, c, e, hT⟩ => ⟨A, sg, c, e, jnT_fr hf ⟨no _ (by omega), no _ (by omega), no _ (by omega)⟩ hT⟩)⟩, bnC_fr hf (fun m hm => no _ (by omega)) i3, h4, h5, fun m hm => ?_, fun i k hi hk => ?_, i8⟩
  · rw [(hf 43005 (no _ (by omega))).2.1]
    exact i6 m hm
  · rw [(hf (45001 + i) (no _ (by omega))).2.1]
    exact i7 i k hi hk
variable {Pc Pr : ow_MS → Prop}
theorem s3_maps (hc : keepP ciX Pc) (hk : ∀ y, Pc y → cjT y) (hp : ∀ y y1, fr mxQ y y1 → Pc y → Pc y1) (hz : ∀ z, Pr z → epA z) (hq : ∀ z z1, fr (pf [1, 58, 59, 60, 61, 62, 63, 77, 78, 79, 80] []) z z1 → Pr z → Pr z1) : stpX Pc Pr lst_maps := by
  intro S x1 x2 x3 x4 x5 h pc pr
  have hci := h.1.2.1
  have hc1 : Te (fun K => qe_X13_maps K x1 x2 S.2.2) (fun rr => Te (fun K => ce_X11_maps S.1 K 0 x1 x2 S.2.1) (fun rc => (REL (S.1, rc.2.2, rr.2) ∧ ansI [(1, 1), (2, 2), (3, 4)] rr rc) ∧ NM rc.2.2 ∧ Pc rc.2.2 ∧ Pr rr.2)) := w_monoE (te_fo (c_maps (vl := S.1) (x := x1) (x' := x2) (fun _ h9 => XR_M h9) h.1.1 hci.2.2.2.1 hci.2.2.2.2.1 (hz _ pr) (hk _ pc)) (fun K => ff_X13_maps)) (fun rr ⟨hr, fR⟩ => w_monoE hr (fun rc ⟨⟨q1, q2⟩, q3, q4, q5⟩ => ⟨⟨⟨q1, CI_mx q5 q3 q4 hci, jnR_fr fR (by decide) (by decide) h.1.2.2⟩, q2⟩, NM_fr q5 (fun g hg h9 => by unfold mxQ at hg; omega) h.2, hp _ _ q5 pc, hq _ _ fR pr⟩))
  have hs0 : Te (lsV S.1 (fun K => ce_X11_maps S.1 K 0 x1 x2 S.2.1) (fun k z => if k = 1 then some (1, z) else if k = 2 then some (2, z) else if k = 4 then some (3, z) else none) (fun K => qe_X13_maps K x1 x2 S.2.2)) (fun S1 => REL S1 ∧ dPhi S.1 ≤ dPhi S1.1) := by
    refine st_int (w_monoE hc1 (fun rr hr => w_monoE hr (fun rc hb => hb.1))) (fun j k hm => ?_)
    simp only [List.mem_cons, List.not_mem_nil, or_false, Prod.mk.injEq] at hm
    rcases hm with ⟨rfl, rfl⟩ | ⟨rfl, rfl⟩ | ⟨rfl, rfl⟩
    · exact ⟨by decide, by decide, by decide, fun _ => rfl⟩
    · exact ⟨by decide, by decide, by decide, fun _ => rfl⟩
    · exact ⟨by decide, by decide, by decide, fun _ => rfl⟩
  have hmp : ∀ (k : Nat) (z : ow_MS) (r : Int32 × ow_MS), ((fun k z => if k = 1 then some (1, z) else if k = 2 then some (2, z) else if k = 4 then some (3, z) else none) : Nat → ow_MS → Option (Int32 × ow_MS)) k z = some r → r.2 = z := (fun k z r hr => by
    have hr : (if k = 1 then some (1, z) else if k = 2 then some (2, z) else if k = 4 then some (3, z) else none) = some r := hr
    by_cases c0 : k = 1
    · rw [if_pos c0] at hr
      cases hr
      rfl
    by_cases c1 : k = 2
    · rw [if_neg c0, if_pos c1] at hr
      cases hr
      rfl
    by_cases c2 : k = 4
    · rw [if_neg c0, if_neg c1, if_pos c2] at hr
      cases hr
      rfl
    rw [if_neg c0, if_neg c1, if_neg c2] at hr
    cases hr)
  have hs : Te (lsV S.1 (fun K => ce_X11_maps S.1 K 0 x1 x2 S.2.1) (fun k z => if k = 1 then some (1, z) else if k = 2 then some (2, z) else if k = 4 then some (3, z) else none) (fun K => qe_X13_maps K x1 x2 S.2.2)) (fun S1 => REL2 S1 ∧ dPhi S.1 ≤ dPhi S1.1) := w_monoE (lsV_nm hs0 (w_monoE (te_in2 hc1) (fun rc ⟨_, hb⟩ => hb.2.1)) hmp) (fun S1 ⟨⟨q1, q2⟩, q3⟩ => ⟨⟨q1, q3⟩, q2⟩)
  exact lsV_pp hs (w_monoE (te_in2 hc1) (fun rc ⟨_, hb⟩ => hb.2.2.1)) (w_monoE (te_out hc1) (fun rr ⟨_, hb⟩ => hb.2.2.2)) (fun y v hy => hc (fun g => g = 52001) y _ (fr_J rfl) (fun g hg h9 => by unfold ciX at h9; omega) hy) hmp
theorem cjT_fr {P : Nat → Prop} {y y1 : ow_MS} (hf : fr P y y1) (h6 : ¬ P 41006) (h7 : ¬ P 41007) (h : cjT y) : cjT y1 := ⟨fun o x ho hx => by rw [(hf 41006 h6).2.1]; exact h.1 o x ho hx, fun o ho => by rw [(hf 41007 h7).2.1]; exact h.2 o ho⟩
theorem cj_init {z8 z0 z1 : ow_MS} {b : Nat} (hb : ∀ K, b ≤ K → ce_X0i_b0 K 41000 53001 zeroS = some z0) : cjT (Zc z8 z0 z1) := by
  obtain ⟨r, ⟨b1, hb1⟩, hE⟩ := ti_b0E (z := zeroS)
  have er : r = z0 := Option.some.inj ((hb1 (b + b1) (by omega)).symm.trans (hb (b + b1) (by omega)))
  subst er
  exact ⟨fun o x ho hx => hE.1 o x ho hx, fun o ho => hE.2 o ho⟩
/-- the whole, with the starts of both sides -/
theorem pure_ofW (hc : keepP ciX Pc) (hr : keepP rfX Pr) (hj : ∀ y y1, fr jnP y y1 → (∀ D, cOK D → slC y 25000 0 D → slC y1 25000 0 D) → Pc y → Pc y1) (h_conway : stpX Pc Pr lst_conway) (h_signature : stpX Pc Pr lst_signature) (h_cover : stpX Pc Pr lst_cover) (h_colours : stpX Pc Pr lst_colours) (h_maps : stpX Pc Pr lst_maps) (h_chain : stpX Pc Pr lst_chain) (h_rank : stpX Pc Pr lst_rank) (h_normal : stpX Pc Pr lst_normal) (h_factor : stpX Pc Pr lst_factor) (h_equal : stpX Pc Pr lst_equal) (h_summit : stpX Pc Pr lst_summit) (h_conjugate : stpX Pc Pr lst_conjugate) (h_two : stpX Pc Pr lst_two) (i_c : ∀ y, (∀ g, ¬ spc g → y.1 g = 0 ∧ ∀ i, y.2.1 g i = 0) → (∃ z8 z0 zA z1 b, (∀ K, b ≤ K → ce_X8i_b8 K 24000 zeroS = some z8 ∧ ce_X0i_b0 K 41000 53001 zeroS = some z0 ∧ ce_X1i_b1 K 43000 zeroS = some zA ∧ ce_X1j_b1b K 43000 53001 (usZ zA [53]) = some z1) ∧ y = Zc z8 z0 z1) → Pc y) (i_r : ∀ z, (∀ g, g < 73 → z.1 g = 0) → (∀ g i, ¬ (73 ≤ g ∧ g ≤ 76 ∨ 97 ≤ g ∧ g ≤ 107) → z.2.1 g i = 0) → (∃ m1 m2 b, (∀ K, b ≤ K → qe_X13_makeSimples_a K Z13 = some m1 ∧ qe_X13_makePermutations_a K m1 = some m2) ∧ z = usZ m2 blM) → Pr z) : PureAll := by
  intro L xs hL
  obtain ⟨z8, z0, zA, z1, m1, m2, b, hb, hR, hY, hz1, hz2⟩ := both_init1
  have n1 : ∀ d, (Zc z8 z0 z1).2.1 1002 d = 0 := (hY 1002 (by unfold spc; omega)).2
  have n2 : (Zc z8 z0 z1).1 2005 = 0 := (hY 2005 (by unfold spc; omega)).1
  have n3 : (Zc z8 z0 z1).1 3005 = 0 := (hY 3005 (by unfold spc; omega)).1
  have hNM : NM (Zc z8 z0 z1) := by
    refine ⟨fun d A sg c hd hs hA hne => ?_, fun Cs os ht C hC => ?_, fun Cs os ht C hC => ?_⟩
    · have h8 : (Zc z8 z0 z1).2.1 1002 d = nI (clC sg A).2.length := hs.2.1
      rw [n1 d] at h8
      have hl := len_cl (sg := sg) hne
      have ok := (okL_c (sg := sg) hA).2
      have := nI_inj9 (a := 0) (b := (clC sg A).2.length) (by omega) (by have := ok.2.1; omega) h8
      omega
    · have h8 : (Zc z8 z0 z1).1 2005 = nI os.length := ht.1.1
      rw [n2] at h8
      have l1 := ht.2.2.2.1
      have := nI_inj9 (a := 0) (b := os.length) (by omega) (by omega) h8
      have l2 := ht.1.2.1
      rw [List.eq_nil_of_length_eq_zero (show Cs.length = 0 by omega)] at hC
      cases hC
    · have h8 : (Zc z8 z0 z1).1 3005 = nI os.length := ht.1.1
      rw [n3] at h8
      have l1 := ht.2.2.2.1
      have := nI_inj9 (a := 0) (b := os.length) (by omega) (by omega) h8
      have l2 := ht.1.2.1
      rw [List.eq_nil_of_length_eq_zero (show Cs.length = 0 by omega)] at hC
      cases hC
  obtain ⟨SE, b2, hb2⟩ := run_rel9 (step_allX hc hr hj h_conway h_signature h_cover h_colours h_maps h_chain h_rank h_normal h_factor h_equal h_summit h_conjugate h_two) xs (L / 6) 0 _ ⟨⟨hR, hNM⟩, i_c _ hY ⟨z8, z0, zA, z1, b, fun K hK => ⟨(hb K hK).1, (hb K hK).2.1, (hb K hK).2.2.1, (hb K hK).2.2.2.1⟩, rfl⟩, i_r _ hz1 hz2 ⟨m1, m2, b, fun K hK => ⟨(hb K hK).2.2.2.2.1, (hb K hK).2.2.2.2.2⟩, rfl⟩⟩
  obtain ⟨q1, q2, q3, q4, q5, q6⟩ := hb (b + b2) (by omega)
  exact ⟨b + b2, z8, z0, zA, z1, m1, m2, SE, q1, q2, q3, q4, q5, q6, hb2 (b + b2) (by omega)⟩
theorem pf_n8 {L : List Nat} {g : Nat} (h : pf L [] g) (hL : L.all (fun a => decide (a < 73 ∨ 76 < a)) = true) (h1 : 73 ≤ g) (h2 : g ≤ 76) : False := by
  rcases h with h | h | h
  · have := of_decide_eq_true (List.all_eq_true.mp hL g h)
    omega
  · exact absurd h List.not_mem_nil
  · omega
variable {Qc Qr : ow_MS → Prop}
theorem pc_keep8 (hc : keepP ciX Qc) : keepP ciX (fun y => cwK y ∧ cjT y ∧ Qc y) := fun F y y1 hf hF h => ⟨cwK_fr hf (fun g hg h9 => hF g hg (by unfold ciX; omega)) h.1, cjT_fr hf (fun h9 => hF _ h9 (by unfold ciX; omega)) (fun h9 => hF _ h9 (by unfold ciX; omega)) h.2.1, hc F y y1 hf hF h.2.2⟩
theorem pr_keep8 (hr : keepP rfX Qr) : keepP rfX (fun z => cwR z ∧ enW z ∧ epA z ∧ Qr z) := fun F z z1 hf hF h => ⟨cwR_fr hf (fun h9 => hF _ h9 (by unfold rfX; omega)) (fun h9 => hF _ h9 (by unfold rfX; omega)) h.1, enW_fr hf (fun h9 => hF _ h9 (by unfold rfX; omega)) h.2.1, epA_keep F z z1 hf hF h.2.2.1, hr F z z1 hf hF h.2.2.2⟩
theorem pure_of8 (hc : keepP ciX Qc) (hr : keepP rfX Qr) (hj : ∀ y y1, fr jnP y y1 → (∀ D, cOK D → slC y 25000 0 D → slC y1 25000 0 D) → Qc y → Qc y1) (hp : ∀ y y1, fr skP y y1 → (∀ D, cOK D → slC y 25000 1 D → slC y1 25000 1 D) → Qc y → Qc y1) (hm : ∀ y y1, fr mxQ y y1 → Qc y → Qc y1) (hq : ∀ z z1, fr (pf [1, 41, 42, 43, 44, 46] []) z z1 → Qr z → Qr z1) (hn : ∀ z z1, fr (pf [1, 58, 59, 60, 61, 62, 63, 77, 78, 79, 80] []) z z1 → Qr z → Qr z1) (h_signature : stpX (fun y => cwK y ∧ cjT y ∧ Qc y) (fun z => cwR z ∧ enW z ∧ epA z ∧ Qr z) lst_signature) (h_cover : stpX (fun y => cwK y ∧ cjT y ∧ Qc y) (fun z => cwR z ∧ enW z ∧ epA z ∧ Qr z) lst_cover) (h_colours : stpX (fun y => cwK y ∧ cjT y ∧ Qc y) (fun z => cwR z ∧ enW z ∧ epA z ∧ Qr z) lst_colours) (h_chain : stpX (fun y => cwK y ∧ cjT y ∧ Qc y) (fun z => cwR z ∧ enW z ∧ epA z ∧ Qr z) lst_chain) (h_rank : stpX (fun y => cwK y ∧ cjT y ∧ Qc y) (fun z => cwR z ∧ enW z ∧ epA z ∧ Qr z) lst_rank) (h_summit : stpX (fun y => cwK y ∧ cjT y ∧ Qc y) (fun z => cwR z ∧ enW z ∧ epA z ∧ Qr z) lst_summit) (h_conjugate : stpX (fun y => cwK y ∧ cjT y ∧ Qc y) (fun z => cwR z ∧ enW z ∧ epA z ∧ Qr z) lst_conjugate) (h_two : stpX (fun y => cwK y ∧ cjT y ∧ Qc y) (fun z => cwR z ∧ enW z ∧ epA z ∧ Qr z) lst_two) (i_c : ∀ y, (∀ g, ¬ spc g → y.1 g = 0 ∧ ∀ i, y.2.1 g i = 0) → (∃ z8 z0 zA z1 b, (∀ K, b ≤ K → ce_X8i_b8 K 24000 zeroS = some z8 ∧ ce_X0i_b0 K 41000 53001 zeroS = some z0 ∧ ce_X1i_b1 K 43000 zeroS = some zA ∧ ce_X1j_b1b K 43000 53001 (usZ zA [53]) = some z1) ∧ y = Zc z8 z0 z1) → Qc y) (i_r : ∀ z, (∀ g, g < 73 → z.1 g = 0) → (∀ g i, ¬ (73 ≤ g ∧ g ≤ 76 ∨ 97 ≤ g ∧ g ≤ 107) → z.2.1 g i = 0) → (∃ m1 m2 b, (∀ K, b ≤ K → qe_X13_makeSimples_a K Z13 = some m1 ∧ qe_X13_makePermutations_a K m1 = some m2) ∧ z = usZ m2 blM) → Qr z) : PureAll := pure_ofW (pc_keep8 hc) (pr_keep8 hr) (fun y y1 f s h => ⟨pc_jn f s h.1, cjT_fr f (by unfold jnP; omega) (by unfold jnP; omega) h.2.1, hj y y1 f s h.2.2⟩) (s3_conway (pc_keep8 hc) (fun y h => h.1) (fun y y1 f k _ s h => ⟨k, cjT_fr f (by unfold skP; omega) (by unfold skP; omega) h.2.1, hp y y1 f s h.2.2⟩) (fun z h => h.1) (fun z z1 f k h => ⟨k, enW_fr f (by decide) h.2.1, epA_fr f (fun g g1 g2 h9 => pf_n8 h9 (by decide) g1 g2) h.2.2.1, hq z z1 f h.2.2.2⟩)) h_signature h_cover h_colours (s3_maps (pc_keep8 hc) (fun y h => h.2.1) (fun y y1 f h => ⟨cwK_fr f (fun g hg h9 => by unfold mxQ at hg; omega) h.1, cjT_fr f (by unfold mxQ; omega) (by unfold mxQ; omega) h.2.1, hm y y1 f h.2.2⟩) (fun z h => h.2.2.1) (fun z z1 f h => ⟨cwR_fr f (by decide) (by decide) h.1, enW_fr f (by decide) h.2.1, epA_fr f (fun g g1 g2 h9 => pf_n8 h9 (by decide) g1 g2) h.2.2.1, hn z z1 f h.2.2.2⟩)) h_chain h_rank (s3_normal (pc_keep8 hc) (pr_keep8 hr)) (s3_factor (pc_keep8 hc) (pr_keep8 hr) (fun z h => h.2.1)) (s3_equal (pc_keep8 hc) (pr_keep8 hr)) h_summit h_conjugate h_two (fun y hY hI => ⟨cwK_0 hY, by obtain ⟨z8, z0, zA, z1, b, hb, rfl⟩ := id hI; exact cj_init (fun K hK => (hb K hK).2.1), i_c y hY hI⟩) (fun z h1 h2 h3 => ⟨cwR_0 h2, by obtain ⟨m1, m2, b, hb, rfl⟩ := id h3; exact en_init hb, by obtain ⟨m1, m2, b, hb, rfl⟩ := id h3; exact ep_init hb, i_r z h1 h2 h3⟩)
end XSE
