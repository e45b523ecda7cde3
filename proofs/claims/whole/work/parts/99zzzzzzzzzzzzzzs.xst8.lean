/-! the nine cases with what is kept so far, and whatever else is wanted -/
section XSD
variable {Qc Qr : ow_MS → Prop}
theorem pc_keep (hc : keepP ciX Qc) : keepP ciX (fun y => cwK y ∧ Qc y) := fun F y y1 hf hF h => ⟨cwK_fr hf (fun g hg h9 => hF g hg (by unfold ciX; omega)) h.1, hc F y y1 hf hF h.2⟩
theorem enW_fr {P : Nat → Prop} {z z1 : ow_MS} (hf : fr P z z1) (hP : ¬ P 98) (h : enW z) : enW z1 := fun n s j n2 n5 hs hj => by
  rw [(hf 98 hP).2.1]
  exact h n s j n2 n5 hs hj
theorem pr_keep (hr : keepP rfX Qr) : keepP rfX (fun z => cwR z ∧ enW z ∧ Qr z) := fun F z z1 hf hF h => ⟨cwR_fr hf (fun h9 => hF _ h9 (by unfold rfX; omega)) (fun h9 => hF _ h9 (by unfold rfX; omega)) h.1, enW_fr hf (fun h9 => hF _ h9 (by unfold rfX; omega)) h.2.1, hr F z z1 hf hF h.2.2⟩
theorem pc_jn {y y1 : ow_MS} (hf : fr jnP y y1) (hs : ∀ D, cOK D → slC y 25000 0 D → slC y1 25000 0 D) (h : cwK y) : cwK y1 := by
  obtain ⟨C, c1, c2, c3⟩ := h
  exact ⟨C, hs C c2 c1, c2, c3.imp id (fun ⟨A, sg, c, q1, q2, q3⟩ => ⟨A, sg, c, q1, q2, cwC_fr hf (by unfold jnP; omega) q3⟩)⟩
theorem cwK_0 {y : ow_MS} (hY : ∀ g, ¬ spc g → y.1 g = 0 ∧ ∀ i, y.2.1 g i = 0) : cwK y := ⟨(0, []), ⟨(hY 25003 (by unfold spc; omega)).2 0, (hY 25002 (by unfold spc; omega)).2 0, fun i a hi => (by rw [List.getElem?_nil] at hi; cases hi)⟩, ⟨Nat.zero_le _, Nat.zero_le _, fun a ha => absurd ha List.not_mem_nil⟩, Or.inl rfl⟩
theorem cwR_0 {z : ow_MS} (hz : ∀ g i, ¬ (73 ≤ g ∧ g ≤ 76 ∨ 97 ≤ g ∧ g ≤ 107) → z.2.1 g i = 0) : cwR z := fun T1 hT => Or.inl (by
  have e := hT.2.2.1
  rw [hz 43 0 (by omega)] at e
  have l := hT.1
  exact List.eq_nil_of_length_eq_zero (nI_inj9 (a := 0) (b := T1.length) (by omega) (by omega) e).symm)
theorem pure_of9 (hc : keepP ciX Qc) (hr : keepP rfX Qr) (hj : ∀ y y1, fr jnP y y1 → (∀ D, cOK D → slC y 25000 0 D → slC y1 25000 0 D) → Qc y → Qc y1) (hp : ∀ y y1, fr skP y y1 → (∀ D, cOK D → slC y 25000 1 D → slC y1 25000 1 D) → Qc y → Qc y1) (hq : ∀ z z1, fr (pf [1, 41, 42, 43, 44, 46] []) z z1 → Qr z → Qr z1) (h_signature : stpX (fun y => cwK y ∧ Qc y) (fun z => cwR z ∧ enW z ∧ Qr z) lst_signature) (h_cover : stpX (fun y => cwK y ∧ Qc y) (fun z => cwR z ∧ enW z ∧ Qr z) lst_cover) (h_colours : stpX (fun y => cwK y ∧ Qc y) (fun z => cwR z ∧ enW z ∧ Qr z) lst_colours) (h_maps : stpX (fun y => cwK y ∧ Qc y) (fun z => cwR z ∧ enW z ∧ Qr z) lst_maps) (h_chain : stpX (fun y => cwK y ∧ Qc y) (fun z => cwR z ∧ enW z ∧ Qr z) lst_chain) (h_rank : stpX (fun y => cwK y ∧ Qc y) (fun z => cwR z ∧ enW z ∧ Qr z) lst_rank) (h_summit : stpX (fun y => cwK y ∧ Qc y) (fun z => cwR z ∧ enW z ∧ Qr z) lst_summit) (h_conjugate : stpX (fun y => cwK y ∧ Qc y) (fun z => cwR z ∧ enW z ∧ Qr z) lst_conjugate) (h_two : stpX (fun y => cwK y ∧ Qc y) (fun z => cwR z ∧ enW z ∧ Qr z) lst_two) (i_c : ∀ y, (∀ g, ¬ spc g → y.1 g = 0 ∧ ∀ i, y.2.1 g i = 0) → Qc y) (i_r : ∀ z, (∀ g, g < 73 → z.1 g = 0) → (∀ g i, ¬ (73 ≤ g ∧ g ≤ 76 ∨ 97 ≤ g ∧ g ≤ 107) → z.2.1 g i = 0) → (∃ m1 m2 b, (∀ K, b ≤ K → qe_X13_makeSimples_a K Z13 = some m1 ∧ qe_X13_makePermutations_a K m1 = some m2) ∧ z = usZ m2 blM) → Qr z) : PureAll := pure_ofY (pc_keep hc) (pr_keep hr) (fun y y1 f s h => ⟨pc_jn f s h.1, hj y y1 f s h.2⟩) (fun y h => h.1) (fun y y1 f k _ s h => ⟨k, hp y y1 f s h.2⟩) (fun z h => h.1) (fun z z1 f k h => ⟨k, enW_fr f (by decide) h.2.1, hq z z1 f h.2.2⟩) (fun z h => h.2.1) h_signature h_cover h_colours h_maps h_chain h_rank h_summit h_conjugate h_two (fun y hY => ⟨cwK_0 hY, i_c y hY⟩) (fun z h1 h2 h3 => ⟨cwR_0 h2, by obtain ⟨m1, m2, b, hb, rfl⟩ := h3; exact en_init hb, i_r z h1 h2 h3⟩)
end XSD
