/-! the whole relation so far is kept by the calls of braids and of the tape -/
section XR3
variable {X : (Nat → Nat → Int32) → Prop} {P Q : Nat → Prop} {z z1 y y1 : ow_MS} {vl : Nat → Nat} {x x' : Int32}
theorem gM_o (hf : fr Q y y1) (hQ : ∀ g, Q g → 13 ≤ g ∧ g ≤ 15 ∨ g = 11001 ∨ g = 11002) (h : gM y) : gM y1 := ⟨⟨dgC_fr hf (fun g g1 g2 h9 => by have := hQ g h9; omega) h.1.1, nsC_fr hf (fun h hh g hg h9 => far_cP (g := g) (by have := hQ g h9; omega) h hh hg) h.1.2.1, kdC_fr hf (fun g h9 => by have := hQ g h9; omega) h.1.2.2⟩, tbs_fr hf (fun g h9 => by have := hQ g h9; omega) h.2⟩
/-- the places and the lists, where only tape and braids changed -/
theorem rel3_o (hz : fr P z z1) (hy : fr Q y y1) (h1 : ∀ g, P g → rPs g ∨ g = 10 ∨ g = 11 ∨ 94 ≤ g ∧ g ≤ 96) (h2 : ∀ g, Q g → 13 ≤ g ∧ g ≤ 15 ∨ g = 11001 ∨ g = 11002) (hI : gI X z1) (hT : relT z1 y1) (hB : relB z1 y1) (hb : brC y1) (h : rel3 X z y) : rel3 X z1 y1 := by
  obtain ⟨⟨St, k1, k2, k3, k4, k5⟩, hM, -, -, -, ⟨Ms, m1, m2, m3⟩, Ns, n1, n2, n3⟩ := h
  have hM1 := gM_o hy h2 hM
  have no : ∀ g, 12 ≤ g → g < 94 → ¬ P g := fun g g1 g2 h9 => by
    have := h1 g h9
    unfold rPs rSc at this
    omega
  have no2 : ∀ g, 1001 ≤ g → g < 4000 → ¬ Q g := fun g g1 g2 h9 => by
    have := h2 g h9
    omega
  exact ⟨⟨St, hI, hM1.1, relR_fr hz (no 12 (by omega) (by omega)) k3, relC_fr hy (fun q hq => no2 q (by unfold cW at hq; omega) (by unfold cW at hq; omega)) k4, k5⟩, hM1, hT, hB, hb, ⟨Ms, rlR_k hz ⟨no _ (by omega) (by omega), no _ (by omega) (by omega), no _ (by omega) (by omega)⟩ m1, rlC_k hy (fun q hq => no2 q (by unfold cV at hq; omega) (by unfold cV at hq; omega)) m2, m3⟩, Ns, rlR_k hz ⟨no _ (by omega) (by omega), no _ (by omega) (by omega), no _ (by omega) (by omega)⟩ n1, rlC_k hy (fun q hq => no2 q (by unfold cV at hq; omega) (by unfold cV at hq; omega)) n2, n3⟩
theorem r3_g (h : rel3 X z y) : gI X z := by
  obtain ⟨⟨St, k⟩, -⟩ := h
  exact k.1
theorem fr_bq (hz : fr (fun g => rPs g ∨ 94 ≤ g ∧ g ≤ 96) z z1) (hy : fr bdQ y y1) (hI : gI X z1) (hB : relB z1 y1) (hb : brC y1) (h : rel3 X z y) : rel3 X z1 y1 := rel3_o hz hy (fun g hg => by
  rcases hg with hg | hg
  · exact Or.inl hg
  · exact Or.inr (Or.inr (Or.inr hg))) (fun g hg => by unfold bdQ at hg; omega) hI (relT_k hz hy ⟨fun h9 => by unfold rPs rSc at h9; omega, fun h9 => by unfold rPs rSc at h9; omega⟩ ⟨fun h9 => by unfold bdQ at h9; omega, fun h9 => by unfold bdQ at h9; omega⟩ h.2.2.1) hB hb h
theorem c_product (h : rel3 X z y) : Te (fun K => qe_X13_product K x x' z) (fun rr => Te (fun K => ce_X11_product vl K 0 x x' y) (fun rc => rel3 X rr.2 rc.2.2 ∧ ansI [(1, 1), (2, 2), (3, 4), (4, 3)] rr rc)) := w_monoE (b_product (r3_g h) h.2.2.2.2.1 h.2.2.2.1) (fun rr hr => w_monoE hr (fun rc ⟨k1, k2, k3, k4, k5, k6⟩ => ⟨fr_bq k4 k5 k2 k1 k3 h, k6⟩))
theorem c_inverse (h : rel3 X z y) : Te (fun K => qe_X13_inverse K x z) (fun rr => Te (fun K => ce_X11_inverse vl K 0 x y) (fun rc => rel3 X rr.2 rc.2.2 ∧ ansI [(1, 1), (2, 3)] rr rc)) := w_monoE (b_inverse (r3_g h) h.2.2.2.2.1 h.2.2.2.1) (fun rr hr => w_monoE hr (fun rc ⟨k1, k2, k3, k4, k5, k6⟩ => ⟨fr_bq k4 k5 k2 k1 k3 h, k6⟩))
theorem c_dropBraid (h : rel3 X z y) : Te (fun K => qe_X13_dropBraid K x z) (fun rr => Te (fun K => ce_X11_dropBraid vl K 0 x y) (fun rc => rel3 X rr.2 rc.2 ∧ rr.2.1 1 = 0 ∧ rr.1 = rc.1)) := w_monoE (b_dropBraid (r3_g h) h.2.2.2.2.1 h.2.2.2.1) (fun rr hr => w_monoE hr (fun rc ⟨k1, k2, k3, k4, k5, k6, k7⟩ => ⟨fr_bq k4 k5 k2 k1 k3 h, k6, k7⟩))
end XR3
