/-! the class: cover, colours -/
section CC2
variable {vl : Nat → Nat} {y : ow_MS} {x x' : Int32}
theorem u_X0_coverAt_1 {vl : Nat → Nat} {x1 : Int32} {r0 : Nat} {z : ow_MS} {Q : (Int32 × ow_MS) → Prop} (H : Tt (fun K k => cm_X0_coverAt_1 vl K (c_X0_coverAt vl K k) x1 r0 z) Q) : Tt (fun K k => c_X0_coverAt vl K k 1 x1 r0 z) Q := w_un (fun _ _ => rfl) H
theorem e_X0_coverAt {vl : Nat → Nat} {r0 : Nat} {x1 : Int32} {z : ow_MS} {Q : (Int32 × ow_MS) → Prop} (H : Tt (fun K k => c_X0_coverAt vl K k 0 x1 r0 z) Q) : Te (fun K => ce_X0_coverAt vl K r0 x1 z) Q := w_te H
theorem u_X0_coverAt_0 {vl : Nat → Nat} {x1 : Int32} {r0 : Nat} {z : ow_MS} {Q : (Int32 × ow_MS) → Prop} (H : Tt (fun K k => cm_X0_coverAt_0 vl K (c_X0_coverAt vl K k) x1 r0 z) Q) : Tt (fun K k => c_X0_coverAt vl K k 0 x1 r0 z) Q := w_un (fun _ _ => rfl) H
theorem tc_coverAt (hd : dvC y) : Te (fun K => ce_X0_coverAt vl K 41000 x y) (fun r => r.2 = y) := by
  obtain ⟨n, n18, hn⟩ := hd
  have c1 : Tt (fun K t => c_X0_coverAt vl K t 1 x 41000 y) (fun r => r.2 = y) := by
    refine u_X0_coverAt_1 ?_; unfold cm_X0_coverAt_1
    exact w_some rfl
  refine e_X0_coverAt ?_
  refine u_X0_coverAt_0 ?_; unfold cm_X0_coverAt_0
  refine w_if (fun _ => c1) (fun h0 => ?_)
  obtain ⟨k, k31, rfl⟩ := nI_of h0
  exact w_rdF hn (w_lt k31 (by omega) (fun h9 => w_crJ ch_41004 rfl (show k < 18 by omega) rfl (w_some rfl)) (fun _ => c1))
theorem u_X0_commonDivisor_1 {vl : Nat → Nat} {x8 : Int32} {w0 : Int64} {w2 : Int64} {w4 : Int64} {w6 : Int64} {z : ow_MS} {Q : (Int64 × ow_MS) → Prop} (H : Tt (fun K k => cm_X0_commonDivisor_1 vl K (c_X0_commonDivisor vl K k) x8 w0 w2 w4 w6 z) Q) : Tt (fun K k => c_X0_commonDivisor vl K k 1 x8 w0 w2 w4 w6 z) Q := w_un (fun _ _ => rfl) H
theorem e_X0_commonDivisor {vl : Nat → Nat} {w0 : Int64} {w2 : Int64} {z : ow_MS} {Q : (Int64 × ow_MS) → Prop} (H : Tt (fun K k => c_X0_commonDivisor vl K k 0 0 w0 w2 0 0 z) Q) : Te (fun K => ce_X0_commonDivisor vl K w0 w2 z) Q := w_te H
theorem u_X0_commonDivisor_0 {vl : Nat → Nat} {x8 : Int32} {w0 : Int64} {w2 : Int64} {w4 : Int64} {w6 : Int64} {z : ow_MS} {Q : (Int64 × ow_MS) → Prop} (H : Tt (fun K k => cm_X0_commonDivisor_0 vl K (c_X0_commonDivisor vl K k) x8 w0 w2 w4 w6 z) Q) : Tt (fun K k => c_X0_commonDivisor vl K k 0 x8 w0 w2 w4 w6 z) Q := w_un (fun _ _ => rfl) H
theorem tc_comDiv {a b : Int64} : Te (fun K => ce_X0_commonDivisor vl K a b y) (fun r => r.2 = y) := by
  have key : ∀ (d i : Nat) (w4 w6 : Int64), i + d = 200 → Tt (fun K t => c_X0_commonDivisor vl K t 1 (nI i) a b w4 w6 y) (fun r => r.2 = y) := by
    intro d
    induction d with
    | zero =>
      intro i w4 w6 hi
      refine u_X0_commonDivisor_1 ?_; unfold cm_X0_commonDivisor_1
      exact w_leT (a := 200) (by omega) (by omega) (w_some rfl)
    | succ d ih =>
      intro i w4 w6 hi
      refine u_X0_commonDivisor_1 ?_; unfold cm_X0_commonDivisor_1
      rw [nI_1]
      exact w_leF (a := 200) (by omega) (by omega) (w_if (fun _ => w_some rfl) (fun h0 => w_nzJ (lgc0 h0) (ih (i + 1) _ _ (by omega))))
  refine e_X0_commonDivisor ?_
  refine u_X0_commonDivisor_0 ?_; unfold cm_X0_commonDivisor_0
  exact key 200 0 a b (by omega)
theorem u_X0_countColours_1 {vl : Nat → Nat} {x1 : Int32} {x4 : Int32} {w2 : Int64} {r0 : Nat} {z : ow_MS} {Q : (Int64 × ow_MS) → Prop} (H : Tt (fun K k => cm_X0_countColours_1 vl K (c_X0_countColours vl K k) x1 x4 w2 r0 z) Q) : Tt (fun K k => c_X0_countColours vl K k 1 x1 x4 w2 r0 z) Q := w_un (fun _ _ => rfl) H
theorem e_X0_countColours {vl : Nat → Nat} {r0 : Nat} {x1 : Int32} {z : ow_MS} {Q : (Int64 × ow_MS) → Prop} (H : Tt (fun K k => c_X0_countColours vl K k 0 x1 0 0 r0 z) Q) : Te (fun K => ce_X0_countColours vl K r0 x1 z) Q := w_te H
theorem u_X0_countColours_0 {vl : Nat → Nat} {x1 : Int32} {x4 : Int32} {w2 : Int64} {r0 : Nat} {z : ow_MS} {Q : (Int64 × ow_MS) → Prop} (H : Tt (fun K k => cm_X0_countColours_0 vl K (c_X0_countColours vl K k) x1 x4 w2 r0 z) Q) : Tt (fun K k => c_X0_countColours vl K k 0 x1 x4 w2 r0 z) Q := w_un (fun _ _ => rfl) H
theorem tc_countCol (hd : dvC y) : Te (fun K => ce_X0_countColours vl K 41000 x y) (fun r => r.2 = y) := by
  obtain ⟨n, n18, hn⟩ := hd
  have key : ∀ (d i : Nat) (w : Int64), i + d = n → Tt (fun K t => c_X0_countColours vl K t 1 x (nI i) w 41000 y) (fun r => r.2 = y) := by
    intro d
    induction d with
    | zero =>
      intro i w hi
      refine u_X0_countColours_1 ?_; unfold cm_X0_countColours_1
      exact w_rdF hn (w_leT (by omega) (by omega) (w_some rfl))
    | succ d ih =>
      intro i w hi
      refine u_X0_countColours_1 ?_; unfold cm_X0_countColours_1
      refine w_rdF hn (w_leF (by omega) (by omega) (w_crJ ch_41004 rfl (show i < 18 by omega) rfl (w_cs1 tc_comDiv ?_)))
      rintro v z e
      dsimp only at e
      rw [e, nI_1]
      exact ih (i + 1) _ (by omega)
  refine e_X0_countColours ?_
  refine u_X0_countColours_0 ?_; unfold cm_X0_countColours_0
  exact key n 0 _ (by omega)
def cxP (g : Nat) : Prop := cL 4000 g ∨ cvP g
theorem cxP_r {g : Nat} (h : cxP g) : 4001 ≤ g ∧ g ≤ 4011 ∨ 41001 ≤ g ∧ g ≤ 41005 ∨ 42001 ≤ g ∧ g ≤ 42012 := by
  rcases h with h | h
  · unfold cL at h
    omega
  · unfold cvP at h
    omega
theorem gM_cv {y1 y2 : ow_MS} (hN : gN y1) (hf : fr (cL 4000) y y1) (hf2 : fr cvP y1 y2) (h : gM y) : gM y2 := by
  refine ⟨⟨dgC_fr hf2 (fun g g1 g2 h9 => by unfold cvP at h9; omega) hN.1, nsC_fr hf2 (fun h' hh' g hg h9 => ?_) hN.2.1, kdC_fr hf2 (fun g hg => by unfold cvP at hg; omega) hN.2.2⟩, tbs_fr (fr_tr (fr_mono (fun g hg => Or.inl hg) hf) (fr_mono (fun g hg => Or.inr hg) hf2)) (fun g (hg : cxP g) => by have := cxP_r hg; omega) h.2⟩
  have key : ∀ a, a ∈ nHL → a ≤ 40000 ∨ 44000 ≤ a := by decide
  have := key h' hh'
  unfold cP at hg
  unfold cvP at h9
  omega
/-- a diagram is loaded, its cover found -/
theorem tc_ld3 {h d c : Nat} {A : rn_L} {sg : Nat → Bool} (hh : nH h) (hN : gN y) (hd : d < 40) (hs : slC y 1000 d (clC sg A)) (hA : okL A c) : Te (fun K => ce_X7_load vl K h 1000 (nI d) y) (fun y1 => gN y1 ∧ fr (cL h) y y1 ∧ ∃ S G, shA y1 h A sg (c, cirs A, S, G) ∧ jnN A sg c S G) := by
  obtain ⟨T, hT, hb⟩ := hN.2.1 h hh
  have h4 : 4000 ≤ h := nH_all (P := fun h => 4000 ≤ h) (by decide) hh
  refine w_monoE (tc_load3 hh ch_1000 (by omega) hd hA hs hT hb) ?_
  rintro y1 ⟨⟨⟨c', ci', S, G⟩, h1, h2, h3, h5⟩, h6⟩
  dsimp only at h2 h3 h5
  subst h2
  subst h3
  exact ⟨gN_net hh h6 (fun g hg => by unfold cL at hg; omega) ⟨_, h1.1, h1.2.2.1.2.2.1⟩ hN, h6, S, G, h1, hA, h1.2.1, h1.2.2.1.1, h5⟩
theorem e_X11_cover {vl : Nat → Nat} {r0 : Nat} {x1 : Int32} {x2 : Int32} {z : ow_MS} {Q : (Nat × Int32 × ow_MS) → Prop} (H : Tt (fun K _ => cm_X11_cover_0 vl K x1 x2 r0 z) Q) : Te (fun K => ce_X11_cover vl K r0 x1 x2 z) Q := w_te0 H
theorem tc_cover (hM : gM y) : Te (fun K => ce_X11_cover vl K 0 x x' y) (fun r => gM r.2.2 ∧ fr cxP y r.2.2) := by
  refine e_X11_cover ?_; unfold cm_X11_cover_0
  refine w_tc0 (tc_need hM.1.1) ?_ ?_
  · rintro y1 ⟨h1, rfl⟩
    rcases h1 with ⟨-, d, A, sg, c, hd, rfl, hs, hA, hne⟩ | h1
    · refine w_cs0 (tc_ld3 nH4 hM.1 hd hs hA) ?_
      rintro y2 ⟨g1, g2, S, G, g3, g4⟩
      refine w_cs0 (tc_findCover nH4 g4 g3.1) ?_
      rintro y3 ⟨k1, k2⟩
      refine w_cs1 (tc_coverAt k1) ?_
      rintro v z e
      dsimp only at e
      rw [e]
      exact w_some ⟨gM_cv g1 g2 k2 hM, fr_tr (fr_mono (fun g hg => Or.inl hg) g2) (fr_mono (fun g hg => Or.inr hg) k2)⟩
    · exact absurd (show (0 : Nat) = 1 from h1.1) (by decide)
  · rintro a y1 ha ⟨h1, rfl⟩
    exact w_some ⟨hM, fr_rf⟩
theorem e_X11_colours {vl : Nat → Nat} {r0 : Nat} {x1 : Int32} {x2 : Int32} {z : ow_MS} {Q : (Nat × Int64 × ow_MS) → Prop} (H : Tt (fun K _ => cm_X11_colours_0 vl K x1 x2 r0 z) Q) : Te (fun K => ce_X11_colours vl K r0 x1 x2 z) Q := w_te0 H
theorem tc_colours (hM : gM y) : Te (fun K => ce_X11_colours vl K 0 x x' y) (fun r => gM r.2.2 ∧ fr cxP y r.2.2) := by
  refine e_X11_colours ?_; unfold cm_X11_colours_0
  refine w_tc0 (tc_need hM.1.1) ?_ ?_
  · rintro y1 ⟨h1, rfl⟩
    rcases h1 with ⟨-, d, A, sg, c, hd, rfl, hs, hA, hne⟩ | h1
    · refine w_if (fun _ => w_some ⟨hM, fr_rf⟩) (fun _ => w_if (fun _ => ?_) (fun _ => w_some ⟨hM, fr_rf⟩))
      refine w_cs0 (tc_ld3 nH4 hM.1 hd hs hA) ?_
      rintro y2 ⟨g1, g2, S, G, g3, g4⟩
      refine w_cs0 (tc_findCover nH4 g4 g3.1) ?_
      rintro y3 ⟨k1, k2⟩
      refine w_cs1 (tc_countCol k1) ?_
      rintro v z e
      dsimp only at e
      rw [e]
      exact w_some ⟨gM_cv g1 g2 k2 hM, fr_tr (fr_mono (fun g hg => Or.inl hg) g2) (fr_mono (fun g hg => Or.inr hg) k2)⟩
    · exact absurd (show (0 : Nat) = 1 from h1.1) (by decide)
  · rintro a y1 ha ⟨h1, rfl⟩
    exact w_some ⟨hM, fr_rf⟩
end CC2
