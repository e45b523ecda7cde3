/-! the class: signature: faces of a part are painted -/
def fsV (y : ow_MS) (c : Nat) (x2 : Int32) (v0 : Nat) : Prop := v0 < 2 * c ∧ y.2.1 4006 v0 = x2 ∧ ∀ v, v < v0 → y.2.1 4006 v ≠ x2
/-- the two sides of the part's first gap have the colours 0 and 1 -/
def gdP (y z : ow_MS) (c : Nat) (φ : Nat → Nat) (x2 : Int32) : Prop := ∀ v0, fsV y c x2 v0 → φ (2 * v0) ≠ φ (2 * v0 + 1) → y.2.1 6003 (φ (2 * v0 + 1)) = -1 → z.2.1 6003 (φ (2 * v0)) = 0 ∧ z.2.1 6003 (φ (2 * v0 + 1)) = 1
def ouP (y z : ow_MS) (c : Nat) (φ : Nat → Nat) (x2 : Int32) : Prop := ∀ f, (∀ s, s < 4 * c → y.2.1 4006 (s / 2) = x2 → φ s ≠ f) → z.2.1 6003 f = y.2.1 6003 f
section PN
variable {vl : Nat → Nat} {y : ow_MS} {c n : Nat} {φ : Nat → Nat} {x2 : Int32}
theorem gdP_w {z : ow_MS} {f : Nat} {x : Int32} (hg : gdP y z c φ x2) (hf : z.2.1 6003 f = -1) : gdP y (usI z 6003 f x) c φ x2 := by
  intro v0 h1 h2 h3
  obtain ⟨g1, g2⟩ := hg v0 h1 h2 h3
  refine ⟨?_, ?_⟩
  · rw [po_usI_ne (fun h9 => by rw [h9, hf] at g1; exact absurd g1 (by decide))]
    exact g1
  · rw [po_usI_ne (fun h9 => by rw [h9, hf] at g2; exact absurd g2 (by decide))]
    exact g2
theorem ouP_w {z : ow_MS} {s : Nat} {x : Int32} (hs : s < 4 * c) (hp : y.2.1 4006 (s / 2) = x2) (h : ouP y z c φ x2) : ouP y (usI z 6003 (φ s) x) c φ x2 := by
  intro f hf
  rw [po_usI_ne (fun h9 => hf s hs hp h9.symm)]
  exact h f hf
theorem u_X4_paint_2 {vl : Nat → Nat} {x2 : Int32} {x3 : Int32} {x4 : Int32} {x5 : Int32} {x6 : Int32} {x7 : Int32} {x8 : Int32} {r0 : Nat} {r1 : Nat} {z : ow_MS} {Q : ow_MS → Prop} (H : Tt (fun K k => cm_X4_paint_2 vl K (c_X4_paint vl K k) x2 x3 x4 x5 x6 x7 x8 r0 r1 z) Q) : Tt (fun K k => c_X4_paint vl K k 2 x2 x3 x4 x5 x6 x7 x8 r0 r1 z) Q := w_un (fun _ _ => rfl) H
theorem u_X4_paint_5 {vl : Nat → Nat} {x2 : Int32} {x3 : Int32} {x4 : Int32} {x5 : Int32} {x6 : Int32} {x7 : Int32} {x8 : Int32} {r0 : Nat} {r1 : Nat} {z : ow_MS} {Q : ow_MS → Prop} (H : Tt (fun K k => cm_X4_paint_5 vl K (c_X4_paint vl K k) x2 x3 x4 x5 x6 x7 x8 r0 r1 z) Q) : Tt (fun K k => c_X4_paint vl K k 5 x2 x3 x4 x5 x6 x7 x8 r0 r1 z) Q := w_un (fun _ _ => rfl) H
theorem u_X4_paint_4 {vl : Nat → Nat} {x2 : Int32} {x3 : Int32} {x4 : Int32} {x5 : Int32} {x6 : Int32} {x7 : Int32} {x8 : Int32} {r0 : Nat} {r1 : Nat} {z : ow_MS} {Q : ow_MS → Prop} (H : Tt (fun K k => cm_X4_paint_4 vl K (c_X4_paint vl K k) x2 x3 x4 x5 x6 x7 x8 r0 r1 z) Q) : Tt (fun K k => c_X4_paint vl K k 4 x2 x3 x4 x5 x6 x7 x8 r0 r1 z) Q := w_un (fun _ _ => rfl) H
theorem u_X4_paint_3 {vl : Nat → Nat} {x2 : Int32} {x3 : Int32} {x4 : Int32} {x5 : Int32} {x6 : Int32} {x7 : Int32} {x8 : Int32} {r0 : Nat} {r1 : Nat} {z : ow_MS} {Q : ow_MS → Prop} (H : Tt (fun K k => cm_X4_paint_3 vl K (c_X4_paint vl K k) x2 x3 x4 x5 x6 x7 x8 r0 r1 z) Q) : Tt (fun K k => c_X4_paint vl K k 3 x2 x3 x4 x5 x6 x7 x8 r0 r1 z) Q := w_un (fun _ _ => rfl) H
theorem u_X4_paint_1 {vl : Nat → Nat} {x2 : Int32} {x3 : Int32} {x4 : Int32} {x5 : Int32} {x6 : Int32} {x7 : Int32} {x8 : Int32} {r0 : Nat} {r1 : Nat} {z : ow_MS} {Q : ow_MS → Prop} (H : Tt (fun K k => cm_X4_paint_1 vl K (c_X4_paint vl K k) x2 x3 x4 x5 x6 x7 x8 r0 r1 z) Q) : Tt (fun K k => c_X4_paint vl K k 1 x2 x3 x4 x5 x6 x7 x8 r0 r1 z) Q := w_un (fun _ _ => rfl) H
theorem e_X4_paint {vl : Nat → Nat} {r0 : Nat} {r1 : Nat} {x2 : Int32} {z : ow_MS} {Q : ow_MS → Prop} (H : Tt (fun K k => c_X4_paint vl K k 0 x2 0 0 0 0 0 0 r0 r1 z) Q) : Te (fun K => ce_X4_paint vl K r0 r1 x2 z) Q := w_te H
theorem u_X4_paint_0 {vl : Nat → Nat} {x2 : Int32} {x3 : Int32} {x4 : Int32} {x5 : Int32} {x6 : Int32} {x7 : Int32} {x8 : Int32} {r0 : Nat} {r1 : Nat} {z : ow_MS} {Q : ow_MS → Prop} (H : Tt (fun K k => cm_X4_paint_0 vl K (c_X4_paint vl K k) x2 x3 x4 x5 x6 x7 x8 r0 r1 z) Q) : Tt (fun K k => c_X4_paint vl K k 0 x2 x3 x4 x5 x6 x7 x8 r0 r1 z) Q := w_un (fun _ _ => rfl) H
theorem tc_paint (h8 : y.1 4008 = nI c) (hc : c ≤ 12) (hn : n ≤ 48) (hφ : ∀ s, s < 4 * c → y.2.1 6001 s = nI (φ s) ∧ φ s < n) : Te (fun K => ce_X4_paint vl K 6000 4000 x2 y) (fun y1 => fr (fun g => g = 6003) y y1 ∧ ouP y y1 c φ x2 ∧ gdP y y1 c φ x2) := by
  let Q : ow_MS → Prop := fun y1 => fr (fun g => g = 6003) y y1 ∧ ouP y y1 c φ x2 ∧ gdP y y1 c φ x2
  let B : ow_MS → Prop := fun z => fr (fun g => g = 6003) y z ∧ ouP y z c φ x2
  -- one pass
  have pass : ∀ (x5 : Int32), (∀ (x3 x4 : Int32) (z : ow_MS), B z → gdP y z c φ x2 → (x3 = 1 ∨ x3 = 0 ∧ z.2.1 6003 = y.2.1 6003 ∧ ∀ v, v < 2 * c → y.2.1 4006 v ≠ x2) → Tt (fun K k => c_X4_paint vl K k 1 x2 x3 x4 (x5 + 1) 0 0 0 6000 4000 z) Q) → ∀ (d v : Nat) (x3 x4 : Int32) (z : ow_MS), v + d = 2 * c → B z → (x3 = 1 ∧ gdP y z c φ x2 ∨ x3 = 0 ∧ z.2.1 6003 = y.2.1 6003 ∧ ∀ u, u < v → y.2.1 4006 u ≠ x2) → Tt (fun K k => c_X4_paint vl K k 2 x2 x3 x4 x5 (nI v) 0 0 6000 4000 z) Q := by
    intro x5 hnext d
    induction d with
    | zero =>
      intro v x3 x4 z hv hB hJ
      refine u_X4_paint_2 ?_; unfold cm_X4_paint_2
      refine w_rdF ((hB.1 4008 (by omega)).1.trans h8) ?_
      rw [rn_mul2]
      refine w_leT (by omega) (by omega) ?_
      rcases hJ with ⟨j1, j2⟩ | ⟨j1, j2, j3⟩
      · exact hnext x3 x4 z hB j2 (Or.inl j1)
      · have j3' : ∀ u, u < 2 * c → y.2.1 4006 u ≠ x2 := fun u hu => j3 u (by omega)
        exact hnext x3 x4 z hB (fun v0 h1 _ _ => absurd h1.2.1 (j3' v0 h1.1)) (Or.inr ⟨j1, j2, j3'⟩)
    | succ d ih =>
      intro v x3 x4 z hv hB hJ
      obtain ⟨a1, a2⟩ := hφ (2 * v) (by omega)
      obtain ⟨b1, b2⟩ := hφ (2 * v + 1) (by omega)
      have c5 : ∀ (x3 x4 : Int32) (z : ow_MS), B z → (x3 = 1 ∧ gdP y z c φ x2 ∨ x3 = 0 ∧ z.2.1 6003 = y.2.1 6003 ∧ ∀ u, u < v + 1 → y.2.1 4006 u ≠ x2) → Tt (fun K k => c_X4_paint vl K k 5 x2 x3 x4 x5 (nI v) 0 0 6000 4000 z) Q := by
        intro x3 x4 z hB hJ
        refine u_X4_paint_5 ?_; unfold cm_X4_paint_5
        rw [nI_1]
        exact ih (v + 1) x3 x4 z (by omega) hB hJ
      have wr1 : ∀ (z : ow_MS) (x : Int32), y.2.1 4006 v = x2 → B z → B (usI z 6003 (φ (2 * v)) x) := fun z x hp hB => ⟨fr_I2 hB.1 rfl, ouP_w (by omega) (by rw [show 2 * v / 2 = v by omega]; exact hp) hB.2⟩
      have wr2 : ∀ (z : ow_MS) (x : Int32), y.2.1 4006 v = x2 → B z → B (usI z 6003 (φ (2 * v + 1)) x) := fun z x hp hB => ⟨fr_I2 hB.1 rfl, ouP_w (by omega) (by rw [show (2 * v + 1) / 2 = v by omega]; exact hp) hB.2⟩
      have c4 : ∀ (x4 : Int32) (z : ow_MS), y.2.1 4006 v = x2 → B z → gdP y z c φ x2 → Tt (fun K k => c_X4_paint vl K k 4 x2 1 x4 x5 (nI v) (nI (φ (2 * v))) (nI (φ (2 * v + 1))) 6000 4000 z) Q := by
        intro x4 z hp hB hg
        refine u_X4_paint_4 ?_; unfold cm_X4_paint_4
        refine w_crI cg_6003 rfl (by omega) rfl (w_if (fun e1 => w_crI cg_6003 rfl (by omega) rfl (w_if (fun _ => c5 _ _ z hB (Or.inl ⟨rfl, hg⟩)) (fun _ => w_crI cg_6003 rfl (by omega) rfl (w_ctI cg_6003 rfl (by omega) (c5 _ _ _ (wr1 z _ hp hB) (Or.inl ⟨rfl, gdP_w hg e1⟩)))))) (fun _ => c5 _ _ z hB (Or.inl ⟨rfl, hg⟩)))
      have c3 : ∀ (x4 : Int32) (z : ow_MS), y.2.1 4006 v = x2 → B z → gdP y z c φ x2 → Tt (fun K k => c_X4_paint vl K k 3 x2 1 x4 x5 (nI v) (nI (φ (2 * v))) (nI (φ (2 * v + 1))) 6000 4000 z) Q := by
        intro x4 z hp hB hg
        refine u_X4_paint_3 ?_; unfold cm_X4_paint_3
        refine w_crI cg_6003 rfl (by omega) rfl (w_if (fun _ => c4 x4 z hp hB hg) (fun _ => w_crI cg_6003 rfl (by omega) rfl (w_if (fun e1 => w_crI cg_6003 rfl (by omega) rfl (w_ctI cg_6003 rfl (by omega) (c5 _ _ _ (wr2 z _ hp hB) (Or.inl ⟨rfl, gdP_w hg e1⟩)))) (fun _ => c4 x4 z hp hB hg))))
      have r6 : z.2.1 4006 v = y.2.1 4006 v := by rw [(hB.1 4006 (by omega)).2.1]
      have r1 : z.2.1 6001 (2 * v) = nI (φ (2 * v)) := by rw [(hB.1 6001 (by omega)).2.1]; exact a1
      have r2 : z.2.1 6001 (2 * v + 1) = nI (φ (2 * v + 1)) := by rw [(hB.1 6001 (by omega)).2.1]; exact b1
      refine u_X4_paint_2 ?_; unfold cm_X4_paint_2
      refine w_rdF ((hB.1 4008 (by omega)).1.trans h8) ?_
      rw [rn_mul2, rn_mul2, nI_1]
      refine w_leF (by omega) (by omega) (w_crI cg_4006 rfl (by omega) r6 (w_if (fun hp => w_crI cg_6001 rfl (by omega) r1 (w_crI cg_6001 rfl (by omega) r2 ?_)) (fun hp => c5 _ _ z hB ?_)))
      · rcases hJ with ⟨j1, j2⟩ | ⟨j1, j2, j3⟩
        · subst j1
          exact w_ifF (by decide) (c3 x4 z hp hB j2)
        · subst j1
          refine w_ifT rfl (w_ctI cg_6003 rfl (by omega) ?_)
          -- the first visit
          have hB1 := wr1 z 0 hp hB
          have hat : (usI z (6000 + 3) (φ (2 * v)) 0).2.1 6003 (φ (2 * v)) = 0 := po_usI_at
          have one : ∀ z1, (∀ v0, v0 = v → φ (2 * v0) ≠ φ (2 * v0 + 1) → y.2.1 6003 (φ (2 * v0 + 1)) = -1 → z1.2.1 6003 (φ (2 * v0)) = 0 ∧ z1.2.1 6003 (φ (2 * v0 + 1)) = 1) → gdP y z1 c φ x2 := by
            intro z1 h1 v0 g1 g2 g3
            refine h1 v0 ?_ g2 g3
            rcases Nat.lt_trichotomy v0 v with h9 | h9 | h9
            · exact absurd g1.2.1 (j3 v0 h9)
            · exact h9
            · exact absurd hp (g1.2.2 v h9)
          have c4' : ∀ (x4 : Int32), (¬ (usI z (6000 + 3) (φ (2 * v)) 0).2.1 6003 (φ (2 * v + 1)) = -1) → Tt (fun K k => c_X4_paint vl K k 4 x2 1 x4 x5 (nI v) (nI (φ (2 * v))) (nI (φ (2 * v + 1))) 6000 4000 (usI z (6000 + 3) (φ (2 * v)) 0)) Q := by
            intro x4 hne
            refine c4 x4 _ hp hB1 (one _ ?_)
            rintro v0 rfl g2 g3
            refine absurd ?_ hne
            rw [po_usI_ne (fun h9 => g2 h9.symm), j2]
            exact g3
          refine u_X4_paint_3 ?_; unfold cm_X4_paint_3
          refine w_crI cg_6003 rfl (by omega) hat (w_ifF (by decide) (w_crI cg_6003 rfl (by omega) rfl (w_if (fun e1 => w_crI cg_6003 rfl (by omega) hat (w_ctI cg_6003 rfl (by omega) (c5 _ _ _ (wr2 _ _ hp hB1) (Or.inl ⟨rfl, one _ ?_⟩)))) (fun e1 => c4' x4 e1))))
          rintro v0 rfl g2 g3
          exact ⟨(po_usI_ne g2).trans hat, po_usI_at⟩
      · rcases hJ with ⟨j1, j2⟩ | ⟨j1, j2, j3⟩
        · exact Or.inl ⟨j1, j2⟩
        · refine Or.inr ⟨j1, j2, fun u hu => ?_⟩
          by_cases e : u = v
          · rw [e]
            exact hp
          · exact j3 u (by omega)
  have c1 : ∀ (d i : Nat) (x3 x4 : Int32) (z : ow_MS), i + d = 48 → B z → gdP y z c φ x2 → (x3 = 1 ∨ x3 = 0 ∧ z.2.1 6003 = y.2.1 6003 ∧ ∀ v, v < 2 * c → y.2.1 4006 v ≠ x2) → Tt (fun K k => c_X4_paint vl K k 1 x2 x3 x4 (nI i) 0 0 0 6000 4000 z) Q := by
    intro d
    induction d with
    | zero =>
      intro i x3 x4 z hi hB hg _
      refine u_X4_paint_1 ?_; unfold cm_X4_paint_1
      exact w_leT (a := 48) (b := i) (by omega) (by omega) (w_some ⟨hB.1, hB.2, hg⟩)
    | succ d ih =>
      intro i x3 x4 z hi hB hg hJ
      refine u_X4_paint_1 ?_; unfold cm_X4_paint_1
      refine w_leF (a := 48) (b := i) (by omega) (by omega) (w_if (fun _ => w_some ⟨hB.1, hB.2, hg⟩) (fun _ => ?_))
      refine pass (nI i) (fun x3 x4 z h1 h2 h3 => ?_) (2 * c) 0 x3 0 z (by omega) hB ?_
      · rw [nI_1]
        exact ih (i + 1) x3 x4 z (by omega) h1 h2 h3
      · rcases hJ with j1 | ⟨j1, j2, -⟩
        · exact Or.inl ⟨j1, hg⟩
        · exact Or.inr ⟨j1, j2, fun u hu => absurd hu (Nat.not_lt_zero _)⟩
  refine e_X4_paint ?_
  refine u_X4_paint_0 ?_; unfold cm_X4_paint_0
  refine u_X4_paint_1 ?_; unfold cm_X4_paint_1
  refine w_leF (a := 48) (b := 0) (by omega) (by omega) (w_ifF (by decide) ?_)
  refine pass 0 (fun x3 x4 z h1 h2 h3 => ?_) (2 * c) 0 0 0 y (by omega) ⟨fr_rf, fun f _ => rfl⟩ (Or.inr ⟨rfl, rfl, fun u hu => absurd hu (Nat.not_lt_zero _)⟩)
  exact c1 47 1 x3 x4 z (by omega) h1 h2 h3
end PN
