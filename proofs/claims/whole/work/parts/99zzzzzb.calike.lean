/-! the class: alike, needDiagram, needBraid -/
section CH3
variable {vl : Nat → Nat} {y : ow_MS} {x x' : Int32}
theorem e_X11_alike {vl : Nat → Nat} {r0 : Nat} {x1 : Int32} {x2 : Int32} {z : ow_MS} {Q : (Int32 × ow_MS) → Prop} (H : Tt (fun K _ => cm_X11_alike_0 vl K x1 x2 r0 z) Q) : Te (fun K => ce_X11_alike vl K r0 x1 x2 z) Q := w_te0 H
theorem tc_alike (hy : dgE y) : Te (fun K => ce_X11_alike vl K 0 x x' y) (fun r => ((r.1 = 1 ∧ ∃ d e C, d < 40 ∧ e < 40 ∧ x = nI d ∧ x' = nI e ∧ slC y 1000 d C ∧ slC y 1000 e C ∧ 0 < C.2.length) ∨ r.1 = 0 ∧ ((∀ d, d < 40 → x = nI d → y.2.1 1002 d = 0) ∨ (∀ d, d < 40 → x' = nI d → y.2.1 1002 d = 0) ∨ ∃ d e C D, d < 40 ∧ e < 40 ∧ x = nI d ∧ x' = nI e ∧ slC y 1000 d C ∧ slC y 1000 e D ∧ C ≠ D)) ∧ r.2 = y) := by
  refine e_X11_alike ?_; unfold cm_X11_alike_0
  refine w_cs1 (tc_hasDiagram hy) ?_
  rintro v y1 ⟨hv, e2⟩
  dsimp only at hv e2
  subst e2
  rcases hv with ⟨rfl, h1⟩ | ⟨rfl, h1⟩
  · refine w_ifF (by decide) (w_cs1 (tc_hasDiagram hy) ?_)
    rintro v y2 ⟨hv, e2⟩
    dsimp only at hv e2
    subst e2
    rcases hv with ⟨rfl, h2⟩ | ⟨rfl, h2⟩
    · obtain ⟨d, C, hd, rfl, c1, c2, c3⟩ := h1
      obtain ⟨e, D, he, rfl, d1, d2, d3⟩ := h2
      have hcb := cmpC_b c2 d2
      refine w_ifF (by decide) (w_cs1 (tc_compare ch_1000 ch_1000 hd he c1 d1 c2 d2) ?_)
      rintro v y3 ⟨hv, e2⟩
      dsimp only at hv e2
      subst e2
      subst hv
      refine w_if (fun e0 => w_okZ (Or.inr rfl) (w_some ⟨Or.inl ⟨rfl, d, e, C, hd, he, rfl, rfl, c1, ?_, c3⟩, rfl⟩)) (fun e0 => w_okZ (Or.inl rfl) (w_some ⟨Or.inr ⟨rfl, Or.inr (Or.inr ⟨d, e, C, D, hd, he, rfl, rfl, c1, d1, ?_⟩)⟩, rfl⟩))
      · have z0 := (iI_eq (by omega) (by omega) (by omega) (by omega)).mp (e0.trans (show (0 : Int32) = iI 0 from rfl))
        rw [cmpC_0 z0]
        exact d1
      · rintro rfl
        refine e0 ?_
        have aux : ∀ L : List Nat, lexD L L = 0 := by
          intro L
          induction L with
          | nil => rfl
          | cons a L ih =>
            show (if a = a then lexD L L else (a : Int) - a) = 0
            rw [if_pos rfl]
            exact ih
        have : cmpC C C = 0 := by
          unfold cmpC
          rw [if_pos rfl]
          exact aux _
        rw [this]
        rfl
    · exact w_ifT rfl (w_okZ (Or.inl rfl) (w_some ⟨Or.inr ⟨rfl, Or.inr (Or.inl h2)⟩, rfl⟩))
  · exact w_ifT rfl (w_okZ (Or.inl rfl) (w_some ⟨Or.inr ⟨rfl, Or.inl h1⟩, rfl⟩))
theorem e_X11_needDiagram {vl : Nat → Nat} {r0 : Nat} {x1 : Int32} {z : ow_MS} {Q : (Nat × ow_MS) → Prop} (H : Tt (fun K _ => cm_X11_needDiagram_0 vl K x1 r0 z) Q) : Te (fun K => ce_X11_needDiagram vl K r0 x1 z) Q := w_te0 H
theorem tc_needDiagram (hy : dgE y) : Te (fun K => ce_X11_needDiagram vl K 0 x y) (fun r => (r.1 = 0 ∧ isD y x ∨ r.1 = 1 ∧ ∀ d, d < 40 → x = nI d → y.2.1 1002 d = 0) ∧ r.2 = y) := by
  refine e_X11_needDiagram ?_; unfold cm_X11_needDiagram_0
  refine w_cs1 (tc_hasDiagram hy) ?_
  rintro v y1 ⟨hv, e2⟩
  dsimp only at hv e2
  subst e2
  rcases hv with ⟨rfl, h1⟩ | ⟨rfl, h1⟩
  · exact w_ifF (by decide) (w_some ⟨Or.inl ⟨rfl, h1⟩, rfl⟩)
  · exact w_ifT rfl (w_some ⟨Or.inr ⟨rfl, h1⟩, rfl⟩)
theorem e_X11_needBraid {vl : Nat → Nat} {r0 : Nat} {x1 : Int32} {z : ow_MS} {Q : (Nat × ow_MS) → Prop} (H : Tt (fun K _ => cm_X11_needBraid_0 vl K x1 r0 z) Q) : Te (fun K => ce_X11_needBraid vl K r0 x1 z) Q := w_te0 H
theorem tc_needBraid (hy : brE y) : Te (fun K => ce_X11_needBraid vl K 0 x y) (fun r => (r.1 = 0 ∧ isB y x ∨ r.1 = 1 ∧ ∀ b, b < 20 → x = nI b → y.2.1 15 b = 0) ∧ r.2 = y) := by
  refine e_X11_needBraid ?_; unfold cm_X11_needBraid_0
  refine w_cs1 (tc_hasBraid hy) ?_
  rintro v y1 ⟨hv, e2⟩
  dsimp only at hv e2
  subst e2
  rcases hv with ⟨rfl, h1⟩ | ⟨rfl, h1⟩
  · exact w_ifF (by decide) (w_some ⟨Or.inl ⟨rfl, h1⟩, rfl⟩)
  · exact w_ifT rfl (w_some ⟨Or.inr ⟨rfl, h1⟩, rfl⟩)
end CH3
