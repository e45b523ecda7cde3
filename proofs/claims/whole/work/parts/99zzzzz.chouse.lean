/-! the class: KnotHouse's own small methods -/
/-- every place of the diagrams is empty or holds a code -/
def dgE (y : ow_MS) : Prop := ∀ d, d < 40 → y.2.1 1002 d = 0 ∨ ∃ C, slC y 1000 d C ∧ cOK C ∧ 0 < C.2.length
/-- every place of the braids: strands (0: empty) -/
def brE (y : ow_MS) : Prop := ∀ b, b < 20 → ∃ n, n ≤ 5 ∧ y.2.1 15 b = nI n
def isD (y : ow_MS) (x : Int32) : Prop := ∃ d C, d < 40 ∧ x = nI d ∧ slC y 1000 d C ∧ cOK C ∧ 0 < C.2.length
def isB (y : ow_MS) (x : Int32) : Prop := ∃ b n, b < 20 ∧ x = nI b ∧ y.2.1 15 b = nI n ∧ 1 ≤ n ∧ n ≤ 5
section CH
variable {vl : Nat → Nat} {y : ow_MS} {x : Int32}
theorem ch_15 : ((cX vl).2 15).2.1 = 20 := rfl
theorem ch_1000 : tH 1000 40 := by
  unfold tH tHL
  exact List.mem_cons_self
theorem e_X11_hasDiagram {vl : Nat → Nat} {r0 : Nat} {x1 : Int32} {z : ow_MS} {Q : (Int32 × ow_MS) → Prop} (H : Tt (fun K _ => cm_X11_hasDiagram_0 vl K x1 r0 z) Q) : Te (fun K => ce_X11_hasDiagram vl K r0 x1 z) Q := w_te0 H
theorem tc_hasDiagram (hy : dgE y) : Te (fun K => ce_X11_hasDiagram vl K 0 x y) (fun r => (r.1 = 1 ∧ isD y x ∨ r.1 = 0 ∧ ∀ d, d < 40 → x = nI d → y.2.1 1002 d = 0) ∧ r.2 = y) := by
  refine e_X11_hasDiagram ?_; unfold cm_X11_hasDiagram_0
  refine w_if (fun e => w_okZ (Or.inl rfl) (w_some ⟨Or.inr ⟨rfl, fun d hd ex => ?_⟩, rfl⟩)) (fun e => ?_)
  · rw [ex] at e
    exact absurd e (nI_pos (by omega))
  · obtain ⟨d, d31, rfl⟩ := nI_of e
    refine w_le (a := 40) (by omega) d31 (fun h9 => w_okZ (Or.inl rfl) (w_some ⟨Or.inr ⟨rfl, fun d' hd ex => ?_⟩, rfl⟩)) (fun h9 => ?_)
    · have := (nI_eq d31 (by omega)).mp ex
      omega
    · rcases hy d h9 with h0 | ⟨C, c1, c2, c3⟩
      · refine w_crI (tH_2 ch_1000) rfl h9 h0 (w_ifT (by decide) (w_okZ (Or.inl rfl) (w_some ⟨Or.inr ⟨rfl, fun d' hd ex => ?_⟩, rfl⟩)))
        rw [← (nI_eq d31 (by omega)).mp ex]
        exact h0
      · have := c2.2.1
        exact w_crI (tH_2 ch_1000) rfl h9 c1.2.1 (w_leF (b := 0) (by omega) c3 (w_okZ (Or.inr rfl) (w_some ⟨Or.inl ⟨rfl, d, C, h9, rfl, c1, c2, c3⟩, rfl⟩)))
theorem e_X11_hasBraid {vl : Nat → Nat} {r0 : Nat} {x1 : Int32} {z : ow_MS} {Q : (Int32 × ow_MS) → Prop} (H : Tt (fun K _ => cm_X11_hasBraid_0 vl K x1 r0 z) Q) : Te (fun K => ce_X11_hasBraid vl K r0 x1 z) Q := w_te0 H
theorem tc_hasBraid (hy : brE y) : Te (fun K => ce_X11_hasBraid vl K 0 x y) (fun r => (r.1 = 1 ∧ isB y x ∨ r.1 = 0 ∧ ∀ b, b < 20 → x = nI b → y.2.1 15 b = 0) ∧ r.2 = y) := by
  refine e_X11_hasBraid ?_; unfold cm_X11_hasBraid_0
  refine w_if (fun e => w_okZ (Or.inl rfl) (w_some ⟨Or.inr ⟨rfl, fun d hd ex => ?_⟩, rfl⟩)) (fun e => ?_)
  · rw [ex] at e
    exact absurd e (nI_pos (by omega))
  · obtain ⟨d, d31, rfl⟩ := nI_of e
    refine w_le (a := 20) (by omega) d31 (fun h9 => w_okZ (Or.inl rfl) (w_some ⟨Or.inr ⟨rfl, fun d' hd ex => ?_⟩, rfl⟩)) (fun h9 => ?_)
    · have := (nI_eq d31 (by omega)).mp ex
      omega
    · obtain ⟨n, n5, en⟩ := hy d h9
      refine w_crI ch_15 rfl h9 en (w_le (b := 0) (by omega) (by omega) (fun h0 => w_okZ (Or.inl rfl) (w_some ⟨Or.inr ⟨rfl, fun d' hd ex => ?_⟩, rfl⟩)) (fun h0 => w_okZ (Or.inr rfl) (w_some ⟨Or.inl ⟨rfl, d, n, h9, rfl, en, h0, n5⟩, rfl⟩)))
      rw [← (nI_eq d31 (by omega)).mp ex, en, show n = 0 by omega]
      rfl
theorem e_X11_drop {vl : Nat → Nat} {r0 : Nat} {x1 : Int32} {z : ow_MS} {Q : (Int32 × ow_MS) → Prop} (H : Tt (fun K _ => cm_X11_drop_0 vl K x1 r0 z) Q) : Te (fun K => ce_X11_drop vl K r0 x1 z) Q := w_te0 H
theorem tc_drop (hy : dgE y) : Te (fun K => ce_X11_drop vl K 0 x y) (fun r => (r.1 = 1 ∧ isD y x ∨ r.1 = 0 ∧ ∀ d, d < 40 → x = nI d → y.2.1 1002 d = 0) ∧ dgE r.2 ∧ fr (fun q => q = 1002) y r.2) := by
  refine e_X11_drop ?_; unfold cm_X11_drop_0
  refine w_cs1 (tc_hasDiagram hy) ?_
  rintro v y1 ⟨hv, e2⟩
  dsimp only at hv e2
  subst e2
  rcases hv with ⟨rfl, h1⟩ | ⟨rfl, h1⟩
  · obtain ⟨d, C, hd, rfl, rest⟩ := h1
    refine w_ifF (by decide) (w_ctB (tH_2 ch_1000) rfl hd (w_okZ (Or.inr rfl) (w_some ⟨Or.inl ⟨rfl, d, C, hd, rfl, rest⟩, fun d' hd' => ?_, fr_I2 fr_rf rfl⟩)))
    by_cases e : d' = d
    · rw [e]
      exact Or.inl (po_usI_at.trans (by decide))
    · rcases hy d' hd' with h0 | ⟨C', c1, c2, c3⟩
      · exact Or.inl (rd_ne e h0)
      · exact Or.inr ⟨C', ⟨rd_ot (by omega) c1.1, rd_ne e c1.2.1, fun i a hi => rd_ot (by omega) (c1.2.2 i a hi)⟩, c2, c3⟩
  · exact w_ifT rfl (w_okZ (Or.inl rfl) (w_some ⟨Or.inr ⟨rfl, h1⟩, hy, fr_rf⟩))
theorem e_X11_dropBraid {vl : Nat → Nat} {r0 : Nat} {x1 : Int32} {z : ow_MS} {Q : (Int32 × ow_MS) → Prop} (H : Tt (fun K _ => cm_X11_dropBraid_0 vl K x1 r0 z) Q) : Te (fun K => ce_X11_dropBraid vl K r0 x1 z) Q := w_te0 H
theorem tc_dropBraid (hy : brE y) : Te (fun K => ce_X11_dropBraid vl K 0 x y) (fun r => (r.1 = 1 ∧ isB y x ∨ r.1 = 0 ∧ ∀ b, b < 20 → x = nI b → y.2.1 15 b = 0) ∧ brE r.2 ∧ fr (fun q => q = 15) y r.2) := by
  refine e_X11_dropBraid ?_; unfold cm_X11_dropBraid_0
  refine w_cs1 (tc_hasBraid hy) ?_
  rintro v y1 ⟨hv, e2⟩
  dsimp only at hv e2
  subst e2
  rcases hv with ⟨rfl, h1⟩ | ⟨rfl, h1⟩
  · obtain ⟨d, n, hd, rfl, rest⟩ := h1
    refine w_ifF (by decide) (w_ctI ch_15 rfl hd (w_okZ (Or.inr rfl) (w_some ⟨Or.inl ⟨rfl, d, n, hd, rfl, rest⟩, fun d' hd' => ?_, fr_I2 fr_rf rfl⟩)))
    by_cases e : d' = d
    · rw [e]
      exact ⟨0, by omega, po_usI_at⟩
    · obtain ⟨m, m5, em⟩ := hy d' hd'
      exact ⟨m, m5, rd_ne e em⟩
  · exact w_ifT rfl (w_okZ (Or.inl rfl) (w_some ⟨Or.inr ⟨rfl, h1⟩, hy, fr_rf⟩))
end CH
