/-! the class: figure, visit, linking, smooth -/
section CV
variable {vl : Nat → Nat} {y : ow_MS} {x x' : Int32}
/-- what figure answers of a net T that shows A -/
def figA (A : rn_L) (T : ow_NT) (x r : Int32) : Prop := (x = 0 → r = nI T.1) ∧ (x = 1 → r = nI A.length) ∧ (x = 2 → r = nI T.2.1) ∧ (x = 3 → r = nI ((np_parts T.1 T.2.2.1.1).2 + T.2.1)) ∧ (x = 4 → r = np_sum T.2.2.2 T.1) ∧ (x = 5 → (r = 1 ∧ (∀ v, v < 2 * T.1 → (nI v &&& 1) ≠ (nI (T.2.2.1.1 v) &&& 1)) ∨ r = 0 ∧ ∃ v, v < 2 * T.1 ∧ (nI v &&& 1) = (nI (T.2.2.1.1 v) &&& 1)))
def noD (y : ow_MS) (x : Int32) : Prop := ∀ d, d < 40 → x = nI d → y.2.1 1002 d = 0
theorem five {x : Int32} (h0 : ¬ x < 0) (h5 : x ≤ 5) : x = 0 ∨ x = 1 ∨ x = 2 ∨ x = 3 ∨ x = 4 ∨ x = 5 := by
  obtain ⟨n, n31, rfl⟩ := nI_of h0
  have hn : n ≤ 5 := (nI_leI n31 (by omega : 5 < 2 ^ 31)).mp h5
  have : n = 0 ∨ n = 1 ∨ n = 2 ∨ n = 3 ∨ n = 4 ∨ n = 5 := by omega
  rcases this with rfl | rfl | rfl | rfl | rfl | rfl
  · exact Or.inl rfl
  · exact Or.inr (Or.inl rfl)
  · exact Or.inr (Or.inr (Or.inl rfl))
  · exact Or.inr (Or.inr (Or.inr (Or.inl rfl)))
  · exact Or.inr (Or.inr (Or.inr (Or.inr (Or.inl rfl))))
  · exact Or.inr (Or.inr (Or.inr (Or.inr (Or.inr rfl))))
theorem e_X11_figure {vl : Nat → Nat} {r0 : Nat} {x1 : Int32} {x2 : Int32} {z : ow_MS} {Q : (Nat × Int32 × ow_MS) → Prop} (H : Tt (fun K _ => cm_X11_figure_0 vl K x1 x2 r0 z) Q) : Te (fun K => ce_X11_figure vl K r0 x1 x2 z) Q := w_te0 H
theorem tc_figure (hN : gN y) : Te (fun K => ce_X11_figure vl K 0 x x' y) (fun r => gN r.2.2 ∧ fr uP y r.2.2 ∧ (r.1 = 1 ∧ noD y x ∨ r.1 = 2 ∧ isO y x ∧ (x' < 0 ∨ ¬ x' ≤ 5) ∨ r.1 = 0 ∧ ¬ x' < 0 ∧ x' ≤ 5 ∧ ∃ d A sg c T, d < 40 ∧ x = nI d ∧ slC y 1000 d (clC sg A) ∧ okL A c ∧ A ≠ [] ∧ isoN A sg (fun x => x) T ∧ nv T ∧ figA A T x' r.2.1)) := by
  refine e_X11_figure ?_; unfold cm_X11_figure_0
  refine w_tc0 (tc_need hN.1) ?_ ?_
  · rintro y1 ⟨h1, rfl⟩
    rcases h1 with ⟨-, hO⟩ | h1
    · have hO' := hO
      obtain ⟨d, A, sg, c, hd, rfl, hs, hA, hne⟩ := hO
      refine w_if (fun e => w_some ⟨hN, fr_rf, Or.inr (Or.inl ⟨rfl, hO', Or.inl e⟩)⟩) (fun e0 => w_if (fun e5 => ?_) (fun e => w_some ⟨hN, fr_rf, Or.inr (Or.inl ⟨rfl, hO', Or.inr e⟩)⟩))
      refine w_cs0 (tc_ld nH4 hN hd hs hA) ?_
      rintro y3 ⟨hN3, f3, T, hT, hT1, hT2⟩
      have f3u : fr uP y1 y3 := fr_mono (fun g hg => by unfold cL at hg; unfold uP; omega) f3
      have hv := hT.2.2.1
      have hx6 := five e0 e5
      have fin : ∀ (v : Int32) (y4 : ow_MS), gN y4 → fr uP y1 y4 → figA A T x' v → Tt (fun _ _ => some ((0 : Nat), v, y4)) (fun r => gN r.2.2 ∧ fr uP y1 r.2.2 ∧ (r.1 = 1 ∧ noD y1 (nI d) ∨ r.1 = 2 ∧ isO y1 (nI d) ∧ (x' < 0 ∨ ¬ x' ≤ 5) ∨ r.1 = 0 ∧ ¬ x' < 0 ∧ x' ≤ 5 ∧ ∃ d' A sg c T, d' < 40 ∧ nI d = nI d' ∧ slC y1 1000 d' (clC sg A) ∧ okL A c ∧ A ≠ [] ∧ isoN A sg (fun x => x) T ∧ nv T ∧ figA A T x' r.2.1)) := fun v y4 g1 g2 g3 => w_some ⟨g1, g2, Or.inr (Or.inr ⟨rfl, e0, e5, d, A, sg, c, T, hd, rfl, hs, hA, hne, hT.2.1, hv, g3⟩)⟩
      refine w_if (fun e => ?_) (fun e => ?_)
      · refine w_cs1 (tc_alternates nH4 hT.1 hv.2.1) ?_
        rintro v y4 ⟨h4, rfl⟩
        have hx5 : x' = 5 := by
          rcases hx6 with rfl | rfl | rfl | rfl | rfl | rfl
          · exact absurd e (by decide)
          · exact absurd e (by decide)
          · exact absurd e (by decide)
          · exact absurd e (by decide)
          · exact absurd e (by decide)
          · rfl
        have hf : ∀ r : Int32, (r = 1 ∧ (∀ v, v < 2 * T.1 → (nI v &&& 1) ≠ (nI (T.2.2.1.1 v) &&& 1)) ∨ r = 0 ∧ ∃ v, v < 2 * T.1 ∧ (nI v &&& 1) = (nI (T.2.2.1.1 v) &&& 1)) → figA A T x' r := by
          intro r hr
          rw [hx5]
          exact ⟨fun h => absurd h (by decide), fun h => absurd h (by decide), fun h => absurd h (by decide), fun h => absurd h (by decide), fun h => absurd h (by decide), fun _ => hr⟩
        dsimp only at h4
        rcases h4 with ⟨rfl, h5⟩ | ⟨rfl, h5⟩
        · exact w_ifF (by decide) (fin 1 y4 hN3 f3u (hf 1 (Or.inl ⟨rfl, h5⟩)))
        · exact w_ifT rfl (fin 0 y4 hN3 f3u (hf 0 (Or.inr ⟨rfl, h5⟩)))
      · have ci6 : T.2.1 ≤ 6 := by have := hv.2.2.2; omega
        refine w_if (fun e1 => ?_) (fun n0 => w_if (fun e1 => ?_) (fun n1 => w_if (fun e1 => ?_) (fun n2 => w_if (fun e1 => ?_) (fun n3 => w_if (fun e1 => ?_) (fun n4 => ?_)))))
        · subst e1
          exact w_rdF hT.1.1 (fin _ y3 hN3 f3u ⟨fun _ => rfl, fun h => absurd h (by decide), fun h => absurd h (by decide), fun h => absurd h (by decide), fun h => absurd h (by decide), fun h => absurd h (by decide)⟩)
        · subst e1
          exact w_rdF hT.2.2.2.2.2 (fin _ y3 hN3 f3u ⟨fun h => absurd h (by decide), fun _ => rfl, fun h => absurd h (by decide), fun h => absurd h (by decide), fun h => absurd h (by decide), fun h => absurd h (by decide)⟩)
        · subst e1
          exact w_rdF hT.1.2.1 (fin _ y3 hN3 f3u ⟨fun h => absurd h (by decide), fun h => absurd h (by decide), fun _ => rfl, fun h => absurd h (by decide), fun h => absurd h (by decide), fun h => absurd h (by decide)⟩)
        · subst e1
          refine w_cs0 (tc_markParts nH4 hT.1 (fun a ha => (hv.1 a ha).1) hv.2.1) ?_
          rintro y4 ⟨m1, m2, m3⟩
          have hof := np_parts_of (N := T.2.2.1.1) (c := T.1) (fun a ha => (hv.1 a ha).1) hv.2.1 (y3.2.1 (4000 + 6))
          rw [hof.2] at m2
          have hy4 : cAt y4 4000 T := cAt_fr m3 (fun g hg h9 => by unfold cP at hg; unfold cQ at h9; omega) hT.1
          refine w_rdF m2 (w_rdF hy4.2.1 ?_)
          rw [nI_add]
          exact fin _ y4 (gN_net nH4 m3 (fun g hg => by unfold cQ at hg; omega) ⟨T, hy4, hv.2.2.1⟩ hN3) (fr_tr f3u (fr_mono (fun g hg => by unfold cQ at hg; unfold uP; omega) m3)) ⟨fun h => absurd h (by decide), fun h => absurd h (by decide), fun h => absurd h (by decide), fun _ => rfl, fun h => absurd h (by decide), fun h => absurd h (by decide)⟩
        · subst e1
          refine w_cs1 (tc_writhe nH4 hT.1 hv.2.1) ?_
          rintro v y4 ⟨h4, rfl⟩
          dsimp only at h4
          exact fin _ y4 hN3 f3u ⟨fun h => absurd h (by decide), fun h => absurd h (by decide), fun h => absurd h (by decide), fun h => absurd h (by decide), fun _ => h4, fun h => absurd h (by decide)⟩
        · exfalso
          rcases hx6 with h | h | h | h | h | h
          · exact n0 h
          · exact n1 h
          · exact n2 h
          · exact n3 h
          · exact n4 h
          · rw [h] at e
            exact e (by decide)
    · exact absurd (show (0 : Nat) = 1 from h1.1) (by decide)
  · rintro a y1 ha ⟨h1, rfl⟩
    rcases h1 with h1 | h1
    · exact absurd h1.1 ha
    · have e : a = 1 := h1.1
      rw [e]
      exact w_some ⟨hN, fr_rf, Or.inl ⟨rfl, h1.2⟩⟩
/-- what visit answers -/
def visA (A : rn_L) (T : ow_NT) (v : Nat) (x r : Int32) : Prop := (x = 0 → r = nI (rn_c A v)) ∧ (x = 1 → r = nI (crs A v)) ∧ (x = 2 → r = nI (uns A v)) ∧ (x = 3 → r = T.2.2.2 (crs A v))
theorem e_X11_visit {vl : Nat → Nat} {r0 : Nat} {x1 : Int32} {x2 : Int32} {x3 : Int32} {z : ow_MS} {Q : (Nat × Int32 × ow_MS) → Prop} (H : Tt (fun K _ => cm_X11_visit_0 vl K x1 x2 x3 r0 z) Q) : Te (fun K => ce_X11_visit vl K r0 x1 x2 x3 z) Q := w_te0 H
theorem tc_visit {x3 : Int32} (hN : gN y) : Te (fun K => ce_X11_visit vl K 0 x x' x3 y) (fun r => gN r.2.2 ∧ fr uP y r.2.2 ∧ (r.1 = 1 ∧ noD y x ∨ (∃ d A sg c, d < 40 ∧ x = nI d ∧ slC y 1000 d (clC sg A) ∧ okL A c ∧ A ≠ [] ∧ (r.1 = 1 ∧ (∀ v, v < 2 * c → x' ≠ nI v) ∨ (∃ v, v < 2 * c ∧ x' = nI v ∧ (r.1 = 2 ∧ (x3 < 0 ∨ ¬ x3 ≤ 3) ∨ r.1 = 0 ∧ ¬ x3 < 0 ∧ x3 ≤ 3 ∧ ∃ T, isoN A sg (fun x => x) T ∧ visA A T v x3 r.2.1)))))) := by
  refine e_X11_visit ?_; unfold cm_X11_visit_0
  refine w_tc0 (tc_need hN.1) ?_ ?_
  · rintro y1 ⟨h1, rfl⟩
    rcases h1 with ⟨-, d, A, sg, c, hd, rfl, hs, hA, hne⟩ | h1
    · have hc12 := hA.2.2.2.1
      have hl := okF_len hA.1
      have e3 : y1.2.1 1003 d = nI c := by
        have := hs.1
        rw [(okL_c (sg := sg) hA).1] at this
        exact this
      refine w_if (fun e => w_some ⟨hN, fr_rf, Or.inr ⟨d, A, sg, c, hd, rfl, hs, hA, hne, Or.inl ⟨rfl, fun v hv ex => ?_⟩⟩⟩) (fun e0 => ?_)
      · rw [ex] at e
        exact nI_pos (by omega) e
      · obtain ⟨v, v31, rfl⟩ := nI_of e0
        refine w_crI (tH_3 ch_1000) rfl hd e3 ?_
        rw [show (2 : Int32) * nI c = nI (2 * c) from pk_mul 2 _]
        refine w_lt v31 (by omega) (fun hvc => ?_) (fun h9 => w_some ⟨hN, fr_rf, Or.inr ⟨d, A, sg, c, hd, rfl, hs, hA, hne, Or.inl ⟨rfl, fun w hw ex => ?_⟩⟩⟩)
        · refine w_if (fun e => w_some ⟨hN, fr_rf, Or.inr ⟨d, A, sg, c, hd, rfl, hs, hA, hne, Or.inr ⟨v, hvc, rfl, Or.inl ⟨rfl, Or.inl e⟩⟩⟩⟩) (fun f0 => w_if (fun f3 => ?_) (fun e => w_some ⟨hN, fr_rf, Or.inr ⟨d, A, sg, c, hd, rfl, hs, hA, hne, Or.inr ⟨v, hvc, rfl, Or.inl ⟨rfl, Or.inr e⟩⟩⟩⟩))
          refine w_cs0 (tc_ld nH4 hN hd hs hA) ?_
          rintro y3 ⟨hN3, g3, T, hT, hT1, hT2⟩
          have g3u : fr uP y1 y3 := fr_mono (fun g hg => by unfold cL at hg; unfold uP; omega) g3
          have hvl : v < A.flatten.length := by omega
          have hlt := lbv_lt hT.2.1 hvl
          have hhf := lbv_hf hT.2.1 hvl
          have hL24 : lb (vAt A v) < 24 := by
            have : lb (vAt A v) < 2 * T.1 := hlt
            omega
          have hx6 := five f0 (Int32.le_trans f3 (by decide))
          refine w_crI (nH_4 nH4) rfl (by omega) (hT.2.2.2.1 v _ (vAt_of hvl)) ?_
          rw [shr1v ⟨lb (vAt A v), hL24⟩, an1_c ⟨lb (vAt A v), hL24⟩]
          have e1 : lb (vAt A v) / 2 = crs A v := hhf.1
          have e2 : lb (vAt A v) % 2 = uns A v := hhf.2
          dsimp only
          rw [e1, e2]
          have hcr : crs A v < 12 := by omega
          have fin : ∀ (r : Int32), visA A T v x3 r → Tt (fun _ _ => some ((0 : Nat), r, y3)) (fun r => gN r.2.2 ∧ fr uP y1 r.2.2 ∧ (r.1 = 1 ∧ noD y1 (nI d) ∨ (∃ d' A sg c, d' < 40 ∧ nI d = nI d' ∧ slC y1 1000 d' (clC sg A) ∧ okL A c ∧ A ≠ [] ∧ (r.1 = 1 ∧ (∀ w, w < 2 * c → nI v ≠ nI w) ∨ (∃ w, w < 2 * c ∧ nI v = nI w ∧ (r.1 = 2 ∧ (x3 < 0 ∨ ¬ x3 ≤ 3) ∨ r.1 = 0 ∧ ¬ x3 < 0 ∧ x3 ≤ 3 ∧ ∃ T, isoN A sg (fun x => x) T ∧ visA A T w x3 r.2.1)))))) := fun r hr => w_some ⟨hN3, g3u, Or.inr ⟨d, A, sg, c, hd, rfl, hs, hA, hne, Or.inr ⟨v, hvc, rfl, Or.inr ⟨rfl, f0, f3, T, hT.2.1, hr⟩⟩⟩⟩
          refine w_if (fun e => ?_) (fun e => ?_)
          · have hx3 : x3 = 3 := by
              rcases hx6 with rfl | rfl | rfl | rfl | rfl | rfl
              · exact absurd e (by decide)
              · exact absurd e (by decide)
              · exact absurd e (by decide)
              · rfl
              · exact absurd f3 (by decide)
              · exact absurd f3 (by decide)
            subst hx3
            exact w_crI (nH_3 nH4) rfl hcr (hT.1.2.2.2.2 _) (fin _ ⟨fun h => absurd h (by decide), fun h => absurd h (by decide), fun h => absurd h (by decide), fun _ => rfl⟩)
          · refine w_if (fun q => ?_) (fun n0 => w_if (fun q => ?_) (fun n1 => w_if (fun q => ?_) (fun n2 => ?_)))
            · subst q
              exact w_crI (nH_5 nH4) rfl hL24 (hT.2.2.2.2.1 v hvl) (fin _ ⟨fun _ => rfl, fun h => absurd h (by decide), fun h => absurd h (by decide), fun h => absurd h (by decide)⟩)
            · subst q
              exact fin _ ⟨fun h => absurd h (by decide), fun _ => rfl, fun h => absurd h (by decide), fun h => absurd h (by decide)⟩
            · subst q
              exact fin _ ⟨fun h => absurd h (by decide), fun h => absurd h (by decide), fun _ => rfl, fun h => absurd h (by decide)⟩
            · exfalso
              rcases hx6 with h | h | h | h | h | h
              · exact n0 h
              · exact n1 h
              · exact n2 h
              · rw [h] at e
                exact e (by decide)
              · rw [h] at f3
                exact absurd f3 (by decide)
              · rw [h] at f3
                exact absurd f3 (by decide)
        · have := (nI_eq v31 (by omega)).mp ex
          omega
    · exact absurd (show (0 : Nat) = 1 from h1.1) (by decide)
  · rintro a y1 ha ⟨h1, rfl⟩
    rcases h1 with h1 | h1
    · exact absurd h1.1 ha
    · have e : a = 1 := h1.1
      rw [e]
      exact w_some ⟨hN, fr_rf, Or.inl ⟨rfl, h1.2⟩⟩
end CV
