/-! the class: diagrams loaded, kept; what a call leaves -/
section W0
variable {O : Type} {Q : O → Prop}
theorem w_tc0 {f : Nat → Option (Nat × ow_MS)} {R : Nat × ow_MS → Prop} {E1 : Nat → ow_MS → Nat → Nat → Option O} {E2 : ow_MS → Nat → Nat → Option O} (hc : Te f R) (H0 : ∀ z1, R (0, z1) → Tt (E2 z1) Q) (H1 : ∀ a z1, a ≠ 0 → R (a, z1) → Tt (E1 a z1) Q) : Tt (fun K k => tc0 (f K) (fun a z => E1 a z K k) (fun z => E2 z K k)) Q := by
  obtain ⟨⟨a, z1⟩, ⟨b, hb⟩, hr⟩ := hc
  by_cases e : a = 0
  · subst e
    obtain ⟨r2, ⟨b2, hb2⟩, hq⟩ := H0 z1 hr
    refine ⟨r2, ⟨b + b2, fun K k hK hk => ?_⟩, hq⟩
    show tc0 (f K) _ _ = _
    rw [hb K (by omega)]
    show (if (0 : Nat) = 0 then E2 z1 K k else E1 0 z1 K k) = _
    rw [if_pos rfl]
    exact hb2 K k (by omega) (by omega)
  · obtain ⟨r2, ⟨b2, hb2⟩, hq⟩ := H1 a z1 e hr
    refine ⟨r2, ⟨b + b2, fun K k hK hk => ?_⟩, hq⟩
    show tc0 (f K) _ _ = _
    rw [hb K (by omega)]
    show (if a = 0 then E2 z1 K k else E1 a z1 K k) = _
    rw [if_neg e]
    exact hb2 K k (by omega) (by omega)
theorem w_tc1 {α : Type} {f : Nat → Option (Nat × α × ow_MS)} {R : Nat × α × ow_MS → Prop} {E1 : Nat → ow_MS → Nat → Nat → Option O} {E2 : α → ow_MS → Nat → Nat → Option O} (hc : Te f R) (H0 : ∀ v z1, R (0, v, z1) → Tt (E2 v z1) Q) (H1 : ∀ a v z1, a ≠ 0 → R (a, v, z1) → Tt (E1 a z1) Q) : Tt (fun K k => tc1 (f K) (fun a z => E1 a z K k) (fun v z => E2 v z K k)) Q := by
  obtain ⟨⟨a, v, z1⟩, ⟨b, hb⟩, hr⟩ := hc
  by_cases e : a = 0
  · subst e
    obtain ⟨r2, ⟨b2, hb2⟩, hq⟩ := H0 v z1 hr
    refine ⟨r2, ⟨b + b2, fun K k hK hk => ?_⟩, hq⟩
    show tc1 (f K) _ _ = _
    rw [hb K (by omega)]
    show (if (0 : Nat) = 0 then E2 v z1 K k else E1 0 z1 K k) = _
    rw [if_pos rfl]
    exact hb2 K k (by omega) (by omega)
  · obtain ⟨r2, ⟨b2, hb2⟩, hq⟩ := H1 a v z1 e hr
    refine ⟨r2, ⟨b + b2, fun K k hK hk => ?_⟩, hq⟩
    show tc1 (f K) _ _ = _
    rw [hb K (by omega)]
    show (if a = 0 then E2 v z1 K k else E1 a z1 K k) = _
    rw [if_neg e]
    exact hb2 K k (by omega) (by omega)
end W0
/-- codes that are written from components -/
def okC (C : cdT) : Prop := ∃ A sg c, okL A c ∧ C = clC sg A
theorem okC_ok {C : cdT} (h : okC C) : cOK C := by
  obtain ⟨A, sg, c, h1, h2⟩ := h
  rw [h2]
  exact (okL_c h1).2
/-- the places of the diagrams -/
def dgC (y : ow_MS) : Prop := byR y 1001 ∧ ∀ d, d < 40 → (∃ c, c ≤ 12 ∧ slC y 1000 d (c, [])) ∨ ∃ C, slC y 1000 d C ∧ okC C ∧ 0 < C.2.length
theorem dgC_E {y : ow_MS} (h : dgC y) : dgE y := by
  intro d hd
  rcases h.2 d hd with ⟨c, h1, h2⟩ | ⟨C, h1, h2, h3⟩
  · exact Or.inl h2.2.1
  · exact Or.inr ⟨C, h1, okC_ok h2, h3⟩
/-- the nets' numbers -/
def nsC (y : ow_MS) : Prop := ∀ h, nH h → ∃ T, cAt y h T ∧ ow_b24 T.2.2.1
/-- the coders' rows -/
def kdC (y : ow_MS) : Prop := ∀ k, kH k → byR y (k + 1001) ∧ byR y (k + 2001) ∧ byR y (k + 3001)
def gN (y : ow_MS) : Prop := dgC y ∧ nsC y ∧ kdC y
theorem byR_fr {P : Nat → Prop} {y y1 : ow_MS} {g : Nat} (hf : fr P y y1) (hP : ¬ P g) (h : byR y g) : byR y1 g := by
  intro i
  rw [(hf g hP).2.1]
  exact h i
theorem dgC_fr {P : Nat → Prop} {y y1 : ow_MS} (hf : fr P y y1) (hP : ∀ g, 1001 ≤ g → g ≤ 1003 → ¬ P g) (h : dgC y) : dgC y1 := by
  have hs : ∀ d C, slC y 1000 d C → slC y1 1000 d C := fun d C hc => slC_fr hf (fun q hq => hP q (by unfold cW at hq; omega) (by unfold cW at hq; omega)) hc
  refine ⟨byR_fr hf (hP 1001 (by omega) (by omega)) h.1, fun d hd => ?_⟩
  rcases h.2 d hd with ⟨c, h1, h2⟩ | ⟨C, h1, h2, h3⟩
  · exact Or.inl ⟨c, h1, hs d _ h2⟩
  · exact Or.inr ⟨C, hs d C h1, h2, h3⟩
theorem kdC_fr {P : Nat → Prop} {y y1 : ow_MS} (hf : fr P y y1) (hP : ∀ g, P g → g ≠ 8001 ∧ g ≠ 9001 ∧ g ≠ 10001 ∧ g ≠ 21001 ∧ g ≠ 22001 ∧ g ≠ 23001) (h : kdC y) : kdC y1 := by
  intro k hk
  have hb := h k hk
  rcases hk with rfl | rfl
  · exact ⟨byR_fr hf (fun h9 => (hP _ h9).1 rfl) hb.1, byR_fr hf (fun h9 => (hP _ h9).2.1 rfl) hb.2.1, byR_fr hf (fun h9 => (hP _ h9).2.2.1 rfl) hb.2.2⟩
  · exact ⟨byR_fr hf (fun h9 => (hP _ h9).2.2.2.1 rfl) hb.1, byR_fr hf (fun h9 => (hP _ h9).2.2.2.2.1 rfl) hb.2.1, byR_fr hf (fun h9 => (hP _ h9).2.2.2.2.2 rfl) hb.2.2⟩
theorem nH_far {h h' : Nat} (hh : nH h) (hh' : nH h') (hne : h ≠ h') : h + 1000 ≤ h' ∨ h' + 1000 ≤ h := by
  have key : ∀ a, a ∈ nHL → a % 1000 = 0 := by decide
  have h1 := key h hh
  have h2 := key h' hh'
  omega
theorem nsC_put {P : Nat → Prop} {y y1 : ow_MS} {h : Nat} (hh : nH h) (hf : fr P y y1) (hP : ∀ h', nH h' → h' ≠ h → ∀ g, cP h' g → ¬ P g) (hT : ∃ T, cAt y1 h T ∧ ow_b24 T.2.2.1) (hn : nsC y) : nsC y1 := by
  intro h' hh'
  by_cases e : h' = h
  · rw [e]
    exact hT
  · obtain ⟨T, h1, h2⟩ := hn h' hh'
    exact ⟨T, cAt_fr hf (hP h' hh' e) h1, h2⟩
theorem nsC_fr {P : Nat → Prop} {y y1 : ow_MS} (hf : fr P y y1) (hP : ∀ h', nH h' → ∀ g, cP h' g → ¬ P g) (hn : nsC y) : nsC y1 := by
  intro h' hh'
  obtain ⟨T, h1, h2⟩ := hn h' hh'
  exact ⟨T, cAt_fr hf (hP h' hh') h1, h2⟩
/-- what a call on diagrams may change -/
def uP (g : Nat) : Prop := 1001 ≤ g ∧ g ≤ 1005 ∨ 4001 ≤ g ∧ g ≤ 5011 ∨ 7004 ≤ g ∧ g ≤ 10005
theorem nH4 : nH 4000 := by unfold nH nHL; exact List.mem_cons_self
theorem nH5 : nH 5000 := by unfold nH nHL; exact List.mem_cons_of_mem _ List.mem_cons_self
def isO (y : ow_MS) (x : Int32) : Prop := ∃ d A sg c, d < 40 ∧ x = nI d ∧ slC y 1000 d (clC sg A) ∧ okL A c ∧ A ≠ []
theorem isD_O {y : ow_MS} {x : Int32} (h : dgC y) (hD : isD y x) : isO y x := by
  obtain ⟨d, C, h1, h2, h3, h4, h5⟩ := hD
  have hl30 := h4.2.1
  rcases h.2 d h1 with ⟨c, q1, q2⟩ | ⟨C', q1, ⟨A, sg, c, q2, q3⟩, q4⟩
  · have : nI C.2.length = nI 0 := h3.2.1.symm.trans q2.2.1
    have := nI_inj9 (by omega) (by omega) this
    omega
  · rw [q3] at q1 q4
    refine ⟨d, A, sg, c, h1, h2, q1, q2, fun e => ?_⟩
    rw [e] at q4
    exact Nat.lt_irrefl _ q4
/-- a net within the region that may change -/
theorem gN_net {h : Nat} {P : Nat → Prop} {y y1 : ow_MS} (hh : nH h) (hf : fr P y y1) (hP : ∀ g, P g → h + 1 ≤ g ∧ g ≤ h + 11) (hT : ∃ T, cAt y1 h T ∧ ow_b24 T.2.2.1) (hN : gN y) : gN y1 := by
  have h4 : 4000 ≤ h ∧ h ≤ 44000 := nH_all (P := fun h => 4000 ≤ h ∧ h ≤ 44000) (by decide) hh
  have key2 : ∀ a, a ∈ nHL → a ≠ 8000 ∧ a ≠ 9000 ∧ a ≠ 10000 ∧ a ≠ 21000 ∧ a ≠ 22000 ∧ a ≠ 23000 := by decide
  have hm := key2 h hh
  have key : ∀ a, a ∈ nHL → a % 1000 = 0 := by decide
  have h0 := key h hh
  refine ⟨dgC_fr hf (fun g g1 g2 h9 => by have := hP g h9; omega) hN.1, nsC_put hh hf (fun h' hh' hne g hg h9 => ?_) hT hN.2.1, kdC_fr hf (fun g h9 => ?_) hN.2.2⟩
  · have := hP g h9
    have := nH_far hh' hh hne
    unfold cP at hg
    omega
  · have := hP g h9
    omega
section CU
variable {vl : Nat → Nat} {y : ow_MS} {x : Int32}
theorem tc_need (hN : dgC y) : Te (fun K => ce_X11_needDiagram vl K 0 x y) (fun r => (r.1 = 0 ∧ isO y x ∨ r.1 = 1 ∧ ∀ d, d < 40 → x = nI d → y.2.1 1002 d = 0) ∧ r.2 = y) := by
  refine w_monoE (tc_needDiagram (dgC_E hN)) ?_
  rintro r ⟨h1 | h1, h2⟩
  · exact ⟨Or.inl ⟨h1.1, isD_O hN h1.2⟩, h2⟩
  · exact ⟨Or.inr h1, h2⟩
theorem tc_ld {h d c : Nat} {A : rn_L} {sg : Nat → Bool} (hh : nH h) (hN : gN y) (hd : d < 40) (hs : slC y 1000 d (clC sg A)) (hA : okL A c) : Te (fun K => ce_X7_load vl K h 1000 (nI d) y) (fun y1 => gN y1 ∧ fr (cL h) y y1 ∧ ∃ T1, shA y1 h A sg T1 ∧ T1.1 = c ∧ T1.2.1 = cirs A) := by
  obtain ⟨T, hT, hb⟩ := hN.2.1 h hh
  have h4 : 4000 ≤ h := nH_all (P := fun h => 4000 ≤ h) (by decide) hh
  refine w_monoE (tc_load2 hh ch_1000 (by omega) hd hA hs hT hb) ?_
  rintro y1 ⟨⟨T1, h1, h2, h3⟩, h5⟩
  refine ⟨gN_net hh h5 (fun g hg => by unfold cL at hg; omega) ⟨T1, h1.1, h1.2.2.1.2.2.1⟩ hN, h5, T1, h1, h2, h3⟩
theorem e_X11_keep {vl : Nat → Nat} {r0 : Nat} {x1 : Int32} {z : ow_MS} {Q : (Int32 × ow_MS) → Prop} (H : Tt (fun K _ => cm_X11_keep_0 vl K x1 r0 z) Q) : Te (fun K => ce_X11_keep vl K r0 x1 z) Q := w_te0 H
/-- a net is given a code and the code a place -/
theorem tc_keep {d : Nat} {T : ow_NT} (hN : gN y) (hd : d < 40) (hy : cAt y 4000 T) (hT : nv T) : Te (fun K => ce_X11_keep vl K 0 (nI d) y) (fun r => r.1 = nI d ∧ gN r.2 ∧ fr uP y r.2 ∧ (∃ Cs os, cpZ T (np_parts T.1 T.2.2.1.1).2 Cs os ∧ slC r.2 1000 d (enC T Cs os)) ∧ (∀ e C, e ≠ d → cOK C → slC y 1000 e C → slC r.2 1000 e C) ∧ cAt r.2 4000 T) := by
  have hk : kH 7000 := Or.inl rfl
  have hb := hN.2.2 7000 hk
  refine e_X11_keep ?_; unfold cm_X11_keep_0
  refine w_cs0 (tc_encode hk nH4 hy hT hb.1 hb.2.1 hb.2.2) ?_
  rintro y1 ⟨⟨Cs, os, z1, z2, z3⟩, b1, b2, b3, hy1, f1⟩
  obtain ⟨A', sg', q1, q2, -⟩ := enc_ok hT z1
  have hfu : fr uP y y1 := fr_mono (fun g hg => by
    unfold enP cpP epP cV cQ at hg
    unfold uP
    omega) f1
  have hN1 : gN y1 := by
    refine ⟨dgC_fr f1 (fun g g1 g2 h9 => by unfold enP cpP epP cV cQ at h9; omega) hN.1, nsC_put nH4 f1 (fun h' hh' hne g hg h9 => ?_) ⟨T, hy1, hT.2.2.1⟩ hN.2.1, fun k hk2 => ?_⟩
    · have h8 := nH_far hh' nH4 hne
      have h7 := kH_dj hk hh'
      unfold cP at hg
      unfold enP cpP epP cV cQ at h9
      omega
    · rcases hk2 with rfl | rfl
      · exact ⟨b1, b2, b3⟩
      · have hb9 := hN.2.2 20000 (Or.inr rfl)
        exact ⟨byR_fr f1 (by unfold enP cpP epP cV cQ; omega) hb9.1, byR_fr f1 (by unfold enP cpP epP cV cQ; omega) hb9.2.1, byR_fr f1 (by unfold enP cpP epP cV cQ; omega) hb9.2.2⟩
  refine w_cs0 (tc_write ch_1000 (kH_out hk) (by omega) hd Nat.one_pos z2 z3 b1) ?_
  rintro y2 ⟨w1, w2, w3, w4⟩
  have hfu2 : fr uP y1 y2 := fr_mono (fun g hg => by
    unfold cW at hg
    unfold uP
    omega) w4
  have hsl : ∀ e C, e ≠ d → cOK C → slC y 1000 e C → slC y2 1000 e C := by
    intro e C hne oC hC
    refine w2 e C hne oC (slC_fr f1 (fun q hq h9 => ?_) hC)
    unfold cW at hq
    unfold enP cpP epP cV cQ at h9
    omega
  refine w_some ⟨rfl, ⟨⟨w3 hN1.1.1, fun e he => ?_⟩, nsC_fr w4 (fun h' hh' g hg h9 => ?_) hN1.2.1, kdC_fr w4 (fun g h9 => ?_) hN1.2.2⟩, fr_tr hfu hfu2, ⟨Cs, os, z1, w1⟩, hsl, cAt_fr w4 (fun q hq h9 => by unfold cP at hq; unfold cW at h9; omega) hy1⟩
  · by_cases ed : e = d
    · rw [ed]
      by_cases el : (enC T Cs os).2 = []
      · refine Or.inl ⟨T.1, hT.2.1, ?_⟩
        have : enC T Cs os = (T.1, []) := Prod.ext rfl el
        rw [← this]
        exact w1
      · exact Or.inr ⟨_, w1, ⟨A', sg', T.1, q1, q2⟩, List.length_pos_iff.mpr el⟩
    · rcases hN.1.2 e he with ⟨c, c1, c2⟩ | ⟨C, c1, c2, c3⟩
      · exact Or.inl ⟨c, c1, hsl e _ ed ⟨c1, Nat.zero_le _, fun a ha => by cases ha⟩ c2⟩
      · exact Or.inr ⟨C, hsl e C ed (okC_ok c2) c1, c2, c3⟩
  · have h4 : 4000 ≤ h' := nH_all (P := fun h => 4000 ≤ h) (by decide) hh'
    unfold cP at hg
    unfold cW at h9
    omega
  · unfold cW at h9
    omega
/-- a flip keeps a net valid -/
theorem nv_flip {T : ow_NT} {x : Nat} {G : Nat → Int32} (hT : nv T) (hx : x < T.1) : nv (T.1, T.2.1, np_swap T.2.2.1 (2 * x) (2 * x + 1), G) := nv_swap hT (show 2 * x < 2 * T.1 by omega) (show 2 * x + 1 < 2 * T.1 by omega)
theorem e_X11_mirror {vl : Nat → Nat} {r0 : Nat} {x1 : Int32} {z : ow_MS} {Q : (Nat × Int32 × ow_MS) → Prop} (H : Tt (fun K k => c_X11_mirror vl K k 0 x1 0 0 r0 z) Q) : Te (fun K => ce_X11_mirror vl K r0 x1 z) Q := w_te H
theorem u_X11_mirror_0 {vl : Nat → Nat} {x1 : Int32} {x2 : Int32} {x3 : Int32} {r0 : Nat} {z : ow_MS} {Q : (Nat × Int32 × ow_MS) → Prop} (H : Tt (fun K k => cm_X11_mirror_0 vl K (c_X11_mirror vl K k) x1 x2 x3 r0 z) Q) : Tt (fun K k => c_X11_mirror vl K k 0 x1 x2 x3 r0 z) Q := w_un (fun _ _ => rfl) H
theorem u_X11_mirror_1 {vl : Nat → Nat} {x1 : Int32} {x2 : Int32} {x3 : Int32} {r0 : Nat} {z : ow_MS} {Q : (Nat × Int32 × ow_MS) → Prop} (H : Tt (fun K k => cm_X11_mirror_1 vl K (c_X11_mirror vl K k) x1 x2 x3 r0 z) Q) : Tt (fun K k => c_X11_mirror vl K k 1 x1 x2 x3 r0 z) Q := w_un (fun _ _ => rfl) H
theorem tc_mirror (hN : gN y) : Te (fun K => ce_X11_mirror vl K 0 x y) (fun r => gN r.2.2 ∧ fr uP y r.2.2) := by
  let Q : Nat × Int32 × ow_MS → Prop := fun r => gN r.2.2 ∧ fr uP y r.2.2
  refine e_X11_mirror ?_
  refine u_X11_mirror_0 ?_; unfold cm_X11_mirror_0
  refine w_tc0 (tc_need hN.1) ?_ ?_
  · rintro y1 ⟨h1, rfl⟩
    rcases h1 with ⟨-, d, A, sg, c, hd, rfl, hs, hA, hne⟩ | h1
    · refine w_tc1 (tc_freeDiagram (dgC_E hN.1)) ?_ ?_
      · rintro v y2 ⟨h2, rfl⟩
        rcases h2 with ⟨e, he, -, rfl, h3, h4⟩ | h2
        · refine w_cs0 (tc_ld nH4 hN hd hs hA) ?_
          rintro y3 ⟨hN3, f3, T, hT, hT1, hT2⟩
          have f3u : fr uP y2 y3 := fr_mono (fun g hg => by unfold cL at hg; unfold uP; omega) f3
          have c1 : ∀ (k i : Nat) (y4 : ow_MS) (T4 : ow_NT), i + k = T4.1 → cAt y4 4000 T4 → nv T4 → gN y4 → fr uP y2 y4 → Tt (fun K t => c_X11_mirror vl K t 1 (nI d) (nI e) (nI i) 0 y4) Q := by
            intro k
            induction k with
            | zero =>
              intro i y4 T4 hi hc4 hv4 hN4 f4
              have h12 := hv4.2.1
              refine u_X11_mirror_1 ?_; unfold cm_X11_mirror_1
              refine w_rdF hc4.1 (w_leT (by omega) (by omega) (w_cs1 (tc_keep hN4 he hc4 hv4) ?_))
              rintro r y5 ⟨-, g1, g2, -⟩
              exact w_some ⟨g1, fr_tr f4 g2⟩
            | succ k ih =>
              intro i y4 T4 hi hc4 hv4 hN4 f4
              have h12 := hv4.2.1
              refine u_X11_mirror_1 ?_; unfold cm_X11_mirror_1
              refine w_rdF hc4.1 (w_leF (by omega) (by omega) (w_cs0 (tc_flipCrossing nH4 hc4 hv4.2.2.1 (show i < 12 by omega)) ?_))
              rintro y5 ⟨g1, g2⟩
              rw [nI_1]
              have hv5 := nv_flip (G := su T4.2.2.2 i (- T4.2.2.2 i)) hv4 (show i < T4.1 by omega)
              refine ih (i + 1) y5 _ ?_ g1 hv5 (gN_net nH4 g2 (fun g hg => by unfold cP at hg; omega) ⟨_, g1, hv5.2.2.1⟩ hN4) (fr_tr f4 (fr_mono (fun g hg => by unfold cP at hg; unfold uP; omega) g2))
              show i + 1 + k = T4.1
              omega
          exact c1 T.1 0 y3 T (by omega) hT.1 hT.2.2.1 hN3 f3u
        · exact absurd (show (0 : Nat) = 3 from h2.1) (by decide)
      · rintro a v y2 ha ⟨h2, rfl⟩
        exact w_some ⟨hN, fr_rf⟩
    · exact absurd (show (0 : Nat) = 1 from h1.1) (by decide)
  · rintro a y1 ha ⟨h1, rfl⟩
    exact w_some ⟨hN, fr_rf⟩
theorem e_X11_needCrossing {vl : Nat → Nat} {r0 : Nat} {x1 : Int32} {z : ow_MS} {Q : (Nat × ow_MS) → Prop} (H : Tt (fun K _ => cm_X11_needCrossing_0 vl K x1 r0 z) Q) : Te (fun K => ce_X11_needCrossing vl K r0 x1 z) Q := w_te0 H
theorem tc_needCrossing {c : Nat} (h8 : y.1 4008 = nI c) (hc : c ≤ 12) : Te (fun K => ce_X11_needCrossing vl K 0 x y) (fun r => ((r.1 = 0 ∧ ∃ i, i < c ∧ x = nI i) ∨ r.1 = 1 ∧ ∀ i, i < c → x ≠ nI i) ∧ r.2 = y) := by
  refine e_X11_needCrossing ?_; unfold cm_X11_needCrossing_0
  refine w_if (fun e => w_some ⟨Or.inr ⟨rfl, fun i hi ex => ?_⟩, rfl⟩) (fun e => ?_)
  · rw [ex] at e
    exact nI_pos (by omega) e
  · obtain ⟨i, i31, rfl⟩ := nI_of e
    refine w_rdF h8 (w_lt i31 (by omega) (fun h9 => w_some ⟨Or.inl ⟨rfl, i, h9, rfl⟩, rfl⟩) (fun h9 => w_some ⟨Or.inr ⟨rfl, fun j hj ex => ?_⟩, rfl⟩))
    have := (nI_eq i31 (by omega)).mp ex
    omega
theorem e_X11_needComponent {vl : Nat → Nat} {r0 : Nat} {x1 : Int32} {z : ow_MS} {Q : (Nat × ow_MS) → Prop} (H : Tt (fun K _ => cm_X11_needComponent_0 vl K x1 r0 z) Q) : Te (fun K => ce_X11_needComponent vl K r0 x1 z) Q := w_te0 H
theorem tc_needComponent {c : Nat} (h8 : y.1 4010 = nI c) (hc : c ≤ 12) : Te (fun K => ce_X11_needComponent vl K 0 x y) (fun r => ((r.1 = 0 ∧ ∃ i, i < c ∧ x = nI i) ∨ r.1 = 1 ∧ ∀ i, i < c → x ≠ nI i) ∧ r.2 = y) := by
  refine e_X11_needComponent ?_; unfold cm_X11_needComponent_0
  refine w_if (fun e => w_some ⟨Or.inr ⟨rfl, fun i hi ex => ?_⟩, rfl⟩) (fun e => ?_)
  · rw [ex] at e
    exact nI_pos (by omega) e
  · obtain ⟨i, i31, rfl⟩ := nI_of e
    refine w_rdF h8 (w_lt i31 (by omega) (fun h9 => w_some ⟨Or.inl ⟨rfl, i, h9, rfl⟩, rfl⟩) (fun h9 => w_some ⟨Or.inr ⟨rfl, fun j hj ex => ?_⟩, rfl⟩))
    have := (nI_eq i31 (by omega)).mp ex
    omega
theorem e_X11_change {vl : Nat → Nat} {r0 : Nat} {x1 : Int32} {x2 : Int32} {z : ow_MS} {Q : (Nat × Int32 × ow_MS) → Prop} (H : Tt (fun K _ => cm_X11_change_0 vl K x1 x2 r0 z) Q) : Te (fun K => ce_X11_change vl K r0 x1 x2 z) Q := w_te0 H
theorem tc_change {x' : Int32} (hN : gN y) : Te (fun K => ce_X11_change vl K 0 x x' y) (fun r => gN r.2.2 ∧ fr uP y r.2.2) := by
  refine e_X11_change ?_; unfold cm_X11_change_0
  refine w_tc0 (tc_need hN.1) ?_ ?_
  · rintro y1 ⟨h1, rfl⟩
    rcases h1 with ⟨-, d, A, sg, c, hd, rfl, hs, hA, hne⟩ | h1
    · refine w_cs0 (tc_ld nH4 hN hd hs hA) ?_
      rintro y3 ⟨hN3, f3, T, hT, hT1, hT2⟩
      have f3u : fr uP y1 y3 := fr_mono (fun g hg => by unfold cL at hg; unfold uP; omega) f3
      have hv := hT.2.2.1
      refine w_tc0 (tc_needCrossing hT.1.1 hv.2.1) ?_ ?_
      · rintro y4 ⟨h4, rfl⟩
        rcases h4 with ⟨-, i, hi, rfl⟩ | h4
        · refine w_tc1 (tc_freeDiagram (dgC_E hN3.1)) ?_ ?_
          · rintro v y5 ⟨h5, rfl⟩
            rcases h5 with ⟨e, he, -, rfl, -, -⟩ | h5
            · have h12 := hv.2.1
              refine w_cs0 (tc_flipCrossing nH4 hT.1 hv.2.2.1 (show i < 12 by omega)) ?_
              rintro y6 ⟨g1, g2⟩
              have hv5 := nv_flip (G := su T.2.2.2 i (- T.2.2.2 i)) hv hi
              refine w_cs1 (tc_keep (gN_net nH4 g2 (fun g hg => by unfold cP at hg; omega) ⟨_, g1, hv5.2.2.1⟩ hN3) he g1 hv5) ?_
              rintro r y7 ⟨-, q1, q2, -⟩
              exact w_some ⟨q1, fr_tr f3u (fr_tr (fr_mono (fun g hg => by unfold cP at hg; unfold uP; omega) g2) q2)⟩
            · exact absurd (show (0 : Nat) = 3 from h5.1) (by decide)
          · rintro a v y5 ha ⟨h5, rfl⟩
            exact w_some ⟨hN3, f3u⟩
        · exact absurd (show (0 : Nat) = 1 from h4.1) (by decide)
      · rintro a y4 ha ⟨h4, rfl⟩
        exact w_some ⟨hN3, f3u⟩
    · exact absurd (show (0 : Nat) = 1 from h1.1) (by decide)
  · rintro a y1 ha ⟨h1, rfl⟩
    exact w_some ⟨hN, fr_rf⟩
end CU
