/-! the moves: without, build -/
abbrev frB (g : Nat) : Prop := g < 1000 ∧ g ≠ 12 ∧ g ≠ 28 ∨ 3001 ≤ g ∧ g ≤ 3013
theorem oNet_B {z z1 : ow_MS} {n : Nat} {A : rn_L} {sg : Nat → Bool} (hn : mw_net n) (hn3 : n ≠ 3000) (hf : fr frB z z1) (h : oNet z n A sg) : oNet z1 n A sg := oNet_fr hf (fun g hg => by
  have := net_mod hn
  unfold frB at hg
  omega) h
theorem oF_3 {X : (Nat → Nat → Int32) → Prop} {bb m L : Nat} {P : Nat → Prop} {z z1 : ow_MS} (hf : fr P z z1) (hP : ∀ g, P g → 1000 ≤ g) (h : oF X bb m L z) : oF X bb m L z1 := oF_fr hf (fun g hg => by
  have := hP g hg
  unfold per
  omega) h
section MV
variable {X : (Nat → Nat → Int32) → Prop} {bb m L n : Nat} {z : ow_MS} {A : rn_L} {sg : Nat → Bool}
theorem e_X13_without {r1 : Nat} {x2 : Int32} {x3 : Int32} {z : ow_MS} {Q : ow_MS → Prop} (H : Tt (fun K k => q_X13_without K k 0 x2 x3 0 0 r1 z) Q) : Te (fun K => qe_X13_without K r1 x2 x3 z) Q := w_te H
theorem u_X13_without_0 {x2 : Int32} {x3 : Int32} {x4 : Int32} {x5 : Int32} {r1 : Nat} {z : ow_MS} {Q : ow_MS → Prop} (H : Tt (fun K k => qm_X13_without_0 K (q_X13_without K k) x2 x3 x4 x5 r1 z) Q) : Tt (fun K k => q_X13_without K k 0 x2 x3 x4 x5 r1 z) Q := w_un (fun _ _ => rfl) H
theorem u_X13_without_1 {x2 : Int32} {x3 : Int32} {x4 : Int32} {x5 : Int32} {r1 : Nat} {z : ow_MS} {Q : ow_MS → Prop} (H : Tt (fun K k => qm_X13_without_1 K (q_X13_without K k) x2 x3 x4 x5 r1 z) Q) : Tt (fun K k => q_X13_without K k 1 x2 x3 x4 x5 r1 z) Q := w_un (fun _ _ => rfl) H
theorem u_X13_without_2 {x2 : Int32} {x3 : Int32} {x4 : Int32} {x5 : Int32} {r1 : Nat} {z : ow_MS} {Q : ow_MS → Prop} (H : Tt (fun K k => qm_X13_without_2 K (q_X13_without K k) x2 x3 x4 x5 r1 z) Q) : Tt (fun K k => q_X13_without K k 2 x2 x3 x4 x5 r1 z) Q := w_un (fun _ _ => rfl) H
theorem u_X13_without_3 {x2 : Int32} {x3 : Int32} {x4 : Int32} {x5 : Int32} {r1 : Nat} {z : ow_MS} {Q : ow_MS → Prop} (H : Tt (fun K k => qm_X13_without_3 K (q_X13_without K k) x2 x3 x4 x5 r1 z) Q) : Tt (fun K k => q_X13_without K k 3 x2 x3 x4 x5 r1 z) Q := w_un (fun _ _ => rfl) H
theorem tp_without {x y : Nat} (hn : mw_net n) (hn3 : n ≠ 3000) (hx : x < 40) (hy : y < 40) (hL : L < 2700) (hO : oNet z n A sg) (h : oF X bb m L z) : Te (fun K => qe_X13_without K n (nI x) (nI y) z) (fun z1 => oF X bb m (L + 1) z1 ∧ fr frB z z1) := by
  have hmn := net_mod hn
  have hl := hO.len
  have hC := hO.2.2.2
  have hd := wkF_ok hO.wk
  refine e_X13_without ?_
  refine u_X13_without_0 ?_; unfold qm_X13_without_0
  refine w_cs0 (bm_clear (A := A) pn3) (fun z3 ⟨b3, f3⟩ => w_cs0 (tn_signs pn3 hn (fun e => hn3 e.symm)) (fun z4 ⟨f4, s4⟩ => ?_))
  let I : ow_MS → Prop := fun y => fr (fun g => 3001 ≤ g ∧ g ≤ 3006) z y ∧ ∀ x, x < 40 → y.2.1 3006 x = z.2.1 (n + 6) x
  have oI : ∀ {y : ow_MS}, I y → oNet y n A sg := fun hI => oNet_fr hI.1 (fun g hg => by omega) hO
  have stI : ∀ {P : Nat → Prop} {y y2 : ow_MS}, I y → fr P y y2 → (∀ g, P g → 3001 ≤ g ∧ g ≤ 3005) → I y2 := fun hI hf hP => ⟨fr_tr hI.1 (fr_mono (fun g hg => by have := hP g hg; omega) hf), fun x hx => by rw [(hf 3006 (fun h9 => by have := hP _ h9; omega)).2.1]; exact hI.2 x hx⟩
  have out : ∀ (k c : Nat) (y1 : ow_MS), c + k = A.length → I y1 → bmE y1 3000 A (fun j => j < rn_b A c ∧ crs A j ≠ x ∧ crs A j ≠ y) c → Tt (fun K i => q_X13_without K i 1 (nI x) (nI y) (nI c) 0 n y1) (fun z1 => oF X bb m (L + 1) z1 ∧ fr frB z z1) := by
    intro k
    induction k with
    | zero =>
      intro c y1 hc hI hb
      have hce : c = A.length := by omega
      rw [hce, rn_b_len] at hb
      have hP : ∀ j, (j < A.flatten.length ∧ crs A j ≠ x ∧ crs A j ≠ y) → mtf A j < A.flatten.length ∧ crs A (mtf A j) ≠ x ∧ crs A (mtf A j) ≠ y := fun j hj => by
        rw [crs_mtf hd hj.1]
        exact ⟨mtf_lt hd hj.1, hj.2⟩
      have hs : ∀ j, (j < A.flatten.length ∧ crs A j ≠ x ∧ crs A j ≠ y) → s1 (y1.2.1 (3000 + 6) (crs A j)) := fun j hj => by
        obtain ⟨x1, x2, x3⟩ := hO.cx hj.1
        show s1 (y1.2.1 3006 (crs A j))
        rw [hI.2 _ (by omega)]
        exact s1_if x3
      have hN : mNet y1 3000 := bmE_net hO.wk hl (by omega) (fun j hj => hj.1) hP hs hb
      refine u_X13_without_1 ?_; unfold qm_X13_without_1
      exact w_rdF (lk_C (oI hI).1) (w_leT (by omega) (by omega) (w_cs0 (tm_offer hL (oF_3 hI.1 (fun g hg => by omega) h) hN) (fun y2 ⟨g1, g2⟩ => w_some ⟨g1, fr_tr (fr_mono (fun g hg => Or.inr (by omega)) hI.1) (fr_mono (fun g hg => by unfold frO at hg; unfold frB; omega) g2)⟩)))
    | succ k ih =>
      intro c y1 hc hI hb
      have m1 := rn_b_mono A c
      have m2 := rn_b_le A (c + 1)
      have inn : ∀ (k i : Nat) (y1 : ow_MS), i + k = rn_b A (c + 1) → rn_b A c ≤ i → I y1 → bm y1 3000 A (fun j => j < i ∧ crs A j ≠ x ∧ crs A j ≠ y) c → Tt (fun K i9 => q_X13_without K i9 2 (nI x) (nI y) (nI c) (nI i) n y1) (fun z1 => oF X bb m (L + 1) z1 ∧ fr frB z z1) := by
        intro k
        induction k with
        | zero =>
          intro i y1 hi hlo hI hb
          have hie : i = rn_b A (c + 1) := by omega
          rw [hie] at hb ⊢
          refine u_X13_without_2 ?_; unfold qm_X13_without_2
          rw [nI_1]
          exact w_rdI (pl3 hn) rfl (by omega) (lk_b (oI hI).1 (by omega)) (w_leT (by omega) (Nat.le_refl _) (w_cs0 (bm_end pn3 (by omega) hb) (fun y2 ⟨g1, g2⟩ => ih (c + 1) y2 (by omega) (stI hI g2 (fun g hg => by omega)) g1)))
        | succ k ihk =>
          intro i y1 hi hlo hI hb
          have hil : i < A.flatten.length := by omega
          have hc12 := (hO.cx hil).1
          have e4 := (lk_cu (oI hI).1 hil).1
          have skip : (crs A i = x ∨ crs A i = y) → Tt (fun K i9 => q_X13_without K i9 3 (nI x) (nI y) (nI c) (nI i) n y1) (fun z1 => oF X bb m (L + 1) z1 ∧ fr frB z z1) := by
            intro hxy
            refine u_X13_without_3 ?_; unfold qm_X13_without_3
            rw [nI_1]
            refine ihk (i + 1) y1 (by omega) (by omega) hI (bm_eq hb (fun j => ⟨fun h9 => ⟨by omega, h9.2⟩, fun h9 => ⟨?_, h9.2⟩⟩))
            by_cases hji : j = i
            · rw [hji] at h9
              exact absurd hxy (fun h8 => h8.elim h9.2.1 h9.2.2)
            · omega
          refine u_X13_without_2 ?_; unfold qm_X13_without_2
          rw [nI_1]
          refine w_rdI (pl3 hn) rfl (by omega) (lk_b (oI hI).1 (by omega)) (w_leF (by omega) (by omega) (w_rdI (pl4 hn) rfl (by omega) e4 (w_eqN (by omega) (by omega) (fun h9 => skip (Or.inl h9)) (fun h9 => w_rdI (pl4 hn) rfl (by omega) e4 (w_eqN (by omega) (by omega) (fun h8 => skip (Or.inr h8)) (fun h8 => w_rdI (pl4 hn) rfl (by omega) e4 (w_rdI (pl5 hn) rfl (by omega) (lk_cu (oI hI).1 hil).2 (w_cs0 (bm_add (i := i) pn3 (by omega) (fun j hj => by omega) (fun h7 => by omega) rfl rfl hb) (fun y2 ⟨g1, g2⟩ => ?_)))))))))
          refine u_X13_without_3 ?_; unfold qm_X13_without_3
          rw [nI_1]
          refine ihk (i + 1) y2 (by omega) (by omega) (stI hI g2 (fun g hg => by omega)) (bm_eq g1 (fun j => ⟨fun h7 => ?_, fun h7 => ?_⟩))
          · rcases h7 with h7 | h7
            · exact ⟨by omega, h7.2⟩
            · rw [h7]
              exact ⟨by omega, h9, h8⟩
          · by_cases hji : j = i
            · exact Or.inr hji
            · exact Or.inl ⟨by omega, h7.2⟩
      refine u_X13_without_1 ?_; unfold qm_X13_without_1
      exact w_rdF (lk_C (oI hI).1) (w_leF (by omega) (by omega) (w_rdI (pl3 hn) rfl (by omega) (lk_b (oI hI).1 (by omega)) (inn (rn_b A (c + 1) - rn_b A c) (rn_b A c) y1 (by omega) (Nat.le_refl _) hI hb.b)))
  refine out A.length 0 z4 (by omega) ⟨fr_tr (fr_mono (fun g hg => by omega) f3) (fr_mono (fun g hg => by omega) f4), fun x hx => ?_⟩ (bmE_eq (bmE_fr f4 (fun g hg => by omega) b3) (fun j => ⟨fun h9 => h9.elim, fun h9 => by rw [rn_b0] at h9; omega⟩))
  rw [show z4.2.1 3006 x = z3.2.1 (n + 6) x from s4 x hx, (f3 (n + 6) (by omega)).2.1]
theorem e_X13_put {x1 : Int32} {x2 : Int32} {x3 : Int32} {z : ow_MS} {Q : ow_MS → Prop} (H : Tt (fun K _ => qm_X13_put_0 K x1 x2 x3 z) Q) : Te (fun K => qe_X13_put K x1 x2 x3 z) Q := w_te0 H
theorem tp_put {i : Nat} {x u : Int32} (hi : i < 4) : Te (fun K => qe_X13_put K (nI i) x u z) (fun z1 => z1 = usI (usI z 31 i x) 32 i u) := by
  refine e_X13_put ?_; unfold qm_X13_put_0
  exact w_wrI ml31 rfl hi (w_wrI ml32 rfl hi (w_some rfl))
/-- the gap that a move names, and the two (four) visits that come -/
def pasG (V c i g : Nat) : Prop := g < i ∨ V ≤ g ∧ g - V < c
theorem u_X13_putAt_1 {x1 : Int32} {x2 : Int32} {x3 : Int32} {z : ow_MS} {Q : ow_MS → Prop} (H : Tt (fun K k => qm_X13_putAt_1 K (q_X13_putAt K k) x1 x2 x3 z) Q) : Tt (fun K k => q_X13_putAt K k 1 x1 x2 x3 z) Q := w_un (fun _ _ => rfl) H
theorem e_X13_putAt {x1 : Int32} {x2 : Int32} {x3 : Int32} {z : ow_MS} {Q : ow_MS → Prop} (H : Tt (fun K k => q_X13_putAt K k 0 x1 x2 x3 z) Q) : Te (fun K => qe_X13_putAt K x1 x2 x3 z) Q := w_te H
theorem u_X13_putAt_0 {x1 : Int32} {x2 : Int32} {x3 : Int32} {z : ow_MS} {Q : ow_MS → Prop} (H : Tt (fun K k => qm_X13_putAt_0 K (q_X13_putAt K k) x1 x2 x3 z) Q) : Tt (fun K k => q_X13_putAt K k 0 x1 x2 x3 z) Q := w_un (fun _ _ => rfl) H
theorem tp_putAt {g h gp V q : Nat} {x3 : Int32} {AA : rn_L} {P : Nat → Prop} (hV : V + 2 ≤ AA.flatten.length) (hV2 : h < 100 → V + 4 ≤ AA.flatten.length) (hlen : AA.flatten.length < 40) (hgp : gp < 100) (hg : g < 100) (hx3 : ∀ k, k < 100 → (nI k = x3 ↔ k = h)) (hP : ∀ j, P j → j < AA.flatten.length) (h0 : gp = g → ¬ P V ∧ ¬ P (V + 1)) (h1 : gp = h → ¬ P (V + 2) ∧ ¬ P (V + 3)) (c0 : z.2.1 31 0 = nI (crs AA V) ∧ z.2.1 32 0 = nI (uns AA V) ∧ z.2.1 31 1 = nI (crs AA (V + 1)) ∧ z.2.1 32 1 = nI (uns AA (V + 1))) (c1 : h < 100 → z.2.1 31 2 = nI (crs AA (V + 2)) ∧ z.2.1 32 2 = nI (uns AA (V + 2)) ∧ z.2.1 31 3 = nI (crs AA (V + 3)) ∧ z.2.1 32 3 = nI (uns AA (V + 3))) (hb : bm z 3000 AA P q) : Te (fun K => qe_X13_putAt K (nI gp) (nI g) x3 z) (fun z1 => bm z1 3000 AA (fun j => P j ∨ gp = g ∧ (j = V ∨ j = V + 1) ∨ gp = h ∧ (j = V + 2 ∨ j = V + 3)) q ∧ fr (fun g => g = 3001 ∨ g = 3004 ∨ g = 3005) z z1) := by
  have fin : ∀ (z1 : ow_MS), fr (fun g => g = 3001 ∨ g = 3004 ∨ g = 3005) z z1 → bm z1 3000 AA (fun j => P j ∨ gp = g ∧ (j = V ∨ j = V + 1)) q → Tt (fun K k => q_X13_putAt K k 1 (nI gp) (nI g) x3 z1) (fun z1 => bm z1 3000 AA (fun j => P j ∨ gp = g ∧ (j = V ∨ j = V + 1) ∨ gp = h ∧ (j = V + 2 ∨ j = V + 3)) q ∧ fr (fun g => g = 3001 ∨ g = 3004 ∨ g = 3005) z z1) := by
    intro z1 hf hb1
    refine u_X13_putAt_1 ?_; unfold qm_X13_putAt_1
    refine w_if (fun h9 => ?_) (fun h9 => w_some ⟨bm_eq hb1 (fun j => ⟨fun h8 => h8.imp id Or.inl, fun h8 => ?_⟩), hf⟩)
    · have hgh := (hx3 gp hgp).mp h9
      obtain ⟨n1, n2⟩ := h1 hgh
      have hV4 := hV2 (by omega)
      obtain ⟨d1, d2, d3, d4⟩ := c1 (by omega)
      have e31 := (hf 31 (by omega)).2.1
      have e32 := (hf 32 (by omega)).2.1
      refine w_rdI ml31 (show (2 : Int32) = nI 2 from rfl) (by omega) (by rw [e31]; exact d1) (w_rdI ml32 (show (2 : Int32) = nI 2 from rfl) (by omega) (by rw [e32]; exact d2) (w_cs0 (bm_add (i := V + 2) pn3 hlen (fun j hj => ?_) (fun hj => ?_) rfl rfl hb1) (fun z2 ⟨g1, g2⟩ => ?_)))
      · rcases hj with hj | hj
        · exact hP j hj
        · omega
      · rcases hj with hj | hj
        · exact n1 hj
        · omega
      · have e31' := (g2 31 (by omega)).2.1
        have e32' := (g2 32 (by omega)).2.1
        refine w_rdI ml31 (show (3 : Int32) = nI 3 from rfl) (by omega) (by rw [e31', e31]; exact d3) (w_rdI ml32 (show (3 : Int32) = nI 3 from rfl) (by omega) (by rw [e32', e32]; exact d4) (w_cs0 (bm_add (i := V + 3) pn3 hlen (fun j hj => ?_) (fun hj => ?_) rfl rfl g1) (fun z3 ⟨k1, k2⟩ => w_some ⟨bm_eq k1 (fun j => ⟨fun h8 => ?_, fun h8 => ?_⟩), fr_tr hf (fr_tr (fr_mono (fun g hg => by omega) g2) (fr_mono (fun g hg => by omega) k2))⟩)))
        · rcases hj with (hj | hj) | hj
          · exact hP j hj
          · omega
          · omega
        · rcases hj with (hj | hj) | hj
          · exact n2 hj
          · omega
          · omega
        · rcases h8 with ((h8 | h8) | h8) | h8
          · exact Or.inl h8
          · exact Or.inr (Or.inl h8)
          · exact Or.inr (Or.inr ⟨hgh, Or.inl h8⟩)
          · exact Or.inr (Or.inr ⟨hgh, Or.inr h8⟩)
        · rcases h8 with h8 | h8 | ⟨-, h8 | h8⟩
          · exact Or.inl (Or.inl (Or.inl h8))
          · exact Or.inl (Or.inl (Or.inr h8))
          · exact Or.inl (Or.inr h8)
          · exact Or.inr h8
    · rcases h8 with h8 | h8 | h8
      · exact Or.inl h8
      · exact Or.inr h8
      · exact absurd ((hx3 gp hgp).mpr h8.1) h9
  obtain ⟨d1, d2, d3, d4⟩ := c0
  refine e_X13_putAt ?_
  refine u_X13_putAt_0 ?_; unfold qm_X13_putAt_0
  refine w_eqN (by omega) (by omega) (fun h9 => ?_) (fun h9 => fin z fr_rf (bm_eq hb (fun j => ⟨Or.inl, fun h8 => h8.elim id (fun h7 => absurd h7.1 h9)⟩)))
  obtain ⟨n1, n2⟩ := h0 h9
  refine w_rdI ml31 nI_0.symm (by omega) d1 (w_rdI ml32 nI_0.symm (by omega) d2 (w_cs0 (bm_add (i := V) pn3 hlen hP n1 rfl rfl hb) (fun z2 ⟨g1, g2⟩ => ?_)))
  have e31 := (g2 31 (by omega)).2.1
  have e32 := (g2 32 (by omega)).2.1
  refine w_rdI ml31 (show (1 : Int32) = nI 1 from rfl) (by omega) (by rw [e31]; exact d3) (w_rdI ml32 (show (1 : Int32) = nI 1 from rfl) (by omega) (by rw [e32]; exact d4) (w_cs0 (bm_add (i := V + 1) pn3 hlen (fun j hj => ?_) (fun hj => ?_) rfl rfl g1) (fun z3 ⟨k1, k2⟩ => fin z3 (fr_tr (fr_mono (fun g hg => by omega) g2) (fr_mono (fun g hg => by omega) k2)) (bm_eq k1 (fun j => ⟨fun h8 => ?_, fun h8 => ?_⟩)))))
  · rcases hj with hj | hj
    · exact hP j hj
    · omega
  · rcases hj with hj | hj
    · exact n2 hj
    · omega
  · rcases h8 with (h8 | h8) | h8
    · exact Or.inl h8
    · exact Or.inr ⟨h9, Or.inl h8⟩
    · exact Or.inr ⟨h9, Or.inr h8⟩
  · rcases h8 with h8 | ⟨-, h8 | h8⟩
    · exact Or.inl (Or.inl h8)
    · exact Or.inl (Or.inr h8)
    · exact Or.inr h8
/-- a gap: behind a visit, or on a circle -/
def isG (A : rn_L) (g : Nat) : Prop := g < A.flatten.length ∨ A.flatten.length ≤ g ∧ g - A.flatten.length < A.length ∧ rn_b A (g - A.flatten.length) = rn_b A (g - A.flatten.length + 1)
theorem u_X13_isGap_1 {x1 : Int32} {r0 : Nat} {z : ow_MS} {Q : (Int32 × ow_MS) → Prop} (H : Tt (fun K k => qm_X13_isGap_1 K (q_X13_isGap K k) x1 r0 z) Q) : Tt (fun K k => q_X13_isGap K k 1 x1 r0 z) Q := w_un (fun _ _ => rfl) H
theorem e_X13_isGap {r0 : Nat} {x1 : Int32} {z : ow_MS} {Q : (Int32 × ow_MS) → Prop} (H : Tt (fun K k => q_X13_isGap K k 0 x1 r0 z) Q) : Te (fun K => qe_X13_isGap K r0 x1 z) Q := w_te H
theorem u_X13_isGap_0 {x1 : Int32} {r0 : Nat} {z : ow_MS} {Q : (Int32 × ow_MS) → Prop} (H : Tt (fun K k => qm_X13_isGap_0 K (q_X13_isGap K k) x1 r0 z) Q) : Tt (fun K k => q_X13_isGap K k 0 x1 r0 z) Q := w_un (fun _ _ => rfl) H
theorem tp_isGap {g : Nat} (hn : mw_net n) (hO : oNet z n A sg) (hg : g < A.flatten.length + A.length) : Te (fun K => qe_X13_isGap K n (nI g) z) (fun r => r.2 = z ∧ (r.1 = 0 ∧ ¬ isG A g ∨ r.1 = 1 ∧ isG A g)) := by
  have hl := hO.len
  have hC := hO.2.2.2
  have c1 : isG A g → Tt (fun K k => q_X13_isGap K k 1 (nI g) n z) (fun r => r.2 = z ∧ (r.1 = 0 ∧ ¬ isG A g ∨ r.1 = 1 ∧ isG A g)) := by
    intro hi
    refine u_X13_isGap_1 ?_; unfold qm_X13_isGap_1
    exact w_okZ (Or.inr rfl) (w_some ⟨rfl, Or.inr ⟨rfl, hi⟩⟩)
  refine e_X13_isGap ?_
  refine u_X13_isGap_0 ?_; unfold qm_X13_isGap_0
  refine w_rdF hO.1.V (w_lt (by omega) (by omega) (fun h9 => c1 (Or.inl h9)) (fun h9 => w_rdF hO.1.V ?_))
  rw [pk_sub h9]
  refine w_cs1 (tn_circle hn (by omega) (by omega) (by omega) hO.1.1) (fun a z1 e => ?_)
  cases e
  by_cases hb : rn_b A (g - A.flatten.length) = rn_b A (g - A.flatten.length + 1)
  · rw [if_pos hb]
    exact w_ifF (by decide) (c1 (Or.inr ⟨h9, by omega, hb⟩))
  · rw [if_neg hb]
    refine w_ifT rfl (w_okZ (Or.inl rfl) (w_some ⟨rfl, Or.inl ⟨rfl, fun h8 => ?_⟩⟩))
    rcases h8 with h8 | ⟨h6, h7, h8⟩
    · omega
    · exact hb h8
theorem u_X13_build_4 {x2 : Int32} {x3 : Int32} {x4 : Int32} {x5 : Int32} {r1 : Nat} {z : ow_MS} {Q : ow_MS → Prop} (H : Tt (fun K k => qm_X13_build_4 K (q_X13_build K k) x2 x3 x4 x5 r1 z) Q) : Tt (fun K k => q_X13_build K k 4 x2 x3 x4 x5 r1 z) Q := w_un (fun _ _ => rfl) H
theorem u_X13_build_1 {x2 : Int32} {x3 : Int32} {x4 : Int32} {x5 : Int32} {r1 : Nat} {z : ow_MS} {Q : ow_MS → Prop} (H : Tt (fun K k => qm_X13_build_1 K (q_X13_build K k) x2 x3 x4 x5 r1 z) Q) : Tt (fun K k => q_X13_build K k 1 x2 x3 x4 x5 r1 z) Q := w_un (fun _ _ => rfl) H
theorem u_X13_build_3 {x2 : Int32} {x3 : Int32} {x4 : Int32} {x5 : Int32} {r1 : Nat} {z : ow_MS} {Q : ow_MS → Prop} (H : Tt (fun K k => qm_X13_build_3 K (q_X13_build K k) x2 x3 x4 x5 r1 z) Q) : Tt (fun K k => q_X13_build K k 3 x2 x3 x4 x5 r1 z) Q := w_un (fun _ _ => rfl) H
theorem u_X13_build_2 {x2 : Int32} {x3 : Int32} {x4 : Int32} {x5 : Int32} {r1 : Nat} {z : ow_MS} {Q : ow_MS → Prop} (H : Tt (fun K k => qm_X13_build_2 K (q_X13_build K k) x2 x3 x4 x5 r1 z) Q) : Tt (fun K k => q_X13_build K k 2 x2 x3 x4 x5 r1 z) Q := w_un (fun _ _ => rfl) H
theorem e_X13_build {r1 : Nat} {x2 : Int32} {x3 : Int32} {z : ow_MS} {Q : ow_MS → Prop} (H : Tt (fun K k => q_X13_build K k 0 x2 x3 0 0 r1 z) Q) : Te (fun K => qe_X13_build K r1 x2 x3 z) Q := w_te H
theorem u_X13_build_0 {x2 : Int32} {x3 : Int32} {x4 : Int32} {x5 : Int32} {r1 : Nat} {z : ow_MS} {Q : ow_MS → Prop} (H : Tt (fun K k => qm_X13_build_0 K (q_X13_build K k) x2 x3 x4 x5 r1 z) Q) : Tt (fun K k => q_X13_build K k 0 x2 x3 x4 x5 r1 z) Q := w_un (fun _ _ => rfl) H
theorem tp_build {g h V : Nat} {x3 : Int32} {AA : rn_L} (hn : mw_net n) (hn3 : n ≠ 3000) (hO : oNet z n A sg) (hVe : V = A.flatten.length) (hpre : ∀ i, i < V → vAt AA i = vAt A i) (hV : V + 2 ≤ AA.flatten.length) (hV2 : h < 100 → V + 4 ≤ AA.flatten.length) (hlen : AA.flatten.length < 40) (hg : isG A g) (hh : h < 100 → isG A h) (hhb : h < 100 ∨ h = 1000) (hx3 : ∀ k, k < 100 → (nI k = x3 ↔ k = h)) (c0 : z.2.1 31 0 = nI (crs AA V) ∧ z.2.1 32 0 = nI (uns AA V) ∧ z.2.1 31 1 = nI (crs AA (V + 1)) ∧ z.2.1 32 1 = nI (uns AA (V + 1))) (c1 : h < 100 → z.2.1 31 2 = nI (crs AA (V + 2)) ∧ z.2.1 32 2 = nI (uns AA (V + 2)) ∧ z.2.1 31 3 = nI (crs AA (V + 3)) ∧ z.2.1 32 3 = nI (uns AA (V + 3))) : Te (fun K => qe_X13_build K n (nI g) x3 z) (fun z1 => bmE z1 3000 AA (fun j => j < V + 2 ∨ h < 100 ∧ j < V + 4) A.length ∧ fr (fun g => 3001 ≤ g ∧ g ≤ 3006) z z1 ∧ (∀ x, x < V / 2 → z1.2.1 3006 x = z.2.1 (n + 6) x)) := by
  have hmn := net_mod hn
  have hl := hO.len
  have hC := hO.2.2.2
  have hgb : g < V + A.length := by
    rcases hg with hg | ⟨h1, h2, -⟩ <;> omega
  let I : ow_MS → Prop := fun y => fr (fun g => 3001 ≤ g ∧ g ≤ 3005) z y
  have oI : ∀ {y : ow_MS}, I y → oNet y n A sg := fun hI => oNet_fr hI (fun g hg => by omega) hO
  have stI : ∀ {P : Nat → Prop} {y y2 : ow_MS}, I y → fr P y y2 → (∀ g, P g → 3001 ≤ g ∧ g ≤ 3005) → I y2 := fun hI hf hP => fr_tr hI (fr_mono hP hf)
  have cI0 : ∀ {y : ow_MS}, I y → y.2.1 31 0 = nI (crs AA V) ∧ y.2.1 32 0 = nI (uns AA V) ∧ y.2.1 31 1 = nI (crs AA (V + 1)) ∧ y.2.1 32 1 = nI (uns AA (V + 1)) := fun hI => by rw [(hI 31 (by omega)).2.1, (hI 32 (by omega)).2.1]; exact c0
  have cI1 : ∀ {y : ow_MS}, I y → h < 100 → y.2.1 31 2 = nI (crs AA (V + 2)) ∧ y.2.1 32 2 = nI (uns AA (V + 2)) ∧ y.2.1 31 3 = nI (crs AA (V + 3)) ∧ y.2.1 32 3 = nI (uns AA (V + 3)) := fun hI hh => by rw [(hI 31 (by omega)).2.1, (hI 32 (by omega)).2.1]; exact c1 hh
  let PP : Nat → Nat → Nat → Prop := fun c i j => j < i ∨ pasG V c i g ∧ (j = V ∨ j = V + 1) ∨ h < 100 ∧ pasG V c i h ∧ (j = V + 2 ∨ j = V + 3)
  have PPlt : ∀ c i, i ≤ V → ∀ j, PP c i j → j < AA.flatten.length := by
    intro c i hi j hj
    rcases hj with hj | hj | hj
    · omega
    · omega
    · have := hV2 hj.1
      omega
  have puts : ∀ {y : ow_MS} {q : Nat} (gp c i c2 i2 : Nat), gp < 100 → i ≤ V → i2 ≤ V → I y → (∀ k, k < 100 ∨ k = 1000 → (pasG V c2 i2 k ↔ pasG V c i k ∨ k = gp)) → (∀ k, k = gp → ¬ pasG V c i k) → bm y 3000 AA (fun j => j < i2 ∨ pasG V c i g ∧ (j = V ∨ j = V + 1) ∨ h < 100 ∧ pasG V c i h ∧ (j = V + 2 ∨ j = V + 3)) q → Te (fun K => qe_X13_putAt K (nI gp) (nI g) x3 y) (fun z1 => bm z1 3000 AA (PP c2 i2) q ∧ fr (fun g => g = 3001 ∨ g = 3004 ∨ g = 3005) y z1) := by
    intro y q gp c i c2 i2 hgp hi hi2 hI hpas hno hb
    refine w_monoE (tp_putAt (h := h) (V := V) hV hV2 hlen hgp (by omega) hx3 (fun j hj => ?_) (fun e => ?_) (fun e => ?_) (cI0 hI) (cI1 hI) hb) (fun z1 ⟨g1, g2⟩ => ⟨bm_eq g1 (fun j => ?_), g2⟩)
    · rcases hj with hj | hj | hj
      · omega
      · omega
      · have := hV2 hj.1
        omega
    · have := hno g e.symm
      constructor
      · rintro (h9 | h9 | h9)
        · omega
        · exact this h9.1
        · omega
      · rintro (h9 | h9 | h9)
        · omega
        · exact this h9.1
        · omega
    · have := hno h e.symm
      constructor
      · rintro (h9 | h9 | h9)
        · omega
        · omega
        · exact this h9.2.1
      · rintro (h9 | h9 | h9)
        · omega
        · omega
        · exact this h9.2.1
    · have eg := hpas g (by omega)
      have eh := hpas h hhb
      show _ ↔ (j < i2 ∨ pasG V c2 i2 g ∧ (j = V ∨ j = V + 1) ∨ h < 100 ∧ pasG V c2 i2 h ∧ (j = V + 2 ∨ j = V + 3))
      constructor
      · rintro ((h9 | h9 | h9) | h9 | h9)
        · exact Or.inl h9
        · exact Or.inr (Or.inl ⟨eg.mpr (Or.inl h9.1), h9.2⟩)
        · exact Or.inr (Or.inr ⟨h9.1, eh.mpr (Or.inl h9.2.1), h9.2.2⟩)
        · exact Or.inr (Or.inl ⟨eg.mpr (Or.inr h9.1.symm), h9.2⟩)
        · exact Or.inr (Or.inr ⟨by omega, eh.mpr (Or.inr h9.1.symm), h9.2⟩)
      · rintro (h9 | h9 | h9)
        · exact Or.inl (Or.inl h9)
        · rcases eg.mp h9.1 with h8 | h8
          · exact Or.inl (Or.inr (Or.inl ⟨h8, h9.2⟩))
          · exact Or.inr (Or.inl ⟨h8.symm, h9.2⟩)
        · rcases eh.mp h9.2.1 with h8 | h8
          · exact Or.inl (Or.inr (Or.inr ⟨h9.1, h8, h9.2.2⟩))
          · exact Or.inr (Or.inr ⟨h8.symm, h9.2.2⟩)
  let Q : ow_MS → Prop := fun z1 => bmE z1 3000 AA (fun j => j < V + 2 ∨ h < 100 ∧ j < V + 4) A.length ∧ fr (fun g => 3001 ≤ g ∧ g ≤ 3006) z z1 ∧ (∀ x, x < V / 2 → z1.2.1 3006 x = z.2.1 (n + 6) x)
  have l4 : ∀ (k x : Nat) (y : ow_MS), x + k = V / 2 → fr (fun g => 3001 ≤ g ∧ g ≤ 3006) z y → bmE y 3000 AA (fun j => j < V + 2 ∨ h < 100 ∧ j < V + 4) A.length → (∀ x', x' < x → y.2.1 3006 x' = z.2.1 (n + 6) x') → Tt (fun K i => q_X13_build K i 4 (nI g) x3 (nI x) 0 n y) Q := by
    intro k
    induction k with
    | zero =>
      intro x y hx hf hb hs
      have o2 : oNet y n A sg := oNet_fr hf (fun g hg => by omega) hO
      refine u_X13_build_4 ?_; unfold qm_X13_build_4
      refine w_rdF o2.1.V (w_nzI (by decide) ?_)
      rw [show nI A.flatten.length / 2 = nI (A.flatten.length / 2) from pk_div (d := 2) (by omega) (by omega) (by omega)]
      exact w_leT (by omega) (by omega) (w_some ⟨hb, hf, fun x' hx' => hs x' (by omega)⟩)
    | succ k ih =>
      intro x y hx hf hb hs
      have o2 : oNet y n A sg := oNet_fr hf (fun g hg => by omega) hO
      refine u_X13_build_4 ?_; unfold qm_X13_build_4
      refine w_rdF o2.1.V (w_nzI (by decide) ?_)
      rw [show nI A.flatten.length / 2 = nI (A.flatten.length / 2) from pk_div (d := 2) (by omega) (by omega) (by omega), nI_1]
      refine w_leF (by omega) (by omega) (w_rdI (pl6 hn) rfl (by omega) rfl (w_wrI (pl6 pn3) rfl (by omega) (ih (x + 1) _ (by omega) (fr_I2 hf (by omega)) (bmE_fr (F := fun g => g = 3006) (fr_I rfl) (fun g hg => by omega) hb) (fun x' hx' => ?_))))
      by_cases he : x' = x
      · rw [he]
        show (usI y 3006 x (y.2.1 (n + 6) x)).2.1 3006 x = _
        rw [po_usI_at, (hf (n + 6) (by omega)).2.1]
      · exact rd_ne he (hs x' (by omega))
  have out : ∀ (k c : Nat) (y : ow_MS), c + k = A.length → I y → bmE y 3000 AA (PP c (rn_b A c)) c → Tt (fun K i => q_X13_build K i 1 (nI g) x3 (nI c) 0 n y) Q := by
    intro k
    induction k with
    | zero =>
      intro c y hc hI hb
      have hce : c = A.length := by omega
      rw [hce, rn_b_len, ← hVe] at hb
      have pg : ∀ k, isG A k → pasG V A.length V k := by
        intro k hk
        rcases hk with hk | ⟨h1, h2, -⟩
        · exact Or.inl (by omega)
        · exact Or.inr ⟨by omega, by omega⟩
      refine u_X13_build_1 ?_; unfold qm_X13_build_1
      refine w_rdF (lk_C (oI hI).1) (w_leT (by omega) (by omega) (l4 (V / 2) 0 y (by omega) (fr_mono (fun g hg => by omega) hI) (bmE_eq hb (fun j => ?_)) (fun x hx => by omega)))
      show (j < V ∨ pasG V A.length V g ∧ (j = V ∨ j = V + 1) ∨ h < 100 ∧ pasG V A.length V h ∧ (j = V + 2 ∨ j = V + 3)) ↔ _
      constructor
      · rintro (h9 | h9 | h9)
        · exact Or.inl (by omega)
        · exact Or.inl (by omega)
        · exact Or.inr ⟨h9.1, by omega⟩
      · intro h9
        by_cases h1 : j < V
        · exact Or.inl h1
        · by_cases h2 : j < V + 2
          · exact Or.inr (Or.inl ⟨pg g hg, by omega⟩)
          · rcases h9 with h9 | h9
            · omega
            · exact Or.inr (Or.inr ⟨h9.1, pg h (hh h9.1), by omega⟩)
    | succ k ih =>
      intro c y hc hI hb
      have m1 := rn_b_mono A c
      have m2 := rn_b_le A (c + 1)
      have inn : ∀ (k i : Nat) (y : ow_MS), i + k = rn_b A (c + 1) → rn_b A c ≤ i → I y → bm y 3000 AA (PP (c + 1) i) c → Tt (fun K i9 => q_X13_build K i9 3 (nI g) x3 (nI c) (nI i) n y) Q := by
        intro k
        induction k with
        | zero =>
          intro i y hi hlo hI hb
          have hie : i = rn_b A (c + 1) := by omega
          rw [hie] at hb ⊢
          refine u_X13_build_3 ?_; unfold qm_X13_build_3
          rw [nI_1]
          exact w_rdI (pl3 hn) rfl (by omega) (lk_b (oI hI).1 (by omega)) (w_leT (by omega) (Nat.le_refl _) (w_cs0 (bm_end pn3 (by omega) hb) (fun y2 ⟨g1, g2⟩ => ih (c + 1) y2 (by omega) (stI hI g2 (fun g hg => by omega)) g1)))
        | succ k ihk =>
          intro i y hi hlo hI hb
          have hil : i < A.flatten.length := by omega
          have ev := hpre i (by omega)
          refine u_X13_build_3 ?_; unfold qm_X13_build_3
          rw [nI_1]
          refine w_rdI (pl3 hn) rfl (by omega) (lk_b (oI hI).1 (by omega)) (w_leF (by omega) (by omega) (w_rdI (pl4 hn) rfl (by omega) (lk_cu (oI hI).1 hil).1 (w_rdI (pl5 hn) rfl (by omega) (lk_cu (oI hI).1 hil).2 (w_cs0 (bm_add (i := i) pn3 hlen (PPlt _ _ (by omega)) (fun h9 => ?_) (by unfold crs; rw [ev]) (by unfold uns; rw [ev]) hb) (fun y2 ⟨g1, g2⟩ => w_cs0 (puts i (c + 1) i (c + 1) (i + 1) (by omega) (by omega) (by omega) (stI hI g2 (fun g hg => by omega)) (fun k hk => ?_) (fun k hk => ?_) (bm_eq g1 (fun j => ?_))) (fun y3 ⟨k1, k2⟩ => ?_))))))
          · rcases h9 with h9 | h9 | h9 <;> omega
          · unfold pasG
            omega
          · unfold pasG
            omega
          · show ((j < i ∨ pasG V (c + 1) i g ∧ (j = V ∨ j = V + 1) ∨ h < 100 ∧ pasG V (c + 1) i h ∧ (j = V + 2 ∨ j = V + 3)) ∨ j = i) ↔ _
            constructor
            · rintro ((h9 | h9 | h9) | h9)
              · exact Or.inl (by omega)
              · exact Or.inr (Or.inl h9)
              · exact Or.inr (Or.inr h9)
              · exact Or.inl (by omega)
            · rintro (h9 | h9 | h9)
              · by_cases hji : j = i
                · exact Or.inr hji
                · exact Or.inl (Or.inl (by omega))
              · exact Or.inl (Or.inr (Or.inl h9))
              · exact Or.inl (Or.inr (Or.inr h9))
          · rw [nI_1]
            exact ihk (i + 1) y3 (by omega) (by omega) (stI (stI hI g2 (fun g hg => by omega)) k2 (fun g hg => by omega)) k1
      have l2 : ∀ (y : ow_MS), I y → bm y 3000 AA (PP (c + 1) (rn_b A c)) c → Tt (fun K i9 => q_X13_build K i9 2 (nI g) x3 (nI c) 0 n y) Q := by
        intro y hI hb
        refine u_X13_build_2 ?_; unfold qm_X13_build_2
        exact w_rdI (pl3 hn) rfl (by omega) (lk_b (oI hI).1 (by omega)) (inn (rn_b A (c + 1) - rn_b A c) (rn_b A c) y (by omega) (Nat.le_refl _) hI hb)
      refine u_X13_build_1 ?_; unfold qm_X13_build_1
      refine w_rdF (lk_C (oI hI).1) (w_leF (by omega) (by omega) (w_cs1 (tn_circle hn (by omega) (by omega) (by omega) (oI hI).1.1) (fun a y9 e => ?_)))
      cases e
      by_cases hci : rn_b A c = rn_b A (c + 1)
      · rw [if_pos hci]
        refine w_ifF (by decide) (w_rdF (oI hI).1.V ?_)
        rw [nI_add, ← hVe]
        refine w_cs0 (puts (V + c) c (rn_b A c) (c + 1) (rn_b A c) (by omega) (by omega) (by omega) hI (fun k hk => ?_) (fun k hk => ?_) hb.b) (fun y3 ⟨k1, k2⟩ => l2 y3 (stI hI k2 (fun g hg => by omega)) k1)
        · unfold pasG
          omega
        · unfold pasG
          omega
      · rw [if_neg hci]
        refine w_ifT rfl (l2 y hI (bm_eq hb.b (fun j => ?_)))
        -- the gap of a component that is no circle is none of ours
        have ng : ∀ k, isG A k → (pasG V c (rn_b A c) k ↔ pasG V (c + 1) (rn_b A c) k) := by
          intro k hk
          unfold pasG
          constructor
          · omega
          · intro h9
            rcases h9 with h9 | h9
            · exact Or.inl h9
            · by_cases hkc : k - V = c
              · exfalso
                rcases hk with hk | ⟨h1, h2, h3⟩
                · omega
                · rw [← hVe, hkc] at h3
                  exact hci h3
              · exact Or.inr (by omega)
        show (j < rn_b A c ∨ pasG V c (rn_b A c) g ∧ (j = V ∨ j = V + 1) ∨ h < 100 ∧ pasG V c (rn_b A c) h ∧ (j = V + 2 ∨ j = V + 3)) ↔ (j < rn_b A c ∨ pasG V (c + 1) (rn_b A c) g ∧ (j = V ∨ j = V + 1) ∨ h < 100 ∧ pasG V (c + 1) (rn_b A c) h ∧ (j = V + 2 ∨ j = V + 3))
        rw [ng g hg]
        constructor
        · rintro (h9 | h9 | h9)
          · exact Or.inl h9
          · exact Or.inr (Or.inl h9)
          · exact Or.inr (Or.inr ⟨h9.1, (ng h (hh h9.1)).mp h9.2.1, h9.2.2⟩)
        · rintro (h9 | h9 | h9)
          · exact Or.inl h9
          · exact Or.inr (Or.inl h9)
          · exact Or.inr (Or.inr ⟨h9.1, (ng h (hh h9.1)).mpr h9.2.1, h9.2.2⟩)
  refine e_X13_build ?_
  refine u_X13_build_0 ?_; unfold qm_X13_build_0
  refine w_cs0 (bm_clear (A := AA) pn3) (fun z3 ⟨b3, f3⟩ => out A.length 0 z3 (by omega) (fr_mono (fun g hg => by omega) f3) (bmE_eq b3 (fun j => ⟨fun h9 => h9.elim, fun h9 => ?_⟩)))
  rcases h9 with h9 | h9 | h9
  · rw [rn_b0] at h9
    omega
  · have := h9.1
    unfold pasG at this
    rw [rn_b0] at this
    omega
  · have := h9.2.1
    unfold pasG at this
    rw [rn_b0] at this
    omega
end MV
