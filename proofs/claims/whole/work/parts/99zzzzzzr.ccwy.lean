/-! the class: conway and two have an answer -/
/-- the codes of the latest diagrams; the net of states -/
def knC (y : ow_MS) : Prop := byR y 25001 ∧ (∀ s, s < 2 → ∃ C, slC y 25000 s C ∧ cOK C) ∧ ∃ c, c ≤ 12 ∧ y.1 40008 = nI c
theorem knC_fr {P : Nat → Prop} {y y1 : ow_MS} (hf : fr P y y1) (hP : ∀ g, P g → ¬ (25001 ≤ g ∧ g ≤ 25003 ∨ g = 40008)) (h : knC y) : knC y1 := by
  obtain ⟨h1, h2, c, h3, h4⟩ := h
  refine ⟨byR_fr hf (fun h9 => hP _ h9 (by omega)) h1, fun s hs => ?_, c, h3, (hf 40008 (fun h9 => hP _ h9 (by omega))).1.trans h4⟩
  obtain ⟨C, c1, c2⟩ := h2 s hs
  exact ⟨C, slC_fr hf (fun q hq h9 => hP _ h9 (by unfold cW at hq; omega)) c1, c2⟩
theorem tH25 : tH 25000 2 := by
  unfold tH tHL
  decide
theorem cL_in {h g : Nat} (hg : cL h g) : h + 1 ≤ g ∧ g ≤ h + 11 := by
  unfold cL at hg
  omega
section CCW
variable {vl : Nat → Nat} {y : ow_MS}
theorem u_X8_isKnown_1 {vl : Nat → Nat} {x1 : Int32} {x3 : Int32} {r0 : Nat} {r2 : Nat} {z : ow_MS} {Q : (Int32 × ow_MS) → Prop} (H : Tt (fun K k => cm_X8_isKnown_1 vl K (c_X8_isKnown vl K k) x1 x3 r0 r2 z) Q) : Tt (fun K k => c_X8_isKnown vl K k 1 x1 x3 r0 r2 z) Q := w_un (fun _ _ => rfl) H
theorem e_X8_isKnown {vl : Nat → Nat} {r0 : Nat} {x1 : Int32} {r2 : Nat} {x3 : Int32} {z : ow_MS} {Q : (Int32 × ow_MS) → Prop} (H : Tt (fun K k => c_X8_isKnown vl K k 0 x1 x3 r0 r2 z) Q) : Te (fun K => ce_X8_isKnown vl K r0 x1 r2 x3 z) Q := w_te H
theorem u_X8_isKnown_0 {vl : Nat → Nat} {x1 : Int32} {x3 : Int32} {r0 : Nat} {r2 : Nat} {z : ow_MS} {Q : (Int32 × ow_MS) → Prop} (H : Tt (fun K k => cm_X8_isKnown_0 vl K (c_X8_isKnown vl K k) x1 x3 r0 r2 z) Q) : Tt (fun K k => c_X8_isKnown vl K k 0 x1 x3 r0 r2 z) Q := w_un (fun _ _ => rfl) H
theorem tc_isKnown {g' p' s s' : Nat} {B : cdT} (hs : s < 2) (hg' : tH g' p') (hd : g' + 6 ≤ 25000) (hs' : s' < p') (hb : slC y g' s' B) (ob : cOK B) (hby : byR y (g' + 1)) (hk : knC y) : Te (fun K => ce_X8_isKnown vl K 24000 (nI s) g' (nI s') y) (fun r => (r.1 = 1 ∧ r.2 = y ∨ r.1 = 0 ∧ slC r.2 25000 s B) ∧ knC r.2 ∧ fr (cW 25000) y r.2) := by
  obtain ⟨k1, k2, k3⟩ := id hk
  obtain ⟨C, c1, c2⟩ := k2 s hs
  have go1 : Tt (fun K t => c_X8_isKnown vl K t 1 (nI s) (nI s') 24000 g' y) (fun r => (r.1 = 1 ∧ r.2 = y ∨ r.1 = 0 ∧ slC r.2 25000 s B) ∧ knC r.2 ∧ fr (cW 25000) y r.2) := by
    refine u_X8_isKnown_1 ?_; unfold cm_X8_isKnown_1
    refine w_cs0 (tc_write tH25 hg' (Or.inr hd) hs hs' hb ob hby) ?_
    rintro y1 ⟨w1, w2, w3, w4⟩
    refine w_okZ (Or.inl rfl) (w_some ⟨Or.inr ⟨rfl, w1⟩, ⟨w3 k1, fun t ht => ?_, ?_⟩, w4⟩)
    · by_cases e : t = s
      · rw [e]
        exact ⟨B, w1, ob⟩
      · obtain ⟨D, d1, d2⟩ := k2 t ht
        exact ⟨D, w2 t D e d2 d1, d2⟩
    · obtain ⟨c, h3, h4⟩ := k3
      exact ⟨c, h3, (w4 40008 (by unfold cW; omega)).1.trans h4⟩
  refine e_X8_isKnown ?_
  refine u_X8_isKnown_0 ?_; unfold cm_X8_isKnown_0
  refine w_crI (tH_2 tH25) rfl hs rfl (w_if (fun _ => go1) (fun _ => w_cs1 (tc_compare tH25 hg' hs hs' c1 hb c2 ob) ?_))
  rintro v z ⟨-, e2⟩
  dsimp only at e2
  rw [e2]
  exact w_if (fun _ => w_okZ (Or.inr rfl) (w_some ⟨Or.inl ⟨rfl, rfl⟩, hk, fr_rf⟩)) (fun _ => go1)
def skP (g : Nat) : Prop := 24003 ≤ g ∧ g ≤ 24004 ∨ 25001 ≤ g ∧ g ≤ 25003 ∨ 26001 ≤ g ∧ g ≤ 38011
theorem e_X8_unfoldCode {vl : Nat → Nat} {r0 : Nat} {r1 : Nat} {x2 : Int32} {z : ow_MS} {Q : ow_MS → Prop} (H : Tt (fun K _ => cm_X8_unfoldCode_0 vl K x2 r0 r1 z) Q) : Te (fun K => ce_X8_unfoldCode vl K r0 r1 x2 z) Q := w_te0 H
theorem tc_unfoldCode {g' p' s' c : Nat} {A : rn_L} {sg : Nat → Bool} (hg' : tH g' p') (hd : g' + 6 ≤ 24000) (hs' : s' < p') (hb : slC y g' s' (clC sg A)) (hA : okL A c) (hby : byR y (g' + 1)) (hk : knC y) (hl : lvS y) : Te (fun K => ce_X8_unfoldCode vl K 24000 g' (nI s') y) (fun y1 => knC y1 ∧ lvS y1 ∧ fr skP y y1) := by
  refine e_X8_unfoldCode ?_; unfold cm_X8_unfoldCode_0
  refine w_cs1 (tc_isKnown (s := 0) (by omega) hg' (by omega) hs' hb (okL_c hA).2 hby hk) ?_
  rintro v y1 ⟨h1, k1, f1⟩
  dsimp only at h1 k1 f1
  have f1s : fr skP y y1 := fr_mono (fun g hg => by unfold cW at hg; unfold skP; omega) f1
  have l1 : lvS y1 := fun j hj => by
    obtain ⟨T, t1, t2⟩ := hl j hj
    exact ⟨T, cAt_fr f1 (fun g hg h9 => by unfold cP lv at hg; unfold cW at h9; omega) t1, t2⟩
  refine w_if (fun _ => ?_) (fun _ => w_some ⟨k1, l1, f1s⟩)
  refine w_cs0 (tc_fillA ch_24003 (by omega)) ?_
  rintro y2 ⟨-, f2⟩
  refine w_cs0 (tc_fillA ch_24004 (by omega)) ?_
  rintro y3 ⟨-, f3⟩
  have f13 : fr skP y1 y3 := fr_tr (fr_mono (fun g hg => by unfold skP; omega) f2) (fr_mono (fun g hg => by unfold skP; omega) f3)
  have f13a : fr (fun g => g = 24003 ∨ g = 24004) y1 y3 := fr_tr (fr_mono (fun g hg => by omega) f2) (fr_mono (fun g hg => by omega) f3)
  have l3 : lvS y3 := fun j hj => by
    obtain ⟨T, t1, t2⟩ := l1 j hj
    exact ⟨T, cAt_fr f13a (fun g hg h9 => by unfold cP lv at hg; omega) t1, t2⟩
  have k3 := knC_fr f13a (fun g hg => by omega) k1
  obtain ⟨T, t1, t2⟩ := l3 0 (by omega)
  have s3 : slC y3 g' s' (clC sg A) := slC_fr (fr_tr f1s f13) (fun q hq h9 => by unfold cW at hq; unfold skP at h9; omega) hb
  refine w_crX (j := 0) rfl (by omega) (w_cs0 (tc_load2 (lv_nH (L := 0) (by omega)) hg' (Or.inr (by omega)) hs' hA s3 t1 t2) ?_)
  rintro y4 ⟨⟨T1, q1, q2, q3⟩, f4⟩
  have n4 := q1.2.2.1
  have l4 : lvS y4 := lvS_fr (L := 0) f4 (fun g hg => Or.inl (cL_in hg)) ⟨T1, q1.1, n4.2.2.1⟩ l3
  refine w_cs0 (tc_unfold l4 q1.1 ⟨n4.1, n4.2.1, n4.2.2.1, by have := n4.2.2.2; omega⟩) ?_
  rintro y5 ⟨l5, f5⟩
  have f45 : fr (fun g => 24003 ≤ g ∧ g ≤ 24004 ∨ 26001 ≤ g ∧ g ≤ 38011) y3 y5 := fr_tr (fr_mono (fun g hg => by unfold cL at hg; omega) f4) (fr_mono (fun g hg => by unfold unP at hg; omega) f5)
  exact w_some ⟨knC_fr f45 (fun g hg => by omega) k3, l5, fr_tr f1s (fr_tr f13 (fr_mono (fun g hg => by unfold skP; omega) f45))⟩
theorem u_X8_conwayAt_1 {vl : Nat → Nat} {x1 : Int32} {r0 : Nat} {z : ow_MS} {Q : (Int32 × ow_MS) → Prop} (H : Tt (fun K k => cm_X8_conwayAt_1 vl K (c_X8_conwayAt vl K k) x1 r0 z) Q) : Tt (fun K k => c_X8_conwayAt vl K k 1 x1 r0 z) Q := w_un (fun _ _ => rfl) H
theorem e_X8_conwayAt {vl : Nat → Nat} {r0 : Nat} {x1 : Int32} {z : ow_MS} {Q : (Int32 × ow_MS) → Prop} (H : Tt (fun K k => c_X8_conwayAt vl K k 0 x1 r0 z) Q) : Te (fun K => ce_X8_conwayAt vl K r0 x1 z) Q := w_te H
theorem u_X8_conwayAt_0 {vl : Nat → Nat} {x1 : Int32} {r0 : Nat} {z : ow_MS} {Q : (Int32 × ow_MS) → Prop} (H : Tt (fun K k => cm_X8_conwayAt_0 vl K (c_X8_conwayAt vl K k) x1 r0 z) Q) : Tt (fun K k => c_X8_conwayAt vl K k 0 x1 r0 z) Q := w_un (fun _ _ => rfl) H
theorem tc_conwayAt {x : Int32} : Te (fun K => ce_X8_conwayAt vl K 24000 x y) (fun r => r.2 = y ∧ (∀ k, k < 13 → x = nI k → r.1 = y.2.1 24003 k) ∧ ((∀ k, k < 13 → x ≠ nI k) → r.1 = 0)) := by
  have c1 : (∀ k, k < 13 → x ≠ nI k) → Tt (fun K t => c_X8_conwayAt vl K t 1 x 24000 y) (fun r => r.2 = y ∧ (∀ k, k < 13 → x = nI k → r.1 = y.2.1 24003 k) ∧ ((∀ k, k < 13 → x ≠ nI k) → r.1 = 0)) := by
    intro hn
    refine u_X8_conwayAt_1 ?_; unfold cm_X8_conwayAt_1
    exact w_some ⟨rfl, fun k hk e => absurd e (hn k hk), fun _ => rfl⟩
  refine e_X8_conwayAt ?_
  refine u_X8_conwayAt_0 ?_; unfold cm_X8_conwayAt_0
  rw [show (Int32.ofNat (uw_len (cX vl) y (24000 + 3))) = nI 13 from rfl]
  refine w_if (fun h0 => c1 (fun k hk e => ?_)) (fun h0 => w_if (fun h9 => ?_) (fun h9 => c1 (fun k hk e => ?_)))
  · rw [e] at h0
    exact nI_pos (by omega) h0
  · obtain ⟨k, k31, rfl⟩ := nI_of h0
    have hk : k < 13 := (nI_ltI k31 (by omega)).mp h9
    exact w_crI ch_24003 rfl hk rfl (w_some ⟨rfl, fun k' hk' e => by rw [nI_inj9 (by omega) (by omega) e], fun h => absurd rfl (h k hk)⟩)
  · rw [e] at h9
    exact h9 (nI_lt hk (by omega))
theorem e_X8_twoAt {vl : Nat → Nat} {r0 : Nat} {x1 : Int32} {x2 : Int32} {z : ow_MS} {Q : (Int32 × ow_MS) → Prop} (H : Tt (fun K _ => cm_X8_twoAt_0 vl K x1 x2 r0 z) Q) : Te (fun K => ce_X8_twoAt vl K r0 x1 x2 z) Q := w_te0 H
theorem tc_twoAt {x x' : Int32} : Te (fun K => ce_X8_twoAt vl K 24000 x x' y) (fun r => r.2 = y) := by
  refine e_X8_twoAt ?_; unfold cm_X8_twoAt_0
  refine w_cs1 tc_twoIndex ?_
  rintro v z ⟨h1, e2⟩
  dsimp only at h1 e2
  rw [e2]
  rcases h1 with rfl | ⟨k, hk, rfl⟩
  · exact w_ifT rfl (w_some rfl)
  · exact w_if (fun _ => w_some rfl) (fun _ => w_crI ch_24004 rfl hk rfl (w_some rfl))
theorem lvS_ns (h : nsC y) : lvS y := fun j hj => h (lv j) (lv_nH hj)
theorem gM_sk {y1 : ow_MS} (hf : fr skP y y1) (hl : lvS y1) (h : gM y) : gM y1 := by
  refine ⟨⟨dgC_fr hf (fun g g1 g2 h9 => by unfold skP at h9; omega) h.1.1, fun h' hh' => ?_, kdC_fr hf (fun g hg => by unfold skP at hg; omega) h.1.2.2⟩, tbs_fr hf (fun g hg => by unfold skP at hg; omega) h.2⟩
  by_cases e : 26000 ≤ h' ∧ h' ≤ 38000
  · have key : ∀ a, a ∈ nHL → 26000 ≤ a ∧ a ≤ 38000 → a = lv (a / 1000 - 26) ∧ a / 1000 - 26 ≤ 12 := by decide
    obtain ⟨k1, k2⟩ := key h' hh' e
    rw [k1]
    exact hl _ k2
  · obtain ⟨T, t1, t2⟩ := h.1.2.1 h' hh'
    refine ⟨T, cAt_fr hf (fun g hg h9 => ?_) t1, t2⟩
    have key : ∀ a, a ∈ nHL → a ≤ 17000 ∨ 26000 ≤ a ∧ a ≤ 38000 ∨ 40000 ≤ a := by decide
    have := key h' hh'
    unfold cP at hg
    unfold skP at h9
    omega
theorem e_X11_conway {vl : Nat → Nat} {r0 : Nat} {x1 : Int32} {x2 : Int32} {z : ow_MS} {Q : (Nat × Int32 × ow_MS) → Prop} (H : Tt (fun K _ => cm_X11_conway_0 vl K x1 x2 r0 z) Q) : Te (fun K => ce_X11_conway vl K r0 x1 x2 z) Q := w_te0 H
theorem tc_conway {x x' : Int32} (hM : gM y) (hk : knC y) : Te (fun K => ce_X11_conway vl K 0 x x' y) (fun r => gM r.2.2 ∧ knC r.2.2 ∧ fr skP y r.2.2) := by
  refine e_X11_conway ?_; unfold cm_X11_conway_0
  refine w_tc0 (tc_need hM.1.1) ?_ ?_
  · rintro y1 ⟨h1, rfl⟩
    rcases h1 with ⟨-, d, A, sg, c, hd, rfl, hs, hA, hne⟩ | h1
    · refine w_cs0 (tc_unfoldCode ch_1000 (by omega) hd hs hA hM.1.1.1 hk (lvS_ns hM.1.2.1)) ?_
      rintro y2 ⟨k2, l2, f2⟩
      refine w_cs1 tc_conwayAt ?_
      rintro v z ⟨e2, -⟩
      dsimp only at e2
      rw [e2]
      exact w_some ⟨gM_sk f2 l2 hM, k2, f2⟩
    · exact absurd (show (0 : Nat) = 1 from h1.1) (by decide)
  · rintro a y1 ha ⟨h1, rfl⟩
    exact w_some ⟨hM, hk, fr_rf⟩
def twP (g : Nat) : Prop := uP g ∨ skP g
theorem e_X11_two {vl : Nat → Nat} {r0 : Nat} {x1 : Int32} {x2 : Int32} {x3 : Int32} {z : ow_MS} {Q : (Nat × Int32 × ow_MS) → Prop} (H : Tt (fun K _ => cm_X11_two_0 vl K x1 x2 x3 r0 z) Q) : Te (fun K => ce_X11_two vl K r0 x1 x2 x3 z) Q := w_te0 H
theorem tc_two {x x1 x2 : Int32} (hM : gM y) (hB : brC y) (hk : knC y) : Te (fun K => ce_X11_two vl K 0 x x1 x2 y) (fun r => gM r.2.2 ∧ brC r.2.2 ∧ knC r.2.2 ∧ fr twP y r.2.2) := by
  refine e_X11_two ?_; unfold cm_X11_two_0
  refine w_tc0 (tc_needBraid (brC_E hB)) ?_ ?_
  · rintro y1 ⟨h1, rfl⟩
    rcases h1 with ⟨-, hb⟩ | h1
    · obtain ⟨b, n, l, hb20, rfl, hn2, hn5, e15, l16, e14, hw⟩ := isB_w hB hb
      refine w_crI ch_14 rfl hb20 e14 (w_le (b := 10) (by omega) (by omega) (fun h12 => ?_) (fun _ => w_some ⟨hM, hB, hk, fr_rf⟩))
      obtain ⟨T, t1, t2⟩ := hM.1.2.1 4000 nH4
      refine w_crI ch_14 rfl hb20 e14 (w_crI ch_15 rfl hb20 e15 ?_)
      rw [m16]
      refine w_cs0 (tc_close t1 t2 hb20 hn2 hn5 (by omega) hw) ?_
      rintro y3 ⟨⟨T1, g1, g2⟩, f3⟩
      have hN3 : gN y3 := gN_net nH4 f3 (fun g hg => by unfold clR cP at hg; omega) ⟨T1, g1, g2.2.2.1⟩ hM.1
      have f3u : fr uP y1 y3 := fr_mono (fun g hg => by unfold clR cP at hg; unfold uP; omega) f3
      have hk7 : kH 7000 := Or.inl rfl
      have hb7 := hN3.2.2 7000 hk7
      refine w_cs0 (tc_encode hk7 nH4 g1 g2 hb7.1 hb7.2.1 hb7.2.2) ?_
      rintro y4 ⟨⟨Cs, os, z1, z2, z3⟩, b1, b2, b3, hy4, f4⟩
      obtain ⟨A', sg', q1, q2, -⟩ := enc_ok g2 z1
      have f4u : fr uP y3 y4 := fr_mono (fun g hg => by
        unfold enP cpP epP cV cQ at hg
        unfold uP
        omega) f4
      have f14 : fr uP y1 y4 := fr_tr f3u f4u
      have hN4 : gN y4 := by
        refine ⟨dgC_fr f4 (fun g g1 g2 h9 => by unfold enP cpP epP cV cQ at h9; omega) hN3.1, nsC_put nH4 f4 (fun h' hh' hne g hg h9 => ?_) ⟨T1, hy4, g2.2.2.1⟩ hN3.2.1, fun k hk2 => ?_⟩
        · have h8 := nH_far hh' nH4 hne
          have h7 := kH_dj hk7 hh'
          unfold cP at hg
          unfold enP cpP epP cV cQ at h9
          omega
        · rcases hk2 with rfl | rfl
          · exact ⟨b1, b2, b3⟩
          · have hb9 := hN3.2.2 20000 (Or.inr rfl)
            exact ⟨byR_fr f4 (by unfold enP cpP epP cV cQ; omega) hb9.1, byR_fr f4 (by unfold enP cpP epP cV cQ; omega) hb9.2.1, byR_fr f4 (by unfold enP cpP epP cV cQ; omega) hb9.2.2⟩
      have hM4 : gM y4 := gM_u f14 hN4 hM
      have k4 : knC y4 := knC_fr f14 (fun g hg => by unfold uP at hg; omega) hk
      rw [q2] at z2
      refine w_cs0 (tc_unfoldCode (s' := 0) (kH_out hk7) (by omega) Nat.one_pos z2 q1 b1 k4 (lvS_ns hM4.1.2.1)) ?_
      rintro y5 ⟨k5, l5, f5⟩
      refine w_cs1 tc_twoAt ?_
      rintro v z e2
      dsimp only at e2
      rw [e2]
      have f15 : fr twP y1 y5 := fr_tr (fr_mono (fun g hg => Or.inl hg) f14) (fr_mono (fun g hg => Or.inr hg) f5)
      exact w_some ⟨gM_sk f5 l5 hM4, brC_fr f15 (by unfold twP uP skP; omega) hB, k5, f15⟩
    · exact absurd (show (0 : Nat) = 1 from h1.1) (by decide)
  · rintro a y1 ha ⟨h1, rfl⟩
    exact w_some ⟨hM, hB, hk, fr_rf⟩
end CCW
