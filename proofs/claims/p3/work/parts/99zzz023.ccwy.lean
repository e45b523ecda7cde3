section
/-! 99zzzzzzr.ccwy -/
/-! the class: conway and two have an answer -/
/-- the codes of the latest diagrams; the net of states -/
def knC (y : ow_MS) : Prop := byR y 25001 ∧ (∀ s, s < 2 → ∃ C, slC y 25000 s C ∧ cOK C) ∧ ∃ c, c ≤ 12 ∧ y.1 40008 = nI c
theorem knC_fr {P : Nat → Prop} {y y1 : ow_MS} (hf : fr P y y1) (hP : ∀ g, P g → ¬ (25001 ≤ g ∧ g ≤ 25003 ∨ g = 40008)) (h : knC y) : knC y1 := by
  obtain ⟨h1, h2, c, h3, h4⟩ := h
  refine ⟨byR_fr hf (fun h9 => hP _ h9 (by omega)) h1, fun s hs => ?_, c, h3, (hf 40008 (fun h9 => hP _ h9 (by omega))).1.trans h4⟩
  obtain ⟨C, c1, c2⟩ := h2 s hs
  exact ⟨C, slC_fr hf (fun q hq h9 => hP _ h9 (by unfold cW at hq; omega)) c1, c2⟩
theorem tH25 : tH 25000 2 := by
  unfold tH tHL
  decide
theorem cL_in {h g : Nat} (hg : cL h g) : h + 1 ≤ g ∧ g ≤ h + 11 := by
  unfold cL at hg
  omega
section CCW
variable {vl : Nat → Nat} {y : ow_MS}
theorem u_X8_isKnown_1 {vl : Nat → Nat} {x1 : Int32} {x3 : Int32} {r0 : Nat} {r2 : Nat} {z : ow_MS} {Q : (Int32 × ow_MS) → Prop} (H : Tt (fun K k => cm_X8_isKnown_1 vl K (c_X8_isKnown vl K k) x1 x3 r0 r2 z) Q) : Tt (fun K k => c_X8_isKnown vl K k 1 x1 x3 r0 r2 z) Q := w_un (fun _ _ => rfl) H
theorem e_X8_isKnown {vl : Nat → Nat} {r0 : Nat} {x1 : Int32} {r2 : Nat} {x3 : Int32} {z : ow_MS} {Q : (Int32 × ow_MS) → Prop} (H : Tt (fun K k => c_X8_isKnown vl K k 0 x1 x3 r0 r2 z) Q) : Te (fun K => ce_X8_isKnown vl K r0 x1 r2 x3 z) Q := w_te H
theorem u_X8_isKnown_0 {vl : Nat → Nat} {x1 : Int32} {x3 : Int32} {r0 : Nat} {r2 : Nat} {z : ow_MS} {Q : (Int32 × ow_MS) → Prop} (H : Tt (fun K k => cm_X8_isKnown_0 vl K (c_X8_isKnown vl K k) x1 x3 r0 r2 z) Q) : Tt (fun K k => c_X8_isKnown vl K k 0 x1 x3 r0 r2 z) Q := w_un (fun _ _ => rfl) H
theorem tc_isKnown {g' p' s s' : Nat} {B : cdT} (hs : s < 2) (hg' : tH g' p') (hd : g' + 6 ≤ 25000) (hs' : s' < p') (hb : slC y g' s' B) (ob : cOK B) (hby : byR y (g' + 1)) (hk : knC y) : Te (fun K => ce_X8_isKnown vl K 24000 (nI s) g' (nI s') y) (fun r => (r.1 = 1 ∧ r.2 = y ∨ r.1 = 0 ∧ slC r.2 25000 s B) ∧ knC r.2 ∧ fr (cW 25000) y r.2) := by
  obtain ⟨k1, k2, k3⟩ := id hk
  obtain ⟨C, c1, c2⟩ := k2 s hs
  have go1 : Tt (fun K t => c_X8_isKnown vl K t 1 (nI s) (nI s') 24000 g' y) (fun r => (r.1 = 1 ∧ r.2 = y ∨ r.1 = 0 ∧ slC r.2 25000 s B) ∧ knC r.2 ∧ fr (cW 25000) y r.2) := by
    refine u_X8_isKnown_1 ?_; unfold cm_X8_isKnown_1
    refine w_cs0 (tc_write tH25 hg' (Or.inr hd) hs hs' hb ob hby) ?_
    rintro y1 ⟨w1, w2, w3, w4⟩
    refine w_okZ (Or.inl rfl) (w_some ⟨Or.inr ⟨rfl, w1⟩, ⟨w3 k1, fun t ht => ?_, ?_⟩, w4⟩)
    · by_cases e : t = s
      · rw [e]
        exact ⟨B, w1, ob⟩
      · obtain ⟨D, d1, d2⟩ := k2 t ht
        exact ⟨D, w2 t D e d2 d1, d2⟩
    · obtain ⟨c, h3, h4⟩ := k3
      exact ⟨c, h3, (w4 40008 (by unfold cW; omega)).1.trans h4⟩
  refine e_X8_isKnown ?_
  refine u_X8_isKnown_0 ?_; unfold cm_X8_isKnown_0
  refine w_crI (tH_2 tH25) rfl hs rfl (w_if (fun _ => go1) (fun _ => w_cs1 (tc_compare tH25 hg' hs hs' c1 hb c2 ob) ?_))
  rintro v z ⟨-, e2⟩
  dsimp only at e2
  rw [e2]
  exact w_if (fun _ => w_okZ (Or.inr rfl) (w_some ⟨Or.inl ⟨rfl, rfl⟩, hk, fr_rf⟩)) (fun _ => go1)
def skP (g : Nat) : Prop := 24003 ≤ g ∧ g ≤ 24004 ∨ 25001 ≤ g ∧ g ≤ 25003 ∨ 26001 ≤ g ∧ g ≤ 38011
theorem e_X8_unfoldCode {vl : Nat → Nat} {r0 : Nat} {r1 : Nat} {x2 : Int32} {z : ow_MS} {Q : ow_MS → Prop} (H : Tt (fun K _ => cm_X8_unfoldCode_0 vl K x2 r0 r1 z) Q) : Te (fun K => ce_X8_unfoldCode vl K r0 r1 x2 z) Q := w_te0 H
theorem tc_unfoldCode {g' p' s' c : Nat} {A : rn_L} {sg : Nat → Bool} (hg' : tH g' p') (hd : g' + 6 ≤ 24000) (hs' : s' < p') (hb : slC y g' s' (clC sg A)) (hA : okL A c) (hby : byR y (g' + 1)) (hk : knC y) (hl : lvS y) : Te (fun K => ce_X8_unfoldCode vl K 24000 g' (nI s') y) (fun y1 => knC y1 ∧ lvS y1 ∧ fr skP y y1) := by
  refine e_X8_unfoldCode ?_; unfold cm_X8_unfoldCode_0
  refine w_cs1 (tc_isKnown (s := 0) (by omega) hg' (by omega) hs' hb (okL_c hA).2 hby hk) ?_
  rintro v y1 ⟨h1, k1, f1⟩
  dsimp only at h1 k1 f1
  have f1s : fr skP y y1 := fr_mono (fun g hg => by unfold cW at hg; unfold skP; omega) f1
  have l1 : lvS y1 := fun j hj => by
    obtain ⟨T, t1, t2⟩ := hl j hj
    exact ⟨T, cAt_fr f1 (fun g hg h9 => by unfold cP lv at hg; unfold cW at h9; omega) t1, t2⟩
  refine w_if (fun _ => ?_) (fun _ => w_some ⟨k1, l1, f1s⟩)
  refine w_cs0 (tc_fillA ch_24003 (by omega)) ?_
  rintro y2 ⟨-, f2⟩
  refine w_cs0 (tc_fillA ch_24004 (by omega)) ?_
  rintro y3 ⟨-, f3⟩
  have f13 : fr skP y1 y3 := fr_tr (fr_mono (fun g hg => by unfold skP; omega) f2) (fr_mono (fun g hg => by unfold skP; omega) f3)
  have f13a : fr (fun g => g = 24003 ∨ g = 24004) y1 y3 := fr_tr (fr_mono (fun g hg => by omega) f2) (fr_mono (fun g hg => by omega) f3)
  have l3 : lvS y3 := fun j hj => by
    obtain ⟨T, t1, t2⟩ := l1 j hj
    exact ⟨T, cAt_fr f13a (fun g hg h9 => by unfold cP lv at hg; omega) t1, t2⟩
  have k3 := knC_fr f13a (fun g hg => by omega) k1
  obtain ⟨T, t1, t2⟩ := l3 0 (by omega)
  have s3 : slC y3 g' s' (clC sg A) := slC_fr (fr_tr f1s f13) (fun q hq h9 => by unfold cW at hq; unfold skP at h9; omega) hb
  refine w_crX (j := 0) rfl (by omega) (w_cs0 (tc_load2 (lv_nH (L := 0) (by omega)) hg' (Or.inr (by omega)) hs' hA s3 t1 t2) ?_)
  rintro y4 ⟨⟨T1, q1, q2, q3⟩, f4⟩
  have n4 := q1.2.2.1
  have l4 : lvS y4 := lvS_fr (L := 0) f4 (fun g hg => Or.inl (cL_in hg)) ⟨T1, q1.1, n4.2.2.1⟩ l3
  refine w_cs0 (tc_unfold l4 q1.1 ⟨n4.1, n4.2.1, n4.2.2.1, by have := n4.2.2.2; omega⟩) ?_
  rintro y5 ⟨l5, f5⟩
  have f45 : fr (fun g => 24003 ≤ g ∧ g ≤ 24004 ∨ 26001 ≤ g ∧ g ≤ 38011) y3 y5 := fr_tr (fr_mono (fun g hg => by unfold cL at hg; omega) f4) (fr_mono (fun g hg => by unfold unP at hg; omega) f5)
  exact w_some ⟨knC_fr f45 (fun g hg => by omega) k3, l5, fr_tr f1s (fr_tr f13 (fr_mono (fun g hg => by unfold skP; omega) f45))⟩
theorem u_X8_conwayAt_1 {vl : Nat → Nat} {x1 : Int32} {r0 : Nat} {z : ow_MS} {Q : (Int32 × ow_MS) → Prop} (H : Tt (fun K k => cm_X8_conwayAt_1 vl K (c_X8_conwayAt vl K k) x1 r0 z) Q) : Tt (fun K k => c_X8_conwayAt vl K k 1 x1 r0 z) Q := w_un (fun _ _ => rfl) H
theorem e_X8_conwayAt {vl : Nat → Nat} {r0 : Nat} {x1 : Int32} {z : ow_MS} {Q : (Int32 × ow_MS) → Prop} (H : Tt (fun K k => c_X8_conwayAt vl K k 0 x1 r0 z) Q) : Te (fun K => ce_X8_conwayAt vl K r0 x1 z) Q := w_te H
theorem u_X8_conwayAt_0 {vl : Nat → Nat} {x1 : Int32} {r0 : Nat} {z : ow_MS} {Q : (Int32 × ow_MS) → Prop} (H : Tt (fun K k => cm_X8_conwayAt_0 vl K (c_X8_conwayAt vl K k) x1 r0 z) Q) : Tt (fun K k => c_X8_conwayAt vl K k 0 x1 r0 z) Q := w_un (fun _ _ => rfl) H
theorem tc_conwayAt {x : Int32} : Te (fun K => ce_X8_conwayAt vl K 24000 x y) (fun r => r.2 = y ∧ (∀ k, k < 13 → x = nI k → r.1 = y.2.1 24003 k) ∧ ((∀ k, k < 13 → x ≠ nI k) → r.1 = 0)) := by
  have c1 : (∀ k, k < 13 → x ≠ nI k) → Tt (fun K t => c_X8_conwayAt vl K t 1 x 24000 y) (fun r => r.2 = y ∧ (∀ k, k < 13 → x = nI k → r.1 = y.2.1 24003 k) ∧ ((∀ k, k < 13 → x ≠ nI k) → r.1 = 0)) := by
    intro hn
    refine u_X8_conwayAt_1 ?_; unfold cm_X8_conwayAt_1
    exact w_some ⟨rfl, fun k hk e => absurd e (hn k hk), fun _ => rfl⟩
  refine e_X8_conwayAt ?_
  refine u_X8_conwayAt_0 ?_; unfold cm_X8_conwayAt_0
  rw [show (Int32.ofNat (uw_len (cX vl) y (24000 + 3))) = nI 13 from rfl]
  refine w_if (fun h0 => c1 (fun k hk e => ?_)) (fun h0 => w_if (fun h9 => ?_) (fun h9 => c1 (fun k hk e => ?_)))
  · rw [e] at h0
    exact nI_pos (by omega) h0
  · obtain ⟨k, k31, rfl⟩ := nI_of h0
    have hk : k < 13 := (nI_ltI k31 (by omega)).mp h9
    exact w_crI ch_24003 rfl hk rfl (w_some ⟨rfl, fun k' hk' e => by rw [nI_inj9 (by omega) (by omega) e], fun h => absurd rfl (h k hk)⟩)
  · rw [e] at h9
    exact h9 (nI_lt hk (by omega))
theorem e_X8_twoAt {vl : Nat → Nat} {r0 : Nat} {x1 : Int32} {x2 : Int32} {z : ow_MS} {Q : (Int32 × ow_MS) → Prop} (H : Tt (fun K _ => cm_X8_twoAt_0 vl K x1 x2 r0 z) Q) : Te (fun K => ce_X8_twoAt vl K r0 x1 x2 z) Q := w_te0 H
theorem tc_twoAt {x x' : Int32} : Te (fun K => ce_X8_twoAt vl K 24000 x x' y) (fun r => r.2 = y) := by
  refine e_X8_twoAt ?_; unfold cm_X8_twoAt_0
  refine w_cs1 tc_twoIndex ?_
  rintro v z ⟨h1, e2⟩
  dsimp only at h1 e2
  rw [e2]
  rcases h1 with rfl | ⟨k, hk, rfl⟩
  · exact w_ifT rfl (w_some rfl)
  · exact w_if (fun _ => w_some rfl) (fun _ => w_crI ch_24004 rfl hk rfl (w_some rfl))
theorem lvS_ns (h : nsC y) : lvS y := fun j hj => h (lv j) (lv_nH hj)
theorem gM_sk {y1 : ow_MS} (hf : fr skP y y1) (hl : lvS y1) (h : gM y) : gM y1 := by
  refine ⟨⟨dgC_fr hf (fun g g1 g2 h9 => by unfold skP at h9; omega) h.1.1, fun h' hh' => ?_, kdC_fr hf (fun g hg => by unfold skP at hg; omega) h.1.2.2⟩, tbs_fr hf (fun g hg => by unfold skP at hg; omega) h.2⟩
  by_cases e : 26000 ≤ h' ∧ h' ≤ 38000
  · have key : ∀ a, a ∈ nHL → 26000 ≤ a ∧ a ≤ 38000 → a = lv (a / 1000 - 26) ∧ a / 1000 - 26 ≤ 12 := by decide
    obtain ⟨k1, k2⟩ := key h' hh' e
    rw [k1]
    exact hl _ k2
  · obtain ⟨T, t1, t2⟩ := h.1.2.1 h' hh'
    refine ⟨T, cAt_fr hf (fun g hg h9 => ?_) t1, t2⟩
    have key : ∀ a, a ∈ nHL → a ≤ 17000 ∨ 26000 ≤ a ∧ a ≤ 38000 ∨ 40000 ≤ a := by decide
    have := key h' hh'
    unfold cP at hg
    unfold skP at h9
    omega
theorem e_X11_conway {vl : Nat → Nat} {r0 : Nat} {x1 : Int32} {x2 : Int32} {z : ow_MS} {Q : (Nat × Int32 × ow_MS) → Prop} (H : Tt (fun K _ => cm_X11_conway_0 vl K x1 x2 r0 z) Q) : Te (fun K => ce_X11_conway vl K r0 x1 x2 z) Q := w_te0 H
theorem tc_conway {x x' : Int32} (hM : gM y) (hk : knC y) : Te (fun K => ce_X11_conway vl K 0 x x' y) (fun r => gM r.2.2 ∧ knC r.2.2 ∧ fr skP y r.2.2) := by
  refine e_X11_conway ?_; unfold cm_X11_conway_0
  refine w_tc0 (tc_need hM.1.1) ?_ ?_
  · rintro y1 ⟨h1, rfl⟩
    rcases h1 with ⟨-, d, A, sg, c, hd, rfl, hs, hA, hne⟩ | h1
    · refine w_cs0 (tc_unfoldCode ch_1000 (by omega) hd hs hA hM.1.1.1 hk (lvS_ns hM.1.2.1)) ?_
      rintro y2 ⟨k2, l2, f2⟩
      refine w_cs1 tc_conwayAt ?_
      rintro v z ⟨e2, -⟩
      dsimp only at e2
      rw [e2]
      exact w_some ⟨gM_sk f2 l2 hM, k2, f2⟩
    · exact absurd (show (0 : Nat) = 1 from h1.1) (by decide)
  · rintro a y1 ha ⟨h1, rfl⟩
    exact w_some ⟨hM, hk, fr_rf⟩
def twP (g : Nat) : Prop := uP g ∨ skP g
theorem e_X11_two {vl : Nat → Nat} {r0 : Nat} {x1 : Int32} {x2 : Int32} {x3 : Int32} {z : ow_MS} {Q : (Nat × Int32 × ow_MS) → Prop} (H : Tt (fun K _ => cm_X11_two_0 vl K x1 x2 x3 r0 z) Q) : Te (fun K => ce_X11_two vl K r0 x1 x2 x3 z) Q := w_te0 H
theorem tc_two {x x1 x2 : Int32} (hM : gM y) (hB : brC y) (hk : knC y) : Te (fun K => ce_X11_two vl K 0 x x1 x2 y) (fun r => gM r.2.2 ∧ brC r.2.2 ∧ knC r.2.2 ∧ fr twP y r.2.2) := by
  refine e_X11_two ?_; unfold cm_X11_two_0
  refine w_tc0 (tc_needBraid (brC_E hB)) ?_ ?_
  · rintro y1 ⟨h1, rfl⟩
    rcases h1 with ⟨-, hb⟩ | h1
    · obtain ⟨b, n, l, hb20, rfl, hn2, hn5, e15, l16, e14, hw⟩ := isB_w hB hb
      refine w_crI ch_14 rfl hb20 e14 (w_le (b := 10) (by omega) (by omega) (fun h12 => ?_) (fun _ => w_some ⟨hM, hB, hk, fr_rf⟩))
      obtain ⟨T, t1, t2⟩ := hM.1.2.1 4000 nH4
      refine w_crI ch_14 rfl hb20 e14 (w_crI ch_15 rfl hb20 e15 ?_)
      rw [m16]
      refine w_cs0 (tc_close t1 t2 hb20 hn2 hn5 (by omega) hw) ?_
      rintro y3 ⟨⟨T1, g1, g2⟩, f3⟩
      have hN3 : gN y3 := gN_net nH4 f3 (fun g hg => by unfold clR cP at hg; omega) ⟨T1, g1, g2.2.2.1⟩ hM.1
      have f3u : fr uP y1 y3 := fr_mono (fun g hg => by unfold clR cP at hg; unfold uP; omega) f3
      have hk7 : kH 7000 := Or.inl rfl
      have hb7 := hN3.2.2 7000 hk7
      refine w_cs0 (tc_encode hk7 nH4 g1 g2 hb7.1 hb7.2.1 hb7.2.2) ?_
      rintro y4 ⟨⟨Cs, os, z1, z2, z3⟩, b1, b2, b3, hy4, f4⟩
      obtain ⟨A', sg', q1, q2, -⟩ := enc_ok g2 z1
      have f4u : fr uP y3 y4 := fr_mono (fun g hg => by
        unfold enP cpP epP cV cQ at hg
        unfold uP
        omega) f4
      have f14 : fr uP y1 y4 := fr_tr f3u f4u
      have hN4 : gN y4 := by
        refine ⟨dgC_fr f4 (fun g g1 g2 h9 => by unfold enP cpP epP cV cQ at h9; omega) hN3.1, nsC_put nH4 f4 (fun h' hh' hne g hg h9 => ?_) ⟨T1, hy4, g2.2.2.1⟩ hN3.2.1, fun k hk2 => ?_⟩
        · have h8 := nH_far hh' nH4 hne
          have h7 := kH_dj hk7 hh'
          unfold cP at hg
          unfold enP cpP epP cV cQ at h9
          omega
        · rcases hk2 with rfl | rfl
          · exact ⟨b1, b2, b3⟩
          · have hb9 := hN3.2.2 20000 (Or.inr rfl)
            exact ⟨byR_fr f4 (by unfold enP cpP epP cV cQ; omega) hb9.1, byR_fr f4 (by unfold enP cpP epP cV cQ; omega) hb9.2.1, byR_fr f4 (by unfold enP cpP epP cV cQ; omega) hb9.2.2⟩
      have hM4 : gM y4 := gM_u f14 hN4 hM
      have k4 : knC y4 := knC_fr f14 (fun g hg => by unfold uP at hg; omega) hk
      rw [q2] at z2
      refine w_cs0 (tc_unfoldCode (s' := 0) (kH_out hk7) (by omega) Nat.one_pos z2 q1 b1 k4 (lvS_ns hM4.1.2.1)) ?_
      rintro y5 ⟨k5, l5, f5⟩
      refine w_cs1 tc_twoAt ?_
      rintro v z e2
      dsimp only at e2
      rw [e2]
      have f15 : fr twP y1 y5 := fr_tr (fr_mono (fun g hg => Or.inl hg) f14) (fr_mono (fun g hg => Or.inr hg) f5)
      exact w_some ⟨gM_sk f5 l5 hM4, brC_fr f15 (by unfold twP uP skP; omega) hB, k5, f15⟩
    · exact absurd (show (0 : Nat) = 1 from h1.1) (by decide)
  · rintro a y1 ha ⟨h1, rfl⟩
    exact w_some ⟨hM, hB, hk, fr_rf⟩
end CCW
end
section
/-! 99zzzzzzs.cjon -/
/-! the class: ends of gaps tied to one another -/
theorem un_rt {p : Nat → Nat} {g h : Nat} (hp : dn p) : ∃ m r, p m = m ∧ p r = r ∧ r ≤ m ∧ (m = rt p g ∧ r = rt p h ∨ m = rt p h ∧ r = rt p g) ∧ un p g h = pup p m r ∧ ∀ x, rt (un p g h) x = if rt p x = m then r else rt p x := by
  by_cases hc : rt p h ≤ rt p g
  · refine ⟨rt p g, rt p h, (rt_in hp g).1, (rt_in hp h).1, hc, Or.inl ⟨rfl, rfl⟩, if_pos hc, ?_⟩
    intro x
    rw [show un p g h = pup p (rt p g) (rt p h) from if_pos hc]
    rcases Nat.lt_or_eq_of_le hc with h1 | h1
    · exact (rt_pup hp (rt_in hp g).1 (rt_in hp h).1 h1).2 x
    · rw [h1, un_same (rt_in hp g).1]
      split
      · assumption
      · rfl
  · refine ⟨rt p h, rt p g, (rt_in hp h).1, (rt_in hp g).1, by omega, Or.inr ⟨rfl, rfl⟩, if_neg hc, ?_⟩
    intro x
    rw [show un p g h = pup p (rt p h) (rt p g) from if_neg hc]
    exact (rt_pup hp (rt_in hp h).1 (rt_in hp g).1 (by omega)).2 x
theorem un_iff {p : Nat → Nat} {g h x y : Nat} (hp : dn p) : rt (un p g h) x = rt (un p g h) y ↔ rt p x = rt p y ∨ (rt p x = rt p g ∧ rt p y = rt p h) ∨ (rt p x = rt p h ∧ rt p y = rt p g) := by
  obtain ⟨m, r, -, -, -, h1, -, h2⟩ := un_rt (g := g) (h := h) hp
  rw [h2 x, h2 y]
  rcases h1 with ⟨rfl, rfl⟩ | ⟨rfl, rfl⟩
  · by_cases a : rt p x = rt p g <;> by_cases b : rt p y = rt p g <;> simp only [a, b, if_true, if_false] <;> constructor <;> intro h9 <;> grind
  · by_cases a : rt p x = rt p h <;> by_cases b : rt p y = rt p h <;> simp only [a, b, if_true, if_false] <;> constructor <;> intro h9 <;> grind
theorem rtsN_pup {p : Nat → Nat} {m r : Nat} (hm : p m = m) (hr : r < m) : ∀ V, rtsN (pup p m r) V + (if m < V then 1 else 0) = rtsN p V
  | 0 => rfl
  | V + 1 => by
    have ih := rtsN_pup (p := p) hm hr V
    rw [rtsN_s, rtsN_s]
    by_cases e : V = m
    · subst e
      have e1 : pup p V r V = r := if_pos rfl
      rw [e1, hm, if_pos rfl, if_neg (by omega), if_pos (by omega)]
      rw [if_neg (by omega)] at ih
      omega
    · have e1 : pup p m r V = p V := if_neg e
      rw [e1]
      by_cases h9 : m < V
      · rw [if_pos h9] at ih
        rw [if_pos (show m < V + 1 by omega)]
        omega
      · rw [if_neg h9] at ih
        rw [if_neg (show ¬ m < V + 1 by omega)]
        omega
theorem rtsN_un {p : Nat → Nat} {g h V : Nat} (hp : dn p) (hg : g < V) (hh : h < V) : rtsN (un p g h) V + (if rt p g = rt p h then 0 else 1) = rtsN p V := by
  obtain ⟨m, r, h1, h2, h3, h4, h5, -⟩ := un_rt (g := g) (h := h) hp
  have a1 := (rt_in hp g).2
  have a2 := (rt_in hp h).2
  rw [h5]
  rcases Nat.lt_or_eq_of_le h3 with h6 | h6
  · have := rtsN_pup h1 h6 V
    rw [if_pos (by omega)] at this
    rw [if_neg (by omega)]
    exact this
  · rw [h6, un_same h1, if_pos (by omega)]
    rfl
/-- the gap of an end -/
def egp (S : ow_NP) (e : Nat) : Nat := if e % 2 = 0 then e / 2 else S.2 (e / 2)
/-- the partners of the ends that are open -/
def tiI (S : ow_NP) (p : Nat → Nat) (act : Nat → Prop) (P : Nat → Nat) : Prop := dn P ∧ ∀ a, act a → act (p a) ∧ p a ≠ a ∧ p (p a) = a ∧ ∀ b, act b → (rt P (egp S a) = rt P (egp S b) ↔ b = a ∨ b = p a)
def tiP (p : Nat → Nat) (a b : Nat) : Nat → Nat := if p a = b then p else pup (pup p (p a) (p b)) (p b) (p a)
def tiA (act : Nat → Prop) (a b : Nat) : Nat → Prop := fun e => act e ∧ e ≠ a ∧ e ≠ b
theorem upd_v {p : Nat → Int32} {i j : Nat} {x : Int32} : upd p i x j = if j = i then x else p j := by
  by_cases e : j = i
  · rw [if_pos e, e]
    exact pk_us
  · rw [if_neg e]
    exact pk_un e
theorem ti_cl {S : ow_NP} {p P : Nat → Nat} {act : Nat → Prop} {a b : Nat} (h : tiI S p act P) (ha : act a) (hb : act b) (hab : a ≠ b) : p a = b ↔ rt P (egp S a) = rt P (egp S b) := by
  have := (h.2 a ha).2.2.2 b hb
  grind
theorem ti_step {S : ow_NP} {p P : Nat → Nat} {act : Nat → Prop} {a b : Nat} (h : tiI S p act P) (ha : act a) (hb : act b) (hab : a ≠ b) : tiI S (tiP p a b) (tiA act a b) (un P (egp S a) (egp S b)) := by
  refine ⟨un_dn h.1, ?_⟩
  obtain ⟨a1, a2, a3, a4⟩ := h.2 a ha
  obtain ⟨b1, b2, b3, b4⟩ := h.2 b hb
  have hd := h.1
  intro e he
  obtain ⟨e0, ea, eb⟩ := he
  obtain ⟨e1, e2, e3, e4⟩ := h.2 e e0
  by_cases hc : p a = b
  · have q : tiP p a b = p := if_pos hc
    rw [q]
    refine ⟨⟨e1, by grind, by grind⟩, e2, e3, ?_⟩
    intro d hd'
    obtain ⟨d0, da, db⟩ := hd'
    rw [un_iff hd]
    have x1 := e4 d d0
    have x2 := e4 a ha
    have x3 := e4 b hb
    grind
  · have q : ∀ x, tiP p a b x = if x = p b then p a else if x = p a then p b else p x := by
      intro x
      rw [show tiP p a b = pup (pup p (p a) (p b)) (p b) (p a) from if_neg hc]
      rfl
    have pab : p a ≠ p b := fun h9 => hab (by rw [← a3, h9, b3])
    rw [q e]
    by_cases c1 : e = p b
    · rw [if_pos c1]
      refine ⟨⟨a1, a2, hc⟩, by rw [c1]; exact pab, ?_, ?_⟩
      · rw [q, if_neg pab, if_pos rfl, c1]
      · intro d hd'
        obtain ⟨d0, da, db⟩ := hd'
        rw [un_iff hd]
        have x1 := e4 d d0
        have x2 := e4 a ha
        have x3 := e4 b hb
        have x4 := a4 d d0
        grind
    · rw [if_neg c1]
      by_cases c2 : e = p a
      · rw [if_pos c2]
        refine ⟨⟨b1, fun h9 => hc (by rw [← h9, b3]), b2⟩, by rw [c2]; exact fun h9 => pab h9.symm, ?_, ?_⟩
        · rw [q, if_pos rfl, c2]
        · intro d hd'
          obtain ⟨d0, da, db⟩ := hd'
          rw [un_iff hd]
          have x1 := e4 d d0
          have x2 := e4 a ha
          have x3 := e4 b hb
          have x4 := b4 d d0
          grind
      · rw [if_neg c2]
        refine ⟨⟨e1, by grind, by grind⟩, e2, ?_, ?_⟩
        · rw [q, if_neg (by grind), if_neg (by grind), e3]
        · intro d hd'
          obtain ⟨d0, da, db⟩ := hd'
          rw [un_iff hd]
          have x1 := e4 d d0
          have x2 := e4 a ha
          have x3 := e4 b hb
          grind
/-- a state of a net: which ends are tied at a crossing -/
def sgP (G : Nat → Int32) (x : Nat) : Bool := decide (0 < G x)
def alB (G : Nat → Int32) (b : Nat → Bool) (x : Nat) : Bool := sgP G x == !b x
def toI (G : Nat → Int32) (b : Nat → Bool) (x : Nat) : Nat := if alB G b x then 4 * x + 2 else 4 * x + 3
def toO (G : Nat → Int32) (b : Nat → Bool) (x : Nat) : Nat := if alB G b x then 4 * x + 3 else 4 * x + 2
def uPs (S : ow_NP) (G : Nat → Int32) (b : Nat → Bool) (x : Nat) (P : Nat → Nat) : Nat → Nat := un (un P (egp S (4 * x + 1)) (egp S (toI G b x))) (egp S (4 * x)) (egp S (toO G b x))
def uPx (S : ow_NP) (G : Nat → Int32) (b : Nat → Bool) : Nat → Nat → Nat
  | 0 => fun g => g
  | x + 1 => uPs S G b x (uPx S G b x)
def onC (b : Nat → Bool) : Nat → Nat
  | 0 => 0
  | x + 1 => onC b x + if b x then 1 else 0
theorem onC_le (b : Nat → Bool) : ∀ x, onC b x ≤ x
  | 0 => Nat.le_refl _
  | x + 1 => by
    have := onC_le b x
    show onC b x + _ ≤ x + 1
    split <;> omega
theorem uPx_dn {S : ow_NP} {G : Nat → Int32} {b : Nat → Bool} : ∀ x, dn (uPx S G b x)
  | 0 => fun _ => Nat.le_refl _
  | x + 1 => un_dn (un_dn (uPx_dn x))
theorem uPx_c {S : ow_NP} {G : Nat → Int32} {b b' : Nat → Bool} : ∀ x, (∀ k, k < x → b k = b' k) → uPx S G b x = uPx S G b' x ∧ onC b x = onC b' x
  | 0, _ => ⟨rfl, rfl⟩
  | x + 1, h => by
    obtain ⟨h1, h2⟩ := uPx_c (S := S) (G := G) x (fun k hk => h k (by omega))
    have h3 := h x (by omega)
    constructor
    · show uPs S G b x (uPx S G b x) = uPs S G b' x (uPx S G b' x)
      rw [h1]
      unfold uPs toI toO alB
      rw [h3]
    · show onC b x + _ = onC b' x + _
      rw [h2, h3]
def seB (b : Nat → Bool) (x : Nat) (v : Bool) : Nat → Bool := fun k => if k = x then v else b k
/-- where the states are counted -/
def tbL (S : ow_NP) (G : Nat → Int32) (ci : Nat) : Nat → Nat → (Nat → Bool) → List Nat
  | 0, x, b => [24 * onC b x + (ci + rtsN (uPx S G b x) (2 * x))]
  | d + 1, x, b => tbL S G ci d (x + 1) (seB b x false) ++ tbL S G ci d (x + 1) (seB b x true)
/-- a row with one more at each of these places -/
def bmp (R : Nat → Int32) : List Nat → Nat → Int32
  | [] => R
  | k :: l => bmp (upd R k (R k + 1)) l
theorem bmp_app (R : Nat → Int32) (l m : List Nat) : bmp R (l ++ m) = bmp (bmp R l) m := by
  induction l generalizing R with
  | nil => rfl
  | cons k l ih => exact ih _
/-- the ends that are open before crossing x -/
def opA (c x : Nat) : Nat → Prop := fun e => 4 * x ≤ e ∧ e < 4 * c
theorem opA_s {G : Nat → Int32} {b : Nat → Bool} {c x : Nat} : (fun e => tiA (tiA (opA c x) (4 * x + 1) (toI G b x)) (4 * x) (toO G b x) e) = opA c (x + 1) := by
  funext e
  apply propext
  unfold tiA opA toI toO
  by_cases h : alB G b x <;> simp only [h, if_true, if_false] <;> constructor <;> intro h9 <;> (try simp at h9) <;> (try simp) <;> omega
def ptE (R : Nat → Int32) (p : Nat → Nat) (c : Nat) : Prop := ∀ e, e < 4 * c → R e = nI (p e)
def tiR (R : Nat → Int32) (p : Nat → Nat) (a b : Nat) : Nat → Int32 := if p a = b then R else upd (upd R (p a) (nI (p b))) (p b) (nI (p a))
theorem ptE_t {R : Nat → Int32} {p : Nat → Nat} {a b c : Nat} (h : ptE R p c) : ptE (tiR R p a b) (tiP p a b) c := by
  intro e he
  unfold tiR tiP
  by_cases hc : p a = b
  · rw [if_pos hc, if_pos hc]
    exact h e he
  · rw [if_neg hc, if_neg hc, upd_v, upd_v]
    show _ = nI (if e = p b then p a else if e = p a then p b else p e)
    split
    · rfl
    · split
      · rfl
      · exact h e he
theorem opA_lt {c x e : Nat} (h : opA c x e) : e < 4 * c := h.2
section CJN
variable {vl : Nat → Nat} {y : ow_MS} {S : ow_NP} {p P : Nat → Nat} {act : Nat → Prop} {a b c : Nat}
theorem ch_24007 : ((cX vl).2 24007).2.1 = 48 := rfl
theorem ch_24006 : ((cX vl).2 24006).2.1 = 312 := rfl
theorem e_X8_tie {vl : Nat → Nat} {r0 : Nat} {x1 : Int32} {x2 : Int32} {z : ow_MS} {Q : (Int32 × ow_MS) → Prop} (H : Tt (fun K _ => cm_X8_tie_0 vl K x1 x2 r0 z) Q) : Te (fun K => ce_X8_tie vl K r0 x1 x2 z) Q := w_te0 H
theorem tc_tie (hc : c ≤ 12) (hp : ptE (y.2.1 24007) p c) (ha : a < 4 * c) (hb : b < 4 * c) (hpa : p a < 4 * c) (hpb : p b < 4 * c) (hne : p a ≠ a) : Te (fun K => ce_X8_tie vl K 24000 (nI a) (nI b) y) (fun r => r.1 = nI (if p a = b then 1 else 0) ∧ r.2.2.1 24007 = tiR (y.2.1 24007) p a b ∧ fr (fun g => g = 24007) y r.2) := by
  refine e_X8_tie ?_; unfold cm_X8_tie_0
  refine w_crI ch_24007 rfl (by omega) (hp a ha) (w_eqN (by omega) (by omega) (fun e => w_some ⟨?_, ?_, fr_rf⟩) (fun e => ?_))
  · rw [if_pos e]
    rfl
  · exact (if_pos e).symm
  · refine w_crI ch_24007 rfl (by omega) (hp a ha) (w_crI ch_24007 rfl (by omega) (hp b hb) (w_ctI ch_24007 rfl (by omega) (w_crI ch_24007 rfl (i := b) (by omega) (rd_ne (fun h9 => e h9.symm) (hp b hb)) (w_crI ch_24007 rfl (i := a) (by omega) (rd_ne (fun h9 => hne h9.symm) (hp a ha)) (w_ctI ch_24007 rfl (by omega) (w_some ⟨?_, ?_, fr_I2 (fr_I rfl) rfl⟩))))))
    · rw [if_neg e]
      rfl
    · rw [po_usI_row, po_usI_row]
      exact (if_neg e).symm
theorem e_X8_untie {vl : Nat → Nat} {r0 : Nat} {x1 : Int32} {x2 : Int32} {z : ow_MS} {Q : ow_MS → Prop} (H : Tt (fun K _ => cm_X8_untie_0 vl K x1 x2 r0 z) Q) : Te (fun K => ce_X8_untie vl K r0 x1 x2 z) Q := w_te0 H
theorem tc_untie {R : Nat → Int32} (hc : c ≤ 12) (h : tiI S p act P) (hac : ∀ e, act e → e < 4 * c) (hR : ptE R p c) (hp : y.2.1 24007 = tiR R p a b) (ha : act a) (hb : act b) (hab : a ≠ b) : Te (fun K => ce_X8_untie vl K 24000 (nI a) (nI b) y) (fun y1 => y1.2.1 24007 = R ∧ fr (fun g => g = 24007) y y1) := by
  obtain ⟨a1, a2, a3, a4⟩ := h.2 a ha
  obtain ⟨b1, b2, b3, b4⟩ := h.2 b hb
  have k1 := hac _ ha
  have k2 := hac _ hb
  have k3 := hac _ a1
  have k4 := hac _ b1
  by_cases e : p a = b
  · have q : tiR R p a b = R := if_pos e
    rw [q] at hp
    refine e_X8_untie ?_; unfold cm_X8_untie_0
    refine w_crI ch_24007 rfl (by omega) (show y.2.1 24007 a = nI (p a) by rw [hp]; exact hR a k1) (w_ifT (by rw [e]) (w_some ⟨hp, fr_rf⟩))
  · have q : tiR R p a b = upd (upd R (p a) (nI (p b))) (p b) (nI (p a)) := if_neg e
    have v1 : y.2.1 24007 a = nI (p a) := by
      rw [hp, q, upd_v, upd_v, if_neg (by grind), if_neg (by grind)]
      exact hR a k1
    have v2 : y.2.1 24007 b = nI (p b) := by
      rw [hp, q, upd_v, upd_v, if_neg (by grind), if_neg (by grind)]
      exact hR b k2
    refine e_X8_untie ?_; unfold cm_X8_untie_0
    refine w_crI ch_24007 rfl (by omega) v1 (w_ifF (fun h9 => e (nI_inj9 (by omega) (by omega) h9)) (w_crI ch_24007 rfl (by omega) v1 (w_ctI ch_24007 rfl (by omega) (w_crI ch_24007 rfl (i := b) (by omega) (rd_ne (fun h9 => e h9.symm) v2) (w_ctI ch_24007 rfl (by omega) (w_some ⟨?_, fr_I2 (fr_I rfl) rfl⟩))))))
    rw [po_usI_row, po_usI_row, hp, q]
    funext x
    rw [upd_v, upd_v, upd_v, upd_v]
    by_cases x1 : x = p b
    · rw [if_pos x1, x1, hR _ k4, b3]
    · rw [if_neg x1, if_neg x1]
      by_cases x2 : x = p a
      · rw [if_pos x2, x2, hR _ k3, a3]
      · rw [if_neg x2, if_neg x2]
theorem w_cdT {dd r0 : Nat} {x1 x2 x3 : Int32} {z : ow_MS} {Q : ow_MS → Prop} (H : Tt (fun K k => c_X8_takeBoth vl K (cd0_X8_takeBoth vl K dd) k 0 x1 x2 x3 0 0 0 0 0 0 0 r0 0 0 z) Q) : Te (fun K => cd0_X8_takeBoth vl K (dd + 1) r0 x1 x2 x3 z) Q := w_te H
theorem nH40 : nH 40000 := by
  unfold nH nHL
  decide
theorem egp_lt (hv : vn c S) {e : Nat} (he : e < 4 * c) : egp S e < 2 * c := by
  unfold egp
  split
  · omega
  · exact (hv _ (by omega)).2.1
end CJN
section CTB
variable {vl : Nat → Nat} {S : ow_NP} {G : Nat → Int32} {c ci : Nat}
theorem u_X8_takeBoth_0 {dd : Nat} {vl : Nat → Nat} {x1 : Int32} {x2 : Int32} {x3 : Int32} {x4 : Int32} {x5 : Int32} {x6 : Int32} {x7 : Int32} {x8 : Int32} {x9 : Int32} {x10 : Int32} {r0 : Nat} {t0 : Int32} {t1 : Int32} {z : ow_MS} {Q : ow_MS → Prop} (H : Tt (fun K k => cm_X8_takeBoth_0 vl K (cd0_X8_takeBoth vl K dd) (c_X8_takeBoth vl K (cd0_X8_takeBoth vl K dd) k) x1 x2 x3 x4 x5 x6 x7 x8 x9 x10 r0 t0 t1 z) Q) : Tt (fun K k => c_X8_takeBoth vl K (cd0_X8_takeBoth vl K dd) k 0 x1 x2 x3 x4 x5 x6 x7 x8 x9 x10 r0 t0 t1 z) Q := w_un (fun _ _ => rfl) H
theorem u_X8_takeBoth_6 {dd : Nat} {vl : Nat → Nat} {x1 : Int32} {x2 : Int32} {x3 : Int32} {x4 : Int32} {x5 : Int32} {x6 : Int32} {x7 : Int32} {x8 : Int32} {x9 : Int32} {x10 : Int32} {r0 : Nat} {t0 : Int32} {t1 : Int32} {z : ow_MS} {Q : ow_MS → Prop} (H : Tt (fun K k => cm_X8_takeBoth_6 vl K (cd0_X8_takeBoth vl K dd) (c_X8_takeBoth vl K (cd0_X8_takeBoth vl K dd) k) x1 x2 x3 x4 x5 x6 x7 x8 x9 x10 r0 t0 t1 z) Q) : Tt (fun K k => c_X8_takeBoth vl K (cd0_X8_takeBoth vl K dd) k 6 x1 x2 x3 x4 x5 x6 x7 x8 x9 x10 r0 t0 t1 z) Q := w_un (fun _ _ => rfl) H
theorem u_X8_takeBoth_4 {dd : Nat} {vl : Nat → Nat} {x1 : Int32} {x2 : Int32} {x3 : Int32} {x4 : Int32} {x5 : Int32} {x6 : Int32} {x7 : Int32} {x8 : Int32} {x9 : Int32} {x10 : Int32} {r0 : Nat} {t0 : Int32} {t1 : Int32} {z : ow_MS} {Q : ow_MS → Prop} (H : Tt (fun K k => cm_X8_takeBoth_4 vl K (cd0_X8_takeBoth vl K dd) (c_X8_takeBoth vl K (cd0_X8_takeBoth vl K dd) k) x1 x2 x3 x4 x5 x6 x7 x8 x9 x10 r0 t0 t1 z) Q) : Tt (fun K k => c_X8_takeBoth vl K (cd0_X8_takeBoth vl K dd) k 4 x1 x2 x3 x4 x5 x6 x7 x8 x9 x10 r0 t0 t1 z) Q := w_un (fun _ _ => rfl) H
theorem u_X8_takeBoth_5 {dd : Nat} {vl : Nat → Nat} {x1 : Int32} {x2 : Int32} {x3 : Int32} {x4 : Int32} {x5 : Int32} {x6 : Int32} {x7 : Int32} {x8 : Int32} {x9 : Int32} {x10 : Int32} {r0 : Nat} {t0 : Int32} {t1 : Int32} {z : ow_MS} {Q : ow_MS → Prop} (H : Tt (fun K k => cm_X8_takeBoth_5 vl K (cd0_X8_takeBoth vl K dd) (c_X8_takeBoth vl K (cd0_X8_takeBoth vl K dd) k) x1 x2 x3 x4 x5 x6 x7 x8 x9 x10 r0 t0 t1 z) Q) : Tt (fun K k => c_X8_takeBoth vl K (cd0_X8_takeBoth vl K dd) k 5 x1 x2 x3 x4 x5 x6 x7 x8 x9 x10 r0 t0 t1 z) Q := w_un (fun _ _ => rfl) H
theorem u_X8_takeBoth_2 {dd : Nat} {vl : Nat → Nat} {x1 : Int32} {x2 : Int32} {x3 : Int32} {x4 : Int32} {x5 : Int32} {x6 : Int32} {x7 : Int32} {x8 : Int32} {x9 : Int32} {x10 : Int32} {r0 : Nat} {t0 : Int32} {t1 : Int32} {z : ow_MS} {Q : ow_MS → Prop} (H : Tt (fun K k => cm_X8_takeBoth_2 vl K (cd0_X8_takeBoth vl K dd) (c_X8_takeBoth vl K (cd0_X8_takeBoth vl K dd) k) x1 x2 x3 x4 x5 x6 x7 x8 x9 x10 r0 t0 t1 z) Q) : Tt (fun K k => c_X8_takeBoth vl K (cd0_X8_takeBoth vl K dd) k 2 x1 x2 x3 x4 x5 x6 x7 x8 x9 x10 r0 t0 t1 z) Q := w_un (fun _ _ => rfl) H
theorem u_X8_takeBoth_3 {dd : Nat} {vl : Nat → Nat} {x1 : Int32} {x2 : Int32} {x3 : Int32} {x4 : Int32} {x5 : Int32} {x6 : Int32} {x7 : Int32} {x8 : Int32} {x9 : Int32} {x10 : Int32} {r0 : Nat} {t0 : Int32} {t1 : Int32} {z : ow_MS} {Q : ow_MS → Prop} (H : Tt (fun K k => cm_X8_takeBoth_3 vl K (cd0_X8_takeBoth vl K dd) (c_X8_takeBoth vl K (cd0_X8_takeBoth vl K dd) k) x1 x2 x3 x4 x5 x6 x7 x8 x9 x10 r0 t0 t1 z) Q) : Tt (fun K k => c_X8_takeBoth vl K (cd0_X8_takeBoth vl K dd) k 3 x1 x2 x3 x4 x5 x6 x7 x8 x9 x10 r0 t0 t1 z) Q := w_un (fun _ _ => rfl) H
theorem u_X8_takeBoth_1 {dd : Nat} {vl : Nat → Nat} {x1 : Int32} {x2 : Int32} {x3 : Int32} {x4 : Int32} {x5 : Int32} {x6 : Int32} {x7 : Int32} {x8 : Int32} {x9 : Int32} {x10 : Int32} {r0 : Nat} {t0 : Int32} {t1 : Int32} {z : ow_MS} {Q : ow_MS → Prop} (H : Tt (fun K k => cm_X8_takeBoth_1 vl K (cd0_X8_takeBoth vl K dd) (c_X8_takeBoth vl K (cd0_X8_takeBoth vl K dd) k) x1 x2 x3 x4 x5 x6 x7 x8 x9 x10 r0 t0 t1 z) Q) : Tt (fun K k => c_X8_takeBoth vl K (cd0_X8_takeBoth vl K dd) k 1 x1 x2 x3 x4 x5 x6 x7 x8 x9 x10 r0 t0 t1 z) Q := w_un (fun _ _ => rfl) H
theorem tc_takeB (hc : c ≤ 12) (hv : vn c S) (hB : ∀ b, ci + rtsN (uPx S G b c) (2 * c) ≤ 23) : ∀ (d x lo dd : Nat) (b : Nat → Bool) (p : Nat → Nat) (y : ow_MS), x + d = c → d ≤ dd → lo + (2 * c - 2 * x) = ci + rtsN (uPx S G b x) (2 * c) → tiI S p (opA c x) (uPx S G b x) → cAt y 40000 (c, ci, S, G) → ptE (y.2.1 24007) p c → Te (fun K => cd0_X8_takeBoth vl K (dd + 1) 24000 (nI x) (nI (onC b x)) (nI lo) y) (fun y1 => y1.2.1 24006 = bmp (y.2.1 24006) (tbL S G ci d x b) ∧ y1.2.1 24007 = y.2.1 24007 ∧ fr (fun g => g = 24006 ∨ g = 24007) y y1) := by
  intro d
  induction d with
  | zero =>
    intro x lo dd b p y hx hdd hlo hti hy hp
    have hx : x = c := by omega
    subst hx
    have h1 := hB b
    have h2 := onC_le b x
    refine w_cdT ?_
    refine u_X8_takeBoth_0 ?_; unfold cm_X8_takeBoth_0
    refine w_rdF hy.1 (w_ltF (by omega) (by omega) ?_)
    have ei : nI (onC b x) * 24 + nI lo = nI (24 * onC b x + (ci + rtsN (uPx S G b x) (2 * x))) := by
      rw [show nI (onC b x) * (24 : Int32) = nI (onC b x * 24) from pk_mul _ 24, nI_add]
      congr 1
      omega
    rw [ei]
    refine w_crI ch_24006 rfl (by omega) rfl (w_ctI ch_24006 rfl (by omega) (w_some ⟨?_, ?_, fr_I (Or.inl rfl)⟩))
    · exact po_usI_row
    · exact po_usI_ot (by omega)
  | succ d ih =>
    intro x lo dd b p y hx hdd hlo hti hy hp
    obtain ⟨dd, rfl⟩ : ∃ k, dd = k + 1 := ⟨dd - 1, by omega⟩
    let Q : ow_MS → Prop := fun y1 => y1.2.1 24006 = bmp (y.2.1 24006) (tbL S G ci (d + 1) x b) ∧ y1.2.1 24007 = y.2.1 24007 ∧ fr (fun g => g = 24006 ∨ g = 24007) y y1
    have lo31 : lo < 1000 := by
      have : rtsN (uPx S G b x) (2 * c) ≤ 2 * c := by
        unfold rtsN
        exact Nat.le_trans (List.length_filter_le _ _) (by rw [List.length_range]; exact Nat.le_refl _)
      have := hB b
      omega
    have on1 := onC_le b x
    -- one of the two ways
    have one : ∀ (o : Nat) (v : Bool) (z : ow_MS), o = (if v then 1 else 0) → cAt z 40000 (c, ci, S, G) → z.2.1 24007 = y.2.1 24007 → (∀ z1 : ow_MS, z1.2.1 24006 = bmp (z.2.1 24006) (tbL S G ci d (x + 1) (seB b x v)) → z1.2.1 24007 = z.2.1 24007 → fr (fun g => g = 24006 ∨ g = 24007) z z1 → Tt (fun K k => c_X8_takeBoth vl K (cd0_X8_takeBoth vl K (dd + 1)) k 1 (nI x) (nI (onC b x)) (nI lo) (nI (4 * x)) (nI (4 * x + 1)) (nI (4 * x + 2)) (nI (4 * x + 3)) (nI (o + 1)) 0 0 24000 0 0 z1) Q) → Tt (fun K k => c_X8_takeBoth vl K (cd0_X8_takeBoth vl K (dd + 1)) k 1 (nI x) (nI (onC b x)) (nI lo) (nI (4 * x)) (nI (4 * x + 1)) (nI (4 * x + 2)) (nI (4 * x + 3)) (nI o) 0 0 24000 0 0 z) Q := by
      intro o v z ho hz hzr cont
      have bE := uPx_c (S := S) (G := G) (b := seB b x v) (b' := b) x (fun k hk => if_neg (by omega))
      have bX : seB b x v x = v := if_pos rfl
      have o2 : o < 2 := by cases v <;> simp at ho <;> omega
      have c6 : ∀ (al : Int32), Tt (fun K k => c_X8_takeBoth vl K (cd0_X8_takeBoth vl K (dd + 1)) k 6 (nI x) (nI (onC b x)) (nI lo) (nI (4 * x)) (nI (4 * x + 1)) (nI (4 * x + 2)) (nI (4 * x + 3)) (nI o) al (nI (toI G (seB b x v) x)) 24000 (nI (toO G (seB b x v) x)) 0 z) Q := by
        intro al
        have A0 : opA c x (4 * x + 1) := ⟨by omega, by omega⟩
        have A1 : opA c x (toI G (seB b x v) x) := by unfold toI opA; split <;> omega
        have A2 : (4 * x + 1) ≠ toI G (seB b x v) x := by unfold toI; split <;> omega
        have hp0 : ptE (z.2.1 24007) p c := by rw [hzr]; exact hp
        have t1 := ti_step hti A0 A1 A2
        have B0 : tiA (opA c x) (4 * x + 1) (toI G (seB b x v) x) (4 * x) := ⟨⟨by omega, by omega⟩, by omega, by unfold toI; split <;> omega⟩
        have B1 : tiA (opA c x) (4 * x + 1) (toI G (seB b x v) x) (toO G (seB b x v) x) := ⟨by unfold toO opA; split <;> omega, by unfold toO; split <;> omega, by unfold toO toI; split <;> omega⟩
        have B2 : 4 * x ≠ toO G (seB b x v) x := by unfold toO; split <;> omega
        have t2 := ti_step t1 B0 B1 B2
        rw [show tiA (tiA (opA c x) (4 * x + 1) (toI G (seB b x v) x)) (4 * x) (toO G (seB b x v) x) = opA c (x + 1) from opA_s, show un (un (uPx S G b x) (egp S (4 * x + 1)) (egp S (toI G (seB b x v) x))) (egp S (4 * x)) (egp S (toO G (seB b x v) x)) = uPx S G (seB b x v) (x + 1) from by rw [← bE.1]; rfl] at t2
        have r1 := rtsN_un (uPx_dn (S := S) (G := G) (b := b) x) (egp_lt hv (opA_lt A0)) (egp_lt hv (opA_lt A1))
        have r2 := rtsN_un t1.1 (egp_lt hv (show 4 * x < 4 * c by omega)) (egp_lt hv (opA_lt B1.1))
        rw [show un (un (uPx S G b x) (egp S (4 * x + 1)) (egp S (toI G (seB b x v) x))) (egp S (4 * x)) (egp S (toO G (seB b x v) x)) = uPx S G (seB b x v) (x + 1) from by rw [← bE.1]; rfl] at r2
        have q1 := ti_cl hti A0 A1 A2
        have q2 := ti_cl t1 B0 B1 B2
        refine u_X8_takeBoth_6 ?_; unfold cm_X8_takeBoth_6
        refine w_cs1 (tc_tie hc hp0 (opA_lt A0) (opA_lt A1) (opA_lt (hti.2 _ A0).1) (opA_lt (hti.2 _ A1).1) (hti.2 _ A0).2.1) ?_
        rintro v6 z5 ⟨e6, row5, f5⟩
        dsimp only at e6 row5 f5
        have hp1 : ptE (z5.2.1 24007) (tiP p (4 * x + 1) (toI G (seB b x v) x)) c := by
          rw [row5]
          exact ptE_t hp0
        refine w_cs1 (tc_tie hc hp1 (show 4 * x < 4 * c by omega) (opA_lt B1.1) (opA_lt (t1.2 _ B0).1.1) (opA_lt (t1.2 _ B1).1.1) (t1.2 _ B0).2.1) ?_
        rintro v8 z7 ⟨e8, row7, f7⟩
        dsimp only at e8 row7 f7
        have hp2 : ptE (z7.2.1 24007) (tiP (tiP p (4 * x + 1) (toI G (seB b x v) x)) (4 * x) (toO G (seB b x v) x)) c := by
          rw [row7]
          exact ptE_t hp1
        have f57 : fr (fun g => g = 24007) z z7 := fr_tr f5 f7
        have hz7 : cAt z7 40000 (c, ci, S, G) := cAt_fr f57 (fun g hg h9 => by unfold cP at hg; omega) hz
        have eo : nI (onC b x) + nI o = nI (onC (seB b x v) (x + 1)) := by
          rw [nI_add]
          congr 1
          show _ = onC (seB b x v) x + if seB b x v x then 1 else 0
          rw [bE.2, bX, ho]
        rw [e6, e8, eo, nI_1, nI_add, nI_add, nI_1]
        have hlo' : lo + ((if p (4 * x + 1) = toI G (seB b x v) x then 1 else 0) + (if tiP p (4 * x + 1) (toI G (seB b x v) x) (4 * x) = toO G (seB b x v) x then 1 else 0)) + (2 * c - 2 * (x + 1)) = ci + rtsN (uPx S G (seB b x v) (x + 1)) (2 * c) := by
          simp only [q1, q2]
          revert r1 r2
          generalize rtsN (uPx S G (seB b x v) (x + 1)) (2 * c) = n2
          generalize rtsN (un (uPx S G b x) (egp S (4 * x + 1)) (egp S (toI G (seB b x v) x))) (2 * c) = n1
          intro r1 r2
          split at r1 <;> split at r2 <;> simp only [*, if_true, if_false] at * <;> omega
        refine w_cs0 (ih (x + 1) _ dd (seB b x v) _ z7 (by omega) (by omega) hlo' t2 hz7 hp2) ?_
        rintro z9 ⟨s9, row9, f9⟩
        refine w_cs0 (tc_untie hc t1 (fun e he => opA_lt he.1) hp1 (show z9.2.1 24007 = _ by rw [row9]; exact row7) B0 B1 B2) ?_
        rintro z10 ⟨row10, f10⟩
        refine w_cs0 (tc_untie hc hti (fun e he => opA_lt he) hp0 (show z10.2.1 24007 = _ by rw [row10]; exact row5) A0 A1 A2) ?_
        rintro z11 ⟨row11, f11⟩
        refine cont z11 ?_ row11 (fr_tr (fr_tr (fr_mono (fun g hg => Or.inr hg) f57) f9) (fr_tr (fr_mono (fun g hg => Or.inr hg) f10) (fr_mono (fun g hg => Or.inr hg) f11)))
        rw [(f11 24006 (by omega)).2.1, (f10 24006 (by omega)).2.1, s9, (f57 24006 (by omega)).2.1]
      have c4 : ∀ al : Bool, al = alB G (seB b x v) x → Tt (fun K k => c_X8_takeBoth vl K (cd0_X8_takeBoth vl K (dd + 1)) k 4 (nI x) (nI (onC b x)) (nI lo) (nI (4 * x)) (nI (4 * x + 1)) (nI (4 * x + 2)) (nI (4 * x + 3)) (nI o) 0 0 24000 (if al then 1 else 0) 0 z) Q := by
        intro al hal
        have c6' := c6 (if al then 1 else 0)
        cases al with
        | false =>
          rw [show toI G (seB b x v) x = 4 * x + 3 from by unfold toI; rw [← hal]; rfl, show toO G (seB b x v) x = 4 * x + 2 from by unfold toO; rw [← hal]; rfl] at c6'
          refine u_X8_takeBoth_4 ?_; unfold cm_X8_takeBoth_4
          refine w_ifT rfl ?_
          refine u_X8_takeBoth_5 ?_; unfold cm_X8_takeBoth_5
          exact w_ifT rfl c6'
        | true =>
          rw [show toI G (seB b x v) x = 4 * x + 2 from by unfold toI; rw [← hal]; rfl, show toO G (seB b x v) x = 4 * x + 3 from by unfold toO; rw [← hal]; rfl] at c6'
          refine u_X8_takeBoth_4 ?_; unfold cm_X8_takeBoth_4
          refine w_ifF (by decide) ?_
          refine u_X8_takeBoth_5 ?_; unfold cm_X8_takeBoth_5
          exact w_ifF (by decide) c6'
      have c2 : ∀ s : Bool, s = sgP G x → Tt (fun K k => c_X8_takeBoth vl K (cd0_X8_takeBoth vl K (dd + 1)) k 2 (nI x) (nI (onC b x)) (nI lo) (nI (4 * x)) (nI (4 * x + 1)) (nI (4 * x + 2)) (nI (4 * x + 3)) (nI o) 0 0 24000 (if s then 1 else 0) 0 z) Q := by
        intro s hs
        have c4' := c4 (s == !v) (by unfold alB; rw [bX, hs])
        cases v with
        | false =>
          have ho0 : o = 0 := ho
          refine u_X8_takeBoth_2 ?_; unfold cm_X8_takeBoth_2
          refine w_ifT (by rw [ho0]; rfl) ?_
          refine u_X8_takeBoth_3 ?_; unfold cm_X8_takeBoth_3
          cases s with
          | false => exact w_ifF (by decide) c4'
          | true => exact w_ifT rfl c4'
        | true =>
          have ho0 : o = 1 := ho
          refine u_X8_takeBoth_2 ?_; unfold cm_X8_takeBoth_2
          refine w_ifF (by rw [ho0]; decide) ?_
          refine u_X8_takeBoth_3 ?_; unfold cm_X8_takeBoth_3
          cases s with
          | false => exact w_ifT rfl c4'
          | true => exact w_ifF (by decide) c4'
      refine u_X8_takeBoth_1 ?_; unfold cm_X8_takeBoth_1
      refine w_ifF (fun h9 => by have := (nI_leI (a := 2) (b := o) (by omega) (by omega)).mp h9; omega) (w_crI (nH_3 nH40) rfl (show x < 12 by omega) (hz.2.2.2.2 x) (w_if (fun h9 => ?_) (fun h9 => ?_)))
      · exact c2 false (by unfold sgP; rw [decide_eq_false (Int32.not_lt.mpr h9)])
      · exact c2 true (by unfold sgP; rw [decide_eq_true (Int32.not_le.mp h9)])
    refine w_cdT ?_
    refine u_X8_takeBoth_0 ?_; unfold cm_X8_takeBoth_0
    refine w_rdF hy.1 (w_ltT (by omega) (by omega) ?_)
    rw [show (4 : Int32) * nI x = nI (4 * x) from pk_mul 4 x, nI_1, show nI (4 * x) + (2 : Int32) = nI (4 * x + 2) from nI_add _ 2, show nI (4 * x) + (3 : Int32) = nI (4 * x + 3) from nI_add _ 3]
    refine one 0 false y rfl hy rfl (fun z1 s1 r1 f1 => ?_)
    refine one 1 true z1 rfl (cAt_fr f1 (fun g hg h9 => by unfold cP at hg; omega) hy) r1 (fun z2 s2 r2 f2 => ?_)
    refine u_X8_takeBoth_1 ?_; unfold cm_X8_takeBoth_1
    refine w_ifT (by decide) (w_some ⟨?_, r2.trans r1, fr_tr f1 f2⟩)
    rw [s2, s1]
    exact (bmp_app _ _ _).symm
end CTB
end
