/-! the class: goRound, markLoops -/
theorem ch_43002 {vl : Nat → Nat} : ((cX vl).2 43002).2.1 = 4096 := rfl
theorem ch_43003 {vl : Nat → Nat} : ((cX vl).2 43003).2.1 = 256 := rfl
theorem ch_43004 {vl : Nat → Nat} : ((cX vl).2 43004).2.1 = 2560 := rfl
theorem nH44 : nH 44000 := by
  unfold nH nHL
  decide
def tb (s x : Nat) : Bool := decide (s / 2 ^ x % 2 = 1)
theorem bvx : ∀ v : Fin 16, nI v.val >>> ((1 : Int32) &&& 31) = nI (v.val / 2) ∧ nI v.val ^^^ 1 = nI (mt v.val) := by decide +kernel
theorem m1b : vp_nar .byte (-1 : Int32) = -1 := by decide
section GOR
variable {vl : Nat → Nat} {y : ow_MS} {S : ow_NP} {G : Nat → Int32} {c ci s : Nat}
theorem u_J7_fill_eb02e_1 {vl : Nat → Nat} {x1 : Int32} {x2 : Int32} {x3 : Int32} {x4 : Int32} {r0 : Nat} {z : ow_MS} {Q : ow_MS → Prop} (H : Tt (fun K k => cm_J7_fill_eb02e_1 vl K (c_J7_fill_eb02e vl K k) x1 x2 x3 x4 r0 z) Q) : Tt (fun K k => c_J7_fill_eb02e vl K k 1 x1 x2 x3 x4 r0 z) Q := w_un (fun _ _ => rfl) H
theorem e_J7_fill_eb02e {vl : Nat → Nat} {r0 : Nat} {x1 : Int32} {x2 : Int32} {x3 : Int32} {z : ow_MS} {Q : ow_MS → Prop} (H : Tt (fun K k => c_J7_fill_eb02e vl K k 0 x1 x2 x3 0 r0 z) Q) : Te (fun K => ce_J7_fill_eb02e vl K r0 x1 x2 x3 z) Q := w_te H
theorem u_J7_fill_eb02e_0 {vl : Nat → Nat} {x1 : Int32} {x2 : Int32} {x3 : Int32} {x4 : Int32} {r0 : Nat} {z : ow_MS} {Q : ow_MS → Prop} (H : Tt (fun K k => cm_J7_fill_eb02e_0 vl K (c_J7_fill_eb02e vl K k) x1 x2 x3 x4 r0 z) Q) : Tt (fun K k => c_J7_fill_eb02e vl K k 0 x1 x2 x3 x4 r0 z) Q := w_un (fun _ _ => rfl) H
theorem tc_fillB {g l a b : Nat} {x : Int32} (hL : ((cX vl).2 g).2.1 = l) (h1 : a ≤ b) (h2 : b ≤ l) (hl : l < 2 ^ 31) (hx : vp_nar .byte x = x) : Te (fun K => ce_J7_fill_eb02e vl K g (nI a) (nI b) x y) (fun y1 => (∀ k, y1.2.1 g k = if a ≤ k ∧ k < b then x else y.2.1 g k) ∧ fr (fun q => q = g) y y1) := by
  let Q : ow_MS → Prop := fun y1 => (∀ k, y1.2.1 g k = if a ≤ k ∧ k < b then x else y.2.1 g k) ∧ fr (fun q => q = g) y y1
  have c1 : ∀ (d i : Nat) (y1 : ow_MS), i + d = b → a ≤ i → (∀ k, y1.2.1 g k = if a ≤ k ∧ k < i then x else y.2.1 g k) → fr (fun q => q = g) y y1 → Tt (fun K t => c_J7_fill_eb02e vl K t 1 (nI a) (nI b) x (nI i) g y1) Q := by
    intro d
    induction d with
    | zero =>
      intro i y1 hi ha hk hf
      have e : i = b := by omega
      subst e
      refine u_J7_fill_eb02e_1 ?_; unfold cm_J7_fill_eb02e_1
      exact w_leT (by omega) (by omega) (w_some ⟨hk, hf⟩)
    | succ d ih =>
      intro i y1 hi ha hk hf
      refine u_J7_fill_eb02e_1 ?_; unfold cm_J7_fill_eb02e_1
      rw [nI_1]
      refine w_leF (by omega) (by omega) (w_ctB hL rfl (by omega) ?_)
      rw [hx]
      refine ih (i + 1) _ (by omega) (by omega) (fun k => ?_) (fr_I2 hf rfl)
      by_cases e : k = i
      · rw [e, if_pos (by omega)]
        exact po_usI_at
      · rw [show (usI y1 g i x).2.1 g k = y1.2.1 g k from po_usI_ne e, hk]
        by_cases e1 : a ≤ k ∧ k < i
        · rw [if_pos e1, if_pos (by omega)]
        · rw [if_neg e1, if_neg (by omega)]
  refine e_J7_fill_eb02e ?_
  refine u_J7_fill_eb02e_0 ?_; unfold cm_J7_fill_eb02e_0
  unfold uw_len
  rw [hL]
  refine w_cs0 (tc_range h1 h2 hl) ?_
  rintro y1 e
  subst e
  exact c1 (b - a) a _ (by omega) (by omega) (fun k => by rw [if_neg (by omega)]) fr_rf
/-- only the entries of one state change -/
def frS (s : Nat) (z z1 : ow_MS) : Prop := fr (fun g => g = 43002 ∨ g = 43003 ∨ g = 43004) z z1 ∧ (∀ i, i / 16 ≠ s → z1.2.1 43002 i = z.2.1 43002 i) ∧ (∀ i, i ≠ s → z1.2.1 43003 i = z.2.1 43003 i) ∧ ∀ i, i / 10 ≠ s → z1.2.1 43004 i = z.2.1 43004 i
theorem frS_rf {z : ow_MS} : frS s z z := ⟨fr_rf, fun _ _ => rfl, fun _ _ => rfl, fun _ _ => rfl⟩
theorem frS_tr {z z1 z2 : ow_MS} (h1 : frS s z z1) (h2 : frS s z1 z2) : frS s z z2 := ⟨fr_tr h1.1 h2.1, fun i hi => (h2.2.1 i hi).trans (h1.2.1 i hi), fun i hi => (h2.2.2.1 i hi).trans (h1.2.2.1 i hi), fun i hi => (h2.2.2.2 i hi).trans (h1.2.2.2 i hi)⟩
theorem frS_2 {z : ow_MS} {i : Nat} {x : Int32} (hi : i / 16 = s) : frS s z (usI z 43002 i x) := ⟨fr_I (Or.inl rfl), fun j hj => po_usI_ne (fun e => hj (by rw [e]; exact hi)), fun j _ => rd_ot (by omega) rfl, fun j _ => rd_ot (by omega) rfl⟩
theorem frS_3 {z : ow_MS} {x : Int32} : frS s z (usI z 43003 s x) := ⟨fr_I (Or.inr (Or.inl rfl)), fun j _ => rd_ot (by omega) rfl, fun j hj => po_usI_ne hj, fun j _ => rd_ot (by omega) rfl⟩
theorem frS_4 {z : ow_MS} {i : Nat} {x : Int32} (hi : i / 10 = s) : frS s z (usI z 43004 i x) := ⟨fr_I (Or.inr (Or.inr rfl)), fun j _ => rd_ot (by omega) rfl, fun j _ => rd_ot (by omega) rfl, fun j hj => po_usI_ne (fun e => hj (by rw [e]; exact hi))⟩
/-- labels of the gaps so far -/
def lbS (z : ow_MS) (s c : Nat) (f : Nat → Option Nat) : Prop := ∀ g, g < 2 * c → z.2.1 43002 (16 * s + g) = oM (f g)
theorem lbS_set {z : ow_MS} {f : Nat → Option Nat} {g l : Nat} (h : lbS z s c f) : lbS (usI z 43002 (16 * s + g) (nI l)) s c (stO f g l) := by
  intro k hk
  by_cases e : k = g
  · rw [e, po_usI_at, stO_at]
    rfl
  · rw [stO_ne e]
    exact rd_ne (by omega) (h k hk)
theorem i16 (s g : Nat) : nI s * (16 : Int32) + nI g = nI (16 * s + g) := by
  rw [show nI s * (16 : Int32) = nI (s * 16) from pk_mul _ 16, nI_add, Nat.mul_comm]
theorem i10 (s g : Nat) : nI s * (10 : Int32) + nI g = nI (10 * s + g) := by
  rw [show nI s * (10 : Int32) = nI (s * 10) from pk_mul _ 10, nI_add, Nat.mul_comm]
theorem u_X1_goRound_7 {vl : Nat → Nat} {x1 : Int32} {x2 : Int32} {x3 : Int32} {x4 : Int32} {x5 : Int32} {x6 : Int32} {x7 : Int32} {x8 : Int32} {r0 : Nat} {t0 : Int32} {t1 : Int32} {z : ow_MS} {Q : ow_MS → Prop} (H : Tt (fun K k => cm_X1_goRound_7 vl K (c_X1_goRound vl K k) x1 x2 x3 x4 x5 x6 x7 x8 r0 t0 t1 z) Q) : Tt (fun K k => c_X1_goRound vl K k 7 x1 x2 x3 x4 x5 x6 x7 x8 r0 t0 t1 z) Q := w_un (fun _ _ => rfl) H
theorem u_X1_goRound_6 {vl : Nat → Nat} {x1 : Int32} {x2 : Int32} {x3 : Int32} {x4 : Int32} {x5 : Int32} {x6 : Int32} {x7 : Int32} {x8 : Int32} {r0 : Nat} {t0 : Int32} {t1 : Int32} {z : ow_MS} {Q : ow_MS → Prop} (H : Tt (fun K k => cm_X1_goRound_6 vl K (c_X1_goRound vl K k) x1 x2 x3 x4 x5 x6 x7 x8 r0 t0 t1 z) Q) : Tt (fun K k => c_X1_goRound vl K k 6 x1 x2 x3 x4 x5 x6 x7 x8 r0 t0 t1 z) Q := w_un (fun _ _ => rfl) H
theorem u_X1_goRound_5 {vl : Nat → Nat} {x1 : Int32} {x2 : Int32} {x3 : Int32} {x4 : Int32} {x5 : Int32} {x6 : Int32} {x7 : Int32} {x8 : Int32} {r0 : Nat} {t0 : Int32} {t1 : Int32} {z : ow_MS} {Q : ow_MS → Prop} (H : Tt (fun K k => cm_X1_goRound_5 vl K (c_X1_goRound vl K k) x1 x2 x3 x4 x5 x6 x7 x8 r0 t0 t1 z) Q) : Tt (fun K k => c_X1_goRound vl K k 5 x1 x2 x3 x4 x5 x6 x7 x8 r0 t0 t1 z) Q := w_un (fun _ _ => rfl) H
theorem u_X1_goRound_3 {vl : Nat → Nat} {x1 : Int32} {x2 : Int32} {x3 : Int32} {x4 : Int32} {x5 : Int32} {x6 : Int32} {x7 : Int32} {x8 : Int32} {r0 : Nat} {t0 : Int32} {t1 : Int32} {z : ow_MS} {Q : ow_MS → Prop} (H : Tt (fun K k => cm_X1_goRound_3 vl K (c_X1_goRound vl K k) x1 x2 x3 x4 x5 x6 x7 x8 r0 t0 t1 z) Q) : Tt (fun K k => c_X1_goRound vl K k 3 x1 x2 x3 x4 x5 x6 x7 x8 r0 t0 t1 z) Q := w_un (fun _ _ => rfl) H
theorem u_X1_goRound_4 {vl : Nat → Nat} {x1 : Int32} {x2 : Int32} {x3 : Int32} {x4 : Int32} {x5 : Int32} {x6 : Int32} {x7 : Int32} {x8 : Int32} {r0 : Nat} {t0 : Int32} {t1 : Int32} {z : ow_MS} {Q : ow_MS → Prop} (H : Tt (fun K k => cm_X1_goRound_4 vl K (c_X1_goRound vl K k) x1 x2 x3 x4 x5 x6 x7 x8 r0 t0 t1 z) Q) : Tt (fun K k => c_X1_goRound vl K k 4 x1 x2 x3 x4 x5 x6 x7 x8 r0 t0 t1 z) Q := w_un (fun _ _ => rfl) H
theorem u_X1_goRound_2 {vl : Nat → Nat} {x1 : Int32} {x2 : Int32} {x3 : Int32} {x4 : Int32} {x5 : Int32} {x6 : Int32} {x7 : Int32} {x8 : Int32} {r0 : Nat} {t0 : Int32} {t1 : Int32} {z : ow_MS} {Q : ow_MS → Prop} (H : Tt (fun K k => cm_X1_goRound_2 vl K (c_X1_goRound vl K k) x1 x2 x3 x4 x5 x6 x7 x8 r0 t0 t1 z) Q) : Tt (fun K k => c_X1_goRound vl K k 2 x1 x2 x3 x4 x5 x6 x7 x8 r0 t0 t1 z) Q := w_un (fun _ _ => rfl) H
theorem u_X1_goRound_1 {vl : Nat → Nat} {x1 : Int32} {x2 : Int32} {x3 : Int32} {x4 : Int32} {x5 : Int32} {x6 : Int32} {x7 : Int32} {x8 : Int32} {r0 : Nat} {t0 : Int32} {t1 : Int32} {z : ow_MS} {Q : ow_MS → Prop} (H : Tt (fun K k => cm_X1_goRound_1 vl K (c_X1_goRound vl K k) x1 x2 x3 x4 x5 x6 x7 x8 r0 t0 t1 z) Q) : Tt (fun K k => c_X1_goRound vl K k 1 x1 x2 x3 x4 x5 x6 x7 x8 r0 t0 t1 z) Q := w_un (fun _ _ => rfl) H
theorem e_X1_goRound {vl : Nat → Nat} {r0 : Nat} {x1 : Int32} {x2 : Int32} {x3 : Int32} {z : ow_MS} {Q : ow_MS → Prop} (H : Tt (fun K k => c_X1_goRound vl K k 0 x1 x2 x3 0 0 0 0 0 r0 0 0 z) Q) : Te (fun K => ce_X1_goRound vl K r0 x1 x2 x3 z) Q := w_te H
theorem u_X1_goRound_0 {vl : Nat → Nat} {x1 : Int32} {x2 : Int32} {x3 : Int32} {x4 : Int32} {x5 : Int32} {x6 : Int32} {x7 : Int32} {x8 : Int32} {r0 : Nat} {t0 : Int32} {t1 : Int32} {z : ow_MS} {Q : ow_MS → Prop} (H : Tt (fun K k => cm_X1_goRound_0 vl K (c_X1_goRound vl K k) x1 x2 x3 x4 x5 x6 x7 x8 r0 t0 t1 z) Q) : Tt (fun K k => c_X1_goRound vl K k 0 x1 x2 x3 x4 x5 x6 x7 x8 r0 t0 t1 z) Q := w_un (fun _ _ => rfl) H
theorem tc_goRound {l g0 : Nat} {f : Nat → Option Nat} (hy : cAt y 44000 (c, ci, S, G)) (hv : vn c S) (hc : c ≤ 8) (hs : s < 256) (hl : l < 16) (hg0 : g0 < 2 * c) (hf : lbS y s c f) (hn : f g0 = none) (hcl : clL S G (tb s) c f) (hfl : ∀ g k, g < 2 * c → f g = some k → k < 16) : Te (fun K => ce_X1_goRound vl K 43000 (nI s) (nI g0) (nI l) y) (fun y1 => ∃ f1, lbS y1 s c f1 ∧ clL S G (tb s) c f1 ∧ f1 g0 = some l ∧ (∀ g, g < 2 * c → f g ≠ none → f1 g = f g) ∧ (∀ g k, g < 2 * c → f1 g = some k → f g = none → k = l ∧ rt (uPx S G (tb s) c) g = rt (uPx S G (tb s) c) g0) ∧ fr (fun q => q = 43002) y y1 ∧ ∀ i, i / 16 ≠ s → y1.2.1 43002 i = y.2.1 43002 i) := by
  let Q : ow_MS → Prop := fun y1 => ∃ f1, lbS y1 s c f1 ∧ clL S G (tb s) c f1 ∧ f1 g0 = some l ∧ (∀ g, g < 2 * c → f g ≠ none → f1 g = f g) ∧ (∀ g k, g < 2 * c → f1 g = some k → f g = none → k = l ∧ rt (uPx S G (tb s) c) g = rt (uPx S G (tb s) c) g0) ∧ fr (fun q => q = 43002) y y1 ∧ ∀ i, i / 16 ≠ s → y1.2.1 43002 i = y.2.1 43002 i
  let J : ow_MS → (Nat → Option Nat) → Prop := fun z f1 => lbS z s c f1 ∧ (∀ g, g < 2 * c → f g ≠ none → f1 g = f g) ∧ (∀ g k, g < 2 * c → f1 g = some k → f g = none → k = l ∧ rt (uPx S G (tb s) c) g = rt (uPx S G (tb s) c) g0) ∧ fr (fun q => q = 43002) y z ∧ ∀ i, i / 16 ≠ s → z.2.1 43002 i = y.2.1 43002 i
  have hA : ∀ z, fr (fun q => q = 43002) y z → cAt z 44000 (c, ci, S, G) := fun z h => cAt_fr h (fun g hg h9 => by unfold cP at hg; omega) hy
  -- from the arrival at an end to the next one
  have step : ∀ (e i : Nat) (z : ow_MS), e < 4 * c → fr (fun q => q = 43002) y z → Tt (fun K k => c_X1_goRound vl K k 1 (nI s) (nI g0) (nI l) (nI (egp S (p0E S (muE G (tb s) e)))) (nI (p0E S (muE G (tb s) e) % 2)) (nI (i + 1)) 0 0 43000 0 0 z) Q → Tt (fun K k => c_X1_goRound vl K k 2 (nI s) (nI g0) (nI l) (nI (egp S e)) (nI (e % 2)) (nI i) 0 0 43000 (nI (e / 2)) 0 z) Q := by
    intro e i z he hz H
    have m1 := muE_lt (G := G) (b := tb s) he
    obtain ⟨u1, u2, u3, u4⟩ := muE_i (G := G) (b := tb s) e
    obtain ⟨q1, q2, q3, q4⟩ := p0E_i hv m1
    obtain ⟨b1, b2⟩ := bvx ⟨e / 2, by omega⟩
    dsimp only at b1 b2
    have mlt := mt_lt (show e / 2 < 2 * c by omega)
    have e4 : e / 2 / 2 = e / 4 := by omega
    rw [q4] at H
    have par : muE G (tb s) e % 2 = if alB G (tb s) (e / 4) then 1 - e % 2 else e % 2 := by
      unfold muE
      split <;> omega
    have eg : egp S (muE G (tb s) e) = if muE G (tb s) e % 2 = 0 then mt (e / 2) else S.2 (mt (e / 2)) := by
      unfold egp
      rw [u2]
    have c7 : ∀ (x7 x8 : Int32), Tt (fun K k => c_X1_goRound vl K k 7 (nI s) (nI g0) (nI l) (nI (egp S e)) (nI (p0E S (muE G (tb s) e) % 2)) (nI i) x7 x8 43000 (nI (egp S (muE G (tb s) e))) 0 z) Q := by
      intro x7 x8
      refine u_X1_goRound_7 ?_; unfold cm_X1_goRound_7
      rw [nI_1]
      exact H
    have c5 : ∀ al : Bool, al = alB G (tb s) (e / 4) → Tt (fun K k => c_X1_goRound vl K k 5 (nI s) (nI g0) (nI l) (nI (egp S e)) (nI (e % 2)) (nI i) (nI (e / 2)) 0 43000 (if al then 1 else 0) 0 z) Q := by
      intro al hal
      rw [← hal] at par
      have fin : ∀ (t : Nat), t = p0E S (muE G (tb s) e) % 2 → Tt (fun K k => c_X1_goRound vl K k 6 (nI s) (nI g0) (nI l) (nI (egp S e)) (nI (e % 2)) (nI i) (nI (e / 2)) (if al then 1 else 0) 43000 (nI t) 0 z) Q := by
        intro t ht
        have t01 : t = 0 ∨ t = 1 := by omega
        refine u_X1_goRound_6 ?_; unfold cm_X1_goRound_6
        rw [b2]
        rcases t01 with h9 | h9
        · rw [h9] at ht
          have k1 : muE G (tb s) e % 2 = 1 := by omega
          rw [if_neg (by omega)] at eg
          refine w_ifT (by rw [h9]; rfl) (w_crI (nH_2 nH44) rfl (show mt (e / 2) < 24 by omega) ((hA z hz).2.2.2.1 _) ?_)
          rw [← eg, h9, ht]
          exact c7 _ _
        · rw [h9] at ht
          have k1 : muE G (tb s) e % 2 = 0 := by omega
          rw [if_pos k1] at eg
          refine w_ifF (by rw [h9]; decide) ?_
          rw [← eg, h9, ht]
          exact c7 _ _
      have e01 : e % 2 = 0 ∨ e % 2 = 1 := by omega
      refine u_X1_goRound_5 ?_; unfold cm_X1_goRound_5
      cases al with
      | false =>
        have par : muE G (tb s) e % 2 = e % 2 := par
        rcases e01 with h9 | h9
        · exact w_ifT (by rw [h9]; rfl) (fin 1 (by omega))
        · exact w_ifF (by rw [h9]; decide) (fin 0 (by omega))
      | true =>
        have par : muE G (tb s) e % 2 = 1 - e % 2 := par
        rcases e01 with h9 | h9
        · exact w_ifF (by rw [h9]; decide) (fin 0 (by omega))
        · exact w_ifT (by rw [h9]; rfl) (fin 1 (by omega))
    have c3 : ∀ sb : Bool, sb = sgP G (e / 4) → Tt (fun K k => c_X1_goRound vl K k 3 (nI s) (nI g0) (nI l) (nI (egp S e)) (nI (e % 2)) (nI i) (nI (e / 2)) 0 43000 (if sb then 1 else 0) 0 z) Q := by
      intro sb hsb
      have hbit := bit_nI (s := s) (x := e / 4) hs (by omega)
      have c5' : ∀ bb : Bool, tb s (e / 4) = bb → Tt (fun K k => c_X1_goRound vl K k 5 (nI s) (nI g0) (nI l) (nI (egp S e)) (nI (e % 2)) (nI i) (nI (e / 2)) 0 43000 (if (sb == !bb) then 1 else 0) 0 z) Q := fun bb hbb => c5 (sb == !bb) (by unfold alB; rw [hsb, hbb])
      refine u_X1_goRound_3 ?_; unfold cm_X1_goRound_3
      rw [b1, e4, hbit]
      by_cases hb : s / 2 ^ (e / 4) % 2 = 1
      · have tbv : tb s (e / 4) = true := decide_eq_true hb
        have := c5' true tbv
        refine w_ifF (by unfold btN; rw [hb]; decide) ?_
        refine u_X1_goRound_4 ?_; unfold cm_X1_goRound_4
        cases sb with
        | false => exact w_ifT rfl this
        | true => exact w_ifF (by decide) this
      · have tbv : tb s (e / 4) = false := decide_eq_false hb
        have := c5' false tbv
        have hb0 : s / 2 ^ (e / 4) % 2 = 0 := by omega
        refine w_ifT (by unfold btN; rw [hb0]; rfl) ?_
        refine u_X1_goRound_4 ?_; unfold cm_X1_goRound_4
        cases sb with
        | false => exact w_ifF (by decide) this
        | true => exact w_ifT rfl this
    refine u_X1_goRound_2 ?_; unfold cm_X1_goRound_2
    rw [b1, e4]
    refine w_crI (nH_3 nH44) rfl (show e / 4 < 12 by omega) ((hA z hz).2.2.2.2 _) (w_if (fun h9 => ?_) (fun h9 => ?_))
    · exact c3 false (by unfold sgP; rw [decide_eq_false (Int32.not_lt.mpr h9)])
    · exact c3 true (by unfold sgP; rw [decide_eq_true (Int32.not_le.mp h9)])
  -- one gap is marked, the walk goes on
  have mark : ∀ (e i : Nat) (z : ow_MS) (f1 : Nat → Option Nat), i < 16 → e < 4 * c → f1 (egp S e) = none → J z f1 → (∀ z1, J z1 (stO f1 (egp S e) l) → Tt (fun K k => c_X1_goRound vl K k 1 (nI s) (nI g0) (nI l) (nI (egp S (p0E S (muE G (tb s) e)))) (nI (p0E S (muE G (tb s) e) % 2)) (nI (i + 1)) 0 0 43000 0 0 z1) Q) → rt (uPx S G (tb s) c) (egp S e) = rt (uPx S G (tb s) c) g0 → Tt (fun K k => c_X1_goRound vl K k 1 (nI s) (nI g0) (nI l) (nI (egp S e)) (nI (e % 2)) (nI i) 0 0 43000 0 0 z) Q := by
    rintro e i z f1 hi he hn1 ⟨j1, j2, j3, j4, j5⟩ H hrt
    have hge := egp_lt hv he
    have J2 : J (usI z 43002 (16 * s + egp S e) (nI l)) (stO f1 (egp S e) l) := by
      refine ⟨lbS_set j1, fun g hg h9 => ?_, fun g k hg hk h9 => ?_, fr_I2 j4 rfl, fun k hk => ?_⟩
      · rw [stO_ne (fun e9 => by rw [← e9, j2 g hg h9] at hn1; exact h9 hn1)]
        exact j2 g hg h9
      · by_cases e9 : g = egp S e
        · rw [e9, stO_at] at hk
          injection hk with hk
          rw [e9]
          exact ⟨hk.symm, hrt⟩
        · rw [stO_ne e9] at hk
          exact j3 g k hg hk h9
      · rw [show (usI z 43002 (16 * s + egp S e) (nI l)).2.1 43002 k = z.2.1 43002 k from po_usI_ne (fun e9 => hk (by omega))]
        exact j5 k hk
    have ev : e % 2 = 0 ∨ e % 2 = 1 := by omega
    refine u_X1_goRound_1 ?_; unfold cm_X1_goRound_1
    rw [i16]
    refine w_leF (a := 16) (by omega) (by omega) (w_crI ch_43002 rfl (by omega) ((j1 _ hge).trans (by rw [hn1]; rfl)) (w_ifT rfl (w_ctB ch_43002 rfl (by omega) ?_)))
    rw [show vp_nar .byte ((nI l).toInt8.toInt32) = nI l from (byt ⟨l, by omega⟩).1]
    rcases ev with h9 | h9
    · have e1 : egp S e = e / 2 := if_pos h9
      have := step e i _ he J2.2.2.2.1 (H _ J2)
      refine w_ifT (by rw [h9]; rfl) ?_
      rw [show nI (egp S e) = nI (e / 2) from by rw [e1]]
      rw [show nI (egp S e) = nI (e / 2) from by rw [e1]] at this
      rw [e1] at this ⊢
      exact this
    · have e1 : egp S e = S.2 (e / 2) := if_neg (by omega)
      have hn2 : S.1 (egp S e) = e / 2 := by rw [e1]; exact (hv _ (by omega)).2.2.2
      refine w_ifF (by rw [h9]; decide) (w_crI (nH_1 nH44) rfl (show egp S e < 24 by omega) ((hA _ J2.2.2.2.1).2.2.1 _) ?_)
      have e2 : ((c, ci, S, G) : ow_NT).2.2.1.1 (egp S e) = e / 2 := hn2
      rw [e2]
      exact step e i _ he J2.2.2.2.1 (H _ J2)
  have go : ∀ (d i ep e : Nat) (z : ow_MS) (f1 : Nat → Option Nat), i + d = 16 → 0 < i → i + ucn f1 (2 * c) ≤ 2 * c → J z f1 → wkL S G (tb s) c f1 l (p0E S (2 * g0)) ep e → rt (uPx S G (tb s) c) (egp S ep) = rt (uPx S G (tb s) c) g0 → Tt (fun K k => c_X1_goRound vl K k 1 (nI s) (nI g0) (nI l) (nI (egp S e)) (nI (e % 2)) (nI i) 0 0 43000 0 0 z) Q := by
    intro d
    induction d with
    | zero =>
      intro i ep e z f1 hi hi0 hu hJ hw hr
      have he := wkL_lt hv hw
      have hne := ucn_0 _ (show ucn f1 (2 * c) = 0 by omega) _ (egp_lt hv he)
      obtain ⟨j1, j2, j3, j4, j5⟩ := id hJ
      have g0e : egp S (p0E S (2 * g0)) = g0 := by
        rw [(p0E_i hv (by omega)).2.2.2]
        unfold egp
        rw [if_pos (by omega)]
        omega
      have := hw.2.2.2.2.1
      rw [g0e] at this
      refine u_X1_goRound_1 ?_; unfold cm_X1_goRound_1
      exact w_leT (a := 16) (by omega) (by omega) (w_some ⟨f1, j1, wkL_e hv hne hw, this, j2, j3, j4, j5⟩)
    | succ d ih =>
      intro i ep e z f1 hi hi0 hu hJ hw hr
      have he := wkL_lt hv hw
      have hge := egp_lt hv he
      have ce : rt (uPx S G (tb s) c) (egp S e) = rt (uPx S G (tb s) c) g0 := by
        rw [hw.2.2.1, (p0E_i hv (muE_lt hw.2.1)).2.2.2, ← muE_un hv hw.2.1]
        exact hr
      by_cases hn1 : f1 (egp S e) = none
      · have uc := ucn_st (l := l) hn1 (2 * c) hge
        exact mark e i z f1 (by omega) he hn1 hJ (fun z1 J1 => ih (i + 1) e _ z1 _ (by omega) (by omega) (by omega) J1 (wkL_s hv hn1 hw) ce) ce
      · obtain ⟨j1, j2, j3, j4, j5⟩ := id hJ
        have g0e : egp S (p0E S (2 * g0)) = g0 := by
          rw [(p0E_i hv (by omega)).2.2.2]
          unfold egp
          rw [if_pos (by omega)]
          omega
        have hgl := hw.2.2.2.2.1
        rw [g0e] at hgl
        obtain ⟨k, hk⟩ : ∃ k, f1 (egp S e) = some k := by
          cases hf1 : f1 (egp S e) with
          | none => exact absurd hf1 hn1
          | some k => exact ⟨k, rfl⟩
        have k16 : k < 16 := by
          by_cases hfn : f (egp S e) = none
          · have := (j3 _ k hge hk hfn).1
            omega
          · rw [j2 _ hge hfn] at hk
            exact hfl _ k hge hk
        refine u_X1_goRound_1 ?_; unfold cm_X1_goRound_1
        rw [i16]
        exact w_leF (a := 16) (by omega) (by omega) (w_crI ch_43002 rfl (by omega) ((j1 _ hge).trans (by rw [hk])) (w_ifF (oM_n (by omega)) (w_some ⟨f1, j1, wkL_e hv hn1 hw, hgl, j2, j3, j4, j5⟩)))
  have he0 := (p0E_i hv (show 2 * g0 < 4 * c by omega)).1
  have g0e : egp S (p0E S (2 * g0)) = g0 := by
    rw [(p0E_i hv (by omega)).2.2.2]
    unfold egp
    rw [if_pos (by omega)]
    omega
  have p2 : p0E S (2 * g0) % 2 = 1 := by
    have := (p0E_i hv (show 2 * g0 < 4 * c by omega)).2.2.1
    omega
  have uc := ucn_st (l := l) hn (2 * c) hg0
  have ul := ucn_le f (2 * c)
  have := mark (p0E S (2 * g0)) 0 y f (by omega) he0 (by rw [g0e]; exact hn) ⟨hf, fun g _ _ => rfl, fun g k _ hk h9 => (by rw [h9] at hk; cases hk), fr_rf, fun _ _ => rfl⟩ (fun z1 J1 => go 15 1 _ _ z1 _ (by omega) (by omega) (by rw [g0e]; omega) J1 (wkL_0 hv he0 (by rw [g0e]; exact hn) hcl) (by rw [g0e])) (by rw [g0e])
  rw [g0e, p2] at this
  refine e_X1_goRound ?_
  refine u_X1_goRound_0 ?_; unfold cm_X1_goRound_0
  exact this
end GOR
/-- what markLoops leaves of a state: labels, how many, a gap of each -/
def LpS (y : ow_MS) (S : ow_NP) (G : Nat → Int32) (c s : Nat) (L : Nat → Nat) (n : Nat) : Prop := (∀ g, g < 2 * c → y.2.1 43002 (16 * s + g) = nI (L g) ∧ L g < n) ∧ y.2.1 43003 s = nI n ∧ (∀ l, l < n → ∃ g, g < 2 * c ∧ y.2.1 43004 (10 * s + l) = nI g ∧ L g = l) ∧ (∀ g g', g < 2 * c → g' < 2 * c → (L g = L g' ↔ rt (uPx S G (tb s) c) g = rt (uPx S G (tb s) c) g')) ∧ n = rtsN (uPx S G (tb s) c) (2 * c)
section MLP
variable {vl : Nat → Nat} {y : ow_MS} {S : ow_NP} {G : Nat → Int32} {c ci : Nat}
theorem LpS_frS {z z1 : ow_MS} {s s' n : Nat} {L : Nat → Nat} (hne : s' ≠ s) (hc : c ≤ 8) (hn : n ≤ 10) (h : frS s z z1) (hL : LpS z S G c s' L n) : LpS z1 S G c s' L n := by
  obtain ⟨-, f2, f3, f4⟩ := h
  obtain ⟨h1, h2, h3, h4, h5⟩ := hL
  refine ⟨fun g hg => ?_, by rw [f3 s' hne]; exact h2, fun l hl => ?_, h4, h5⟩
  · rw [f2 (16 * s' + g) (by omega)]
    exact h1 g hg
  · obtain ⟨g, g1, g2, g3⟩ := h3 l hl
    exact ⟨g, g1, by rw [f4 (10 * s' + l) (by omega)]; exact g2, g3⟩
theorem rtsN_lab {p : Nat → Nat} {V n : Nat} {L : Nat → Nat} (hp : dn p) (h1 : ∀ g, g < V → L g < n) (h2 : ∀ l, l < n → ∃ g, g < V ∧ L g = l) (h3 : ∀ g g', g < V → g' < V → (L g = L g' ↔ rt p g = rt p g')) : n = rtsN p V := by
  refine Nat.le_antisymm ?_ ?_
  · have := rtsN_le (p1 := fun x => x) (p2 := p) (f := fun l => if h : l < n then Classical.choose (h2 l h) else 0) (V1 := n) (V2 := V) hp (fun l hl => ?_) (fun l l' hl hl' e => ?_)
    · have e : rtsN (fun x => x) n = n := by
        have : ∀ m, rtsN (fun x : Nat => x) m = m := by
          intro m
          induction m with
          | zero => rfl
          | succ m ih => rw [rtsN_s, ih, if_pos rfl]
        exact this n
      rw [e] at this
      exact this
    · rw [dif_pos hl]
      exact (Classical.choose_spec (h2 l hl)).1
    · rw [dif_pos hl, dif_pos hl'] at e
      have a := Classical.choose_spec (h2 l hl)
      have b := Classical.choose_spec (h2 l' hl')
      have := (h3 _ _ a.1 b.1).mpr e
      rw [a.2, b.2] at this
      rw [this]
  · unfold rtsN
    have e : (((List.range V).filter (fun g => decide (p g = g))).map L).length = ((List.range V).filter (fun g => decide (p g = g))).length := List.length_map _
    rw [← e]
    have := nodup_le (((List.range V).filter (fun g => decide (p g = g))).map L) (List.range n) (nodup_map (List.nodup_range.filter _) (fun a b ha hb e => ?_)) (fun l hl => ?_)
    · rw [List.length_range] at this
      exact this
    · obtain ⟨a1, a2⟩ := List.mem_filter.mp ha
      obtain ⟨b1, b2⟩ := List.mem_filter.mp hb
      have := (h3 a b (List.mem_range.mp a1) (List.mem_range.mp b1)).mp e
      rw [rt_root (of_decide_eq_true a2), rt_root (of_decide_eq_true b2)] at this
      exact this
    · obtain ⟨g, hg, rfl⟩ := List.mem_map.mp hl
      exact List.mem_range.mpr (h1 g (List.mem_range.mp (List.mem_filter.mp hg).1))
theorem u_X1_markLoops_1 {vl : Nat → Nat} {x1 : Int32} {x2 : Int32} {x3 : Int32} {x4 : Int32} {r0 : Nat} {z : ow_MS} {Q : ow_MS → Prop} (H : Tt (fun K k => cm_X1_markLoops_1 vl K (c_X1_markLoops vl K k) x1 x2 x3 x4 r0 z) Q) : Tt (fun K k => c_X1_markLoops vl K k 1 x1 x2 x3 x4 r0 z) Q := w_un (fun _ _ => rfl) H
theorem u_X1_markLoops_2 {vl : Nat → Nat} {x1 : Int32} {x2 : Int32} {x3 : Int32} {x4 : Int32} {r0 : Nat} {z : ow_MS} {Q : ow_MS → Prop} (H : Tt (fun K k => cm_X1_markLoops_2 vl K (c_X1_markLoops vl K k) x1 x2 x3 x4 r0 z) Q) : Tt (fun K k => c_X1_markLoops vl K k 2 x1 x2 x3 x4 r0 z) Q := w_un (fun _ _ => rfl) H
theorem u_X1_markLoops_3 {vl : Nat → Nat} {x1 : Int32} {x2 : Int32} {x3 : Int32} {x4 : Int32} {r0 : Nat} {z : ow_MS} {Q : ow_MS → Prop} (H : Tt (fun K k => cm_X1_markLoops_3 vl K (c_X1_markLoops vl K k) x1 x2 x3 x4 r0 z) Q) : Tt (fun K k => c_X1_markLoops vl K k 3 x1 x2 x3 x4 r0 z) Q := w_un (fun _ _ => rfl) H
theorem e_X1_markLoops {vl : Nat → Nat} {r0 : Nat} {z : ow_MS} {Q : ow_MS → Prop} (H : Tt (fun K k => c_X1_markLoops vl K k 0 0 0 0 0 r0 z) Q) : Te (fun K => ce_X1_markLoops vl K r0 z) Q := w_te H
theorem u_X1_markLoops_0 {vl : Nat → Nat} {x1 : Int32} {x2 : Int32} {x3 : Int32} {x4 : Int32} {r0 : Nat} {z : ow_MS} {Q : ow_MS → Prop} (H : Tt (fun K k => cm_X1_markLoops_0 vl K (c_X1_markLoops vl K k) x1 x2 x3 x4 r0 z) Q) : Tt (fun K k => c_X1_markLoops vl K k 0 x1 x2 x3 x4 r0 z) Q := w_un (fun _ _ => rfl) H
theorem tc_markLoops (hy : cAt y 44000 (c, ci, S, G)) (hv : vn c S) (hc : c ≤ 8) (hB : ∀ s, s < 2 ^ c → rtsN (uPx S G (tb s) c) (2 * c) ≤ 9) : Te (fun K => ce_X1_markLoops vl K 43000 y) (fun y1 => (∀ s, s < 2 ^ c → ∃ L n, LpS y1 S G c s L n) ∧ fr (fun g => g = 43002 ∨ g = 43003 ∨ g = 43004) y y1) := by
  let Q : ow_MS → Prop := fun y1 => (∀ s, s < 2 ^ c → ∃ L n, LpS y1 S G c s L n) ∧ fr (fun g => g = 43002 ∨ g = 43003 ∨ g = 43004) y y1
  have h2c : 2 ^ c ≤ 256 := two_mono (b := 8) hc
  have hA : ∀ z, fr (fun g => g = 43002 ∨ g = 43003 ∨ g = 43004) y z → cAt z 44000 (c, ci, S, G) := fun z h => cAt_fr h (fun g hg h9 => by unfold cP at hg; omega) hy
  have c1 : ∀ (d s : Nat) (z : ow_MS), s + d = 2 ^ c → (∀ s', s' < s → ∃ L n, LpS z S G c s' L n) → fr (fun g => g = 43002 ∨ g = 43003 ∨ g = 43004) y z → Tt (fun K k => c_X1_markLoops vl K k 1 (nI (2 * c)) (nI s) 0 0 43000 z) Q := by
    intro d
    induction d with
    | zero =>
      intro s z hs hL hf
      refine u_X1_markLoops_1 ?_; unfold cm_X1_markLoops_1
      refine w_rdF (hA z hf).1 ?_
      rw [shl1 (show ((c, ci, S, G) : ow_NT).1 < 31 by show c < 31; omega)]
      exact w_leT (by show s < 2 ^ 31; omega) (show 2 ^ c ≤ s by omega) (w_some ⟨fun s' hs' => hL s' (by omega), hf⟩)
    | succ d ih =>
      intro s z hs hL hf
      -- gaps below g are marked, n labels so far
      have c2 : ∀ (e g n : Nat) (f : Nat → Option Nat) (z1 : ow_MS), g + e = 2 * c → n ≤ g → lbS z1 s c f → clL S G (tb s) c f → (∀ k, k < g → f k ≠ none) → (∀ k l, k < 2 * c → f k = some l → l < n) → (∀ l, l < n → ∃ k, k < 2 * c ∧ z1.2.1 43004 (10 * s + l) = nI k ∧ f k = some l) → (∀ k k' l, k < 2 * c → k' < 2 * c → f k = some l → f k' = some l → rt (uPx S G (tb s) c) k = rt (uPx S G (tb s) c) k') → frS s z z1 → Tt (fun K k => c_X1_markLoops vl K k 2 (nI (2 * c)) (nI s) (nI n) (nI g) 43000 z1) Q := by
        intro e
        induction e with
        | zero =>
          intro g n f z1 hg hng hl hcl hm hln hgap hsame hfr
          have hg : g = 2 * c := by omega
          subst hg
          have hall : ∀ g, g < 2 * c → f g ≠ none := hm
          have fr1 : fr (fun g => g = 43002 ∨ g = 43003 ∨ g = 43004) y z1 := fr_tr hf hfr.1
          have hex : ∀ g, g < 2 * c → ∃ l, f g = some l := fun g hg => by
            cases hfg : f g with
            | none => exact absurd hfg (hall g hg)
            | some l => exact ⟨l, rfl⟩
          have hLp : LpS (usI z1 43003 s (nI n)) S G c s (fun g => (f g).getD 0) n := by
            have k1 : ∀ g, g < 2 * c → (f g).getD 0 < n := fun g hg => by
              obtain ⟨l, hl2⟩ := hex g hg
              rw [hl2]
              exact hln g l hg hl2
            have k3 : ∀ g g', g < 2 * c → g' < 2 * c → ((f g).getD 0 = (f g').getD 0 ↔ rt (uPx S G (tb s) c) g = rt (uPx S G (tb s) c) g') := by
              intro g g' hg hg'
              obtain ⟨l, e1⟩ := hex g hg
              obtain ⟨l', e2⟩ := hex g' hg'
              constructor
              · intro h9
                rw [e1, e2] at h9
                have h9 : l = l' := h9
                rw [← h9] at e2
                exact hsame g g' l hg hg' e1 e2
              · intro h9
                rw [clL_un hv hcl hall hg hg' h9]
            refine ⟨fun g hg => ⟨rd_ot (by omega) ?_, k1 g hg⟩, po_usI_at, fun l hl2 => ?_, k3, rtsN_lab (uPx_dn c) k1 (fun l hl2 => ?_) k3⟩
            · obtain ⟨l, e1⟩ := hex g hg
              dsimp only
              rw [hl g hg, e1]
              rfl
            · obtain ⟨k, q1, q2, q3⟩ := hgap l hl2
              exact ⟨k, q1, rd_ot (by omega) q2, by dsimp only; rw [q3]; rfl⟩
            · obtain ⟨k, q1, q2, q3⟩ := hgap l hl2
              exact ⟨k, q1, by rw [q3]; rfl⟩
          refine u_X1_markLoops_2 ?_; unfold cm_X1_markLoops_2
          refine w_leT (by omega) (by omega) (w_ctI ch_43003 rfl (by omega) ?_)
          rw [nI_1]
          refine ih (s + 1) _ (by omega) (fun s' hs' => ?_) (fr_tr fr1 frS_3.1)
          by_cases e9 : s' = s
          · rw [e9]
            exact ⟨_, n, hLp⟩
          · obtain ⟨L, n', hLs⟩ := hL s' (by omega)
            have hn' : n' ≤ 10 := by
              have := hB s' (by omega)
              rw [hLs.2.2.2.2]
              omega
            exact ⟨L, n', LpS_frS e9 hc hn' (frS_tr hfr frS_3) hLs⟩
        | succ e ihe =>
          intro g n f z1 hg hng hl hcl hm hln hgap hsame hfr
          have hgc : g < 2 * c := by omega
          have n9 : n ≤ 9 := by
            have := rtsN_le (p1 := fun x => x) (p2 := uPx S G (tb s) c) (f := fun l => if h : l < n then Classical.choose (hgap l h) else 0) (V1 := n) (V2 := 2 * c) (uPx_dn c) (fun l hl2 => ?_) (fun l l' hl2 hl2' e9 => ?_)
            · have e9 : rtsN (fun x : Nat => x) n = n := by
                have : ∀ m, rtsN (fun x : Nat => x) m = m := by
                  intro m
                  induction m with
                  | zero => rfl
                  | succ m ih => rw [rtsN_s, ih, if_pos rfl]
                exact this n
              rw [e9] at this
              exact Nat.le_trans this (hB s (by omega))
            · rw [dif_pos hl2]
              exact (Classical.choose_spec (hgap l hl2)).1
            · rw [dif_pos hl2, dif_pos hl2'] at e9
              have a := Classical.choose_spec (hgap l hl2)
              have b := Classical.choose_spec (hgap l' hl2')
              have key : l = l' := by
                have key := uPx_min (M := fun k => (f k).getD n) hv (fun x hx => ?_) c (Nat.le_refl _) _ _ a.1 b.1 e9
                · have key : (f (Classical.choose (hgap l hl2))).getD n = (f (Classical.choose (hgap l' hl2'))).getD n := key
                  rw [a.2.2, b.2.2] at key
                  exact key
                · exact clL_gd hcl hx
              rw [key]
          have hfl : ∀ k l, k < 2 * c → f k = some l → l < 16 := fun k l hk h9 => by
            have := hln k l hk h9
            omega
          have fr1 : fr (fun g => g = 43002 ∨ g = 43003 ∨ g = 43004) y z1 := fr_tr hf hfr.1
          have c3 : ∀ (n' : Nat) (f' : Nat → Option Nat) (z2 : ow_MS), n' ≤ g + 1 → lbS z2 s c f' → clL S G (tb s) c f' → (∀ k, k < g + 1 → f' k ≠ none) → (∀ k l, k < 2 * c → f' k = some l → l < n') → (∀ l, l < n' → ∃ k, k < 2 * c ∧ z2.2.1 43004 (10 * s + l) = nI k ∧ f' k = some l) → (∀ k k' l, k < 2 * c → k' < 2 * c → f' k = some l → f' k' = some l → rt (uPx S G (tb s) c) k = rt (uPx S G (tb s) c) k') → frS s z z2 → Tt (fun K k => c_X1_markLoops vl K k 3 (nI (2 * c)) (nI s) (nI n') (nI g) 43000 z2) Q := by
            intro n' f' z2 a1 a2 a3 a4 a5 a6 a7 a8
            refine u_X1_markLoops_3 ?_; unfold cm_X1_markLoops_3
            rw [nI_1]
            exact ihe (g + 1) n' f' z2 (by omega) a1 a2 a3 a4 a5 a6 a7 a8
          by_cases hfg : f g = none
          · refine u_X1_markLoops_2 ?_; unfold cm_X1_markLoops_2
            rw [i16, i10]
            refine w_leF (by omega) (by omega) (w_crI ch_43002 rfl (by omega) ((hl g hgc).trans (by rw [hfg]; rfl)) (w_ifT rfl (w_ctB ch_43004 rfl (by omega) ?_)))
            rw [show vp_nar .byte ((nI g).toInt8.toInt32) = nI g from (byt ⟨g, by omega⟩).1]
            have fz : frS s z1 (usI z1 43004 (10 * s + n) (nI g)) := frS_4 (by omega)
            refine w_cs0 (tc_goRound (ci := ci) (hA _ (fr_tr fr1 fz.1)) hv hc (by omega) (show n < 16 by omega) hgc (fun k hk => rd_ot (by omega) (hl k hk)) hfg hcl hfl) ?_
            rintro z2 ⟨f1, g1, g2, g3, g4, g5, g6, g7⟩
            have fz2 : frS s (usI z1 43004 (10 * s + n) (nI g)) z2 := ⟨fr_mono (fun q hq => Or.inl hq) g6, g7, fun i _ => by rw [(g6 43003 (by decide)).2.1], fun i _ => by rw [(g6 43004 (by decide)).2.1]⟩
            rw [nI_1]
            refine c3 (n + 1) f1 z2 (by omega) g1 g2 (fun k hk => ?_) (fun k l hk h9 => ?_) (fun l hl2 => ?_) (fun k k' l hk hk' h9 h8 => ?_) (frS_tr hfr (frS_tr fz fz2))
            · by_cases e9 : k = g
              · rw [e9, g3]
                simp
              · rw [g4 k (by omega) (hm k (by omega))]
                exact hm k (by omega)
            · by_cases hfk : f k = none
              · have := (g5 k l hk h9 hfk).1
                omega
              · rw [g4 k hk hfk] at h9
                have := hln k l hk h9
                omega
            · rw [(g6 43004 (by decide)).2.1]
              by_cases e9 : l = n
              · rw [e9]
                exact ⟨g, hgc, po_usI_at, g3⟩
              · obtain ⟨k, q1, q2, q3⟩ := hgap l (by omega)
                refine ⟨k, q1, rd_ne (by omega) q2, ?_⟩
                rw [g4 k q1 (by rw [q3]; simp)]
                exact q3
            · by_cases hfk : f k = none
              · obtain ⟨e1, r1⟩ := g5 k l hk h9 hfk
                by_cases hfk' : f k' = none
                · rw [r1, (g5 k' l hk' h8 hfk').2]
                · rw [g4 k' hk' hfk'] at h8
                  have := hln k' l hk' h8
                  omega
              · rw [g4 k hk hfk] at h9
                have hlt := hln k l hk h9
                by_cases hfk' : f k' = none
                · have := (g5 k' l hk' h8 hfk').1
                  omega
                · rw [g4 k' hk' hfk'] at h8
                  exact hsame k k' l hk hk' h9 h8
          · obtain ⟨l0, hl0⟩ : ∃ l, f g = some l := by
              cases h9 : f g with
              | none => exact absurd h9 hfg
              | some l => exact ⟨l, rfl⟩
            have hl016 := hfl g l0 hgc hl0
            refine u_X1_markLoops_2 ?_; unfold cm_X1_markLoops_2
            rw [i16]
            refine w_leF (by omega) (by omega) (w_crI ch_43002 rfl (by omega) ((hl g hgc).trans (by rw [hl0])) (w_ifF (oM_n (by omega)) (c3 n f z1 (by omega) hl hcl (fun k hk => ?_) hln hgap hsame hfr)))
            by_cases e9 : k = g
            · rw [e9]
              exact hfg
            · exact hm k (by omega)
      refine u_X1_markLoops_1 ?_; unfold cm_X1_markLoops_1
      refine w_rdF (hA z hf).1 ?_
      rw [shl1 (show ((c, ci, S, G) : ow_NT).1 < 31 by show c < 31; omega), show nI s * (16 : Int32) = nI (16 * s) from by rw [show nI s * (16 : Int32) = nI (s * 16) from pk_mul _ 16, Nat.mul_comm], nI_add]
      refine w_leF (show 2 ^ c < 2 ^ 31 by omega) (show s < 2 ^ c by omega) (w_cs0 (tc_fillB ch_43002 (by omega) (by omega) (by omega) m1b) ?_)
      rintro z1 ⟨g1, g2⟩
      refine c2 (2 * c) 0 0 (fun _ => none) z1 (by omega) (by omega) (fun g hg => ?_) (fun d l _ h9 => by cases h9) (fun k hk => absurd hk (by omega)) (fun k l _ h9 => by cases h9) (fun l hl2 => absurd hl2 (by omega)) (fun k k' l _ _ h9 => by cases h9) ⟨fr_mono (fun q hq => Or.inl hq) g2, fun i hi => ?_, fun i _ => by rw [(g2 43003 (by decide)).2.1], fun i _ => by rw [(g2 43004 (by decide)).2.1]⟩
      · rw [g1, if_pos (by omega)]
        rfl
      · rw [g1, if_neg (by omega)]
  refine e_X1_markLoops ?_
  refine u_X1_markLoops_0 ?_; unfold cm_X1_markLoops_0
  refine w_rdF hy.1 ?_
  rw [rn_mul2]
  exact c1 (2 ^ c) 0 y (by omega) (fun s' hs' => absurd hs' (by omega)) fr_rf
end MLP
