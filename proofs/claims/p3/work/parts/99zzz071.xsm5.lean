section
/-! 99zzzzzzzzzzzzzzzq.xsm5 -/
/-! summit: the class's forms go round -/
def cbR (v : Int32) (n : Nat) : Nat → Int32
  | 0 => 0
  | j + 1 => cbR v n j ||| ((foJ v ((nI n - 1) - nI j)) <<< (((4 * nI j) : Int32) &&& 31))
def gCB (n s : Nat) : Bool := decide (cbR (ivG n s) n n = pkG n (ahG n s))
theorem cb_2 : ∀ s : Fin 2, gCB 2 s.val = true := by decide +kernel
theorem cb_3 : ∀ s : Fin 6, gCB 3 s.val = true := by decide +kernel
theorem cb_4 : ∀ s : Fin 24, gCB 4 s.val = true := by decide +kernel
section XS5
variable {m : N5} {vl : Nat → Nat} {y : ow_MS} {h : Nat}
theorem cb_n (h4 : m.1 ≤ 4) {s : Nat} (hs : s < gNN m.1) : cbR (ivG m.1 s) m.1 m.1 = pkG m.1 (ahG m.1 s) := by
  have h2 := m.2.1
  generalize m.1 = n at *
  have : n = 2 ∨ n = 3 ∨ n = 4 := by omega
  rcases this with rfl | rfl | rfl
  · exact of_decide_eq_true (cb_2 ⟨s, hs⟩)
  · exact of_decide_eq_true (cb_3 ⟨s, hs⟩)
  · exact of_decide_eq_true (cb_4 ⟨s, hs⟩)
/-- a form in a state of the class -/
def foC (y : ow_MS) (h : Nat) (m : N5) (k : Int) (F : List Nat) : Prop := foA y h m.1 (iI k) (F.map (pkG m.1)) ∧ nfL m.1 F ∧ -200 ≤ k ∧ k ≤ 200
def foQ (y : ow_MS) (h : Nat) (m : N5) (k : Int) (U : List Nat) (b : Nat) (y1 : ow_MS) : Prop := (∃ (d : Nat) (F : List Nat), foA y1 h m.1 (iI (k + (d : Int))) (F.map (pkG m.1)) ∧ nfL m.1 F ∧ F.length + d ≤ b ∧ eqT m.1 U (List.replicate d (gNN m.1 - 1) ++ F)) ∧ fr (foP h) y y1
theorem le_U {U F : List Nat} {d : Nat} (hU : okT m.1 U) (hF : nfL m.1 F) (e : eqT m.1 U (List.replicate d (gNN m.1 - 1) ++ F)) : F.length + d ≤ U.length := by
  have e := F_eq (m := m) (k := 0) (hT := hU) (hF := hF.1) e
  have a1 : gle (gF m 0 U hU) (gD m (U.length : Int)) := by
    unfold gF
    have : gD m 0 = g1 m := rfl
    rw [this, g1_l]
    exact sup_le U
  rw [e] at a1
  have := (sup_F hF).mp a1
  omega
theorem xc_putBh {F : List Nat} {b : Nat} {k : Int} (hh : fO h) (hF : nfL m.1 F) (hb : b < gNN m.1) (hl : F.length < 24) (h0 : foA y h m.1 (iI k) (F.map (pkG m.1))) : Te (fun K => ce_X5_putBehind vl K h (pkG m.1 b) y) (foQ y h m k (F ++ [b]) (F.length + 1)) := w_monoE (xc_putBehindF hh m.2.1 m.2.2 hF hb hl h0) (fun r ⟨d, F', g1, g2, _, g4, g5⟩ => ⟨⟨d, F', by rw [nI_iI, iI_add] at g1; exact g1, g2, by
  have := le_U (okT_a.mpr ⟨hF.1, okT_c.mpr ⟨hb, okT_n⟩⟩) g2 g4
  rw [List.length_append] at this
  exact this, g4⟩, g5⟩)
theorem xc_putBf {F : List Nat} {b : Nat} {k : Int} (hh : fO h) (hF : nfL m.1 F) (hb : b < gNN m.1) (hl : F.length < 24) (h0 : foA y h m.1 (iI k) (F.map (pkG m.1))) : Te (fun K => ce_X5_putBefore vl K h (pkG m.1 b) y) (foQ y h m k (b :: F) (F.length + 1)) := w_monoE (xc_putBefore hh m.2.1 m.2.2 hF hb hl h0) (fun r ⟨d, F', g1, g2, _, g4, g5⟩ => ⟨⟨d, F', by rw [nI_iI, iI_add] at g1; exact g1, g2, by
  have := le_U (okT_c.mpr ⟨hb, hF.1⟩) g2 g4
  rw [List.length_cons] at this
  exact this, g4⟩, g5⟩)
theorem foQ_tr {y0 y1 : ow_MS} {k : Int} {U : List Nat} {b : Nat} (hf : fr (foP h) y0 y) (h0 : foQ y h m k U b y1) : foQ y0 h m k U b y1 := ⟨h0.1, fr_tr hf h0.2⟩
theorem pk_tu {k : Int} {f : Nat} (hf : f < gNN m.1) : (if k % 2 = 0 then pkG m.1 f else foU (pkG m.1 f) m.1 m.1) = pkG m.1 (tuG m.1 k f) := by
  unfold tuG
  by_cases e : k % 2 = 0
  · rw [if_pos e, if_pos e]
  · rw [if_neg e, if_neg e]
    exact (d_qk m.2.1 m.2.2 hf).2.1
theorem xc_cycle {k : Int} {f : Nat} {F : List Nat} (hh : fO h) (h0 : foC y h m k (f :: F)) : Te (fun K => ce_X5_cycle vl K h y) (foQ y h m k (F ++ [tuG m.1 k f]) (F.length + 1)) := by
  obtain ⟨hA, hn, k1, k2⟩ := h0
  obtain ⟨h3, l24⟩ := fo_len hA
  rw [List.length_cons] at h3 l24
  have hf := (okT_c.mp hn.1).1
  have hF := nf_c hn
  obtain ⟨a1, a2, a3, a4, a5, a6, a7⟩ := id hA
  have c1 : Tt (fun K t => c_X5_cycle vl K t 1 h (pkG m.1 (tuG m.1 k f)) y) (foQ y h m k (F ++ [tuG m.1 k f]) (F.length + 1)) := by
    refine u_X5_cycle_1 ?_; unfold cm_X5_cycle_1
    refine w_rdF h3 (w_wrF ?_)
    rw [show nI (F.length + 1) - 1 = nI F.length from pk_sub (b := 1) (by omega)]
    refine w_rdF po_usF_at (w_cpI (a := 1) (b := 0) (n := F.length) (fO_4 hh) (fO_4 hh) rfl rfl rfl (by omega) (by omega) (w_cs0 (xc_putBh (k := k) hh hF (tu_lt m.2.1 m.2.2 hf) (by omega) ?_) ?_))
    · refine ⟨rf_ot (by omega) a1, rf_ot (by omega) a2, ?_, by rw [List.length_map]; omega, fun i c ei => ?_, rf_ot (by omega) a6, rf_ot (by omega) a7⟩
      · rw [List.length_map]
        exact po_usF_at
      · have l := (List.getElem?_eq_some_iff.mp ei).1
        rw [List.length_map] at l
        rw [usR_at, pk_cpy_in (by omega) (by omega)]
        refine a5 (1 + (i - 0)) c ?_
        rw [List.map_cons, show 1 + (i - 0) = i + 1 by omega, List.getElem?_cons_succ]
        exact ei
    · rintro z g
      exact w_some (foQ_tr (fr_R2 (fr_F (by unfold foP; omega)) (by unfold foP; omega)) g)
  have e0 : y.2.1 (h + 4) 0 = pkG m.1 f := a5 0 _ rfl
  have ep := pk_tu (m := m) (k := k) hf
  refine e_X5_cycle ?_
  refine u_X5_cycle_0 ?_; unfold cm_X5_cycle_0
  refine w_rdF h3 (w_leF (b := 0) (by omega) (by omega) (w_rdF a2 (w_if (fun e => w_crI (i := 0) (fO_4 hh) rfl (by omega) e0 ?_) (fun e => w_crI (i := 0) (fO_4 hh) rfl (by omega) e0 (w_rdF a1 (w_cs1 (tc_turned m.2.2) ?_))))))
  · rw [if_pos ((iI_ev k1 k2).mp e)] at ep
    rw [ep]
    exact c1
  · rintro v z ⟨e1, e2⟩
    dsimp only at e1 e2
    rw [if_neg (fun h9 => e ((iI_ev k1 k2).mpr h9))] at ep
    rw [e2, e1, ep]
    exact c1
theorem xc_cyc0 {k : Int} (h0 : foC y h m k []) : Te (fun K => ce_X5_cycle vl K h y) (fun y1 => y1 = y) := by
  obtain ⟨h3, -⟩ := fo_len h0.1
  refine e_X5_cycle ?_
  refine u_X5_cycle_0 ?_; unfold cm_X5_cycle_0
  exact w_rdF h3 (w_leT (b := 0) (by omega) (by show (0 : Nat) ≤ 0; omega) (w_some rfl))
theorem xc_decycle {k : Int} {a : Nat} {F : List Nat} (hh : fO h) (h0 : foC y h m k (F ++ [a])) : Te (fun K => ce_X5_decycle vl K h y) (foQ y h m k (tuG m.1 k a :: F) (F.length + 1)) := by
  obtain ⟨hA, hn, k1, k2⟩ := h0
  obtain ⟨h3, l24⟩ := fo_len hA
  have len1 : (F ++ [a]).length = F.length + 1 := by rw [List.length_append]; rfl
  rw [len1] at h3 l24
  obtain ⟨hFk, hak⟩ := okT_a.mp hn.1
  have ha := (okT_c.mp hak).1
  have hF : nfL m.1 F := ⟨hFk, fun i g g' e1 e2 => by
    have l := (List.getElem?_eq_some_iff.mp e2).1
    exact hn.2.1 i g g' (by rw [List.getElem?_append_left (by omega)]; exact e1) (by rw [List.getElem?_append_left l]; exact e2), fun g hg => hn.2.2 g (List.mem_append_left _ hg)⟩
  obtain ⟨a1, a2, a3, a4, a5, a6, a7⟩ := id hA
  have e0 : y.2.1 (h + 4) F.length = pkG m.1 a := a5 F.length _ (by rw [List.getElem?_map, List.getElem?_append_right (Nat.le_refl _), Nat.sub_self]; rfl)
  have q1 : foA (usF y (h + 3) (nI F.length)) h m.1 (iI k) (F.map (pkG m.1)) := by
    refine ⟨rf_ot (by omega) a1, rf_ot (by omega) a2, ?_, by rw [List.length_map]; omega, fun i c ei => a5 i c ?_, rf_ot (by omega) a6, rf_ot (by omega) a7⟩
    · rw [List.length_map]
      exact po_usF_at
    · have l := (List.getElem?_eq_some_iff.mp ei).1
      rw [List.length_map] at l
      rw [List.map_append, List.getElem?_append_left (by rw [List.length_map]; exact l)]
      exact ei
  have c1 : ∀ w : Int32, Tt (fun K t => c_X5_decycle vl K t 1 w h (pkG m.1 (tuG m.1 k a)) (usF y (h + 3) (nI F.length))) (foQ y h m k (tuG m.1 k a :: F) (F.length + 1)) := by
    intro w
    refine u_X5_decycle_1 ?_; unfold cm_X5_decycle_1
    refine w_cs0 (xc_putBf (k := k) hh hF (tu_lt m.2.1 m.2.2 ha) (by omega) q1) ?_
    rintro z1 g
    exact w_some (foQ_tr (fr_F (by unfold foP; omega)) g)
  have ep := pk_tu (m := m) (k := k) ha
  refine e_X5_decycle ?_
  refine u_X5_decycle_0 ?_; unfold cm_X5_decycle_0
  refine w_rdF h3 (w_leF (b := 0) (by omega) (by omega) (w_rdF h3 ?_))
  rw [show nI (F.length + 1) - 1 = nI F.length from pk_sub (b := 1) (by omega)]
  refine w_crI (fO_4 hh) rfl (show F.length < 24 by omega) e0 (w_rdF h3 (w_wrF ?_))
  rw [show nI (F.length + 1) - 1 = nI F.length from pk_sub (b := 1) (by omega)]
  refine w_rdF q1.2.1 (w_if (fun e => ?_) (fun e => w_rdF q1.1 (w_cs1 (tc_turned m.2.2) ?_)))
  · rw [if_pos ((iI_ev k1 k2).mp e)] at ep
    have := c1 (pkG m.1 a)
    rw [← ep] at this
    exact this
  · rintro v z ⟨e1, e2⟩
    dsimp only at e1 e2
    rw [if_neg (fun h9 => e ((iI_ev k1 k2).mpr h9))] at ep
    rw [e2, e1, ep]
    exact c1 _
theorem xc_dcy0 {k : Int} (h0 : foC y h m k []) : Te (fun K => ce_X5_decycle vl K h y) (fun y1 => y1 = y) := by
  obtain ⟨h3, -⟩ := fo_len h0.1
  refine e_X5_decycle ?_
  refine u_X5_decycle_0 ?_; unfold cm_X5_decycle_0
  exact w_rdF h3 (w_leT (b := 0) (by omega) (by show (0 : Nat) ≤ 0; omega) (w_some rfl))
theorem xc_conjBy {k : Int} {s : Nat} {F : List Nat} (hh : fO h) (h4 : m.1 ≤ 4) (hs : s < gNN m.1) (hl : F.length ≤ 20) (h0 : foC y h m k F) : Te (fun K => ce_X5_conjugateBy vl K h (pkG m.1 s) y) (foQ y h m (k - 1) (tuG m.1 k (ahG m.1 s) :: F ++ [s]) (F.length + 2)) := by
  obtain ⟨hA, hn, k1, k2⟩ := h0
  have h2 := m.2.1
  have h5 := m.2.2
  obtain ⟨a1, a2, a3, a4, a5, a6, a7⟩ := id hA
  have ha := (f_one h2 h5 hs).2.1
  have ht := tu_lt (k := k) h2 h5 ha
  let Q : ow_MS → Prop := foQ y h m (k - 1) (tuG m.1 k (ahG m.1 s) :: F ++ [s]) (F.length + 2)
  have c2 : ∀ (a b c : Int32), Tt (fun K t => c_X5_conjugateBy vl K t 2 (pkG m.1 s) a b c h (pkG m.1 (tuG m.1 k (ahG m.1 s))) y) Q := by
    intro a b c
    refine u_X5_conjugateBy_2 ?_; unfold cm_X5_conjugateBy_2
    refine w_rdF a2 (w_wrF (w_cs0 (xc_putBf (k := k - 1) hh hn ht (by omega) ⟨rf_ot (by omega) a1, po_usF_at.trans (by show iI k - iI 1 = _; rw [iI_sub]), rf_ot (by omega) a3, a4, a5, rf_ot (by omega) a6, rf_ot (by omega) a7⟩) ?_))
    rintro z ⟨⟨d, F1, g1, g2, g3, g4⟩, g5⟩
    refine w_cs0 (xc_putBh (k := k - 1 + (d : Int)) hh g2 hs (by omega) g1) ?_
    rintro z2 ⟨⟨d2, F2, u1, u2, u3, u4⟩, u5⟩
    have hU : okT m.1 (tuG m.1 k (ahG m.1 s) :: F ++ [s]) := okT_a.mpr ⟨okT_c.mpr ⟨ht, hn.1⟩, okT_c.mpr ⟨hs, okT_n⟩⟩
    have hs1 : okT m.1 [s] := okT_c.mpr ⟨hs, okT_n⟩
    have e9 : eqT m.1 (tuG m.1 k (ahG m.1 s) :: F ++ [s]) (List.replicate (d + d2) (gNN m.1 - 1) ++ F2) := by
      have x1 := eqT_ap h2 h5 [s] hs1 (okT_c.mpr ⟨ht, hn.1⟩) (okT_a.mpr ⟨rp_ok, g2.1⟩) g4
      rw [List.append_assoc] at x1
      have x2 := eqT_pr (P := List.replicate d (gNN m.1 - 1)) h2 h5 rp_ok u4
      rw [← List.append_assoc (List.replicate d (gNN m.1 - 1)) (List.replicate d2 (gNN m.1 - 1)), ← rp_add] at x2
      exact eqT_tr x1 x2
    refine w_some ⟨⟨d + d2, F2, ?_, u2, ?_, e9⟩, fr_tr (fr_F (by unfold foP; omega)) (fr_tr g5 u5)⟩
    · rw [show k - 1 + ((d + d2 : Nat) : Int) = k - 1 + (d : Int) + (d2 : Int) by omega]
      exact u1
    · have := le_U hU u2 e9
      rw [List.length_append, List.length_cons] at this
      exact this
  have ep := pk_tu (m := m) (k := k) ha
  have c1 : ∀ (d j : Nat), j + d = m.1 → Tt (fun K t => c_X5_conjugateBy vl K t 1 (pkG m.1 s) (ivG m.1 s) (cbR (ivG m.1 s) m.1 j) (nI j) h 0 y) Q := by
    intro d
    induction d with
    | zero =>
      intro j hj
      have ej : j = m.1 := by omega
      rw [ej, cb_n h4 hs]
      refine u_X5_conjugateBy_1 ?_; unfold cm_X5_conjugateBy_1
      refine w_rdF a1 (w_leT (by omega) (by omega) (w_rdF a2 (w_if (fun e => ?_) (fun e => w_rdF a1 (w_cs1 (tc_turned m.2.2) ?_)))))
      · rw [if_pos ((iI_ev k1 k2).mp e)] at ep
        have := c2 (ivG m.1 s) (pkG m.1 (ahG m.1 s)) (nI m.1)
        rw [← ep] at this
        exact this
      · rintro v z ⟨e1, e2⟩
        dsimp only at e1 e2
        rw [if_neg (fun h9 => e ((iI_ev k1 k2).mpr h9))] at ep
        rw [e2, e1, ep]
        exact c2 _ _ _
    | succ d ih =>
      intro j hj
      refine u_X5_conjugateBy_1 ?_; unfold cm_X5_conjugateBy_1
      refine w_rdF a1 (w_leF (by omega) (by omega) (w_rdF a1 (w_cs1 tc_image ?_)))
      rintro v z ⟨e1, e2⟩
      dsimp only at e1 e2
      rw [e2, e1, nI_1]
      exact ih (j + 1) (by omega)
  refine e_X5_conjugateBy ?_
  refine u_X5_conjugateBy_0 ?_; unfold cm_X5_conjugateBy_0
  refine w_rdF a1 (w_cs1 (tc_invert m.2.2) ?_)
  rintro v z ⟨e1, e2⟩
  dsimp only at e1 e2
  rw [e2, e1]
  exact c1 m.1 0 (by omega)
theorem xc_copyF {g : Nat} {k : Int} {F : List Nat} (hh : fO h) (hg : fO g) (hd : h + 7 ≤ g ∨ g + 7 ≤ h) (g0 : foC y g m k F) : Te (fun K => ce_X5_copy vl K h g y) (fun y1 => foC y1 h m k F ∧ fr (foP h) y y1) := by
  obtain ⟨⟨a1, a2, a3, a4, a5, a6, a7⟩, hn, k1, k2⟩ := g0
  rw [List.length_map] at a3 a4
  refine e_X5_copy ?_; unfold cm_X5_copy_0
  refine w_rdF a1 (w_cs0 (tc_begin m.2.2) ?_)
  rintro z ⟨b1, b2⟩
  have np : ∀ q, g + 1 ≤ q → q ≤ g + 6 → ¬ foP h q := fun q h1 h3 h9 => by unfold foP at h9; omega
  have e2 : z.1 (g + 2) = iI k := (b2 _ (np _ (by omega) (by omega))).1.trans a2
  have e3 : z.1 (g + 3) = nI F.length := (b2 _ (np _ (by omega) (by omega))).1.trans a3
  have e4 : z.2.1 (g + 4) = y.2.1 (g + 4) := (b2 _ (np _ (by omega) (by omega))).2.1
  refine w_rdF e2 (w_wrF (w_rdF (x := nI F.length) (rf_ot (by omega) e3) (w_wrF (w_rdF po_usF_at (w_cpI (a := 0) (b := 0) (n := F.length) (fO_4 hg) (fO_4 hh) rfl rfl rfl (by omega) (by omega) (w_some ⟨⟨⟨rf_ot (by omega) (rf_ot (by omega) b1.1), rf_ot (by omega) po_usF_at, ?_, by rw [List.length_map]; exact a4, fun i c ei => ?_, rf_ot (by omega) (rf_ot (by omega) b1.2.2.2.2.2.1), rf_ot (by omega) (rf_ot (by omega) b1.2.2.2.2.2.2)⟩, hn, k1, k2⟩, fr_R2 (fr_F2 (fr_F2 b2 (by unfold foP; omega)) (by unfold foP; omega)) (by unfold foP; omega)⟩))))))
  · rw [List.length_map]
    exact po_usF_at
  · have l := (List.getElem?_eq_some_iff.mp ei).1
    rw [List.length_map] at l
    rw [usR_at, pk_cpy_in (by omega) (by omega)]
    show z.2.1 (g + 4) (0 + (i - 0)) = c
    rw [e4, show 0 + (i - 0) = i by omega]
    exact a5 i c ei
end XS5
end
section
/-! 99zzzzzzzzzzzzzzzr.xsm6 -/
/-! summit: the class climbs -/
section XS6B
variable {m : N5} {vl : Nat → Nat} {y : ow_MS} {h : Nat}
theorem sz_D10 : szD m ≤ 10 := (f_fiv m.2.1 m.2.2 (a := 0) (by have := m.2.1; omega)).2.2.2.2.2
theorem cq_ge {a b : Gn m} {k : Int} {t : Nat} (ht : szD m ≤ t) (h : cqS a k t b) : nrs a k := by
  obtain ⟨s, s1, s2, s3, s4, s5⟩ := h
  exact cq_end (b := s (szD m)) ⟨s, s1, fun j hj => s2 j (by omega), fun j hj => s3 j (by omega), rfl, fun j hj => s5 j (by omega)⟩
theorem dq_ge {a b : Gn m} {S : Int} {t : Nat} (ht : szD m ≤ t) (h : dqS a S t b) : nls a S := by
  obtain ⟨s, s1, s2, s3, s4, s5⟩ := h
  exact dq_end (b := s (szD m)) ⟨s, s1, fun j hj => s2 j (by omega), fun j hj => s3 j (by omega), rfl, fun j hj => s5 j (by omega)⟩
theorem cq_x {a b : Gn m} {k : Int} {t : Nat} (h : cqS a k t b) : ∃ x, b = cnj x a := by
  obtain ⟨s, s1, s2, s3, s4, s5⟩ := h
  obtain ⟨x, hx⟩ := s5 t (Nat.le_refl _)
  exact ⟨x, s4.symm.trans hx⟩
theorem dq_x {a b : Gn m} {S : Int} {t : Nat} (h : dqS a S t b) : ∃ x, b = cnj x a := by
  obtain ⟨s, s1, s2, s3, s4, s5⟩ := h
  obtain ⟨x, hx⟩ := s5 t (Nat.le_refl _)
  exact ⟨x, s4.symm.trans hx⟩
theorem isM_1 : isM (g1 m) (gD m 1) (g1 m) := ⟨gle_rf _, gle_1.mpr (gp_D 1), fun z h1 _ => h1⟩
theorem gF_n {k : Int} {h : okT m.1 []} : gF m k [] h = gD m k := by
  unfold gF
  rw [gL_nil, g1_r]
theorem cq_n {a : Gn m} {k : Int} {t : Nat} {h : okT m.1 []} (hq : cqS a k t (gF m k [] h)) : cqS a k (t + 1) (gF m k [] h) := by
  have e : cnj (g1 m) (gF m k [] h) = gF m k [] h := cnj_1 _
  have := cq_s (i := g1 m) hq (by rw [gF_n, gi_r]; exact isM_1) (by
    rw [e]
    obtain ⟨s, s1, s2, s3, s4, s5⟩ := hq
    rw [← s4]
    exact s3 t (Nat.le_refl _))
  rw [e] at this
  exact this
theorem dq_n {a : Gn m} {k : Int} {t : Nat} {h : okT m.1 []} (hq : dqS a k t (gF m k [] h)) : dqS a k (t + 1) (gF m k [] h) := by
  have e : gm (gD m 1) (gm (gF m k [] h) (gi (gD m 1))) = gF m k [] h := by
    rw [gF_n, ← gm_as, D_cm, gm_as, gi_r, g1_r]
  have := dq_s (i := gD m 1) hq (by rw [gF_n, gi_l, gi_l]; exact isM_1) (by
    rw [e]
    obtain ⟨s, s1, s2, s3, s4, s5⟩ := hq
    rw [← s4]
    exact s3 t (Nat.le_refl _))
  rw [e] at this
  exact this
def bdF9 (k : Int) (F : List Nat) : Prop := -16 ≤ k ∧ k + (F.length : Int) ≤ 16 ∧ F.length ≤ 16
theorem xc_climb {a : Gn m} {k0 : Int} {F0 : List Nat} (hh : sO h) (h0 : foC y (h + 1000) m k0 F0) (hb : bdF9 k0 F0) (hx : ∃ h x, gF m k0 F0 h = cnj x a) : Te (fun K => ce_X10_climb vl K h y) (fun y1 => (∃ k F, foC y1 (h + 1000) m k F ∧ bdF9 k F ∧ (∃ h x, gF m k F h = cnj x a) ∧ nrs a k ∧ nls a (k + (F.length : Int))) ∧ fr (foP (h + 1000)) y y1) := by
  let Q : ow_MS → Prop := fun y1 => (∃ k F, foC y1 (h + 1000) m k F ∧ bdF9 k F ∧ (∃ h x, gF m k F h = cnj x a) ∧ nrs a k ∧ nls a (k + (F.length : Int))) ∧ fr (foP (h + 1000)) y y1
  have s10 := sz_D10 (m := m)
  have c4 : ∀ (d i t : Nat) (k : Int) (F : List Nat) (hF : okT m.1 F) (z : ow_MS), i + d = 2000 → i + (30 - t) + 31 * F.length ≤ 2000 → t ≤ 30 → foC z (h + 1000) m k F → bdF9 k F → dqS a (k + (F.length : Int)) t (gF m k F hF) → nrs a k → fr (foP (h + 1000)) y z → Tt (fun K t' => c_X10_climb vl K t' 4 (nI t) (nI i) 0 h 0 z) Q := by
    intro d
    induction d with
    | zero =>
      intro i t k F hF z hi hm ht q1 q2 q3 q4 q5
      refine u_X10_climb_4 ?_; unfold cm_X10_climb_4
      exact w_leT (a := 2000) (by omega) (by omega) (w_some ⟨⟨k, F, q1, q2, ⟨hF, dq_x q3⟩, q4, dq_ge (by omega) q3⟩, q5⟩)
    | succ d ih =>
      intro i t k F hF z hi hm ht q1 q2 q3 q4 q5
      obtain ⟨b1, b2, b3⟩ := id q2
      obtain ⟨l3, -⟩ := fo_len q1.1
      refine u_X10_climb_4 ?_; unfold cm_X10_climb_4
      refine w_leF (a := 2000) (by omega) (by omega) (w_le (a := 30) (by omega) (by omega) (fun h9 => w_some ⟨⟨k, F, q1, q2, ⟨hF, dq_x q3⟩, q4, dq_ge (by omega) q3⟩, q5⟩) (fun h9 => w_rdF q1.1.2.1 (w_rdF l3 ?_)))
      rcases List.eq_nil_or_concat F with h8 | ⟨F1, c, h8⟩
      · subst h8
        refine w_cs0 (xc_dcy0 q1) ?_
        rintro z1 rfl
        refine w_rdF q1.1.2.1 (w_rdF l3 (w_ifT (by
          have e9 : (iI k + nI ([] : List Nat).length : Int32) = iI k := by
            show iI k + nI 0 = _
            rw [nI_iI, iI_add]
            show iI (k + 0) = iI k
            rw [Int.add_zero]
          rw [e9, iI_le (by omega) (by omega) (by omega) (by omega)]
          exact Int.le_refl _) ?_))
        refine u_X10_climb_5 ?_; unfold cm_X10_climb_5
        rw [nI_1, nI_1]
        refine ih (i + 1) (t + 1) k [] hF z1 (by omega) (by have : ([] : List Nat).length = 0 := rfl; omega) (by omega) q1 q2 ?_ q4 q5
        have e0 : k + (([] : List Nat).length : Int) = k := Int.add_zero k
        rw [e0] at q3 ⊢
        exact dq_n q3
      · rw [List.concat_eq_append] at h8
        subst h8
        have len1 : (F1 ++ [c]).length = F1.length + 1 := by rw [List.length_append]; rfl
        refine w_cs0 (xc_decycle (sO_f hh) q1) ?_
        rintro z1 ⟨⟨d2, F', f1, f2, f3, f4⟩, f5⟩
        obtain ⟨u1, u2, u3, u4⟩ := dcy_F (k := k) (h := hF) q1.2.1
        have e1 := F_eq (m := m) (k := k) (hT := u2) (hF := f2.1) f4
        rw [e1] at u4
        rw [len1] at hm b2 b3 q3 l3
        have hcx' : ∃ x, gF m (k + (d2 : Int)) F' f2.1 = cnj x a := by
          obtain ⟨x, hx⟩ := dq_x q3
          refine ⟨gm x (gi (gL m [c] u1)), ?_⟩
          rw [cnj_m, ← hx, ← u4]
          unfold cnj
          rw [gi_i]
        have j0 : d2 = 0 := by
          refine Classical.byContradiction (fun hne => ?_)
          obtain ⟨x, hx⟩ := hcx'
          refine q4 x ?_
          rw [← hx]
          exact (inf_F f2).mpr (by omega)
        subst j0
        have ek : k + ((0 : Nat) : Int) = k := Int.add_zero k
        rw [ek] at u4 f1 hcx'
        have q1' : foC z1 (h + 1000) m k F' := ⟨f1, f2, q1.2.2.1, q1.2.2.2⟩
        obtain ⟨l3', -⟩ := fo_len f1
        rw [len1]
        refine w_rdF f1.2.1 (w_rdF l3' (w_if (fun hle => ?_) (fun hgt => ?_)))
        · rw [nI_iI, nI_iI, iI_add, iI_add, iI_le (by omega) (by omega) (by omega) (by omega)] at hle
          have el : F'.length = F1.length + 1 := by omega
          refine u_X10_climb_5 ?_; unfold cm_X10_climb_5
          rw [nI_1, nI_1]
          refine ih (i + 1) (t + 1) k F' f2.1 z1 (by omega) (by omega) (by omega) q1' ⟨b1, by omega, by omega⟩ ?_ q4 (fr_tr q5 f5)
          rw [el, ← u4]
          refine dq_s q3 u3 ?_
          rw [u4]
          intro h7
          have := (sup_F f2).mp h7
          omega
        · rw [nI_iI, nI_iI, iI_add, iI_add, iI_le (by omega) (by omega) (by omega) (by omega)] at hgt
          refine u_X10_climb_5 ?_; unfold cm_X10_climb_5
          rw [nI_1]
          refine ih (i + 1) 0 k F' f2.1 z1 (by omega) (by omega) (by omega) q1' ⟨b1, by omega, by omega⟩ (dq_0 ((sup_F f2).mpr (Int.le_refl _)) (fun h7 => ?_) hcx') q4 (fr_tr q5 f5)
          have := (sup_F f2).mp h7
          omega
  have c3 : ∀ (k : Int) (F : List Nat) (hF : okT m.1 F) (z : ow_MS) (x x' : Int32), foC z (h + 1000) m k F → bdF9 k F → (∃ x, gF m k F hF = cnj x a) → nrs a k → fr (foP (h + 1000)) y z → Tt (fun K t => c_X10_climb vl K t 3 x x' 0 h 0 z) Q := by
    intro k F hF z x x' q1 q2 q3 q4 q5
    obtain ⟨b1, b2, b3⟩ := id q2
    refine u_X10_climb_3 ?_; unfold cm_X10_climb_3
    refine c4 2000 0 0 k F hF z (by omega) (by omega) (by omega) q1 q2 (dq_0 ((sup_F q1.2.1).mpr (Int.le_refl _)) (fun h7 => ?_) q3) q4 q5
    have := (sup_F q1.2.1).mp h7
    omega
  have c1 : ∀ (d i t : Nat) (k : Int) (F : List Nat) (hF : okT m.1 F) (z : ow_MS), i + d = 2000 → i + (30 - t) + 31 * (16 - k).toNat ≤ 2000 → t ≤ 30 → foC z (h + 1000) m k F → bdF9 k F → cqS a k t (gF m k F hF) → fr (foP (h + 1000)) y z → Tt (fun K t' => c_X10_climb vl K t' 1 (nI t) (nI i) 0 h 0 z) Q := by
    intro d
    induction d with
    | zero =>
      intro i t k F hF z hi hm ht q1 q2 q3 q5
      refine u_X10_climb_1 ?_; unfold cm_X10_climb_1
      exact w_leT (a := 2000) (by omega) (by omega) (c3 k F hF z _ _ q1 q2 (cq_x q3) (cq_ge (by omega) q3) q5)
    | succ d ih =>
      intro i t k F hF z hi hm ht q1 q2 q3 q5
      obtain ⟨b1, b2, b3⟩ := id q2
      refine u_X10_climb_1 ?_; unfold cm_X10_climb_1
      refine w_leF (a := 2000) (by omega) (by omega) (w_le (a := 30) (by omega) (by omega) (fun h9 => c3 k F hF z _ _ q1 q2 (cq_x q3) (cq_ge (by omega) q3) q5) (fun h9 => w_rdF q1.1.2.1 ?_))
      cases F with
      | nil =>
        refine w_cs0 (xc_cyc0 q1) ?_
        rintro z1 rfl
        refine w_rdF q1.1.2.1 (w_ifT (by rw [iI_le (by omega) (by omega) (by omega) (by omega)]; exact Int.le_refl _) ?_)
        refine u_X10_climb_2 ?_; unfold cm_X10_climb_2
        rw [nI_1, nI_1]
        exact ih (i + 1) (t + 1) k [] hF z1 (by omega) (by omega) (by omega) q1 q2 (cq_n q3) q5
      | cons f F1 =>
        rw [List.length_cons] at b2 b3
        refine w_cs0 (xc_cycle (sO_f hh) q1) ?_
        rintro z1 ⟨⟨d2, F', f1, f2, f3, f4⟩, f5⟩
        obtain ⟨u1, u2, u3, u4⟩ := cyc_F (k := k) (h := hF) q1.2.1
        have e1 := F_eq (m := m) (k := k) (hT := u2) (hF := f2.1) f4
        rw [e1] at u4
        have hcx' : ∃ x, gF m (k + (d2 : Int)) F' f2.1 = cnj x a := by
          obtain ⟨x, hx⟩ := cq_x q3
          refine ⟨gm x (gL m [tuG m.1 k f] u1), ?_⟩
          rw [cnj_m, ← hx, ← u4]
        have q1' : foC z1 (h + 1000) m (k + (d2 : Int)) F' := ⟨f1, f2, by omega, by omega⟩
        refine w_rdF f1.2.1 (w_if (fun hle => ?_) (fun hgt => ?_))
        · rw [iI_le (by omega) (by omega) (by omega) (by omega)] at hle
          have j0 : d2 = 0 := by omega
          subst j0
          have ek : k + ((0 : Nat) : Int) = k := Int.add_zero k
          rw [ek] at u4 q1'
          refine u_X10_climb_2 ?_; unfold cm_X10_climb_2
          rw [nI_1, nI_1]
          refine ih (i + 1) (t + 1) k F' f2.1 z1 (by omega) (by omega) (by omega) q1' ⟨b1, by omega, by omega⟩ ?_ (fr_tr q5 f5)
          rw [← u4]
          refine cq_s q3 u3 ?_
          rw [u4]
          intro h7
          have := (inf_F f2).mp h7
          omega
        · rw [iI_le (by omega) (by omega) (by omega) (by omega)] at hgt
          refine u_X10_climb_2 ?_; unfold cm_X10_climb_2
          rw [nI_1]
          refine ih (i + 1) 0 (k + (d2 : Int)) F' f2.1 z1 (by omega) (by omega) (by omega) q1' ⟨by omega, by omega, by omega⟩ (cq_0 ((inf_F f2).mpr (Int.le_refl _)) (fun h7 => ?_) hcx') (fr_tr q5 f5)
          have := (inf_F f2).mp h7
          omega
  obtain ⟨hF, hx⟩ := hx
  obtain ⟨b1, b2, b3⟩ := id hb
  refine e_X10_climb ?_
  refine u_X10_climb_0 ?_; unfold cm_X10_climb_0
  refine c1 2000 0 0 k0 F0 hF y (by omega) (by omega) (by omega) h0 hb (cq_0 ((inf_F h0.2.1).mpr (Int.le_refl _)) (fun h7 => ?_) hx) fr_rf
  have := (inf_F h0.2.1).mp h7
  omega
end XS6B
end
section
/-! 99zzzzzzzzzzzzzzzs.xsm7 -/
/-! summit: the class's list of simple braids -/
def ls2 (k j : Nat) : Int32 := ((nI k >>> (((2 * nI j) : Int32) &&& 31)) &&& 3)
def lsSm (k : Nat) : Nat → Int32
  | 0 => 0
  | j + 1 => lsSm k j ||| (ls2 k j <<< (((4 * nI j) : Int32) &&& 31))
def lsPl (k : Nat) : Nat → Int32
  | 0 => 0
  | j + 1 => lsPl k j ||| ((1 : Int32) <<< (ls2 k j &&& 31))
def chJ (x : Int32) (i : Nat) (a : Int32) : Nat → Int32
  | 0 => a
  | d + 1 => chJ x i a d ||| (if foJ x (nI i) ≤ foJ x (nI (i + 1 + d)) then 0 else ((1 : Int32) <<< ((((4 * nI i) + nI (i + 1 + d)) : Int32) &&& 31)))
def chA9 (n : Nat) (x : Int32) : Nat → Int32
  | 0 => 0
  | i + 1 => chJ x i (chA9 n x i) (n - (i + 1))
def lsN (n i k : Nat) (L : List (Int32 × Int32)) : List (Int32 × Int32) := if lsPl k n = ((1 : Int32) <<< (nI n &&& 31)) - 1 ∧ L.length < 24 ∧ ow_bc (chA9 n (lsSm k n) n) = nI i then L ++ [(lsSm k n, chA9 n (lsSm k n) n)] else L
def lsI9 (n i : Nat) : Nat → List (Int32 × Int32) → List (Int32 × Int32)
  | 0, L => L
  | k + 1, L => lsN n i k (lsI9 n i k L)
def lsF (n : Nat) : Nat → List (Int32 × Int32)
  | 0 => []
  | i + 1 => lsI9 n (i + 1) (4 ^ n) (lsF n i)
def lsR (y : ow_MS) (h : Nat) (L : List (Int32 × Int32)) : Prop := y.1 (h + 11) = nI L.length ∧ L.length ≤ 24 ∧ ∀ s p, L[s]? = some p → y.2.1 (h + 8) s = p.1 ∧ y.2.1 (h + 9) s = p.2
section XS7B
variable {vl : Nat → Nat} {y : ow_MS} {h n : Nat}
theorem xc_changesOf {x : Int32} (h1 : y.1 (h + 1) = nI n) (hn : n ≤ 5) : Te (fun K => ce_X10_changesOf vl K h x y) (fun r => r.1 = chA9 n x n ∧ r.2 = y) := by
  let Q : Int32 × ow_MS → Prop := fun r => r.1 = chA9 n x n ∧ r.2 = y
  have c1 : ∀ (d i : Nat), i + d = n → Tt (fun K t => c_X10_changesOf vl K t 1 x (chA9 n x i) (nI i) 0 h 0 0 y) Q := by
    intro d
    induction d with
    | zero =>
      intro i hi
      have ei : i = n := by omega
      subst ei
      refine u_X10_changesOf_1 ?_; unfold cm_X10_changesOf_1
      exact w_rdF h1 (w_leT (by omega) (by omega) (w_some ⟨rfl, rfl⟩))
    | succ d ih =>
      intro i hi
      have c2 : ∀ (e f : Nat), i + 1 + f + e = n → Tt (fun K t => c_X10_changesOf vl K t 2 x (chJ x i (chA9 n x i) f) (nI i) (nI (i + 1 + f)) h 0 0 y) Q := by
        intro e
        induction e with
        | zero =>
          intro f hf
          have ef : f = n - (i + 1) := by omega
          refine u_X10_changesOf_2 ?_; unfold cm_X10_changesOf_2
          rw [nI_1 i]
          refine w_rdF h1 (w_leT (by omega) (by omega) ?_)
          rw [ef]
          exact ih (i + 1) (by omega)
        | succ e ihe =>
          intro f hf
          have c3 : ∀ (t0 : Int32), t0 = (if foJ x (nI i) ≤ foJ x (nI (i + 1 + f)) then 0 else ((1 : Int32) <<< ((((4 * nI i) + nI (i + 1 + f)) : Int32) &&& 31))) → Tt (fun K t => c_X10_changesOf vl K t 3 x (chJ x i (chA9 n x i) f) (nI i) (nI (i + 1 + f)) h t0 (chJ x i (chA9 n x i) f) y) Q := by
            intro t0 ht0
            refine u_X10_changesOf_3 ?_; unfold cm_X10_changesOf_3
            rw [nI_1 (i + 1 + f), ht0]
            exact ihe (f + 1) (by omega)
          refine u_X10_changesOf_2 ?_; unfold cm_X10_changesOf_2
          refine w_rdF h1 (w_leF (by omega) (by omega) (w_cs1 tc_image ?_))
          rintro v z ⟨e1, e2⟩
          dsimp only at e1 e2
          rw [e2]
          refine w_cs1 tc_image ?_
          rintro v2 z2 ⟨e3, e4⟩
          dsimp only at e3 e4
          rw [e4, e1, e3]
          exact w_if (fun h9 => c3 _ (if_pos h9).symm) (fun h9 => c3 _ (if_neg h9).symm)
      refine u_X10_changesOf_1 ?_; unfold cm_X10_changesOf_1
      rw [nI_1]
      exact w_rdF h1 (w_leF (by omega) (by omega) (c2 (n - (i + 1)) 0 (by omega)))
  refine e_X10_changesOf ?_
  refine u_X10_changesOf_0 ?_; unfold cm_X10_changesOf_0
  exact c1 n 0 (by omega)
theorem xc_listSimples (hh : sO h) (h1 : y.1 (h + 1) = nI n) (hn : n ≤ 4) : Te (fun K => ce_X10_listSimples vl K h y) (fun y1 => lsR y1 h (lsF n 6) ∧ fr (lsP h) y y1) := by
  let Q : ow_MS → Prop := fun y1 => lsR y1 h (lsF n 6) ∧ fr (lsP h) y y1
  have s1 : ∀ {z : ow_MS}, fr (lsP h) y z → z.1 (h + 1) = nI n := fun q => (q (h + 1) (by unfold lsP; omega)).1.trans h1
  have p4 : 4 ^ n ≤ 256 := by
    have : n = 0 ∨ n = 1 ∨ n = 2 ∨ n = 3 ∨ n = 4 := by omega
    rcases this with rfl | rfl | rfl | rfl | rfl <;> decide
  have hsh : (1 : Int32) <<< (((2 * nI n) : Int32) &&& 31) = nI (4 ^ n) := sh_n ⟨n, by omega⟩
  have c1 : ∀ (d i : Nat) (z : ow_MS), i + d = 6 → lsR z h (lsF n i) → fr (lsP h) y z → Tt (fun K t => c_X10_listSimples vl K t 1 (nI (i + 1)) 0 0 0 0 h 0 z) Q := by
    intro d
    induction d with
    | zero =>
      intro i z hi q qf
      have ei : i = 6 := by omega
      subst ei
      refine u_X10_listSimples_1 ?_; unfold cm_X10_listSimples_1
      exact w_ltT (a := 6) (by omega) (by omega) (w_some ⟨q, qf⟩)
    | succ d ih =>
      intro i z hi q qf
      have c2 : ∀ (e k : Nat) (z : ow_MS), k + e = 4 ^ n → lsR z h (lsI9 n (i + 1) k (lsF n i)) → fr (lsP h) y z → Tt (fun K t => c_X10_listSimples vl K t 2 (nI (i + 1)) (nI k) 0 0 0 h 0 z) Q := by
        intro e
        induction e with
        | zero =>
          intro k z hk q qf
          have ek : k = 4 ^ n := by omega
          subst ek
          refine u_X10_listSimples_2 ?_; unfold cm_X10_listSimples_2
          refine w_rdF (s1 qf) ?_
          rw [hsh, nI_1]
          exact w_leT (by omega) (by omega) (ih (i + 1) z (by omega) q qf)
        | succ e ihe =>
          intro k z hk q qf
          generalize hL : lsI9 n (i + 1) k (lsF n i) = L at q
          have eN : lsI9 n (i + 1) (k + 1) (lsF n i) = lsN n (i + 1) k L := by
            show lsN n (i + 1) k (lsI9 n (i + 1) k (lsF n i)) = _
            rw [hL]
          have c6 : ∀ (a b c : Int32) (z : ow_MS), lsR z h (lsN n (i + 1) k L) → fr (lsP h) y z → Tt (fun K t => c_X10_listSimples vl K t 6 (nI (i + 1)) (nI k) a b c h 0 z) Q := by
            intro a b c z q qf
            refine u_X10_listSimples_6 ?_; unfold cm_X10_listSimples_6
            rw [nI_1]
            exact ihe (k + 1) z (by omega) (by rw [eN]; exact q) qf
          have no : ¬ (lsPl k n = ((1 : Int32) <<< (nI n &&& 31)) - 1 ∧ L.length < 24 ∧ ow_bc (chA9 n (lsSm k n) n) = nI (i + 1)) → ∀ (a b c : Int32), Tt (fun K t => c_X10_listSimples vl K t 6 (nI (i + 1)) (nI k) a b c h 0 z) Q := fun h9 a b c => c6 a b c z (by unfold lsN; rw [if_neg h9]; exact q) qf
          have c5 : ∀ (b c t0 : Int32), (t0 = 0 ∧ ¬ (lsPl k n = ((1 : Int32) <<< (nI n &&& 31)) - 1 ∧ L.length < 24) ∨ t0 = 1 ∧ lsPl k n = ((1 : Int32) <<< (nI n &&& 31)) - 1 ∧ L.length < 24) → Tt (fun K t => c_X10_listSimples vl K t 5 (nI (i + 1)) (nI k) (lsSm k n) b c h t0 z) Q := by
            intro b c t0 ht
            refine u_X10_listSimples_5 ?_; unfold cm_X10_listSimples_5
            rcases ht with ⟨rfl, ht⟩ | ⟨rfl, p1, p2⟩
            · exact w_ifT rfl (no (fun h9 => ht ⟨h9.1, h9.2.1⟩) _ _ _)
            · refine w_ifF (by decide) (w_cs1 (xc_changesOf (s1 qf) (by omega)) ?_)
              rintro v z1 ⟨e0, e1⟩
              dsimp only at e0 e1
              rw [e1, e0]
              refine w_if (fun hb => w_rdF q.1 (w_ctI (sO_8 hh) rfl p2 (w_rdF (x := nI L.length) q.1 (w_cs1 (xc_changesOf (y := usI z (h + 8) L.length (lsSm k n)) (show (usI z (h + 8) L.length (lsSm k n)).1 (h + 1) = nI n from s1 (z := z) qf) (by omega)) ?_)))) (fun hb => no (fun h9 => hb h9.2.2) _ _ _)
              rintro v2 z2 ⟨e2, e3⟩
              dsimp only at e2 e3
              rw [e3, e2]
              refine w_ctI (sO_9 hh) rfl p2 (w_rdF (x := nI L.length) q.1 (w_wrF ?_))
              rw [nI_1]
              refine c6 _ _ _ _ ?_ (fr_F2 (fr_I2 (fr_I2 qf (by unfold lsP; omega)) (by unfold lsP; omega)) (by unfold lsP; omega))
              have eL : lsN n (i + 1) k L = L ++ [(lsSm k n, chA9 n (lsSm k n) n)] := if_pos ⟨p1, p2, hb⟩
              rw [eL]
              refine ⟨?_, by rw [List.length_append]; show L.length + 1 ≤ 24; omega, fun s p hs => ?_⟩
              · rw [List.length_append]
                exact po_usF_at
              · have hl := (List.getElem?_eq_some_iff.mp hs).1
                rw [List.length_append, List.length_singleton] at hl
                show (usI (usI z (h + 8) L.length (lsSm k n)) (h + 9) L.length (chA9 n (lsSm k n) n)).2.1 (h + 8) s = p.1 ∧ (usI (usI z (h + 8) L.length (lsSm k n)) (h + 9) L.length (chA9 n (lsSm k n) n)).2.1 (h + 9) s = p.2
                by_cases es : s = L.length
                · rw [es, List.getElem?_append_right (Nat.le_refl _), Nat.sub_self] at hs
                  have ep : (lsSm k n, chA9 n (lsSm k n) n) = p := Option.some.inj hs
                  rw [es, ← ep]
                  exact ⟨rd_ot (by omega) po_usI_at, po_usI_at⟩
                · rw [List.getElem?_append_left (by omega)] at hs
                  obtain ⟨r1, r2⟩ := q.2.2 s p hs
                  exact ⟨rd_ot (by omega) (rd_ne es r1), rd_ne es (rd_ot (by omega) r2)⟩
          have c3 : ∀ (f j : Nat), j + f = n → Tt (fun K t => c_X10_listSimples vl K t 3 (nI (i + 1)) (nI k) (lsSm k j) (lsPl k j) (nI j) h 0 z) Q := by
            intro f
            induction f with
            | zero =>
              intro j hj
              have ej : j = n := by omega
              rw [ej]
              have c4 : ¬ (lsPl k n = ((1 : Int32) <<< (nI n &&& 31)) - 1 ∧ L.length < 24) → Tt (fun K t => c_X10_listSimples vl K t 4 (nI (i + 1)) (nI k) (lsSm k n) (lsPl k n) (nI n) h 0 z) Q := by
                intro h9
                refine u_X10_listSimples_4 ?_; unfold cm_X10_listSimples_4
                exact c5 _ _ 0 (Or.inl ⟨rfl, h9⟩)
              refine u_X10_listSimples_3 ?_; unfold cm_X10_listSimples_3
              rw [show uw_len (cX vl) z (h + 8) = 24 from sO_8 hh]
              exact w_rdF (s1 qf) (w_leT (by omega) (by omega) (w_rdF (s1 qf) (w_if (fun hp => w_rdF q.1 (w_le (a := 24) (by omega) (by have := q.2.1; omega) (fun h9 => c4 (fun h8 => by omega)) (fun h9 => c5 _ _ 1 (Or.inr ⟨rfl, hp, h9⟩)))) (fun hp => c4 (fun h8 => hp h8.1)))))
            | succ f ihf =>
              intro j hj
              refine u_X10_listSimples_3 ?_; unfold cm_X10_listSimples_3
              rw [nI_1]
              exact w_rdF (s1 qf) (w_leF (by omega) (by omega) (ihf (j + 1) (by omega)))
          refine u_X10_listSimples_2 ?_; unfold cm_X10_listSimples_2
          refine w_rdF (s1 qf) ?_
          rw [hsh]
          exact w_leF (by omega) (by omega) (c3 n 0 (by omega))
      refine u_X10_listSimples_1 ?_; unfold cm_X10_listSimples_1
      exact w_ltF (a := 6) (by omega) (by omega) (c2 (4 ^ n) 0 z (by omega) q qf)
  refine e_X10_listSimples ?_
  refine u_X10_listSimples_0 ?_; unfold cm_X10_listSimples_0
  exact w_wrF (c1 6 0 _ (by omega) ⟨po_usF_at, Nat.zero_le 24, fun s p hs => (by simp [lsF] at hs)⟩ (fr_F (by unfold lsP; omega)))
end XS7B
end
section
/-! 99zzzzzzzzzzzzzzzt.xsm8 -/
/-! summit: which simple braids the class lists, and which begin with which -/
def orG (n : Nat) : List Nat := if n = 4 then [3, 2, 1, 8, 7, 5, 6, 4, 14, 13, 11, 12, 10, 9, 19, 17, 18, 16, 15, 22, 21, 20, 23] else if n = 3 then [2, 1, 4, 3, 5] else [1]
def chG9 (n s : Nat) : Int32 := chA9 n (pkG n s) n
theorem ls_2 : lsF 2 6 = (orG 2).map (fun t => (pkG 2 t, chG9 2 t)) := by decide +kernel
theorem ls_3 : lsF 3 6 = (orG 3).map (fun t => (pkG 3 t, chG9 3 t)) := by decide +kernel
theorem ls_4 : lsF 4 6 = (orG 4).map (fun t => (pkG 4 t, chG9 4 t)) := by decide +kernel
def gGO (n s t : Nat) : Bool := decide ((chG9 n s &&& (chG9 n t ^^^ (-1))) = 0) == decide (ddG n t s = 0)
theorem go_2 : ∀ s : Fin 2, ∀ t : Fin 2, gGO 2 s.val t.val = true := by decide +kernel
theorem go_3 : ∀ s : Fin 6, ∀ t : Fin 6, gGO 3 s.val t.val = true := by decide +kernel
theorem go_4 : ∀ s : Fin 24, ∀ t : Fin 24, gGO 4 s.val t.val = true := by decide +kernel
def gOR (n : Nat) : Bool := decide (orG n).Nodup && (List.range (gNN n)).all (fun t => decide (t = 0) || (orG n).contains t) && (orG n).all (fun t => decide (t ≠ 0 ∧ t < gNN n))
theorem or_c : ∀ n : Fin 5, 2 ≤ n.val → gOR n.val = true := by decide +kernel
section XS8B
theorem ls_n {n : Nat} (h2 : 2 ≤ n) (h4 : n ≤ 4) : lsF n 6 = (orG n).map (fun t => (pkG n t, chG9 n t)) := by
  have : n = 2 ∨ n = 3 ∨ n = 4 := by omega
  rcases this with rfl | rfl | rfl
  · exact ls_2
  · exact ls_3
  · exact ls_4
theorem go_n {n s t : Nat} (h2 : 2 ≤ n) (h4 : n ≤ 4) (hs : s < gNN n) (ht : t < gNN n) : (chG9 n s &&& (chG9 n t ^^^ (-1))) = 0 ↔ ddG n t s = 0 := by
  have k : gGO n s t = true := by
    have : n = 2 ∨ n = 3 ∨ n = 4 := by omega
    rcases this with rfl | rfl | rfl
    · exact go_2 ⟨s, hs⟩ ⟨t, ht⟩
    · exact go_3 ⟨s, hs⟩ ⟨t, ht⟩
    · exact go_4 ⟨s, hs⟩ ⟨t, ht⟩
  unfold gGO at k
  exact decide_eq_decide.mp (beq_iff_eq.mp k)
theorem or_n {n : Nat} (h2 : 2 ≤ n) (h4 : n ≤ 4) : (orG n).Nodup ∧ (∀ t, t < gNN n → t ≠ 0 → t ∈ orG n) ∧ ∀ t, t ∈ orG n → t ≠ 0 ∧ t < gNN n := by
  have k := or_c ⟨n, by omega⟩ h2
  unfold gOR at k
  rw [Bool.and_eq_true, Bool.and_eq_true] at k
  refine ⟨of_decide_eq_true k.1.1, fun t t1 t0 => ?_, fun t ht => of_decide_eq_true (List.all_eq_true.mp k.2 t ht)⟩
  have := List.all_eq_true.mp k.1.2 t (List.mem_range.mpr t1)
  rcases (Bool.or_eq_true _ _).mp this with h9 | h9
  · exact absurd (of_decide_eq_true h9) t0
  · exact List.contains_iff_mem.mp h9
end XS8B
end
section
/-! 99zzzzzzzzzzzzzzzu.xsm9 -/
/-! summit: the class's rows and their order -/
def cmpL : List Int32 → List Int32 → Int
  | a :: A, b :: B => if a = b then cmpL A B else if b ≤ a then 1 else -1
  | _, _ => 0
def ltF (n : Nat) (A B : List Nat) : Prop := cmpL (A.map (pkG n)) (B.map (pkG n)) = -1
section XS9B
theorem cm_v : ∀ (A B : List Int32), cmpL A B = 0 ∨ cmpL A B = 1 ∨ cmpL A B = -1
  | [], _ => Or.inl (by cases ‹List Int32› <;> rfl)
  | _ :: _, [] => Or.inl rfl
  | a :: A, b :: B => by
    have e0 : cmpL (a :: A) (b :: B) = if a = b then cmpL A B else if b ≤ a then 1 else -1 := rfl
    rw [e0]
    by_cases e : a = b
    · rw [if_pos e]
      exact cm_v A B
    · rw [if_neg e]
      by_cases c : b ≤ a
      · rw [if_pos c]
        exact Or.inr (Or.inl rfl)
      · rw [if_neg c]
        exact Or.inr (Or.inr rfl)
theorem cm_0 : ∀ (A B : List Int32), A.length = B.length → cmpL A B = 0 → A = B
  | [], [], _, _ => rfl
  | [], _ :: _, h, _ => by cases h
  | _ :: _, [], h, _ => by cases h
  | a :: A, b :: B, h, e => by
    have e : (if a = b then cmpL A B else if b ≤ a then 1 else -1) = 0 := e
    by_cases c : a = b
    · rw [if_pos c] at e
      rw [c, cm_0 A B (Nat.succ.inj h) e]
    · rw [if_neg c] at e
      by_cases d : b ≤ a
      · rw [if_pos d] at e
        cases e
      · rw [if_neg d] at e
        cases e
theorem cm_rf : ∀ (A : List Int32), cmpL A A = 0
  | [] => rfl
  | a :: A => by
    show (if a = a then cmpL A A else _) = 0
    rw [if_pos rfl]
    exact cm_rf A
theorem cm_an : ∀ (A B : List Int32), cmpL A B = 1 → cmpL B A = -1
  | [], [], h => by cases h
  | [], _ :: _, h => by cases h
  | _ :: _, [], h => by cases h
  | a :: A, b :: B, h => by
    have h : (if a = b then cmpL A B else if b ≤ a then 1 else -1) = 1 := h
    show (if b = a then cmpL B A else if a ≤ b then 1 else -1) = -1
    by_cases c : a = b
    · rw [if_pos c] at h
      rw [if_pos c.symm]
      exact cm_an A B h
    · rw [if_neg c] at h
      rw [if_neg (fun e => c e.symm)]
      by_cases d : b ≤ a
      · rw [if_neg]
        intro d2
        rw [Int32.le_iff_toInt_le] at d d2
        exact c (Int32.toInt_inj.mp (Int.le_antisymm d2 d))
      · rw [if_neg d] at h
        cases h
theorem cm_tr : ∀ (A B C : List Int32), cmpL A B = -1 → cmpL B C = -1 → cmpL A C = -1
  | [], [], _, h, _ => by cases h
  | [], _ :: _, _, h, _ => by cases h
  | _ :: _, [], _, h, _ => by cases h
  | _ :: _, _ :: _, [], _, h => by cases h
  | a :: A, b :: B, c :: C, h, k => by
    have h : (if a = b then cmpL A B else if b ≤ a then 1 else -1) = -1 := h
    have k : (if b = c then cmpL B C else if c ≤ b then 1 else -1) = -1 := k
    show (if a = c then cmpL A C else if c ≤ a then 1 else -1) = -1
    by_cases e1 : a = b
    · rw [if_pos e1] at h
      by_cases e2 : b = c
      · rw [if_pos e2] at k
        rw [if_pos (e1.trans e2)]
        exact cm_tr A B C h k
      · rw [if_neg e2] at k
        rw [e1, if_neg e2]
        exact k
    · rw [if_neg e1] at h
      by_cases d1 : b ≤ a
      · rw [if_pos d1] at h
        cases h
      · by_cases e2 : b = c
        · rw [← e2, if_neg e1, if_neg d1]
        · rw [if_neg e2] at k
          by_cases d2 : c ≤ b
          · rw [if_pos d2] at k
            cases k
          · rw [Int32.le_iff_toInt_le] at d1 d2
            have d3 : ¬ c ≤ a := fun h9 => by
              rw [Int32.le_iff_toInt_le] at h9
              omega
            have e3 : a ≠ c := fun h9 => d3 (by rw [h9, Int32.le_iff_toInt_le]; exact Int.le_refl _)
            rw [if_neg e3, if_neg d3]
variable {vl : Nat → Nat} {y : ow_MS} {h : Nat}
theorem xc_compare {r1 r3 a b A B l : Nat} {L M : List Int32} (h3 : y.1 (h + 3) = nI l) (hl : l ≤ 24) (L1 : ((cX vl).2 r1).2.1 = A) (L3 : ((cX vl).2 r3).2.1 = B) (ha : a + l ≤ A) (hb : b + l ≤ B) (hA : A < 2 ^ 31) (hB : B < 2 ^ 31) (lL : L.length = l) (lM : M.length = l) (eL : ∀ i c, L[i]? = some c → y.2.1 r1 (a + i) = c) (eM : ∀ i c, M[i]? = some c → y.2.1 r3 (b + i) = c) : Te (fun K => ce_X10_compare vl K h r1 (nI a) r3 (nI b) y) (fun r => r.1 = iI (cmpL L M) ∧ r.2 = y) := by
  let Q : Int32 × ow_MS → Prop := fun r => r.1 = iI (cmpL L M) ∧ r.2 = y
  have c1 : ∀ (d j : Nat), j + d = l → cmpL L M = cmpL (L.drop j) (M.drop j) → Tt (fun K t => c_X10_compare vl K t 1 (nI a) (nI b) (nI j) h r1 r3 y) Q := by
    intro d
    induction d with
    | zero =>
      intro j hj he
      refine u_X10_compare_1 ?_; unfold cm_X10_compare_1
      refine w_rdF h3 (w_leT (by omega) (by omega) (w_some ⟨?_, rfl⟩))
      show (0 : Int32) = iI (cmpL L M)
      rw [he, List.drop_eq_nil_of_le (by omega)]
      rfl
    | succ d ih =>
      intro j hj he
      have k1 : L.drop j = L[j]'(by omega) :: L.drop (j + 1) := List.drop_eq_getElem_cons (by omega)
      have k2 : M.drop j = M[j]'(by omega) :: M.drop (j + 1) := List.drop_eq_getElem_cons (by omega)
      rw [k1, k2] at he
      have he : cmpL L M = if L[j]'(by omega) = M[j]'(by omega) then cmpL (L.drop (j + 1)) (M.drop (j + 1)) else if M[j]'(by omega) ≤ L[j]'(by omega) then 1 else -1 := he
      have v1 := eL j _ (List.getElem?_eq_getElem (by omega))
      have v2 := eM j _ (List.getElem?_eq_getElem (by omega))
      refine u_X10_compare_1 ?_; unfold cm_X10_compare_1
      rw [nI_add, nI_add, nI_1]
      refine w_rdF h3 (w_leF (by omega) (by omega) (w_crI L1 rfl (show a + j < A by omega) v1 (w_crI L3 rfl (show b + j < B by omega) v2 (w_if (fun e => ih (j + 1) (by omega) ?_) (fun e => w_crI L1 rfl (show a + j < A by omega) v1 (w_crI L3 rfl (show b + j < B by omega) v2 (w_if (fun e2 => w_some ⟨?_, rfl⟩) (fun e2 => w_some ⟨?_, rfl⟩))))))))
      · rw [he, if_pos e]
      · show (1 : Int32) = iI (cmpL L M)
        rw [he, if_neg e, if_pos e2]
        rfl
      · show (-1 : Int32) = iI (cmpL L M)
        rw [he, if_neg e, if_neg e2]
        rfl
  refine e_X10_compare ?_
  refine u_X10_compare_0 ?_; unfold cm_X10_compare_0
  exact c1 l 0 (by omega) rfl
/-- the rows of a summit set, and their order -/
def suL (y : ow_MS) (h : Nat) (m : N5) (k : Int) (R : Nat) (Ls W : List (List Nat)) : Prop := (y.1 (h + 2) = iI k ∧ y.1 (h + 3) = nI R ∧ y.1 (h + 4) = nI Ls.length ∧ Ls.length ≤ 201 ∧ R ≤ 16) ∧ (∀ j F, Ls[j]? = some F → F.length = R ∧ okT m.1 F ∧ ∀ i c, (F.map (pkG m.1))[i]? = some c → y.2.1 (h + 5) (20 * j + i) = c) ∧ W.length = Ls.length ∧ (∀ i F, W[i]? = some F → ∃ j, y.2.1 (h + 6) i = nI j ∧ Ls[j]? = some F) ∧ W.Pairwise (ltF m.1) ∧ (∀ F, F ∈ Ls ↔ F ∈ W) ∧ Ls.Nodup
theorem pk_inj {m : N5} : ∀ (F G : List Nat), okT m.1 F → okT m.1 G → F.map (pkG m.1) = G.map (pkG m.1) → F = G
  | [], [], _, _, _ => rfl
  | [], _ :: _, _, _, e => by cases e
  | _ :: _, [], _, _, e => by cases e
  | f :: F, g :: G, hF, hG, e => by
    obtain ⟨a1, a2⟩ := okT_c.mp hF
    obtain ⟨b1, b2⟩ := okT_c.mp hG
    obtain ⟨e1, e2⟩ := List.cons.inj e
    rw [d_qi m.2.1 m.2.2 a1 b1 e1, pk_inj F G a2 b2 e2]
theorem xc_add {m : N5} {k : Int} {R : Nat} {Ls W : List (List Nat)} {F : List Nat} (hh : sO h) (h0 : suL y h m k R Ls W) (hF : okT m.1 F) (lF : F.length = R) (eF : ∀ i c, (F.map (pkG m.1))[i]? = some c → y.2.1 (h + 1000 + 4) i = c) : Te (fun K => ce_X10_add vl K h y) (fun y1 => (F ∈ Ls ∧ suL y1 h m k R Ls W ∨ F ∉ Ls ∧ (Ls.length = 201 ∧ suL y1 h m k R Ls W ∨ Ls.length ≤ 200 ∧ ∃ W', suL y1 h m k R (Ls ++ [F]) W')) ∧ fr (fun g => h + 4 ≤ g ∧ g ≤ h + 6) y y1) := by
  obtain ⟨⟨s2, s3, s4, l201, r16⟩, hrow, wl, hord, hpw, hmem, hnd⟩ := id h0
  let Q : ow_MS → Prop := fun y1 => (F ∈ Ls ∧ suL y1 h m k R Ls W ∨ F ∉ Ls ∧ (Ls.length = 201 ∧ suL y1 h m k R Ls W ∨ Ls.length ≤ 200 ∧ ∃ W', suL y1 h m k R (Ls ++ [F]) W')) ∧ fr (fun g => h + 4 ≤ g ∧ g ≤ h + 6) y y1
  have c3 : ∀ (a : Nat) (x2 x3 : Int32), a ≤ Ls.length → (∀ i G, i < a → W[i]? = some G → ltF m.1 G F) → (∀ i G, a ≤ i → W[i]? = some G → cmpL (G.map (pkG m.1)) (F.map (pkG m.1)) = 1) → Tt (fun K t => c_X10_add vl K t 3 (nI a) x2 x3 0 0 h y) Q := by
    intro a x2 x3 ha hlo hhi
    have nin : F ∉ Ls := fun h9 => by
      obtain ⟨i, hi⟩ := List.getElem?_of_mem ((hmem F).mp h9)
      rcases Nat.lt_or_ge i a with c | c
      · have := hlo i F c hi
        unfold ltF at this
        rw [cm_rf] at this
        cases this
      · have := hhi i F c hi
        rw [cm_rf] at this
        cases this
    refine u_X10_add_3 ?_; unfold cm_X10_add_3
    refine w_rdF s4 (w_lt (a := 200) (by omega) (by omega) (fun h9 => w_some ⟨Or.inr ⟨nin, Or.inl ⟨by omega, h0⟩⟩, fr_rf⟩) (fun h200 => w_rdF s3 (w_leT (b := 20) (by omega) (by omega) (w_rdF s4 (w_rdF s3 ?_)))))
    rw [m20]
    refine w_cpI (a := 0) (b := 20 * Ls.length) (n := R) (fO_4 (sO_f hh)) (sO_5 hh) rfl rfl rfl (by omega) (by omega) (w_rdF (x := nI Ls.length) s4 ?_)
    rw [show nI Ls.length - nI a = nI (Ls.length - a) from pk_sub ha, nI_1]
    refine w_cpI (a := a) (b := a + 1) (n := Ls.length - a) (sO_6 hh) (sO_6 hh) rfl rfl rfl (by omega) (by omega) (w_rdF (x := nI Ls.length) s4 (w_ctI (sO_6 hh) rfl (show a < 201 by omega) (w_rdF (x := nI Ls.length) s4 (w_wrF ?_))))
    rw [nI_1]
    have ll : (Ls ++ [F]).length = Ls.length + 1 := by rw [List.length_append]; rfl
    refine w_some ⟨Or.inr ⟨nin, Or.inr ⟨by omega, W.take a ++ F :: W.drop a, ⟨rf_ot (by omega) s2, rf_ot (by omega) s3, by rw [ll]; exact po_usF_at, by omega, r16⟩, fun j G hj => ?_, ?_, fun i G hi => ?_, ?_, fun G => ?_, ?_⟩⟩, fr_F2 (fr_I2 (fr_R2 (fr_R2 fr_rf (by omega)) (by omega)) (by omega)) (by omega)⟩
    · have hjl := (List.getElem?_eq_some_iff.mp hj).1
      rw [ll] at hjl
      have e5 : ∀ q, (usI (usR (usR y (h + 5) (va_cpy (y.2.1 (h + 1000 + 4)) (y.2.1 (h + 5)) 0 (20 * Ls.length) R)) (h + 6) (va_cpy ((usR y (h + 5) (va_cpy (y.2.1 (h + 1000 + 4)) (y.2.1 (h + 5)) 0 (20 * Ls.length) R)).2.1 (h + 6)) ((usR y (h + 5) (va_cpy (y.2.1 (h + 1000 + 4)) (y.2.1 (h + 5)) 0 (20 * Ls.length) R)).2.1 (h + 6)) a (a + 1) (Ls.length - a))) (h + 6) a (nI Ls.length)).2.1 (h + 5) q = va_cpy (y.2.1 (h + 1000 + 4)) (y.2.1 (h + 5)) 0 (20 * Ls.length) R q := fun q => by
        refine rd_ot (by omega) ?_
        rw [usR_ot (by omega), usR_at]
      by_cases ej : j = Ls.length
      · rw [ej, List.getElem?_append_right (Nat.le_refl _), Nat.sub_self] at hj
        have eG : F = G := Option.some.inj hj
        rw [← eG, ej]
        refine ⟨lF, hF, fun i c hc => (e5 _).trans ?_⟩
        have hil := (List.getElem?_eq_some_iff.mp hc).1
        rw [List.length_map] at hil
        rw [pk_cpy_in (by omega) (by omega), show 0 + (20 * Ls.length + i - 20 * Ls.length) = i by omega]
        exact eF i c hc
      · rw [List.getElem?_append_left (by omega)] at hj
        obtain ⟨g1, g2, g3⟩ := hrow j G hj
        refine ⟨g1, g2, fun i c hc => (e5 _).trans ?_⟩
        have hil := (List.getElem?_eq_some_iff.mp hc).1
        rw [List.length_map] at hil
        rw [pk_cpy_out (by omega)]
        exact g3 i c hc
    · rw [List.length_append, List.length_cons, List.length_take, List.length_drop, ll]
      omega
    · have e6 : (usR y (h + 5) (va_cpy (y.2.1 (h + 1000 + 4)) (y.2.1 (h + 5)) 0 (20 * Ls.length) R)).2.1 (h + 6) = y.2.1 (h + 6) := usR_ot (by omega)
      show ∃ j, (usI (usR (usR y (h + 5) (va_cpy (y.2.1 (h + 1000 + 4)) (y.2.1 (h + 5)) 0 (20 * Ls.length) R)) (h + 6) (va_cpy ((usR y (h + 5) (va_cpy (y.2.1 (h + 1000 + 4)) (y.2.1 (h + 5)) 0 (20 * Ls.length) R)).2.1 (h + 6)) ((usR y (h + 5) (va_cpy (y.2.1 (h + 1000 + 4)) (y.2.1 (h + 5)) 0 (20 * Ls.length) R)).2.1 (h + 6)) a (a + 1) (Ls.length - a))) (h + 6) a (nI Ls.length)).2.1 (h + 6) i = nI j ∧ (Ls ++ [F])[j]? = some G
      rw [e6]
      have hil := (List.getElem?_eq_some_iff.mp hi).1
      rw [List.length_append, List.length_cons, List.length_take, List.length_drop] at hil
      by_cases c1 : i < a
      · rw [List.getElem?_append_left (by rw [List.length_take]; omega), List.getElem?_take_of_lt c1] at hi
        obtain ⟨j, j1, j2⟩ := hord i G hi
        have jl := (List.getElem?_eq_some_iff.mp j2).1
        refine ⟨j, rd_ne (by omega) ?_, by rw [List.getElem?_append_left jl]; exact j2⟩
        rw [usR_at, pk_cpy_out (by omega)]
        exact j1
      · rw [List.getElem?_append_right (by rw [List.length_take]; omega), List.length_take, Nat.min_eq_left (by omega)] at hi
        by_cases c2 : i = a
        · rw [c2, Nat.sub_self] at hi
          have eG : F = G := Option.some.inj hi
          rw [c2, ← eG]
          exact ⟨Ls.length, po_usI_at, by rw [List.getElem?_append_right (Nat.le_refl _), Nat.sub_self]; rfl⟩
        · obtain ⟨d, hd⟩ : ∃ d, i - a = d + 1 := ⟨i - a - 1, by omega⟩
          rw [hd, List.getElem?_cons_succ, List.getElem?_drop] at hi
          obtain ⟨j, j1, j2⟩ := hord (a + d) G hi
          have jl := (List.getElem?_eq_some_iff.mp j2).1
          refine ⟨j, rd_ne c2 ?_, by rw [List.getElem?_append_left jl]; exact j2⟩
          rw [usR_at, pk_cpy_in (by omega) (by omega), show a + (i - (a + 1)) = a + d by omega]
          exact j1
    · have hp2 := hpw
      rw [← List.take_append_drop a W, List.pairwise_append] at hp2
      rw [List.pairwise_append, List.pairwise_cons]
      have gt : ∀ x, x ∈ W.drop a → ltF m.1 F x := fun x hx => by
        obtain ⟨i, hi⟩ := List.getElem?_of_mem hx
        rw [List.getElem?_drop] at hi
        exact cm_an _ _ (hhi (a + i) x (by omega) hi)
      have lt : ∀ x, x ∈ W.take a → ltF m.1 x F := fun x hx => by
        obtain ⟨i, hi⟩ := List.getElem?_of_mem hx
        have hil := (List.getElem?_eq_some_iff.mp hi).1
        rw [List.length_take] at hil
        rw [List.getElem?_take_of_lt (by omega)] at hi
        exact hlo i x (by omega) hi
      refine ⟨hp2.1, ⟨gt, hp2.2.1⟩, fun x hx y hy => ?_⟩
      rcases List.mem_cons.mp hy with e | e
      · rw [e]
        exact lt x hx
      · exact hp2.2.2 x hx y e
    · rw [List.mem_append, List.mem_append, hmem, List.mem_singleton, List.mem_cons]
      conv => lhs; rw [← List.take_append_drop a W, List.mem_append]
      constructor
      · rintro ((h9 | h9) | h9)
        · exact Or.inl h9
        · exact Or.inr (Or.inr h9)
        · exact Or.inr (Or.inl h9)
      · rintro (h9 | h9 | h9)
        · exact Or.inl (Or.inl h9)
        · exact Or.inr h9
        · exact Or.inl (Or.inr h9)
    · exact List.nodup_append.mpr ⟨hnd, List.nodup_cons.mpr ⟨List.not_mem_nil, List.nodup_nil⟩, fun x hx y hy e => nin (by rw [List.mem_singleton.mp hy] at e; rw [← e]; exact hx)⟩
  have c1 : ∀ (d i a b : Nat), i + d = 16 → a ≤ b → b ≤ Ls.length → b - a < 2 ^ d → (∀ i G, i < a → W[i]? = some G → ltF m.1 G F) → (∀ i G, b ≤ i → W[i]? = some G → cmpL (G.map (pkG m.1)) (F.map (pkG m.1)) = 1) → Tt (fun K t => c_X10_add vl K t 1 (nI a) (nI b) (nI i) 0 0 h y) Q := by
    intro d
    induction d with
    | zero =>
      intro i a b hi hab hbm hdd hlo hhi
      have eab : a = b := by
        have : b - a < 1 := hdd
        omega
      refine u_X10_add_1 ?_; unfold cm_X10_add_1
      exact w_leT (a := 16) (by omega) (by omega) (c3 a _ _ (by omega) hlo (by rw [eab]; exact hhi))
    | succ d ih =>
      intro i a b hi hab hbm hdd hlo hhi
      rw [Nat.pow_succ] at hdd
      refine u_X10_add_1 ?_; unfold cm_X10_add_1
      rw [nI_add, ushr1 (show a + b < 2 ^ 31 by omega)]
      refine w_leF (a := 16) (by omega) (by omega) (w_le (by omega) (by omega) (fun h9 => c3 a _ _ (by omega) hlo (by rw [show a = b by omega]; exact hhi)) (fun hlt => ?_))
      have hml : (a + b) / 2 < W.length := by omega
      have eW : W[(a + b) / 2]? = some W[(a + b) / 2] := List.getElem?_eq_getElem hml
      obtain ⟨j, j1, j2⟩ := hord _ _ eW
      have jl := (List.getElem?_eq_some_iff.mp j2).1
      obtain ⟨g1, g2, g3⟩ := hrow j _ j2
      refine w_crI (sO_6 hh) rfl (show (a + b) / 2 < 201 by omega) j1 ?_
      rw [m20]
      refine w_cs1 (xc_compare (a := 20 * j) (b := 0) (L := W[(a + b) / 2].map (pkG m.1)) (M := F.map (pkG m.1)) s3 (by omega) (sO_5 hh) (fO_4 (sO_f hh)) (by omega) (by omega) (by omega) (by omega) (by rw [List.length_map]; exact g1) (by rw [List.length_map]; exact lF) g3 (fun i c hc => by rw [Nat.zero_add]; exact eF i c hc)) ?_
      rintro v z ⟨e1, e2⟩
      dsimp only at e1 e2
      rw [e2, nI_1, e1]
      have lh : (W[(a + b) / 2].map (pkG m.1)).length = (F.map (pkG m.1)).length := by rw [List.length_map, List.length_map, g1, lF]
      rcases cm_v (W[(a + b) / 2].map (pkG m.1)) (F.map (pkG m.1)) with e9 | e9 | e9
      · rw [e9]
        have eq := pk_inj _ _ g2 hF (cm_0 _ _ lh e9)
        exact w_ifT rfl (w_some ⟨Or.inl ⟨by rw [← eq]; exact List.mem_of_getElem? j2, h0⟩, fr_rf⟩)
      · rw [e9]
        refine w_ifF (by decide) (w_ifT (by decide) ?_)
        refine u_X10_add_2 ?_; unfold cm_X10_add_2
        rw [nI_1]
        refine ih (i + 1) a ((a + b) / 2) (by omega) (by omega) (by omega) (by omega) hlo (fun i' G hi' hG => ?_)
        by_cases c : i' = (a + b) / 2
        · rw [c, eW] at hG
          rw [← Option.some.inj hG]
          exact e9
        · have l9 := (List.getElem?_eq_some_iff.mp hG).1
          have hlt9 : ltF m.1 W[(a + b) / 2] G := by
            have := List.pairwise_iff_getElem.mp hpw ((a + b) / 2) i' hml l9 (by omega)
            rw [List.getElem?_eq_getElem l9] at hG
            rw [Option.some.inj hG] at this
            exact this
          rcases cm_v (G.map (pkG m.1)) (F.map (pkG m.1)) with f9 | f9 | f9
          · exfalso
            obtain ⟨j', j1', j2'⟩ := hord i' G hG
            obtain ⟨k1, k2, k3⟩ := hrow j' G j2'
            have := cm_0 _ _ (by rw [List.length_map, List.length_map, k1, lF]) f9
            unfold ltF at hlt9
            rw [this, e9] at hlt9
            cases hlt9
          · exact f9
          · exfalso
            have := cm_tr _ _ _ hlt9 f9
            rw [e9] at this
            cases this
      · rw [e9]
        refine w_ifF (by decide) (w_ifF (by decide) ?_)
        refine u_X10_add_2 ?_; unfold cm_X10_add_2
        rw [nI_1]
        refine ih (i + 1) ((a + b) / 2 + 1) b (by omega) (by omega) (by omega) (by omega) (fun i' G hi' hG => ?_) hhi
        by_cases c : i' = (a + b) / 2
        · rw [c, eW] at hG
          rw [← Option.some.inj hG]
          exact e9
        · have l9 := (List.getElem?_eq_some_iff.mp hG).1
          have := List.pairwise_iff_getElem.mp hpw i' ((a + b) / 2) l9 hml (by omega)
          rw [List.getElem?_eq_getElem l9] at hG
          rw [Option.some.inj hG] at this
          exact cm_tr _ _ _ this e9
  refine e_X10_add ?_
  refine u_X10_add_0 ?_; unfold cm_X10_add_0
  refine w_rdF s4 (c1 16 0 0 Ls.length (by omega) (by omega) (by omega) (by omega) (fun i G hi => absurd hi (Nat.not_lt_zero _)) (fun i G hi hG => ?_))
  have := (List.getElem?_eq_some_iff.mp hG).1
  omega
end XS9B
end
section
/-! 99zzzzzzzzzzzzzzzv.xsma -/
/-! summit: the class gathers the whole set -/
def suQ9 (h g : Nat) : Prop := h + 4 ≤ g ∧ g ≤ h + 10 ∨ h + 1001 ≤ g ∧ g ≤ h + 1006
section XSAB
variable {m : N5} {vl : Nat → Nat} {y : ow_MS} {h : Nat}
theorem xc_goesOn {s t9 : Nat} {T : List Nat} (hh : sO h) (h4 : m.1 ≤ 4) (hs : s < 24) (ht : T.length ≤ 24) (hT : okT m.1 T) (ht9 : t9 < gNN m.1) (e9 : y.2.1 (h + 9) s = chG9 m.1 t9) (eT : ∀ j c, T[j]? = some c → y.2.1 (h + 10) j = chG9 m.1 c) : Te (fun K => ce_X10_goesOn vl K h (nI s) (nI T.length) y) (fun r => (r.1 = 1 ∧ (∃ t, t ∈ T ∧ ddG m.1 t9 t = 0) ∨ r.1 = 0 ∧ ∀ t, t ∈ T → ddG m.1 t9 t ≠ 0) ∧ r.2 = y) := by
  let Q : Int32 × ow_MS → Prop := fun r => (r.1 = 1 ∧ (∃ t, t ∈ T ∧ ddG m.1 t9 t = 0) ∨ r.1 = 0 ∧ ∀ t, t ∈ T → ddG m.1 t9 t ≠ 0) ∧ r.2 = y
  have c1 : ∀ (d j : Nat), j + d = T.length → (∀ i c, i < j → T[i]? = some c → ddG m.1 t9 c ≠ 0) → Tt (fun K k => c_X10_goesOn vl K k 1 (nI s) (nI T.length) (nI j) h y) Q := by
    intro d
    induction d with
    | zero =>
      intro j hj hn
      refine u_X10_goesOn_1 ?_; unfold cm_X10_goesOn_1
      refine w_leT (by omega) (by omega) (w_okZ (Or.inl rfl) (w_some ⟨Or.inr ⟨rfl, fun t ht => ?_⟩, rfl⟩))
      obtain ⟨i, hi⟩ := List.getElem?_of_mem ht
      exact hn i t (by have := (List.getElem?_eq_some_iff.mp hi).1; omega) hi
    | succ d ih =>
      intro j hj hn
      have ej : T[j]? = some (T[j]'(by omega)) := List.getElem?_eq_getElem (by omega)
      have hjk := hT _ (List.mem_of_getElem? ej)
      have gq := go_n m.2.1 h4 hjk ht9
      refine u_X10_goesOn_1 ?_; unfold cm_X10_goesOn_1
      rw [nI_1]
      refine w_leF (by omega) (by omega) (w_crI (sO_10 hh) rfl (show j < 24 by omega) (eT j _ ej) (w_crI (sO_9 hh) rfl hs e9 (w_if (fun e => w_okZ (Or.inr rfl) (w_some ⟨Or.inl ⟨rfl, _, List.mem_of_getElem? ej, gq.mp e⟩, rfl⟩)) (fun e => ih (j + 1) (by omega) (fun i c hi hc => ?_)))))
      by_cases ei : i = j
      · rw [ei, ej] at hc
        rw [← Option.some.inj hc]
        exact fun h9 => e (gq.mpr h9)
      · exact hn i c (by omega) hc
  refine e_X10_goesOn ?_
  refine u_X10_goesOn_0 ?_; unfold cm_X10_goesOn_0
  exact c1 T.length 0 (by omega) (fun i c hi => absurd hi (Nat.not_lt_zero _))
/-- what of the work form stays -/
def wkF9 (y : ow_MS) (h n : Nat) : Prop := y.1 (h + 1000 + 1) = nI n ∧ y.1 (h + 1000 + 5) = foE n ∧ y.1 (h + 1000 + 6) = foD n n
theorem suL_fr {P : Nat → Prop} {y1 : ow_MS} {k : Int} {R : Nat} {Ls W : List (List Nat)} (hf : fr P y y1) (hP : ∀ g, h + 2 ≤ g → g ≤ h + 6 → ¬ P g) (h0 : suL y h m k R Ls W) : suL y1 h m k R Ls W := by
  obtain ⟨⟨s2, s3, s4, l201, r16⟩, hrow, wl, hord, hpw, hmem, hnd⟩ := h0
  refine ⟨⟨(hf _ (hP _ (by omega) (by omega))).1.trans s2, (hf _ (hP _ (by omega) (by omega))).1.trans s3, (hf _ (hP _ (by omega) (by omega))).1.trans s4, l201, r16⟩, fun j F hj => ?_, wl, fun i F hi => ?_, hpw, hmem, hnd⟩
  · rw [(hf (h + 5) (hP _ (by omega) (by omega))).2.1]
    exact hrow j F hj
  · rw [(hf (h + 6) (hP _ (by omega) (by omega))).2.1]
    exact hord i F hi
theorem lsR_fr {P : Nat → Prop} {y1 : ow_MS} {L : List (Int32 × Int32)} (hf : fr P y y1) (hP : ∀ g, h + 8 ≤ g → g ≤ h + 11 → g ≠ h + 10 → ¬ P g) (h0 : lsR y h L) : lsR y1 h L := by
  obtain ⟨a1, a2, a3⟩ := h0
  refine ⟨(hf _ (hP _ (by omega) (by omega) (by omega))).1.trans a1, a2, fun s p hs => ?_⟩
  rw [(hf (h + 8) (hP _ (by omega) (by omega) (by omega))).2.1, (hf (h + 9) (hP _ (by omega) (by omega) (by omega))).2.1]
  exact a3 s p hs
def pcl (m : N5) (k : Int) (R : Nat) (Ls : List (List Nat)) (i t : Nat) : Prop := ∀ F hF (ht : okT m.1 [t]), Ls[i]? = some F → gle (gD m k) (cnj (gL m [t] ht) (gF m k F hF)) → gle (cnj (gL m [t] ht) (gF m k F hF)) (gD m (k + (R : Int))) → (∃ G hG, G ∈ Ls ∧ cnj (gL m [t] ht) (gF m k F hF) = gF m k G hG) ∨ ∃ t' h', t' < gNN m.1 ∧ t' ≠ 0 ∧ t' ≠ t ∧ ddG m.1 t t' = 0 ∧ gle (gD m k) (cnj (gL m [t'] h') (gF m k F hF)) ∧ gle (cnj (gL m [t'] h') (gF m k F hF)) (gD m (k + (R : Int)))
theorem pcl_m {k : Int} {R : Nat} {Ls : List (List Nat)} {i t : Nat} {G : List Nat} (hi : i < Ls.length) (h : pcl m k R Ls i t) : pcl m k R (Ls ++ [G]) i t := fun F hF ht e l u => by
  rw [List.getElem?_append_left hi] at e
  rcases h F hF ht e l u with ⟨G', hG, g1, g2⟩ | h9
  · exact Or.inl ⟨G', hG, List.mem_append_left _ g1, g2⟩
  · exact Or.inr h9
theorem pcl_all {a : Gn m} {k : Int} {R : Nat} {Ls : List (List Nat)} (h0 : ∃ F, F ∈ Ls) (hs : ∀ F, F ∈ Ls → sss a k R F) (hc : ∀ i t, i < Ls.length → t < gNN m.1 → t ≠ 0 → pcl m k R Ls i t) (F : List Nat) (hF : sss a k R F) : F ∈ Ls := by
  obtain ⟨F0, m0⟩ := h0
  obtain ⟨n0, l0, h0, x0, e0⟩ := hs F0 m0
  obtain ⟨n1, l1, h1, x1, e1⟩ := hF
  have pr := sss_pr (m := m) (k := k) (S := k + (R : Int)) (C := fun b => ∃ G h, G ∈ Ls ∧ b = gF m k G h) (fun b t ht ⟨G, hG, mG, eG⟩ t1 t0 lo up => by
    obtain ⟨i, hi⟩ := List.getElem?_of_mem mG
    rw [eG] at lo up ⊢
    rcases hc i t (List.getElem?_eq_some_iff.mp hi).1 t1 t0 G hG ht hi lo up with ⟨G', hG', g1, g2⟩ | h9
    · exact Or.inl ⟨G', hG', g1, g2⟩
    · exact Or.inr h9)
  have k1 := sss_all (m := m) (k := k) (S := k + (R : Int)) (C := fun b => ∃ G h, G ∈ Ls ∧ b = gF m k G h) pr (b := gF m k F0 h0) ⟨F0, h0, m0, rfl⟩ ((inf_F n0).mpr (Int.le_refl _)) ((sup_F n0).mpr (by omega)) (x := gm (gi x0) x1) (by
    rw [e0, ← cnj_all rfl x1, ← e1]
    exact (inf_F n1).mpr (Int.le_refl _)) (by
    rw [e0, ← cnj_all rfl x1, ← e1]
    exact (sup_F n1).mpr (by omega))
  obtain ⟨G, hG, mG, eG⟩ := k1
  rw [e0, ← cnj_all rfl x1, ← e1] at eG
  rw [(F_uni n1 (hs G mG).1 eG).2]
  exact mG
theorem xc_gather {a : Gn m} {k : Int} {R : Nat} {Ls0 W0 : List (List Nat)} (hh : sO h) (h4 : m.1 ≤ 4) (k1 : -16 ≤ k) (k2 : k + (R : Int) ≤ 16) (hr : nrs a k) (hu : nls a (k + (R : Int))) (s0 : suL y h m k R Ls0 W0) (l0 : 1 ≤ Ls0.length) (i0 : ∀ F, F ∈ Ls0 → sss a k R F) (w0 : wkF9 y h m.1) (t0 : lsR y h (lsF m.1 6)) : Te (fun K => ce_X10_gather vl K h y) (fun r => (r.1 = 1 ∧ ∃ Ls W, suL r.2 h m k R Ls W ∧ (∀ F, F ∈ Ls → sss a k R F) ∧ (Ls.length = 201 ∨ Ls.length ≤ 200 ∧ ∀ F, F ∈ Ls ↔ sss a k R F)) ∧ fr (suQ9 h) y r.2) := by
  have h2 := m.2.1
  have h5 := m.2.2
  let Q : Int32 × ow_MS → Prop := fun r => (r.1 = 1 ∧ ∃ Ls W, suL r.2 h m k R Ls W ∧ (∀ F, F ∈ Ls → sss a k R F) ∧ (Ls.length = 201 ∨ Ls.length ≤ 200 ∧ ∀ F, F ∈ Ls ↔ sss a k R F)) ∧ fr (suQ9 h) y r.2
  obtain ⟨or1, or2, or3⟩ := or_n h2 h4
  rw [ls_n h2 h4] at t0
  have tl := t0.2.1
  rw [List.length_map] at tl
  have hst : ∀ {z : ow_MS}, lsR z h ((orG m.1).map (fun t => (pkG m.1 t, chG9 m.1 t))) → z.1 (h + 11) = nI (orG m.1).length ∧ ∀ s t, (orG m.1)[s]? = some t → z.2.1 (h + 8) s = pkG m.1 t ∧ z.2.1 (h + 9) s = chG9 m.1 t := fun {z} q => by
    obtain ⟨q1, q2, q3⟩ := q
    rw [List.length_map] at q1
    exact ⟨q1, fun s t hs => q3 s (pkG m.1 t, chG9 m.1 t) (by rw [List.getElem?_map, hs]; rfl)⟩
  have c1 : ∀ (d i : Nat) (z : ow_MS) (Ls W : List (List Nat)), i + d = 202 → i ≤ Ls.length → 1 ≤ Ls.length → suL z h m k R Ls W → (∀ F, F ∈ Ls → sss a k R F) → (∀ i' t, i' < i → t < gNN m.1 → t ≠ 0 → Ls.length ≤ 200 → pcl m k R Ls i' t) → wkF9 z h m.1 → lsR z h ((orG m.1).map (fun t => (pkG m.1 t, chG9 m.1 t))) → fr (suQ9 h) y z → Tt (fun K t => c_X10_gather vl K t 1 (nI i) 0 0 h z) Q := by
    intro d
    induction d with
    | zero =>
      intro i z Ls W hi hiL
      have : i ≤ Ls.length := hiL
      intro q0 q1
      have := q1.1.2.2.2.1
      omega
    | succ d ih =>
      intro i z Ls W hi hiL hL1 q1 q2 q3 q4 q5 q6
      have hm := q1.1.2.2.2.1
      have sz := q1.1.2.2.1
      have fin : (i = Ls.length ∨ 200 < Ls.length) → Q (1, z) := fun h9 => by
        refine ⟨⟨rfl, Ls, W, q1, q2, ?_⟩, q6⟩
        by_cases c : Ls.length ≤ 200
        · have ei : i = Ls.length := by omega
          exact Or.inr ⟨c, fun F => ⟨q2 F, pcl_all ⟨Ls[0], List.getElem_mem (by omega)⟩ q2 (fun i' t a1 a2 a3 => q3 i' t (by omega) a2 a3 c) F⟩⟩
        · exact Or.inl (by omega)
      -- the simple ones
      have c2 : ∀ (e s : Nat) (T : List Nat) (z : ow_MS) (Ls W : List (List Nat)), s + e = (orG m.1).length + 1 → i < Ls.length → suL z h m k R Ls W → (∀ F, F ∈ Ls → sss a k R F) → (∀ i' t, i' < i → t < gNN m.1 → t ≠ 0 → Ls.length ≤ 200 → pcl m k R Ls i' t) → wkF9 z h m.1 → lsR z h ((orG m.1).map (fun t => (pkG m.1 t, chG9 m.1 t))) → fr (suQ9 h) y z → T.length ≤ s → (∀ j c, T[j]? = some c → z.2.1 (h + 10) j = chG9 m.1 c) → (∀ c, c ∈ T → (∃ j, j < s ∧ (orG m.1)[j]? = some c) ∧ ∀ F hF hc, Ls[i]? = some F → gle (gD m k) (cnj (gL m [c] hc) (gF m k F hF)) ∧ gle (cnj (gL m [c] hc) (gF m k F hF)) (gD m (k + (R : Int)))) → (∀ j t, j < s → (orG m.1)[j]? = some t → Ls.length ≤ 200 → pcl m k R Ls i t) → Tt (fun K k => c_X10_gather vl K k 2 (nI i) (nI T.length) (nI s) h z) Q := by
        intro e
        induction e with
        | zero =>
          intro s T z Ls W hs hiL q1 q2 q3 q4 q5 q6 p1 p2 p3 p4
          have hm := q1.1.2.2.2.1
          refine u_X10_gather_2 ?_; unfold cm_X10_gather_2
          refine w_rdF (hst q5).1 (w_leT (by omega) (by omega) ?_)
          refine u_X10_gather_5 ?_; unfold cm_X10_gather_5
          rw [nI_1]
          refine ih (i + 1) z Ls W (by omega) (by omega) (by omega) q1 q2 (fun i' t a1 a2 a3 a4 => ?_) q4 q5 q6
          by_cases ei : i' = i
          · obtain ⟨j, hj⟩ := List.getElem?_of_mem (or2 t a2 a3)
            rw [ei]
            exact p4 j t (by have := (List.getElem?_eq_some_iff.mp hj).1; omega) hj a4
          · exact q3 i' t (by omega) a2 a3 a4
        | succ e ihe =>
          intro s T z Ls W hs hiL q1 q2 q3 q4 q5 q6 p1 p2 p3 p4
          have hm := q1.1.2.2.2.1
          have sz := q1.1.2.2.1
          have c5 : (s = (orG m.1).length ∨ 200 < Ls.length) → Tt (fun K k => c_X10_gather vl K k 5 (nI i) (nI T.length) (nI s) h z) Q := by
            intro h9
            refine u_X10_gather_5 ?_; unfold cm_X10_gather_5
            rw [nI_1]
            refine ih (i + 1) z Ls W (by omega) (by omega) (by omega) q1 q2 (fun i' t a1 a2 a3 a4 => ?_) q4 q5 q6
            by_cases ei : i' = i
            · obtain ⟨j, hj⟩ := List.getElem?_of_mem (or2 t a2 a3)
              rw [ei]
              exact p4 j t (by have := (List.getElem?_eq_some_iff.mp hj).1; omega) hj a4
            · exact q3 i' t (by omega) a2 a3 a4
          refine u_X10_gather_2 ?_; unfold cm_X10_gather_2
          refine w_rdF (hst q5).1 (w_le (by omega) (by omega) (fun h9 => c5 (Or.inl (by omega))) (fun hsc => w_rdF sz (w_lt (a := 200) (by omega) (by omega) (fun h9 => c5 (Or.inr h9)) (fun h200 => ?_))))
          obtain ⟨t9, et9⟩ : ∃ t9, (orG m.1)[s]? = some t9 := ⟨_, List.getElem?_eq_getElem hsc⟩
          obtain ⟨t90, t91⟩ := or3 t9 (List.mem_of_getElem? et9)
          obtain ⟨r8, r9⟩ := (hst q5).2 s t9 et9
          have ht9k : okT m.1 [t9] := okT_c.mpr ⟨t91, okT_n⟩
          have hTk : okT m.1 T := fun c hc => by
            obtain ⟨⟨j, -, hj⟩, -⟩ := p3 c hc
            exact (or3 c (List.mem_of_getElem? hj)).2
          have c4 : ∀ (T' : List Nat) (z' : ow_MS) (Ls' W' : List (List Nat)), i < Ls'.length → suL z' h m k R Ls' W' → (∀ F, F ∈ Ls' → sss a k R F) → (∀ i' t, i' < i → t < gNN m.1 → t ≠ 0 → Ls'.length ≤ 200 → pcl m k R Ls' i' t) → wkF9 z' h m.1 → lsR z' h ((orG m.1).map (fun t => (pkG m.1 t, chG9 m.1 t))) → fr (suQ9 h) y z' → T'.length ≤ s + 1 → (∀ j c, T'[j]? = some c → z'.2.1 (h + 10) j = chG9 m.1 c) → (∀ c, c ∈ T' → (∃ j, j < s + 1 ∧ (orG m.1)[j]? = some c) ∧ ∀ F hF hc, Ls'[i]? = some F → gle (gD m k) (cnj (gL m [c] hc) (gF m k F hF)) ∧ gle (cnj (gL m [c] hc) (gF m k F hF)) (gD m (k + (R : Int)))) → (∀ j t, j < s + 1 → (orG m.1)[j]? = some t → Ls'.length ≤ 200 → pcl m k R Ls' i t) → Tt (fun K k => c_X10_gather vl K k 4 (nI i) (nI T'.length) (nI s) h z') Q := by
            intro T' z' Ls' W' b1 b2 b3 b4 b5 b6 b7 b8 b9 b10 b11
            refine u_X10_gather_4 ?_; unfold cm_X10_gather_4
            rw [nI_1]
            exact ihe (s + 1) T' z' Ls' W' (by omega) b1 b2 b3 b4 b5 b6 b7 b8 b9 b10 b11
          -- nothing is added
          have same : ∀ (z' : ow_MS), suL z' h m k R Ls W → wkF9 z' h m.1 → lsR z' h ((orG m.1).map (fun t => (pkG m.1 t, chG9 m.1 t))) → fr (suQ9 h) y z' → z'.2.1 (h + 10) = z.2.1 (h + 10) → pcl m k R Ls i t9 → Tt (fun K k => c_X10_gather vl K k 4 (nI i) (nI T.length) (nI s) h z') Q := by
            intro z' b1 b2 b3 b4 b5 b6
            refine c4 T z' Ls W hiL b1 q2 q3 b2 b3 b4 (by omega) (fun j c hc => by rw [b5]; exact p2 j c hc) (fun c hc => ?_) (fun j t hj ht a4 => ?_)
            · obtain ⟨⟨j, j1, j2⟩, r⟩ := p3 c hc
              exact ⟨⟨j, by omega, j2⟩, r⟩
            · by_cases ej : j = s
              · rw [ej, et9] at ht
                rw [← Option.some.inj ht]
                exact b6
              · exact p4 j t (by omega) ht a4
          refine w_cs1 (xc_goesOn hh h4 (show s < 24 by omega) (show T.length ≤ 24 by omega) hTk t91 r9 p2) ?_
          rintro v z1 ⟨ev, e2⟩
          dsimp only at ev e2
          rw [e2]
          rcases ev with ⟨rfl, t', t1', t2'⟩ | ⟨rfl, hno⟩
          · refine w_ifF (by decide) (same z q1 q4 q5 q6 rfl (fun F hF ht eF l u => Or.inr ?_))
            obtain ⟨⟨j, j1, j2⟩, r⟩ := p3 t' t1'
            obtain ⟨w0, w1⟩ := or3 t' (List.mem_of_getElem? j2)
            refine ⟨t', okT_c.mpr ⟨w1, okT_n⟩, w1, w0, fun e9 => ?_, t2', r F hF _ eF⟩
            rw [e9] at j2
            have := (List.getElem?_inj (List.getElem?_eq_some_iff.mp j2).1 or1).mp (j2.trans et9.symm)
            omega
          · obtain ⟨F, eF⟩ : ∃ F, Ls[i]? = some F := ⟨_, List.getElem?_eq_getElem hiL⟩
            obtain ⟨rF1, rF2, rF3⟩ := q1.2.1 i F eF
            obtain ⟨nF, lF, hF, xF, exF⟩ := q2 F (List.mem_of_getElem? eF)
            have r16 := q1.1.2.2.2.2
            refine w_ifT rfl (w_rdF q1.1.1 (w_wrF ?_))
            have e3 : ∀ w : Int32, (usF z (h + 1000 + 2) w).1 (h + 3) = nI R := fun w => rf_ot (by omega) q1.1.2.1
            refine w_rdF (e3 _) (w_wrF (w_rdF (rf_ot (by omega) (e3 _)) ?_))
            rw [m20]
            refine w_cpI (a := 20 * i) (b := 0) (n := R) (sO_5 hh) (fO_4 (sO_f hh)) rfl rfl rfl (by omega) (by omega) (w_crI (sO_8 hh) rfl (show s < 24 by omega) ((congrFun (usR_ot (by omega)) s).trans r8) ?_)
            obtain ⟨wk1, wk5, wk6⟩ := q4
            have u1 : (usF (usF z (h + 1000 + 2) (iI k)) (h + 1000 + 3) (nI R)).1 (h + 1000 + 1) = nI m.1 := rf_ot (by omega) (rf_ot (by omega) wk1)
            have u2 : (usF (usF z (h + 1000 + 2) (iI k)) (h + 1000 + 3) (nI R)).1 (h + 1000 + 2) = iI k := rf_ot (by omega) po_usF_at
            have u3 : (usF (usF z (h + 1000 + 2) (iI k)) (h + 1000 + 3) (nI R)).1 (h + 1000 + 3) = nI R := po_usF_at
            have u5 : (usF (usF z (h + 1000 + 2) (iI k)) (h + 1000 + 3) (nI R)).1 (h + 1000 + 5) = foE m.1 := rf_ot (by omega) (rf_ot (by omega) wk5)
            have u6 : (usF (usF z (h + 1000 + 2) (iI k)) (h + 1000 + 3) (nI R)).1 (h + 1000 + 6) = foD m.1 m.1 := rf_ot (by omega) (rf_ot (by omega) wk6)
            have u45 : (usF (usF z (h + 1000 + 2) (iI k)) (h + 1000 + 3) (nI R)).2.1 = z.2.1 := rfl
            have fzz : fr (foP (h + 1000)) z (usF (usF z (h + 1000 + 2) (iI k)) (h + 1000 + 3) (nI R)) := fr_F2 (fr_F (by unfold foP; omega)) (by unfold foP; omega)
            generalize usF (usF z (h + 1000 + 2) (iI k)) (h + 1000 + 3) (nI R) = zz at u1 u2 u3 u5 u6 u45 fzz ⊢
            rw [u45]
            have hC : foC (usR zz (h + 1000 + 4) (va_cpy (z.2.1 (h + 5)) (z.2.1 (h + 1000 + 4)) (20 * i) 0 R)) (h + 1000) m k F := by
              refine ⟨⟨u1, u2, ?_, by rw [List.length_map]; omega, fun j c hc => ?_, u5, u6⟩, nF, by omega, by omega⟩
              · rw [List.length_map, lF]
                exact u3
              · have hjl := (List.getElem?_eq_some_iff.mp hc).1
                rw [List.length_map] at hjl
                rw [usR_at, pk_cpy_in (by omega) (by omega), Nat.sub_zero]
                exact rF3 j c hc
            refine w_cs0 (xc_conjBy (sO_f hh) h4 t91 (by omega) hC) ?_
            rintro z2 ⟨⟨d2, F', g1, g2, g3, g4⟩, g5⟩
            have hf2 : fr (foP (h + 1000)) z z2 := fr_tr (fr_R2 fzz (by unfold foP; omega)) g5
            have np : ∀ g, g ≤ h + 1000 → ¬ foP (h + 1000) g := fun g hg h9 => by unfold foP at h9; omega
            have q12 : suL z2 h m k R Ls W := suL_fr hf2 (fun g a1 a2 => np _ (by omega)) q1
            have q52 : lsR z2 h ((orG m.1).map (fun t => (pkG m.1 t, chG9 m.1 t))) := lsR_fr hf2 (fun g a1 a2 _ => np _ (by omega)) q5
            have q62 : fr (suQ9 h) y z2 := fr_tr q6 (fr_mono (fun g hg => by unfold foP at hg; unfold suQ9; omega) hf2)
            have q42 : wkF9 z2 h m.1 := ⟨g1.1, g1.2.2.2.2.2.1, g1.2.2.2.2.2.2⟩
            have e10 : z2.2.1 (h + 10) = z.2.1 (h + 10) := (hf2 _ (np _ (by omega))).2.1
            have hUk : okT m.1 (tuG m.1 k (ahG m.1 t9) :: F ++ [t9]) := okT_a.mpr ⟨okT_c.mpr ⟨tu_lt h2 h5 (f_one h2 h5 t91).2.1, nF.1⟩, ht9k⟩
            have eG : cnj (gL m [t9] ht9k) (gF m k F hF) = gF m (k - 1 + (d2 : Int)) F' g2.1 := (cj_F t91 (h3 := hUk)).trans (F_eq g4)
            have ecn : cnj (gL m [t9] ht9k) (gF m k F hF) = cnj (gm xF (gL m [t9] ht9k)) a := by
              rw [cnj_m, ← exF]
            have a1 : k - 1 + (d2 : Int) ≤ k := by
              rcases Int.lt_or_le k (k - 1 + (d2 : Int)) with h9 | h9
              · exfalso
                refine hr (gm xF (gL m [t9] ht9k)) ?_
                rw [← ecn, eG]
                exact (inf_F g2).mpr (by omega)
              · exact h9
            have a2 : (R : Int) ≤ k - 1 + (d2 : Int) - k + (F'.length : Int) := by
              rcases Int.lt_or_le (k - 1 + (d2 : Int) + (F'.length : Int)) (k + (R : Int)) with h9 | h9
              · exfalso
                refine hu (gm xF (gL m [t9] ht9k)) ?_
                rw [← ecn, eG]
                exact (sup_F g2).mpr (by omega)
              · omega
            obtain ⟨l3', -⟩ := fo_len g1
            have out : (k - 1 + (d2 : Int) ≠ k ∨ F'.length ≠ R) → pcl m k R Ls i t9 := fun hne F9 hF9 ht eF9 l u => by
              exfalso
              have e9 : F9 = F := Option.some.inj (eF9.symm.trans eF)
              subst e9
              have l : gle (gD m k) (cnj (gL m [t9] ht9k) (gF m k F9 hF)) := l
              have u : gle (cnj (gL m [t9] ht9k) (gF m k F9 hF)) (gD m (k + (R : Int))) := u
              rw [eG] at l u
              have l1 := (inf_F g2).mp l
              have u1 := (sup_F g2).mp u
              omega
            have go4 : (k - 1 + (d2 : Int) ≠ k ∨ F'.length ≠ R) → Tt (fun K k => c_X10_gather vl K k 4 (nI i) (nI T.length) (nI s) h z2) Q := fun hne => same z2 q12 q42 q52 q62 e10 (out hne)
            have c3 : Tt (fun K k => c_X10_gather vl K k 3 (nI i) (nI T.length) (nI s) h z2) Q := by
              refine u_X10_gather_3 ?_; unfold cm_X10_gather_3
              refine w_rdF g1.2.1 (w_rdF q12.1.1 (w_if (fun ek => w_rdF l3' (w_rdF q12.1.2.1 (w_eqN (by omega) (by omega) (fun el => ?_) (fun el => go4 (Or.inr el))))) (fun ek => go4 (Or.inl (fun e9 => ek (by rw [e9]))))))
              have ekk : k - 1 + (d2 : Int) = k := (iI_eq (by omega) (by omega) (by omega) (by omega)).mp ek
              have sF' : sss a k R F' := by
                rw [ekk] at eG
                exact ⟨g2, el, g2.1, gm xF (gL m [t9] ht9k), by rw [← eG, ecn]⟩
              have lo9 : gle (gD m k) (cnj (gL m [t9] ht9k) (gF m k F hF)) ∧ gle (cnj (gL m [t9] ht9k) (gF m k F hF)) (gD m (k + (R : Int))) := by
                rw [eG, ekk]
                exact ⟨(inf_F g2).mpr (Int.le_refl _), (sup_F g2).mpr (by omega)⟩
              refine w_cs0 (xc_add hh q12 g2.1 el (fun i c hc => g1.2.2.2.2.1 i c hc)) ?_
              rintro z3 ⟨hres, f3⟩
              obtain ⟨Ls', W', hL', hsub, hin, hs3, hgr⟩ : ∃ Ls' W', Ls'.length ≤ 201 ∧ (∀ j, j < Ls.length → Ls'[j]? = Ls[j]?) ∧ F' ∈ Ls' ∧ suL z3 h m k R Ls' W' ∧ (Ls' = Ls ∨ Ls' = Ls ++ [F']) := by
                rcases hres with ⟨u1, u2⟩ | ⟨u1, ⟨u2, u3⟩ | ⟨u2, W', u3⟩⟩
                · exact ⟨Ls, W, hm, fun _ _ => rfl, u1, u2, Or.inl rfl⟩
                · omega
                · exact ⟨Ls ++ [F'], W', by rw [List.length_append]; show Ls.length + 1 ≤ 201; omega, fun j hj => List.getElem?_append_left hj, List.mem_append_right _ List.mem_cons_self, u3, Or.inr rfl⟩
              have hm3 : ∀ G, G ∈ Ls' → sss a k R G := fun G hG => by
                rcases hgr with e9 | e9
                · rw [e9] at hG
                  exact q2 G hG
                · rw [e9] at hG
                  exact (List.mem_append.mp hG).elim (q2 G) (fun h9 => by rw [List.mem_singleton.mp h9]; exact sF')
              have hpl : ∀ {i' t : Nat}, i' < Ls.length → pcl m k R Ls i' t → pcl m k R Ls' i' t := fun hi' hp => by
                rcases hgr with e9 | e9
                · rw [e9]
                  exact hp
                · rw [e9]
                  exact pcl_m hi' hp
              have hll : Ls.length ≤ Ls'.length := by
                rcases hgr with e9 | e9
                · rw [e9]
                  exact Nat.le_refl _
                · rw [e9, List.length_append]
                  omega
              have f3n : ∀ g, h + 7 ≤ g → ¬ (h + 4 ≤ g ∧ g ≤ h + 6) := fun g hg => by omega
              have q53 : lsR z3 h ((orG m.1).map (fun t => (pkG m.1 t, chG9 m.1 t))) := lsR_fr f3 (fun g a1 a2 _ => f3n _ (by omega)) q52
              obtain ⟨-, r93⟩ := (hst q53).2 s t9 et9
              refine w_crI (sO_9 hh) rfl (show s < 24 by omega) r93 (w_ctI (sO_10 hh) rfl (show T.length < 24 by omega) ?_)
              rw [nI_1]
              have lT : (T ++ [t9]).length = T.length + 1 := by rw [List.length_append]; rfl
              rw [← lT]
              have f34 : fr (fun g => g = h + 10) z3 (usI z3 (h + 10) T.length (chG9 m.1 t9)) := fr_I rfl
              refine c4 (T ++ [t9]) _ Ls' W' (by omega) (suL_fr f34 (fun g a1 a2 => by omega) hs3) hm3 (fun i' t b1 b2 b3 b4 => hpl (by omega) (q3 i' t b1 b2 b3 (by omega))) ⟨(f3 _ (f3n _ (by omega))).1.trans q42.1, (f3 _ (f3n _ (by omega))).1.trans q42.2.1, (f3 _ (f3n _ (by omega))).1.trans q42.2.2⟩ (lsR_fr f34 (fun g a1 a2 a3 => a3) q53) (fr_tr (fr_tr q62 (fr_mono (fun g hg => by unfold suQ9; omega) f3)) (fr_mono (fun g hg => by unfold suQ9; omega) f34)) (by omega) (fun j c hc => ?_) (fun c hc => ?_) (fun j t hj ht b4 => ?_)
              · have hjl := (List.getElem?_eq_some_iff.mp hc).1
                rw [lT] at hjl
                by_cases ej : j = T.length
                · rw [ej, List.getElem?_append_right (Nat.le_refl _), Nat.sub_self] at hc
                  have : t9 = c := Option.some.inj hc
                  rw [ej, ← this]
                  exact po_usI_at
                · rw [List.getElem?_append_left (by omega)] at hc
                  refine rd_ne ej ?_
                  rw [(f3 _ (f3n _ (by omega))).2.1, e10]
                  exact p2 j c hc
              · rcases List.mem_append.mp hc with h9 | h9
                · obtain ⟨⟨j, j1, j2⟩, r⟩ := p3 c h9
                  refine ⟨⟨j, by omega, j2⟩, fun F9 hF9 hc9 eF9 => ?_⟩
                  rw [hsub i hiL] at eF9
                  exact r F9 hF9 hc9 eF9
                · have ec := List.mem_singleton.mp h9
                  subst ec
                  refine ⟨⟨s, by omega, et9⟩, fun F9 hF9 hc9 eF9 => ?_⟩
                  rw [hsub i hiL] at eF9
                  have e9 : F9 = F := Option.some.inj (eF9.symm.trans eF)
                  subst e9
                  exact lo9
              · by_cases ej : j = s
                · rw [ej, et9] at ht
                  rw [← Option.some.inj ht]
                  intro F9 hF9 ht99 eF9 l u
                  rw [hsub i hiL] at eF9
                  have e9 : F9 = F := Option.some.inj (eF9.symm.trans eF)
                  subst e9
                  refine Or.inl ⟨F', g2.1, hin, ?_⟩
                  have := eG
                  rw [ekk] at this
                  exact this
                · exact hpl hiL (p4 j t (by omega) ht (by omega))
            refine w_rdF g1.2.1 (w_rdF q12.1.1 (w_ifF (by rw [iI_lt (by omega) (by omega) (by omega) (by omega)]; omega) (w_rdF g1.2.1 (w_rdF q12.1.1 (w_if (fun ek => w_rdF l3' (w_rdF q12.1.2.1 (w_leT (by omega) (by
              have ekk : k - 1 + (d2 : Int) = k := (iI_eq (by omega) (by omega) (by omega) (by omega)).mp ek
              omega) c3))) (fun _ => c3))))))
      refine u_X10_gather_1 ?_; unfold cm_X10_gather_1
      exact w_rdF sz (w_le (by omega) (by omega) (fun h9 => w_okZ (Or.inr rfl) (w_some (fin (Or.inl (by omega))))) (fun him => w_rdF sz (w_lt (a := 200) (by omega) (by omega) (fun h9 => w_okZ (Or.inr rfl) (w_some (fin (Or.inr h9)))) (fun h200 => c2 ((orG m.1).length + 1) 0 [] z Ls W (by omega) him q1 q2 q3 q4 q5 q6 (Nat.zero_le _) (fun j c hc => (by simp at hc)) (fun c hc => absurd hc List.not_mem_nil) (fun j t hj => absurd hj (Nat.not_lt_zero _))))))
  refine e_X10_gather ?_
  refine u_X10_gather_0 ?_; unfold cm_X10_gather_0
  exact c1 202 0 y Ls0 W0 (by omega) (Nat.zero_le _) l0 s0 i0 (fun i' t hi => absurd hi (Nat.not_lt_zero _)) w0 t0 fr_rf
end XSAB
end
