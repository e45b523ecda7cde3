/-! summit: the class's forms go round -/
def cbR (v : Int32) (n : Nat) : Nat → Int32
  | 0 => 0
  | j + 1 => cbR v n j ||| ((foJ v ((nI n - 1) - nI j)) <<< (((4 * nI j) : Int32) &&& 31))
def gCB (n s : Nat) : Bool := decide (cbR (ivG n s) n n = pkG n (ahG n s))
theorem cb_2 : ∀ s : Fin 2, gCB 2 s.val = true := by decide +kernel
theorem cb_3 : ∀ s : Fin 6, gCB 3 s.val = true := by decide +kernel
theorem cb_4 : ∀ s : Fin 24, gCB 4 s.val = true := by decide +kernel
section XS5
variable {m : N5} {vl : Nat → Nat} {y : ow_MS} {h : Nat}
theorem cb_n (h4 : m.1 ≤ 4) {s : Nat} (hs : s < gNN m.1) : cbR (ivG m.1 s) m.1 m.1 = pkG m.1 (ahG m.1 s) := by
  have h2 := m.2.1
  generalize m.1 = n at *
  have : n = 2 ∨ n = 3 ∨ n = 4 := by omega
  rcases this with rfl | rfl | rfl
  · exact of_decide_eq_true (cb_2 ⟨s, hs⟩)
  · exact of_decide_eq_true (cb_3 ⟨s, hs⟩)
  · exact of_decide_eq_true (cb_4 ⟨s, hs⟩)
/-- a form in a state of the class -/
def foC (y : ow_MS) (h : Nat) (m : N5) (k : Int) (F : List Nat) : Prop := foA y h m.1 (iI k) (F.map (pkG m.1)) ∧ nfL m.1 F ∧ -200 ≤ k ∧ k ≤ 200
def foQ (y : ow_MS) (h : Nat) (m : N5) (k : Int) (U : List Nat) (b : Nat) (y1 : ow_MS) : Prop := (∃ (d : Nat) (F : List Nat), foA y1 h m.1 (iI (k + (d : Int))) (F.map (pkG m.1)) ∧ nfL m.1 F ∧ F.length + d ≤ b ∧ eqT m.1 U (List.replicate d (gNN m.1 - 1) ++ F)) ∧ fr (foP h) y y1
theorem le_U {U F : List Nat} {d : Nat} (hU : okT m.1 U) (hF : nfL m.1 F) (e : eqT m.1 U (List.replicate d (gNN m.1 - 1) ++ F)) : F.length + d ≤ U.length := by
  have e := F_eq (m := m) (k := 0) (hT := hU) (hF := hF.1) e
  have a1 : gle (gF m 0 U hU) (gD m (U.length : Int)) := by
    unfold gF
    have : gD m 0 = g1 m := rfl
    rw [this, g1_l]
    exact sup_le U
  rw [e] at a1
  have := (sup_F hF).mp a1
  omega
theorem xc_putBh {F : List Nat} {b : Nat} {k : Int} (hh : fO h) (hF : nfL m.1 F) (hb : b < gNN m.1) (hl : F.length < 24) (h0 : foA y h m.1 (iI k) (F.map (pkG m.1))) : Te (fun K => ce_X5_putBehind vl K h (pkG m.1 b) y) (foQ y h m k (F ++ [b]) (F.length + 1)) := w_monoE (xc_putBehindF hh m.2.1 m.2.2 hF hb hl h0) (fun r ⟨d, F', g1, g2, _, g4, g5⟩ => ⟨⟨d, F', by rw [nI_iI, iI_add] at g1; exact g1, g2, by
  have := le_U (okT_a.mpr ⟨hF.1, okT_c.mpr ⟨hb, okT_n⟩⟩) g2 g4
  rw [List.length_append] at this
  exact this, g4⟩, g5⟩)
theorem xc_putBf {F : List Nat} {b : Nat} {k : Int} (hh : fO h) (hF : nfL m.1 F) (hb : b < gNN m.1) (hl : F.length < 24) (h0 : foA y h m.1 (iI k) (F.map (pkG m.1))) : Te (fun K => ce_X5_putBefore vl K h (pkG m.1 b) y) (foQ y h m k (b :: F) (F.length + 1)) := w_monoE (xc_putBefore hh m.2.1 m.2.2 hF hb hl h0) (fun r ⟨d, F', g1, g2, _, g4, g5⟩ => ⟨⟨d, F', by rw [nI_iI, iI_add] at g1; exact g1, g2, by
  have := le_U (okT_c.mpr ⟨hb, hF.1⟩) g2 g4
  rw [List.length_cons] at this
  exact this, g4⟩, g5⟩)
theorem foQ_tr {y0 y1 : ow_MS} {k : Int} {U : List Nat} {b : Nat} (hf : fr (foP h) y0 y) (h0 : foQ y h m k U b y1) : foQ y0 h m k U b y1 := ⟨h0.1, fr_tr hf h0.2⟩
theorem pk_tu {k : Int} {f : Nat} (hf : f < gNN m.1) : (if k % 2 = 0 then pkG m.1 f else foU (pkG m.1 f) m.1 m.1) = pkG m.1 (tuG m.1 k f) := by
  unfold tuG
  by_cases e : k % 2 = 0
  · rw [if_pos e, if_pos e]
  · rw [if_neg e, if_neg e]
    exact (d_qk m.2.1 m.2.2 hf).2.1
theorem xc_cycle {k : Int} {f : Nat} {F : List Nat} (hh : fO h) (h0 : foC y h m k (f :: F)) : Te (fun K => ce_X5_cycle vl K h y) (foQ y h m k (F ++ [tuG m.1 k f]) (F.length + 1)) := by
  obtain ⟨hA, hn, k1, k2⟩ := h0
  obtain ⟨h3, l24⟩ := fo_len hA
  rw [List.length_cons] at h3 l24
  have hf := (okT_c.mp hn.1).1
  have hF := nf_c hn
  obtain ⟨a1, a2, a3, a4, a5, a6, a7⟩ := id hA
  have c1 : Tt (fun K t => c_X5_cycle vl K t 1 h (pkG m.1 (tuG m.1 k f)) y) (foQ y h m k (F ++ [tuG m.1 k f]) (F.length + 1)) := by
    refine u_X5_cycle_1 ?_; unfold cm_X5_cycle_1
    refine w_rdF h3 (w_wrF ?_)
    rw [show nI (F.length + 1) - 1 = nI F.length from pk_sub (b := 1) (by omega)]
    refine w_rdF po_usF_at (w_cpI (a := 1) (b := 0) (n := F.length) (fO_4 hh) (fO_4 hh) rfl rfl rfl (by omega) (by omega) (w_cs0 (xc_putBh (k := k) hh hF (tu_lt m.2.1 m.2.2 hf) (by omega) ?_) ?_))
    · refine ⟨rf_ot (by omega) a1, rf_ot (by omega) a2, ?_, by rw [List.length_map]; omega, fun i c ei => ?_, rf_ot (by omega) a6, rf_ot (by omega) a7⟩
      · rw [List.length_map]
        exact po_usF_at
      · have l := (List.getElem?_eq_some_iff.mp ei).1
        rw [List.length_map] at l
        rw [usR_at, pk_cpy_in (by omega) (by omega)]
        refine a5 (1 + (i - 0)) c ?_
        rw [List.map_cons, show 1 + (i - 0) = i + 1 by omega, List.getElem?_cons_succ]
        exact ei
    · rintro z g
      exact w_some (foQ_tr (fr_R2 (fr_F (by unfold foP; omega)) (by unfold foP; omega)) g)
  have e0 : y.2.1 (h + 4) 0 = pkG m.1 f := a5 0 _ rfl
  have ep := pk_tu (m := m) (k := k) hf
  refine e_X5_cycle ?_
  refine u_X5_cycle_0 ?_; unfold cm_X5_cycle_0
  refine w_rdF h3 (w_leF (b := 0) (by omega) (by omega) (w_rdF a2 (w_if (fun e => w_crI (i := 0) (fO_4 hh) rfl (by omega) e0 ?_) (fun e => w_crI (i := 0) (fO_4 hh) rfl (by omega) e0 (w_rdF a1 (w_cs1 (tc_turned m.2.2) ?_))))))
  · rw [if_pos ((iI_ev k1 k2).mp e)] at ep
    rw [ep]
    exact c1
  · rintro v z ⟨e1, e2⟩
    dsimp only at e1 e2
    rw [if_neg (fun h9 => e ((iI_ev k1 k2).mpr h9))] at ep
    rw [e2, e1, ep]
    exact c1
theorem xc_cyc0 {k : Int} (h0 : foC y h m k []) : Te (fun K => ce_X5_cycle vl K h y) (fun y1 => y1 = y) := by
  obtain ⟨h3, -⟩ := fo_len h0.1
  refine e_X5_cycle ?_
  refine u_X5_cycle_0 ?_; unfold cm_X5_cycle_0
  exact w_rdF h3 (w_leT (b := 0) (by omega) (by show (0 : Nat) ≤ 0; omega) (w_some rfl))
theorem xc_decycle {k : Int} {a : Nat} {F : List Nat} (hh : fO h) (h0 : foC y h m k (F ++ [a])) : Te (fun K => ce_X5_decycle vl K h y) (foQ y h m k (tuG m.1 k a :: F) (F.length + 1)) := by
  obtain ⟨hA, hn, k1, k2⟩ := h0
  obtain ⟨h3, l24⟩ := fo_len hA
  have len1 : (F ++ [a]).length = F.length + 1 := by rw [List.length_append]; rfl
  rw [len1] at h3 l24
  obtain ⟨hFk, hak⟩ := okT_a.mp hn.1
  have ha := (okT_c.mp hak).1
  have hF : nfL m.1 F := ⟨hFk, fun i g g' e1 e2 => by
    have l := (List.getElem?_eq_some_iff.mp e2).1
    exact hn.2.1 i g g' (by rw [List.getElem?_append_left (by omega)]; exact e1) (by rw [List.getElem?_append_left l]; exact e2), fun g hg => hn.2.2 g (List.mem_append_left _ hg)⟩
  obtain ⟨a1, a2, a3, a4, a5, a6, a7⟩ := id hA
  have e0 : y.2.1 (h + 4) F.length = pkG m.1 a := a5 F.length _ (by rw [List.getElem?_map, List.getElem?_append_right (Nat.le_refl _), Nat.sub_self]; rfl)
  have q1 : foA (usF y (h + 3) (nI F.length)) h m.1 (iI k) (F.map (pkG m.1)) := by
    refine ⟨rf_ot (by omega) a1, rf_ot (by omega) a2, ?_, by rw [List.length_map]; omega, fun i c ei => a5 i c ?_, rf_ot (by omega) a6, rf_ot (by omega) a7⟩
    · rw [List.length_map]
      exact po_usF_at
    · have l := (List.getElem?_eq_some_iff.mp ei).1
      rw [List.length_map] at l
      rw [List.map_append, List.getElem?_append_left (by rw [List.length_map]; exact l)]
      exact ei
  have c1 : ∀ w : Int32, Tt (fun K t => c_X5_decycle vl K t 1 w h (pkG m.1 (tuG m.1 k a)) (usF y (h + 3) (nI F.length))) (foQ y h m k (tuG m.1 k a :: F) (F.length + 1)) := by
    intro w
    refine u_X5_decycle_1 ?_; unfold cm_X5_decycle_1
    refine w_cs0 (xc_putBf (k := k) hh hF (tu_lt m.2.1 m.2.2 ha) (by omega) q1) ?_
    rintro z1 g
    exact w_some (foQ_tr (fr_F (by unfold foP; omega)) g)
  have ep := pk_tu (m := m) (k := k) ha
  refine e_X5_decycle ?_
  refine u_X5_decycle_0 ?_; unfold cm_X5_decycle_0
  refine w_rdF h3 (w_leF (b := 0) (by omega) (by omega) (w_rdF h3 ?_))
  rw [show nI (F.length + 1) - 1 = nI F.length from pk_sub (b := 1) (by omega)]
  refine w_crI (fO_4 hh) rfl (show F.length < 24 by omega) e0 (w_rdF h3 (w_wrF ?_))
  rw [show nI (F.length + 1) - 1 = nI F.length from pk_sub (b := 1) (by omega)]
  refine w_rdF q1.2.1 (w_if (fun e => ?_) (fun e => w_rdF q1.1 (w_cs1 (tc_turned m.2.2) ?_)))
  · rw [if_pos ((iI_ev k1 k2).mp e)] at ep
    have := c1 (pkG m.1 a)
    rw [← ep] at this
    exact this
  · rintro v z ⟨e1, e2⟩
    dsimp only at e1 e2
    rw [if_neg (fun h9 => e ((iI_ev k1 k2).mpr h9))] at ep
    rw [e2, e1, ep]
    exact c1 _
theorem xc_dcy0 {k : Int} (h0 : foC y h m k []) : Te (fun K => ce_X5_decycle vl K h y) (fun y1 => y1 = y) := by
  obtain ⟨h3, -⟩ := fo_len h0.1
  refine e_X5_decycle ?_
  refine u_X5_decycle_0 ?_; unfold cm_X5_decycle_0
  exact w_rdF h3 (w_leT (b := 0) (by omega) (by show (0 : Nat) ≤ 0; omega) (w_some rfl))
theorem xc_conjBy {k : Int} {s : Nat} {F : List Nat} (hh : fO h) (h4 : m.1 ≤ 4) (hs : s < gNN m.1) (hl : F.length ≤ 20) (h0 : foC y h m k F) : Te (fun K => ce_X5_conjugateBy vl K h (pkG m.1 s) y) (foQ y h m (k - 1) (tuG m.1 k (ahG m.1 s) :: F ++ [s]) (F.length + 2)) := by
  obtain ⟨hA, hn, k1, k2⟩ := h0
  have h2 := m.2.1
  have h5 := m.2.2
  obtain ⟨a1, a2, a3, a4, a5, a6, a7⟩ := id hA
  have ha := (f_one h2 h5 hs).2.1
  have ht := tu_lt (k := k) h2 h5 ha
  let Q : ow_MS → Prop := foQ y h m (k - 1) (tuG m.1 k (ahG m.1 s) :: F ++ [s]) (F.length + 2)
  have c2 : ∀ (a b c : Int32), Tt (fun K t => c_X5_conjugateBy vl K t 2 (pkG m.1 s) a b c h (pkG m.1 (tuG m.1 k (ahG m.1 s))) y) Q := by
    intro a b c
    refine u_X5_conjugateBy_2 ?_; unfold cm_X5_conjugateBy_2
    refine w_rdF a2 (w_wrF (w_cs0 (xc_putBf (k := k - 1) hh hn ht (by omega) ⟨rf_ot (by omega) a1, po_usF_at.trans (by show iI k - iI 1 = _; rw [iI_sub]), rf_ot (by omega) a3, a4, a5, rf_ot (by omega) a6, rf_ot (by omega) a7⟩) ?_))
    rintro z ⟨⟨d, F1, g1, g2, g3, g4⟩, g5⟩
    refine w_cs0 (xc_putBh (k := k - 1 + (d : Int)) hh g2 hs (by omega) g1) ?_
    rintro z2 ⟨⟨d2, F2, u1, u2, u3, u4⟩, u5⟩
    have hU : okT m.1 (tuG m.1 k (ahG m.1 s) :: F ++ [s]) := okT_a.mpr ⟨okT_c.mpr ⟨ht, hn.1⟩, okT_c.mpr ⟨hs, okT_n⟩⟩
    have hs1 : okT m.1 [s] := okT_c.mpr ⟨hs, okT_n⟩
    have e9 : eqT m.1 (tuG m.1 k (ahG m.1 s) :: F ++ [s]) (List.replicate (d + d2) (gNN m.1 - 1) ++ F2) := by
      have x1 := eqT_ap h2 h5 [s] hs1 (okT_c.mpr ⟨ht, hn.1⟩) (okT_a.mpr ⟨rp_ok, g2.1⟩) g4
      rw [List.append_assoc] at x1
      have x2 := eqT_pr (P := List.replicate d (gNN m.1 - 1)) h2 h5 rp_ok u4
      rw [← List.append_assoc (List.replicate d (gNN m.1 - 1)) (List.replicate d2 (gNN m.1 - 1)), ← rp_add] at x2
      exact eqT_tr x1 x2
    refine w_some ⟨⟨d + d2, F2, ?_, u2, ?_, e9⟩, fr_tr (fr_F (by unfold foP; omega)) (fr_tr g5 u5)⟩
    · rw [show k - 1 + ((d + d2 : Nat) : Int) = k - 1 + (d : Int) + (d2 : Int) by omega]
      exact u1
    · have := le_U hU u2 e9
      rw [List.length_append, List.length_cons] at this
      exact this
  have ep := pk_tu (m := m) (k := k) ha
  have c1 : ∀ (d j : Nat), j + d = m.1 → Tt (fun K t => c_X5_conjugateBy vl K t 1 (pkG m.1 s) (ivG m.1 s) (cbR (ivG m.1 s) m.1 j) (nI j) h 0 y) Q := by
    intro d
    induction d with
    | zero =>
      intro j hj
      have ej : j = m.1 := by omega
      rw [ej, cb_n h4 hs]
      refine u_X5_conjugateBy_1 ?_; unfold cm_X5_conjugateBy_1
      refine w_rdF a1 (w_leT (by omega) (by omega) (w_rdF a2 (w_if (fun e => ?_) (fun e => w_rdF a1 (w_cs1 (tc_turned m.2.2) ?_)))))
      · rw [if_pos ((iI_ev k1 k2).mp e)] at ep
        have := c2 (ivG m.1 s) (pkG m.1 (ahG m.1 s)) (nI m.1)
        rw [← ep] at this
        exact this
      · rintro v z ⟨e1, e2⟩
        dsimp only at e1 e2
        rw [if_neg (fun h9 => e ((iI_ev k1 k2).mpr h9))] at ep
        rw [e2, e1, ep]
        exact c2 _ _ _
    | succ d ih =>
      intro j hj
      refine u_X5_conjugateBy_1 ?_; unfold cm_X5_conjugateBy_1
      refine w_rdF a1 (w_leF (by omega) (by omega) (w_rdF a1 (w_cs1 tc_image ?_)))
      rintro v z ⟨e1, e2⟩
      dsimp only at e1 e2
      rw [e2, e1, nI_1]
      exact ih (j + 1) (by omega)
  refine e_X5_conjugateBy ?_
  refine u_X5_conjugateBy_0 ?_; unfold cm_X5_conjugateBy_0
  refine w_rdF a1 (w_cs1 (tc_invert m.2.2) ?_)
  rintro v z ⟨e1, e2⟩
  dsimp only at e1 e2
  rw [e2, e1]
  exact c1 m.1 0 (by omega)
theorem xc_copyF {g : Nat} {k : Int} {F : List Nat} (hh : fO h) (hg : fO g) (hd : h + 7 ≤ g ∨ g + 7 ≤ h) (g0 : foC y g m k F) : Te (fun K => ce_X5_copy vl K h g y) (fun y1 => foC y1 h m k F ∧ fr (foP h) y y1) := by
  obtain ⟨⟨a1, a2, a3, a4, a5, a6, a7⟩, hn, k1, k2⟩ := g0
  rw [List.length_map] at a3 a4
  refine e_X5_copy ?_; unfold cm_X5_copy_0
  refine w_rdF a1 (w_cs0 (tc_begin m.2.2) ?_)
  rintro z ⟨b1, b2⟩
  have np : ∀ q, g + 1 ≤ q → q ≤ g + 6 → ¬ foP h q := fun q h1 h3 h9 => by unfold foP at h9; omega
  have e2 : z.1 (g + 2) = iI k := (b2 _ (np _ (by omega) (by omega))).1.trans a2
  have e3 : z.1 (g + 3) = nI F.length := (b2 _ (np _ (by omega) (by omega))).1.trans a3
  have e4 : z.2.1 (g + 4) = y.2.1 (g + 4) := (b2 _ (np _ (by omega) (by omega))).2.1
  refine w_rdF e2 (w_wrF (w_rdF (x := nI F.length) (rf_ot (by omega) e3) (w_wrF (w_rdF po_usF_at (w_cpI (a := 0) (b := 0) (n := F.length) (fO_4 hg) (fO_4 hh) rfl rfl rfl (by omega) (by omega) (w_some ⟨⟨⟨rf_ot (by omega) (rf_ot (by omega) b1.1), rf_ot (by omega) po_usF_at, ?_, by rw [List.length_map]; exact a4, fun i c ei => ?_, rf_ot (by omega) (rf_ot (by omega) b1.2.2.2.2.2.1), rf_ot (by omega) (rf_ot (by omega) b1.2.2.2.2.2.2)⟩, hn, k1, k2⟩, fr_R2 (fr_F2 (fr_F2 b2 (by unfold foP; omega)) (by unfold foP; omega)) (by unfold foP; omega)⟩))))))
  · rw [List.length_map]
    exact po_usF_at
  · have l := (List.getElem?_eq_some_iff.mp ei).1
    rw [List.length_map] at l
    rw [usR_at, pk_cpy_in (by omega) (by omega)]
    show z.2.1 (g + 4) (0 + (i - 0)) = c
    rw [e4, show 0 + (i - 0) = i by omega]
    exact a5 i c ei
end XS5
