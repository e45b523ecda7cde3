/-! summit: the class's forms: one simple braid before another -/
def pbI (n : Nat) (F L : List Nat) (j : Nat) : Prop := (∀ i, L[j + 1 + i]? = F[j + i]?) ∧ (∀ i g g', i + 1 ≤ j → L[i]? = some g → L[i + 1]? = some g' → lwG n g g') ∧ ∀ i g, i + 1 = j → L[i]? = some g → ∀ t, t < gNN n → (r1G n t (L.drop i)).1 = 0 → ddG n g t = 0
section XS4
variable {n : Nat}
theorem dr_2 {L : List Nat} {j p q : Nat} (e1 : L[j]? = some p) (e2 : L[j + 1]? = some q) : L.drop j = p :: q :: L.drop (j + 2) := by
  have l2 := (List.getElem?_eq_some_iff.mp e2).1
  have k1 : L.drop j = L[j]'(by omega) :: L.drop (j + 1) := List.drop_eq_getElem_cons (by omega)
  have k2 : L.drop (j + 1) = L[j + 1]'(by omega) :: L.drop (j + 1 + 1) := List.drop_eq_getElem_cons l2
  rw [List.getElem?_eq_getElem (by omega)] at e1
  rw [List.getElem?_eq_getElem l2] at e2
  rw [k1, k2, Option.some.inj e1, Option.some.inj e2]
theorem set_dr {L : List Nat} {j p q : Nat} (hl : j + 1 < L.length) : ((L.set j p).set (j + 1) q) = L.take j ++ p :: q :: L.drop (j + 2) := by
  refine List.ext_getElem? (fun i => ?_)
  by_cases c1 : i < j
  · rw [List.getElem?_append_left (by rw [List.length_take]; omega), List.getElem?_take_of_lt c1, List.getElem?_set_ne (by omega), List.getElem?_set_ne (by omega)]
  · rw [List.getElem?_append_right (by rw [List.length_take]; omega), List.length_take, Nat.min_eq_left (by omega)]
    by_cases c2 : i = j
    · rw [c2, Nat.sub_self, List.getElem?_set_ne (by omega), List.getElem?_set_self (by omega)]
      rfl
    · by_cases c3 : i = j + 1
      · rw [c3, show j + 1 - j = 1 by omega, List.getElem?_set_self (by rw [List.length_set]; omega)]
        rfl
      · rw [List.getElem?_set_ne (by omega), List.getElem?_set_ne (by omega)]
        obtain ⟨d, hd⟩ : ∃ d, i - j = d + 2 := ⟨i - j - 2, by omega⟩
        rw [hd]
        show L[i]? = (L.drop (j + 2))[d]?
        rw [List.getElem?_drop, show j + 2 + d = i by omega]
theorem pb_0 {F : List Nat} {b : Nat} : pbI n F (b :: F) 0 := ⟨fun i => by rw [show 0 + 1 + i = i + 1 by omega, List.getElem?_cons_succ, Nat.zero_add], fun i g g' h => absurd h (by omega), fun i g h => absurd h (by omega)⟩
theorem pb_stop {F L : List Nat} {j p q : Nat} (hF : wtL n F) (h : pbI n F L j) (ep : L[j]? = some p) (eq : L[j + 1]? = some q) (hl : lwG n p q) : wtL n L := by
  intro i g g' e1 e2
  by_cases c1 : i + 1 ≤ j
  · exact h.2.1 i g g' c1 e1 e2
  · by_cases c2 : i = j
    · rw [c2, ep] at e1
      rw [c2, eq] at e2
      rw [← Option.some.inj e1, ← Option.some.inj e2]
      exact hl
    · have k1 := h.1 (i - j - 1)
      have k2 := h.1 (i - j)
      rw [show j + 1 + (i - j - 1) = i by omega, e1] at k1
      rw [show j + 1 + (i - j) = i + 1 by omega, e2] at k2
      refine hF (j + (i - j - 1)) g g' k1.symm ?_
      rw [show j + (i - j - 1) + 1 = j + (i - j) by omega]
      exact k2.symm
theorem pb_end {F L : List Nat} (hl : L.length = F.length + 1) (h : pbI n F L F.length) : wtL n L := fun i g g' e1 e2 => by
  have := (List.getElem?_eq_some_iff.mp e2).1
  exact h.2.1 i g g' (by omega) e1 e2
/-- a letter more -/
theorem r1_let (h2 : 2 ≤ n) (h5 : n ≤ 5) {w c p : Nat} {R : List Nat} (hw : w < gNN n) (hc : c + 1 < n) (hp : p < gNN n) (hR : okT n R) (m1 : moG n w c ≠ 0) (m2 : ddG n p (moG n 0 c - 1) = 0) : (r1G n (moG n w c - 1) (w :: p :: R)).1 = 0 := by
  have hl := lett h2 h5 hc
  have e1 : muG n w (moG n 0 c - 1) = (moG n w c - 1) + 1 := by rw [mu_let h2 h5 hc]; omega
  have hX : okT n (w :: p :: R) := okT_c.mpr ⟨hw, okT_c.mpr ⟨hp, hR⟩⟩
  have k := (r1_mul h2 h5 (w :: p :: R) hw hl e1 hX).2
  have e2 : r1G n w (w :: p :: R) = (0, 0 :: p :: R) := by
    show ((r1G n (ddG n w w) (p :: R)).1, ddG n w w :: (r1G n (ddG n w w) (p :: R)).2) = _
    rw [dd_s h2 h5 hw, r1_0 h2 h5 _ (okT_c.mpr ⟨hp, hR⟩)]
  rw [e2] at k
  have e3 : (r1G n (moG n 0 c - 1) (0 :: p :: R)).1 = 0 := by
    show (r1G n (ddG n p (ddG n 0 (moG n 0 c - 1))) R).1 = 0
    rw [dd_0l h2 h5 hl, m2, r1_0 h2 h5 R hR]
  rw [e3, mu_r0 h2 h5] at k
  omega
theorem pb_step (h2 : 2 ≤ n) (h5 : n ≤ 5) {F L : List Nat} {j p q x p' q' : Nat} (hF : wtL n F) (hL : okT n L) (hl : L.length = F.length + 1) (h : pbI n F L j) (ep : L[j]? = some p) (eq : L[j + 1]? = some q) (hx : x < gNN n) (hq' : q' < gNN n) (e1 : muG n p x = p' + 1) (e2 : muG n x q' = q + 1) (hw : lwG n p' q') : okT n ((L.set j p').set (j + 1) q') ∧ eqT n L ((L.set j p').set (j + 1) q') ∧ pbI n F ((L.set j p').set (j + 1) q') (j + 1) := by
  have l2 := (List.getElem?_eq_some_iff.mp eq).1
  have hp := hL p (List.mem_of_getElem? ep)
  have hq := hL q (List.mem_of_getElem? eq)
  have hp' := (mu_lt h2 h5 hp e1).1
  have hD : okT n (L.drop (j + 2)) := fun t ht => hL t (List.mem_of_mem_drop ht)
  have hT : okT n (L.take j) := fun t ht => hL t (List.mem_of_mem_take ht)
  have eL : L = L.take j ++ p :: q :: L.drop (j + 2) := by
    rw [← dr_2 ep eq, List.take_append_drop]
  have eS := set_dr (p := p') (q := q') l2
  have ok : okT n ((L.set j p').set (j + 1) q') := by
    rw [eS]
    exact okT_a.mpr ⟨hT, okT_c.mpr ⟨hp', okT_c.mpr ⟨hq', hD⟩⟩⟩
  have dS : ∀ i, i ≤ j → eqT n (L.drop i) (((L.set j p').set (j + 1) q').drop i) := fun i hi => by
    have a1 : L.drop i = (L.take j).drop i ++ p :: q :: L.drop (j + 2) := by
      conv => lhs; rw [eL]
      rw [List.drop_append_of_le_length (by rw [List.length_take]; omega)]
    have a2 : ((L.set j p').set (j + 1) q').drop i = (L.take j).drop i ++ p' :: q' :: L.drop (j + 2) := by
      rw [eS, List.drop_append_of_le_length (by rw [List.length_take]; omega)]
    rw [a1, a2]
    exact eqT_swp h2 h5 (fun t ht => hT t (List.mem_of_mem_drop ht)) hD hp hx hq' e1 e2
  have gt : ∀ i, j + 2 ≤ i → ((L.set j p').set (j + 1) q')[i]? = L[i]? := fun i hi => by
    rw [List.getElem?_set_ne (by omega), List.getElem?_set_ne (by omega)]
  have gl : ∀ i, i < j → ((L.set j p').set (j + 1) q')[i]? = L[i]? := fun i hi => by
    rw [List.getElem?_set_ne (by omega), List.getElem?_set_ne (by omega)]
  have gj : ((L.set j p').set (j + 1) q')[j]? = some p' := by
    rw [List.getElem?_set_ne (by omega), List.getElem?_set_self (by omega)]
  have gj1 : ((L.set j p').set (j + 1) q')[j + 1]? = some q' := by
    rw [List.getElem?_set_self (by rw [List.length_set]; omega)]
  have d0 := dS 0 (Nat.zero_le _)
  refine ⟨ok, d0, fun i => ?_, fun i g g' hi g1 g2 => ?_, fun i g hi g1 t ht e9 => ?_⟩
  · rw [gt _ (by omega)]
    have := h.1 (i + 1)
    rw [show j + 1 + (i + 1) = j + 1 + 1 + i by omega, show j + (i + 1) = j + 1 + i by omega] at this
    exact this
  · by_cases c1 : i = j
    · rw [c1, gj] at g1
      rw [c1, gj1] at g2
      rw [← Option.some.inj g1, ← Option.some.inj g2]
      exact hw
    · rw [gl i (by omega)] at g1
      by_cases c2 : i + 1 = j
      · rw [c2, gj] at g2
        have eg' := Option.some.inj g2
        have hg := hL g (List.mem_of_getElem? g1)
        intro c hc m1 m2
        rw [← eg'] at m2
        have dg : ((L.set j p').set (j + 1) q').drop i = g :: p' :: ((L.set j p').set (j + 1) q').drop (i + 2) := dr_2 (by rw [gl i (by omega)]; exact g1) (by rw [c2]; exact gj)
        have k := r1_let h2 h5 (R := ((L.set j p').set (j + 1) q').drop (i + 2)) hg hc hp' (fun t ht => ok t (List.mem_of_mem_drop ht)) m1 m2
        rw [← dg, ← (eqT_1 (dS i (by omega)) (by
          have e5 : muG n g (moG n 0 c - 1) = (moG n g c - 1) + 1 := by rw [mu_let h2 h5 hc]; omega
          exact (mu_lt h2 h5 hg e5).1)).1] at k
        have e5 : muG n g (moG n 0 c - 1) = (moG n g c - 1) + 1 := by rw [mu_let h2 h5 hc]; omega
        have k2 := h.2.2 i g c2 g1 _ (mu_lt h2 h5 hg e5).1 k
        have e6 := mu_dd h2 h5 hg (lett h2 h5 hc) e5
        have e7 := dv_as h2 h5 (mu_lt h2 h5 hg e5).1 hg k2 e6.1
        have e8 := (mu_lt h2 h5 hg e5).2
        rw [sz_let h2 h5 hc] at e8
        rw [e7] at e8
        omega
      · rw [gl (i + 1) (by omega)] at g2
        exact h.2.1 i g g' (by omega) g1 g2
  · have ei : i = j := by omega
    subst ei
    rw [gj] at g1
    rw [← Option.some.inj g1]
    rw [← (eqT_1 (dS i (Nat.le_refl _)) ht).1, dr_2 ep eq] at e9
    have e9 : (r1G n (ddG n p t) (q :: L.drop (i + 2))).1 = 0 := e9
    have hq2 : okT n (q :: L.drop (i + 2)) := okT_c.mpr ⟨hq, hD⟩
    have wq : wtL n (q :: L.drop (i + 2)) := fun k g g' k1 k2 => by
      have lk : ∀ k, (q :: L.drop (i + 2))[k]? = L[i + 1 + k]? := fun k => by
        cases k with
        | zero => exact eq.symm
        | succ k =>
          rw [List.getElem?_cons_succ, List.getElem?_drop]
          congr 1
          omega
      rw [lk, h.1] at k1 k2
      exact hF (i + k) g g' k1 k2
    have k3 := lw_div h2 h5 _ hq2 wq (dd_lt h2 h5 hp ht) e9
    have k4 : (r1G n t [p, q]).1 = 0 := k3
    have e10 : eqT n [p, q] [p', q'] := eqT_swp (X := []) (Y := []) h2 h5 okT_n okT_n hp hx hq' e1 e2
    rw [(eqT_1 e10 ht).1] at k4
    refine lw_div h2 h5 [q'] (okT_c.mpr ⟨hp', okT_c.mpr ⟨hq', okT_n⟩⟩) (fun k g g' k1 k2 => ?_) ht k4
    cases k with
    | zero =>
      have a1 : p' = g := Option.some.inj k1
      have a2 : q' = g' := Option.some.inj k2
      rw [← a1, ← a2]
      exact hw
    | succ k =>
      have h9 : k + 1 + 1 < 2 := (List.getElem?_eq_some_iff.mp k2).1
      omega
variable {vl : Nat → Nat} {y : ow_MS} {h : Nat} {κ : Int32}
theorem xc_putBefore {F : List Nat} {b : Nat} (hh : fO h) (h2 : 2 ≤ n) (h5 : n ≤ 5) (hF : nfL n F) (hb : b < gNN n) (hl : F.length < 24) (h0 : foA y h n κ (F.map (pkG n))) : Te (fun K => ce_X5_putBefore vl K h (pkG n b) y) (fun y1 => ∃ d F', foA y1 h n (κ + nI d) (F'.map (pkG n)) ∧ nfL n F' ∧ F'.length ≤ F.length + 1 ∧ eqT n (b :: F) (List.replicate d (gNN n - 1) ++ F') ∧ fr (foP h) y y1) := by
  let Q : ow_MS → Prop := fun y1 => ∃ d F', foA y1 h n (κ + nI d) (F'.map (pkG n)) ∧ nfL n F' ∧ F'.length ≤ F.length + 1 ∧ eqT n (b :: F) (List.replicate d (gNN n - 1) ++ F') ∧ fr (foP h) y y1
  obtain ⟨h3, -⟩ := fo_len h0
  have c2 : ∀ (z : ow_MS) (a c : Int32) (L : List Nat), okT n L → wtL n L → L.length = F.length + 1 → eqT n (b :: F) L → foA z h n κ (L.map (pkG n)) → fr (foP h) y z → Tt (fun K t => c_X5_putBefore vl K t 2 (pkG n b) a c h z) Q := by
    intro z a c L q1 q2 q3 q4 q5 q6
    refine u_X5_putBefore_2 ?_; unfold cm_X5_putBefore_2
    refine w_cs0 (xc_strip hh h2 h5 q1 q2 q5) ?_
    rintro z1 ⟨d, F', g1, g2, g3, g4, g5⟩
    exact w_some ⟨d, F', g1, g2, by omega, eqT_tr q4 g4, fr_tr q6 g5⟩
  have c1 : ∀ (d j : Nat) (z : ow_MS) (a : Int32) (L : List Nat), j + d = F.length → okT n L → L.length = F.length + 1 → eqT n (b :: F) L → foA z h n κ (L.map (pkG n)) → fr (foP h) y z → (a = 1 ∧ pbI n F L j ∨ a = 0 ∧ wtL n L) → Tt (fun K t => c_X5_putBefore vl K t 1 (pkG n b) a (nI j) h z) Q := by
    intro d
    induction d with
    | zero =>
      intro j z a L hj q1 q3 q4 q5 q6 q7
      have ej : j = F.length := by omega
      subst ej
      have hw : wtL n L := by
        rcases q7 with ⟨-, q7⟩ | ⟨-, q7⟩
        · exact pb_end q3 q7
        · exact q7
      obtain ⟨z3, -⟩ := fo_len q5
      rw [q3] at z3
      refine u_X5_putBefore_1 ?_; unfold cm_X5_putBefore_1
      refine w_rdF z3 ?_
      rw [show nI (F.length + 1) - 1 = nI F.length from pk_sub (b := 1) (by omega)]
      exact w_leT (by omega) (by omega) (c2 z _ _ L q1 hw q3 q4 q5 q6)
    | succ d ih =>
      intro j z a L hj q1 q3 q4 q5 q6 q7
      obtain ⟨z3, -⟩ := fo_len q5
      rw [q3] at z3
      have ea : L[j]? = some (L[j]'(by omega)) := List.getElem?_eq_getElem (by omega)
      have eb : L[j + 1]? = some (L[j + 1]'(by omega)) := List.getElem?_eq_getElem (by omega)
      refine u_X5_putBefore_1 ?_; unfold cm_X5_putBefore_1
      refine w_rdF z3 ?_
      rw [show nI (F.length + 1) - 1 = nI F.length from pk_sub (b := 1) (by omega)]
      refine w_leF (by omega) (by omega) ?_
      rcases q7 with ⟨rfl, q7⟩ | ⟨rfl, q7⟩
      · refine w_ifF (by decide) (w_cs1 (xc_weigh hh h2 h5 q1 q5 ea eb) ?_)
        rintro v z1 (⟨g1, g2, g3⟩ | ⟨g1, g2, x, p', q', x1, x2, x3, x4, x5, x6⟩)
        · dsimp only at g1 g2
          rw [nI_1, g1, g2]
          exact ih (j + 1) z 0 L (by omega) q1 q3 q4 q5 q6 (Or.inr ⟨rfl, pb_stop hF.2.1 q7 ea eb g3⟩)
        · dsimp only at g1 g2 x6
          rw [nI_1, g1]
          obtain ⟨s1, s2, s3⟩ := pb_step h2 h5 hF.2.1 q1 q3 q7 ea eb x1 x2 x3 x4 x5
          exact ih (j + 1) z1 1 _ (by omega) s1 (by rw [List.length_set, List.length_set]; exact q3) (eqT_tr q4 s2) x6 (fr_tr q6 g2) (Or.inl ⟨rfl, s3⟩)
      · exact w_ifT rfl (c2 z _ _ L q1 q7 q3 q4 q5 q6)
  refine e_X5_putBefore ?_
  refine u_X5_putBefore_0 ?_; unfold cm_X5_putBefore_0
  refine w_rdF h3 (w_lt (b := 24) (by omega) (by omega) (fun hl24 => w_rdF h3 (w_cpI (a := 0) (b := 1) (n := F.length) (fO_4 hh) (fO_4 hh) rfl rfl rfl (by omega) (by omega) (w_ctI (i := 0) (fO_4 hh) rfl (by omega) (w_rdF (x := nI F.length) h3 (w_wrF ?_))))) (fun h9 => absurd hl (Nat.not_lt.mpr h9)))
  rw [nI_1]
  refine c1 F.length 0 _ 1 (b :: F) (by omega) (okT_c.mpr ⟨hb, hF.1⟩) rfl (eqT_rf _) ?_ (fr_F2 (fr_I2 (fr_R2 fr_rf (by unfold foP; omega)) (by unfold foP; omega)) (by unfold foP; omega)) (Or.inl ⟨rfl, pb_0⟩)
  obtain ⟨a1, a2, a3, a4, a5, a6, a7⟩ := h0
  refine ⟨rf_ot (by omega) a1, rf_ot (by omega) a2, ?_, ?_, fun i c ei => ?_, rf_ot (by omega) a6, rf_ot (by omega) a7⟩
  · rw [List.length_map, List.length_cons]
    exact po_usF_at
  · rw [List.length_map, List.length_cons]
    omega
  · show (usI (usR y (h + 4) (va_cpy (y.2.1 (h + 4)) (y.2.1 (h + 4)) 0 1 F.length)) (h + 4) 0 (pkG n b)).2.1 (h + 4) i = c
    rw [List.map_cons] at ei
    cases i with
    | zero =>
      rw [po_usI_at]
      exact Option.some.inj ei
    | succ i =>
      rw [List.getElem?_cons_succ] at ei
      have l := (List.getElem?_eq_some_iff.mp ei).1
      rw [List.length_map] at l
      rw [po_usI_ne (by omega), usR_at, pk_cpy_in (by omega) (by omega), show 0 + (i + 1 - 1) = i by omega]
      exact a5 i c ei
end XS4
