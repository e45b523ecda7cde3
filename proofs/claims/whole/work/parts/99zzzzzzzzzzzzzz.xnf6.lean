/-! normal forms: the class, one simple braid behind another -/
section NF9
variable {vl : Nat → Nat} {y : ow_MS} {h n : Nat} {κ : Int32} {L : List Nat}
theorem xc_strip (hh : fO h) (h2 : 2 ≤ n) (h5 : n ≤ 5) (hk : okT n L) (hw : wtL n L) (h0 : foA y h n κ (L.map (pkG n))) : Te (fun K => ce_X5_strip vl K h y) (fun y1 => ∃ d F, foA y1 h n (κ + nI d) (F.map (pkG n)) ∧ nfL n F ∧ F.length ≤ L.length ∧ eqT n L (List.replicate d (gNN n - 1) ++ F) ∧ fr (foP h) y y1) := by
  let Q : ow_MS → Prop := fun y1 => ∃ d F, foA y1 h n (κ + nI d) (F.map (pkG n)) ∧ nfL n F ∧ F.length ≤ L.length ∧ eqT n L (List.replicate d (gNN n - 1) ++ F) ∧ fr (foP h) y y1
  obtain ⟨hl3, hl24⟩ := fo_len h0
  have len : ∀ d e, d + e ≤ L.length → ((L.drop d).take e).length = e := fun d e hde => by
    rw [List.length_take, List.length_drop]
    omega
  have c3 : ∀ (d e : Nat) (z : ow_MS) (x : Int32), d + e ≤ L.length → (∀ i g, i < d → L[i]? = some g → g = gNN n - 1) → (d < L.length → ∀ g, L[d]? = some g → g ≠ gNN n - 1) → (∀ i g, d + e ≤ i → L[i]? = some g → g = 0) → foA z h n (κ + nI d) (((L.drop d).take e).map (pkG n)) → fr (foP h) y z → Tt (fun K t => c_X5_strip vl K t 3 x h z) Q := by
    intro d e
    induction e with
    | zero =>
      intro z x hde k1 k3 k4 hz hf
      obtain ⟨z3, -⟩ := fo_len hz
      rw [len d 0 hde] at z3
      obtain ⟨n1, n2⟩ := nf_strip h2 h5 hk hw hde k1 k3 k4 (fun h9 => absurd h9 (Nat.lt_irrefl _))
      refine u_X5_strip_3 ?_; unfold cm_X5_strip_3
      exact w_rdF z3 (w_leT (b := 0) (by omega) (by omega) (w_some ⟨d, _, hz, n1, by rw [len d 0 hde]; omega, n2, hf⟩))
    | succ m ih =>
      intro z x hde k1 k3 k4 hz hf
      obtain ⟨z3, -⟩ := fo_len hz
      rw [len d (m + 1) hde] at z3
      have lm : d + m < L.length := by omega
      have hg : L[d + m]? = some L[d + m] := List.getElem?_eq_getElem lm
      have hg2 : ((L.drop d).take (m + 1))[m]? = some L[d + m] := by
        rw [List.getElem?_take_of_lt (by omega), List.getElem?_drop]
        exact hg
      have hgk := hk _ (List.mem_of_getElem? hg)
      refine u_X5_strip_3 ?_; unfold cm_X5_strip_3
      refine w_rdF z3 (w_leF (b := 0) (by omega) (by omega) (w_rdF z3 ?_))
      rw [show nI (m + 1) - 1 = nI m from pk_sub (b := 1) (by omega)]
      refine w_crI (fO_4 hh) rfl (show m < 24 by omega) (fo_rd hz hg2) (w_rdF hz.2.2.2.2.2.1 (w_if (fun e => w_rdF z3 (w_wrF ?_)) (fun e => ?_)))
      · have g0 := (d_qk h2 h5 hgk).2.2.1.mp e
        rw [show nI (m + 1) - 1 = nI m from pk_sub (b := 1) (by omega)]
        refine ih _ x (by omega) k1 k3 (fun i g hi hgi => ?_) ?_ (fr_F2 hf (by unfold foP; omega))
        · by_cases c : i = d + m
          · rw [c, hg] at hgi
            rw [← Option.some.inj hgi]
            exact g0
          · exact k4 i g (by omega) hgi
        · obtain ⟨a1, a2, a3, a4, a5, a6, a7⟩ := hz
          refine ⟨rf_ot (by omega) a1, rf_ot (by omega) a2, ?_, ?_, fun i c ei => a5 i c ?_, rf_ot (by omega) a6, rf_ot (by omega) a7⟩
          · rw [List.length_map, len d m (by omega)]
            exact po_usF_at
          · rw [List.length_map, len d m (by omega)]
            omega
          · have l := (List.getElem?_eq_some_iff.mp ei).1
            rw [List.length_map, len d m (by omega)] at l
            rw [List.getElem?_map, List.getElem?_take_of_lt (by omega)] at ei ⊢
            exact ei
      · have g0 : L[d + m] ≠ 0 := fun e0 => e ((d_qk h2 h5 hgk).2.2.1.mpr e0)
        obtain ⟨n1, n2⟩ := nf_strip h2 h5 hk hw hde k1 k3 k4 (fun _ g hgi => by
          rw [show d + (m + 1) - 1 = d + m by omega, hg] at hgi
          rw [← Option.some.inj hgi]
          exact g0)
        exact w_some ⟨d, _, hz, n1, by rw [len d _ hde]; omega, n2, hf⟩
  have c2 : ∀ j, j ≤ L.length → (∀ i g, i < j → L[i]? = some g → g = gNN n - 1) → (j < L.length → ∀ g, L[j]? = some g → g ≠ gNN n - 1) → Tt (fun K t => c_X5_strip vl K t 2 (nI j) h y) Q := by
    intro j hj k1 k3
    refine u_X5_strip_2 ?_; unfold cm_X5_strip_2
    have e3 : ∀ w : Int32, (usF y (h + 2) w).1 (h + 3) = nI L.length := fun w => rf_ot (by omega) hl3
    refine w_rdF h0.2.1 (w_wrF (w_rdF (e3 _) (w_wrF ?_)))
    rw [show nI L.length - nI j = nI (L.length - j) from pk_sub hj]
    refine w_rdF po_usF_at (w_cpI (a := j) (b := 0) (n := L.length - j) (fO_4 hh) (fO_4 hh) rfl rfl rfl (by omega) (by omega) ?_)
    refine c3 j (L.length - j) _ _ (by omega) k1 k3 (fun i g hi hgi => ?_) ?_ (fr_R2 (fr_F2 (fr_F (by unfold foP; omega)) (by unfold foP; omega)) (by unfold foP; omega))
    · have := (List.getElem?_eq_some_iff.mp hgi).1
      omega
    · obtain ⟨a1, a2, a3, a4, a5, a6, a7⟩ := h0
      refine ⟨rf_ot (by omega) (rf_ot (by omega) a1), rf_ot (by omega) po_usF_at, ?_, ?_, fun i c ei => ?_, rf_ot (by omega) (rf_ot (by omega) a6), rf_ot (by omega) (rf_ot (by omega) a7)⟩
      · rw [List.length_map, len j _ (by omega)]
        exact po_usF_at
      · rw [List.length_map, len j _ (by omega)]
        omega
      · have l := (List.getElem?_eq_some_iff.mp ei).1
        rw [List.length_map, len j _ (by omega)] at l
        rw [List.getElem?_map, List.getElem?_take_of_lt (by omega), List.getElem?_drop] at ei
        rw [usR_at, pk_cpy_in (by omega) (by omega), Nat.sub_zero]
        refine a5 (j + i) c ?_
        rw [List.getElem?_map]
        exact ei
  have c1 : ∀ (d j : Nat), j + d = L.length → (∀ i g, i < j → L[i]? = some g → g = gNN n - 1) → Tt (fun K t => c_X5_strip vl K t 1 (nI j) h y) Q := by
    intro d
    induction d with
    | zero =>
      intro j hj k1
      refine u_X5_strip_1 ?_; unfold cm_X5_strip_1
      exact w_rdF hl3 (w_leT (by omega) (by omega) (c2 j (by omega) k1 (fun h9 => by omega)))
    | succ d ih =>
      intro j hj k1
      have lm : j < L.length := by omega
      have hg : L[j]? = some L[j] := List.getElem?_eq_getElem lm
      have hgk := hk _ (List.mem_of_getElem? hg)
      refine u_X5_strip_1 ?_; unfold cm_X5_strip_1
      rw [nI_1]
      refine w_rdF hl3 (w_leF (by omega) (by omega) (w_crI (fO_4 hh) rfl (show j < 24 by omega) (fo_rd h0 hg) (w_rdF h0.2.2.2.2.2.2 (w_if (fun e => ih (j + 1) (by omega) (fun i g hi hgi => ?_)) (fun e => c2 j (by omega) k1 (fun _ g hgi e9 => ?_))))))
      · by_cases c : i = j
        · rw [c, hg] at hgi
          rw [← Option.some.inj hgi]
          exact (d_qk h2 h5 hgk).2.2.2.mp e
        · exact k1 i g (by omega) hgi
      · rw [hg] at hgi
        refine e ((d_qk h2 h5 hgk).2.2.2.mpr ?_)
        rw [Option.some.inj hgi]
        exact e9
  refine e_X5_strip ?_
  refine u_X5_strip_0 ?_; unfold cm_X5_strip_0
  exact c1 L.length 0 (by omega) (fun i g hi => absurd hi (Nat.not_lt_zero _))
theorem xc_putBehindF {F : List Nat} {b : Nat} (hh : fO h) (h2 : 2 ≤ n) (h5 : n ≤ 5) (hF : nfL n F) (hb : b < gNN n) (hl : F.length < 24) (h0 : foA y h n κ (F.map (pkG n))) : Te (fun K => ce_X5_putBehind vl K h (pkG n b) y) (fun y1 => ∃ d F', foA y1 h n (κ + nI d) (F'.map (pkG n)) ∧ nfL n F' ∧ F'.length ≤ F.length + 1 ∧ eqT n (F ++ [b]) (List.replicate d (gNN n - 1) ++ F') ∧ fr (foP h) y y1) := by
  let Q : ow_MS → Prop := fun y1 => ∃ d F', foA y1 h n (κ + nI d) (F'.map (pkG n)) ∧ nfL n F' ∧ F'.length ≤ F.length + 1 ∧ eqT n (F ++ [b]) (List.replicate d (gNN n - 1) ++ F') ∧ fr (foP h) y y1
  obtain ⟨h3, -⟩ := fo_len h0
  have c2 : ∀ (z : ow_MS) (a c : Int32) (L : List Nat), okT n L → wtL n L → L.length = F.length + 1 → eqT n (F ++ [b]) L → foA z h n κ (L.map (pkG n)) → fr (foP h) y z → Tt (fun K t => c_X5_putBehind vl K t 2 (pkG n b) a c h z) Q := by
    intro z a c L q1 q2 q3 q4 q5 q6
    refine u_X5_putBehind_2 ?_; unfold cm_X5_putBehind_2
    refine w_cs0 (xc_strip hh h2 h5 q1 q2 q5) ?_
    rintro z1 ⟨d, F', g1, g2, g3, g4, g5⟩
    exact w_some ⟨d, F', g1, g2, by omega, eqT_tr q4 g4, fr_tr q6 g5⟩
  have c1 : ∀ (m : Nat) (z : ow_MS) (a : Int32) (L : List Nat), m ≤ F.length → okT n L → L.length = F.length + 1 → eqT n (F ++ [b]) L → foA z h n κ (L.map (pkG n)) → fr (foP h) y z → (a = 1 ∧ wzI n F (F ++ [b]) L m ∨ a = 0 ∧ wtL n L) → Tt (fun K t => c_X5_putBehind vl K t 1 (pkG n b) a (iI ((m : Int) - 1)) h z) Q := by
    intro m
    induction m with
    | zero =>
      intro z a L hm q1 q3 q4 q5 q6 q7
      have hw : wtL n L := by
        rcases q7 with ⟨-, q7⟩ | ⟨-, q7⟩
        · exact wz_end hF.2.1 q7
        · exact q7
      refine u_X5_putBehind_1 ?_; unfold cm_X5_putBehind_1
      exact w_ifT (by decide) (c2 z _ _ L q1 hw q3 q4 q5 q6)
    | succ m ih =>
      intro z a L hm q1 q3 q4 q5 q6 q7
      have e : iI (((m + 1 : Nat) : Int) - 1) = nI m := by
        rw [nI_iI]
        congr 1
        omega
      refine u_X5_putBehind_1 ?_; unfold cm_X5_putBehind_1
      rw [e]
      refine w_ifF (nI_pos (by omega)) ?_
      rcases q7 with ⟨rfl, q7⟩ | ⟨rfl, q7⟩
      · have ea : L[m]? = some (L[m]'(by omega)) := List.getElem?_eq_getElem (by omega)
        have eb : L[m + 1]? = some (L[m + 1]'(by omega)) := List.getElem?_eq_getElem (by omega)
        refine w_ifF (by decide) (w_cs1 (xc_weigh hh h2 h5 q1 q5 ea eb) ?_)
        have e2 : nI m + -1 = iI ((m : Int) - 1) := by
          rw [nI_iI, show (-1 : Int32) = iI (-1) from rfl, iI_add]
          rfl
        rintro v z1 (⟨g1, g2, g3⟩ | ⟨g1, g2, x, p', q', x1, x2, x3, x4, x5, x6⟩)
        · dsimp only at g1 g2
          rw [e2, g1, g2]
          exact ih z 0 L (by omega) q1 q3 q4 q5 q6 (Or.inr ⟨rfl, wz_stop hF.2.1 q7 ea eb g3⟩)
        · dsimp only at g1 g2 x6
          rw [e2, g1]
          have st := wz_step h2 h5 hF.1 hF.2.1 q7 ea eb x1 x2 x3 x4 x5
          exact ih z1 1 _ (by omega) st.1 st.2.1 st.2.2.1 x6 (fr_tr q6 g2) (Or.inl ⟨rfl, st⟩)
      · exact w_ifT (by decide) (c2 z _ _ L q1 q7 q3 q4 q5 q6)
  refine e_X5_putBehind ?_
  refine u_X5_putBehind_0 ?_; unfold cm_X5_putBehind_0
  refine w_rdF h3 (w_lt (b := 24) (by omega) (by omega) (fun hl24 => w_rdF h3 (w_ctI (fO_4 hh) rfl hl24 (w_rdF (x := nI F.length) h3 (w_wrF ?_)))) (fun h9 => absurd hl (Nat.not_lt.mpr h9)))
  rw [nI_1]
  refine w_rdF po_usF_at ?_
  rw [show nI (F.length + 1) - 2 = iI ((F.length : Int) - 1) from by
    rw [nI_iI, show (2 : Int32) = iI 2 from rfl, iI_sub]
    congr 1
    omega]
  have st := wz_0 h2 h5 hF.1 hb (eqT_rf (n := n) (F ++ [b]))
  refine c1 F.length _ 1 (F ++ [b]) (Nat.le_refl _) st.1 st.2.1 st.2.2.1 ?_ (fr_F2 (fr_I (by unfold foP; omega)) (by unfold foP; omega)) (Or.inl ⟨rfl, st⟩)
  obtain ⟨a1, a2, a3, a4, a5, a6, a7⟩ := h0
  refine ⟨rf_ot (by omega) a1, rf_ot (by omega) a2, ?_, ?_, fun i c ei => ?_, rf_ot (by omega) a6, rf_ot (by omega) a7⟩
  · rw [List.length_map, List.length_append]
    exact po_usF_at
  · rw [List.length_map, List.length_append]
    show F.length + 1 ≤ 24
    omega
  · show (usI y (h + 4) F.length (pkG n b)).2.1 (h + 4) i = c
    rw [List.map_append] at ei
    by_cases c1 : i < F.length
    · rw [List.getElem?_append_left (by rw [List.length_map]; exact c1)] at ei
      rw [po_usI_ne (by omega)]
      exact a5 i c ei
    · have l := (List.getElem?_eq_some_iff.mp ei).1
      rw [List.length_append, List.length_map] at l
      have l : i < F.length + 1 := l
      have e : i = F.length := by omega
      rw [List.getElem?_append_right (by rw [List.length_map]; omega), List.length_map, e, Nat.sub_self] at ei
      rw [e, po_usI_at]
      exact Option.some.inj ei
end NF9
