/-! equal answers the same -/
section NFC
variable {X : (Nat → Nat → Int32) → Prop} {z y : ow_MS} {vl : Nat → Nat} {x x' : Int32} {n : Nat}
theorem fo_fr {P : Nat → Prop} {y1 : ow_MS} {h : Nat} {κ : Int32} {L : List Int32} (hf : fr P y y1) (hP : ∀ g, foP h g → ¬ P g) (h0 : foA y h n κ L) : foA y1 h n κ L := by
  obtain ⟨a1, a2, a3, a4, a5, a6, a7⟩ := h0
  have k : ∀ g, foP h g → y1.1 g = y.1 g ∧ y1.2.1 g = y.2.1 g := fun g hg => ⟨(hf g (hP g hg)).1, (hf g (hP g hg)).2.1⟩
  refine ⟨(k _ (by unfold foP; omega)).1.trans a1, (k _ (by unfold foP; omega)).1.trans a2, (k _ (by unfold foP; omega)).1.trans a3, a4, fun i a e => ?_, (k _ (by unfold foP; omega)).1.trans a6, (k _ (by unfold foP; omega)).1.trans a7⟩
  rw [(k (h + 4) (by unfold foP; omega)).2]
  exact a5 i a e
theorem nn_120 : gNN n ≤ 120 := by
  unfold gNN
  split <;> (try split) <;> (try split) <;> omega
theorem fm_uni {F S : List Nat} (h : fmI z n F) (h' : fmI z n S) (l1 : F.length < 100) (l2 : S.length < 100) : F = S := by
  have el : F.length = S.length := nI_inj9 (by omega) (by omega) (h.1.1.symm.trans h'.1.1)
  have bn := nn_120 (n := n)
  refine List.ext_getElem? (fun i => ?_)
  by_cases hi : i < F.length
  · have e1 : F[i]? = some F[i] := List.getElem?_eq_getElem hi
    have e2 : S[i]? = some (S[i]'(by omega)) := List.getElem?_eq_getElem (by omega)
    have b1 := h.2 _ (List.mem_of_getElem? e1)
    have b2 := h'.2 _ (List.mem_of_getElem? e2)
    rw [e1, e2]
    exact congrArg some (nI_inj9 (by omega) (by omega) ((h.1.2 i _ e1).symm.trans (h'.1.2 i _ e2)))
  · rw [List.getElem?_eq_none (by omega), List.getElem?_eq_none (by omega)]
theorem xc_sameAs {h g : Nat} {κ κ' : Int32} {F F' : List Nat} (hh : fO h) (hg : fO g) (h2 : 2 ≤ n) (h5 : n ≤ 5) (hF : okT n F) (hF' : okT n F') (h0 : foA y h n κ (F.map (pkG n))) (g0 : foA y g n κ' (F'.map (pkG n))) : Te (fun K => ce_X5_sameAs vl K h g y) (fun r => (r.1 = 1 ∧ κ = κ' ∧ F = F' ∨ r.1 = 0 ∧ ¬ (κ = κ' ∧ F = F')) ∧ r.2 = y) := by
  obtain ⟨h3, hl⟩ := fo_len h0
  obtain ⟨g3, gl⟩ := fo_len g0
  let Q : Int32 × ow_MS → Prop := fun r => (r.1 = 1 ∧ κ = κ' ∧ F = F' ∨ r.1 = 0 ∧ ¬ (κ = κ' ∧ F = F')) ∧ r.2 = y
  have no : ¬ (κ = κ' ∧ F = F') → Tt (fun _ _ => okZ 0 (some ((0 : Int32), y))) Q := fun hn => w_okZ (Or.inl rfl) (w_some ⟨Or.inr ⟨rfl, hn⟩, rfl⟩)
  have c1 : ∀ (d j : Nat), j + d = F.length → F.length = F'.length → κ = κ' → (∀ i, i < j → F[i]? = F'[i]?) → Tt (fun K t => c_X5_sameAs vl K t 1 (nI j) h g y) Q := by
    intro d
    induction d with
    | zero =>
      intro j hj el ek hp
      refine u_X5_sameAs_1 ?_; unfold cm_X5_sameAs_1
      refine w_rdF h3 (w_leT (by omega) (by omega) (w_okZ (Or.inr rfl) (w_some ⟨Or.inl ⟨rfl, ek, List.ext_getElem? (fun i => ?_)⟩, rfl⟩)))
      by_cases hi : i < j
      · exact hp i hi
      · rw [List.getElem?_eq_none (by omega), List.getElem?_eq_none (by omega)]
    | succ d ih =>
      intro j hj el ek hp
      have l1 : j < F.length := by omega
      have l2 : j < F'.length := by omega
      have e1 : F[j]? = some F[j] := List.getElem?_eq_getElem l1
      have e2 : F'[j]? = some F'[j] := List.getElem?_eq_getElem l2
      refine u_X5_sameAs_1 ?_; unfold cm_X5_sameAs_1
      rw [nI_1]
      refine w_rdF h3 (w_leF (by omega) (by omega) (w_crI (fO_4 hh) rfl (show j < 24 by omega) (fo_rd h0 e1) (w_crI (fO_4 hg) rfl (show j < 24 by omega) (fo_rd g0 e2) (w_if (fun e => ih (j + 1) (by omega) el ek (fun i hi => ?_)) (fun e => no (fun h9 => e ?_))))))
      · by_cases c : i = j
        · rw [c, e1, e2, d_qi h2 h5 (hF _ (List.getElem_mem l1)) (hF' _ (List.getElem_mem l2)) e]
        · exact hp i (by omega)
      · have e3 : F[j]? = F'[j]? := by rw [h9.2]
        rw [e1, e2] at e3
        rw [Option.some.inj e3]
  refine e_X5_sameAs ?_
  refine u_X5_sameAs_0 ?_; unfold cm_X5_sameAs_0
  refine w_rdF h0.1 (w_rdF g0.1 (w_ifT rfl (w_rdF h0.2.1 (w_rdF g0.2.1 (w_if (fun ek => w_rdF h3 (w_rdF g3 (w_eqN (by omega) (by omega) (fun el => c1 F.length 0 (by omega) el ek (fun i hi => absurd hi (Nat.not_lt_zero _))) (fun el => no (fun h9 => el ?_))))) (fun ek => no (fun h9 => ek h9.1)))))))
  rw [h9.2]
theorem xc_equal (hB : brC y) : Te (fun K => ce_X11_equal vl K 0 x x' y) (fun r => r.1 = 0 ∧ (noB (y.2.1 15) x ∨ noB (y.2.1 15) x') ∨ ∃ b n l w b' n' l' w', brW y x b n l w ∧ brW y x' b' n' l' w' ∧ (n ≠ n' ∧ r.1 = 0 ∨ n = n' ∧ ∃ F j F' j', nfL n F ∧ F.length ≤ l ∧ eqT n (foT n w l).1 (List.replicate j (gNN n - 1) ++ F) ∧ nfL n F' ∧ F'.length ≤ l' ∧ eqT n (foT n w' l').1 (List.replicate j' (gNN n - 1) ++ F') ∧ (r.1 = 1 ∧ iI ((foT n w l).2 + (j : Nat)) = iI ((foT n w' l').2 + (j' : Nat)) ∧ F = F' ∨ r.1 = 0 ∧ ¬ (iI ((foT n w l).2 + (j : Nat)) = iI ((foT n w' l').2 + (j' : Nat)) ∧ F = F')))) := by
  refine e_X11_equal ?_; unfold cm_X11_equal_0
  refine w_cs1 (tc_hasBraid (brC_E hB)) ?_
  rintro v y1 ⟨h1, e1⟩
  dsimp only at h1 e1
  rw [e1]
  rcases h1 with ⟨rfl, hb⟩ | ⟨rfl, hn1⟩
  · refine w_ifF (by decide) (w_cs1 (tc_hasBraid (brC_E hB)) ?_)
    rintro v2 y2 ⟨h2, e2⟩
    dsimp only at h2 e2
    rw [e2]
    rcases h2 with ⟨rfl, hb'⟩ | ⟨rfl, hn2⟩
    · obtain ⟨b, n, l, hb20, rfl, hn2, hn5, e15, l16, e14, hwd⟩ := isB_w hB hb
      obtain ⟨b', n', l', hb20', rfl, hn2', hn5', e15', l16', e14', hwd'⟩ := isB_w hB hb'
      obtain ⟨w, hw⟩ := wd_w hwd
      obtain ⟨w', hw'⟩ := wd_w hwd'
      have hW : brW y (nI b) b n l w := ⟨hb20, rfl, hn2, hn5, e15, l16, e14, hw⟩
      have hW' : brW y (nI b') b' n' l' w' := ⟨hb20', rfl, hn2', hn5', e15', l16', e14', hw'⟩
      refine w_ifF (by decide) (w_crI ch_15 rfl hb20 e15 (w_crI ch_15 rfl hb20' e15' (w_eqN (by omega) (by omega) (fun en => ?_) (fun en => w_okZ (Or.inl rfl) (w_some (Or.inr ⟨b, n, l, w, b', n', l', w', hW, hW', Or.inl ⟨en, rfl⟩⟩))))))
      subst en
      refine w_cs0 (xc_writeF fo46 hn2 hn5 hb20 e15 l16 e14 hw) ?_
      rintro y3 ⟨F, j, g1, g3, g4, g5, g2⟩
      have q13 : y3.2.1 13 = y.2.1 13 := (g2 13 (by unfold foP; omega)).2.1
      refine w_cs0 (xc_writeF (n := n) (l := l') (w := w') fo47 hn2' hn5' hb20' ((congrFun (g2 15 (by unfold foP; omega)).2.1 b').trans e15') l16' ((congrFun (g2 14 (by unfold foP; omega)).2.1 b').trans e14') (fun i hi => ⟨(hw' i hi).1, by rw [q13]; exact (hw' i hi).2⟩)) ?_
      rintro y4 ⟨F', j', k1, k3, k4, k5, k2⟩
      have g6 := fo_fr k2 (fun g hg => by unfold foP at hg ⊢; omega) g1
      refine w_cs1 (xc_sameAs fo46 fo47 hn2 hn5 g3.1 k3.1 g6 k1) ?_
      rintro v5 y5 ⟨e5, e6⟩
      dsimp only at e5 e6
      rw [e6]
      refine w_okZ ?_ (w_some (Or.inr ⟨b, n, l, w, b', n, l', w', hW, hW', Or.inr ⟨rfl, F, j, F', j', g3, g4, g5, k3, k4, k5, e5⟩⟩))
      rcases e5 with e5 | e5
      · exact Or.inr e5.1
      · exact Or.inl e5.1
    · exact w_ifT rfl (w_okZ (Or.inl rfl) (w_some (Or.inl ⟨rfl, Or.inr hn2⟩)))
  · exact w_ifT rfl (w_okZ (Or.inl rfl) (w_some (Or.inl ⟨rfl, Or.inl hn1⟩)))
theorem xr_isForm {r0 r2 i j l0 l2 : Nat} {S S' : List Nat} {κ κ' : Int} (h0 : (mX.2 r0).2.1 = l0) (h2 : (mX.2 r2).2.1 = l2) (hl0 : l0 ≤ 8040) (hl2 : l2 ≤ 8040) (hi : i + 2 + S.length ≤ l0) (hj : j + 2 + S'.length ≤ l2) (hS : frwI z r0 i n S κ) (hS' : frwI z r2 j n S' κ') : Te (fun K => qe_X13_isForm K r0 (nI i) r2 (nI j) z) (fun r => r.2 = z ∧ (r.1 = 1 ∧ iI κ = iI κ' ∧ S = S' ∨ r.1 = 0 ∧ ¬ (iI κ = iI κ' ∧ S = S'))) := by
  let Q : Int32 × ow_MS → Prop := fun r => r.2 = z ∧ (r.1 = 1 ∧ iI κ = iI κ' ∧ S = S' ∨ r.1 = 0 ∧ ¬ (iI κ = iI κ' ∧ S = S'))
  have c30 : ∀ (x5 : Int32), ¬ (iI κ = iI κ' ∧ S = S') → Tt (fun K t => q_X13_isForm K t 3 (nI i) (nI j) 0 x5 r0 r2 0 z) Q := by
    intro x5 hn
    refine u_X13_isForm_3 ?_; unfold qm_X13_isForm_3
    exact w_ifT rfl (w_okZ (Or.inl rfl) (w_some ⟨rfl, Or.inr ⟨rfl, hn⟩⟩))
  have c3 : ∀ (d k : Nat), k + d = S.length → S.length = S'.length → iI κ = iI κ' → (∀ t, t < k → S[t]? = S'[t]?) → Tt (fun K t => q_X13_isForm K t 3 (nI i) (nI j) 1 (nI k) r0 r2 0 z) Q := by
    intro d
    induction d with
    | zero =>
      intro k hk el ek hp
      refine u_X13_isForm_3 ?_; unfold qm_X13_isForm_3
      rw [show nI i + 1 = nI (i + 1) from nI_1 _]
      refine w_ifF (by decide) (w_rdI h0 rfl (by omega) hS.2.1 (w_leT (by omega) (by omega) (w_okZ (Or.inr rfl) (w_some ⟨rfl, Or.inl ⟨rfl, ek, List.ext_getElem? (fun t => ?_)⟩⟩))))
      by_cases ht : t < k
      · exact hp t ht
      · rw [List.getElem?_eq_none (by omega), List.getElem?_eq_none (by omega)]
    | succ d ih =>
      intro k hk el ek hp
      have l1 : k < S.length := by omega
      have l2' : k < S'.length := by omega
      have e1 : S[k]? = some S[k] := List.getElem?_eq_getElem l1
      have e2 : S'[k]? = some S'[k] := List.getElem?_eq_getElem l2'
      have b1 : S[k] < gNN n := hS.2.2.2 _ (List.getElem_mem l1)
      have b2 : S'[k] < gNN n := hS'.2.2.2 _ (List.getElem_mem l2')
      have bn := nn_120 (n := n)
      refine u_X13_isForm_3 ?_; unfold qm_X13_isForm_3
      rw [show nI i + 1 = nI (i + 1) from nI_1 _, show nI i + 2 = nI (i + 2) from nI_add i 2, nI_add, show nI j + 2 = nI (j + 2) from nI_add j 2, nI_add]
      refine w_ifF (by decide) (w_rdI h0 rfl (by omega) hS.2.1 (w_leF (by omega) (by omega) (w_rdI h0 rfl (by omega) (hS.2.2.1 k _ e1) (w_rdI h2 rfl (by omega) (hS'.2.2.1 k _ e2) (w_eqN (by omega) (by omega) (fun e => ?_) (fun e => ?_))))))
      · refine u_X13_isForm_4 ?_; unfold qm_X13_isForm_4
        rw [nI_1]
        refine ih (k + 1) (by omega) el ek (fun t ht => ?_)
        by_cases c : t = k
        · rw [c, e1, e2, e]
        · exact hp t (by omega)
      · refine u_X13_isForm_4 ?_; unfold qm_X13_isForm_4
        refine c30 _ (fun h9 => e ?_)
        have e3 : S[k]? = S'[k]? := by rw [h9.2]
        rw [e1, e2] at e3
        exact Option.some.inj e3
  have c1 : ¬ (iI κ = iI κ' ∧ S = S') → Tt (fun K t => q_X13_isForm K t 1 (nI i) (nI j) 0 0 r0 r2 0 z) Q := by
    intro hn
    refine u_X13_isForm_1 ?_; unfold qm_X13_isForm_1
    refine u_X13_isForm_2 ?_; unfold qm_X13_isForm_2
    exact c30 _ hn
  refine e_X13_isForm ?_
  refine u_X13_isForm_0 ?_; unfold qm_X13_isForm_0
  rw [show nI i + 1 = nI (i + 1) from nI_1 _, show nI j + 1 = nI (j + 1) from nI_1 _]
  refine w_rdI h0 rfl (by omega) hS.1 (w_rdI h2 rfl (by omega) hS'.1 (w_if (fun ek => w_rdI h0 rfl (by omega) hS.2.1 (w_rdI h2 rfl (by omega) hS'.2.1 (w_eqN (by omega) (by omega) (fun el => ?_) (fun el => c1 (fun h9 => el (by rw [h9.2])))))) (fun ek => c1 (fun h9 => ek h9.1))))
  refine u_X13_isForm_2 ?_; unfold qm_X13_isForm_2
  exact c3 S.length 0 (by omega) el ek (fun t ht => absurd ht (Nat.not_lt_zero _))
theorem xq_equal (h : gI X z) (hG : ∀ W, X W → XG W) : Te (fun K => qe_X13_equal K x x' z) (fun r => r.2.1 1 = 0 ∧ (r.1 = 0 ∧ (noB (z.2.1 96) x ∨ noB (z.2.1 96) x') ∨ ∃ b n l b' n' l', b < 20 ∧ x = nI b ∧ hBr z b n l ∧ b' < 20 ∧ x' = nI b' ∧ hBr z b' n' l' ∧ (n ≠ n' ∧ r.1 = 0 ∨ n = n' ∧ ∀ w F j w' F' j', (∀ i, i < l → (w i).1 + 1 < n ∧ z.2.1 94 (16 * b + i) = lx9 (w i)) → nfL n F → F.length ≤ l → eqT n (foT n w l).1 (List.replicate j (gNN n - 1) ++ F) → (∀ i, i < l' → (w' i).1 + 1 < n ∧ z.2.1 94 (16 * b' + i) = lx9 (w' i)) → nfL n F' → F'.length ≤ l' → eqT n (foT n w' l').1 (List.replicate j' (gNN n - 1) ++ F') → (r.1 = 1 ∧ iI ((foT n w l).2 + (j : Nat)) = iI ((foT n w' l').2 + (j' : Nat)) ∧ F = F' ∨ r.1 = 0 ∧ ¬ (iI ((foT n w l).2 + (j : Nat)) = iI ((foT n w' l').2 + (j' : Nat)) ∧ F = F'))))) := by
  have h1 := gI_1 (c := 0) h
  have e10 : (usF z 1 0).1 1 = 0 := po_usF_at
  refine e_X13_equal ?_; unfold qm_X13_equal_0
  refine w_wrF (w_hasBX h1.2.2.2.2.2.1 (fun h0 => w_ifT rfl (w_okZ (Or.inl rfl) (w_some ⟨e10, Or.inl ⟨rfl, Or.inl h0⟩⟩))) (fun c n l hc hx hh => w_ifF (by decide) (w_hasBX h1.2.2.2.2.2.1 (fun h0 => w_ifT rfl (w_okZ (Or.inl rfl) (w_some ⟨e10, Or.inl ⟨rfl, Or.inr h0⟩⟩))) (fun c2 n2 l2 hc2 hx2 hh2 => w_ifF (by decide) ?_))))
  subst hx
  subst hx2
  have b5 := hh.2.1
  have b52 := hh2.2.1
  refine w_rdI ml96 rfl (by omega) hh.2.2.2.1 (w_rdI ml96 rfl (by omega) hh2.2.2.2.1 (w_eqN (by omega) (by omega) (fun en => ?_) (fun en => w_okZ (Or.inl rfl) (w_some ⟨e10, Or.inr ⟨c, n, l, c2, n2, l2, hc, rfl, hh, hc2, rfl, hh2, Or.inl ⟨en, rfl⟩⟩⟩))))
  subst en
  have fo : ∀ {y : ow_MS} {b l : Nat}, b < 20 → hBr y b n l → gI X y → Te (fun K => qe_X13_formOf K (nI b) y) (fun z1 => ((∃ S κ, fmI z1 n S ∧ S.length ≤ 16 ∧ z1.1 112 = iI κ ∧ -16 ≤ κ ∧ κ + szL n S ≤ 160) ∧ fr nmH y z1) ∧ ∀ a : (Nat → Nat × Bool) × List Nat × Nat, ((∀ i, i < l → (a.1 i).1 + 1 < n ∧ y.2.1 94 (16 * b + i) = lx9 (a.1 i)) ∧ nfL n a.2.1 ∧ eqT n (foT n a.1 l).1 (List.replicate a.2.2 (gNN n - 1) ++ a.2.1)) → fmI z1 n a.2.1 ∧ z1.1 112 = iI ((foT n a.1 l).2 + (a.2.2 : Nat))) := fun hb hb9 hy => te_all (tp_formOf hb hb9 (gI_tb hG hy)) (fun a ⟨a1, a2, a3⟩ => xr_formOf hb hb9 (gI_tb hG hy) a1 a2 a3)
  refine w_cs0 (fo hc hh h1) (fun y1 ⟨⟨⟨S, κ, f1, f2, f3, _⟩, f4⟩, hall1⟩ => ?_)
  have g1 := gI_nm f4 h1
  refine w_cs0 (tp_formTo (r := 117) (o := 0) ml117 (by omega) (by omega) (by omega) (by omega) f1 f3) (fun y2 ⟨k1, k2, _⟩ => ?_)
  have g2 : gI X y2 := gI_fr k2 (fun g hg => by rw [hg]; decide) g1
  have hh3 : hBr y2 c2 n l2 := hBr_fr (P := fun g => g = 117) k2 (by omega) (by omega) (by omega) (hBr_fr f4 (by unfold nmH; omega) (by unfold nmH; omega) (by unfold nmH; omega) hh2)
  have r94 : y2.2.1 94 = z.2.1 94 := (k2 94 (by omega)).2.1.trans (f4 94 (by unfold nmH; omega)).2.1
  refine w_cs0 (fo hc2 hh3 g2) (fun y3 ⟨⟨⟨S3, κ3, a1, a2, a3, _⟩, a4⟩, hall2⟩ => ?_)
  have g3 := gI_nm a4 g2
  refine w_cs0 (tp_formTo (r := 118) (o := 0) ml118 (by omega) (by omega) (by omega) (by omega) a1 a3) (fun y4 ⟨b1, b2, _⟩ => ?_)
  have k4 : frwI y4 117 0 n S κ := frwI_fr b2 (by omega) (frwI_fr a4 (by unfold nmH; omega) k1)
  have e14 : y4.1 1 = 0 := ((((b2 1 (by omega)).1.trans (a4 1 (by unfold nmH; omega)).1).trans (k2 1 (by omega)).1).trans (f4 1 (by unfold nmH; omega)).1).trans e10
  refine w_cs1 (xr_isForm (i := 0) (j := 0) ml117 ml118 (by omega) (by omega) (by omega) (by omega) k4 b1) (fun v y5 ⟨e5, e6⟩ => ?_)
  have e5 : y5 = y4 := e5
  subst e5
  refine w_okZ (by
    rcases e6 with e6 | e6
    · exact Or.inr e6.1
    · exact Or.inl e6.1) (w_some ⟨e14, Or.inr ⟨c, n, l, c2, n, l2, hc, rfl, hh, hc2, rfl, hh2, Or.inr ⟨rfl, fun w F j w' F' j' q1 q2 q3 q4 q5 q6 q7 q8 => ?_⟩⟩⟩)
  have l16 := hh.2.2.1
  have l162 := hh2.2.2.1
  obtain ⟨m1, m2⟩ := hall1 (w, F, j) ⟨q1, q2, q4⟩
  obtain ⟨m3, m4⟩ := hall2 (w', F', j') ⟨fun i hi => by rw [r94]; exact q5 i hi, q6, q8⟩
  have eF : F = S := fm_uni m1 f1 (by omega) (by omega)
  have eF' : F' = S3 := fm_uni m3 a1 (by omega) (by omega)
  have ek : iI ((foT n w l).2 + (j : Nat)) = iI κ := m2.symm.trans f3
  have ek' : iI ((foT n w' l2).2 + (j' : Nat)) = iI κ3 := m4.symm.trans a3
  rw [eF, eF', ek, ek']
  exact e6
theorem c_equal (hG : ∀ W, X W → XG W) (h : rel3 X z y) : Te (fun K => qe_X13_equal K x x' z) (fun rr => Te (fun K => ce_X11_equal vl K 0 x x' y) (fun rc => rel3 X rr.2 rc.2 ∧ rr.2.1 1 = 0 ∧ rr.1 = rc.1)) := by
  have hI := r3_g h
  have hB := h.2.2.2.2.1
  have hR := h.2.2.2.1
  refine te_two (te_fo (te_and (tp_equal (a := x) (b := x') hG hI) (xq_equal (x := x) (x' := x') hI hG)) (fun K => ff_X13_equal)) (te_fo (xc_equal (x := x) (x' := x') hB) (fun K => ff_X11_equal)) (fun rr rc ⟨⟨hgI, r0, hr⟩, fR⟩ ⟨hc, fC⟩ => ⟨rel3_nf fR fC (pf_nf (by decide)) (fun g hg => by omega) hgI h, r0, ?_⟩)
  have no1 : ∀ {x : Int32} {b n l w}, noB (z.2.1 96) x → brW y x b n l w → False := fun {x b n l w} r2 ⟨w1, w2, w3, w4, w5, _⟩ => by
    have := r2 b w1 w2
    rw [(hR b w1).1, w5] at this
    exact absurd this (nI_ne0 (by omega) (by omega))
  have no2 : ∀ {x : Int32} {b n l}, noB (y.2.1 15) x → b < 20 → x = nI b → hBr z b n l → False := fun {x b n l} c2 hb hx hh => by
    have := c2 b hb hx
    rw [← (hR b hb).1, hh.2.2.2.1] at this
    exact absurd this (nI_ne0 (by have := hh.1; omega) (by have := hh.2.1; omega))
  rcases hr with ⟨r1, r2⟩ | ⟨b, n, l, b', n', l', hb, hx, hh, hb', hx', hh', hr⟩
  · rcases hc with ⟨c1, -⟩ | ⟨b, n, l, w, b', n', l', w', hW, hW', -⟩
    · exact r1.trans c1.symm
    · rcases r2 with r2 | r2
      · exact (no1 r2 hW).elim
      · exact (no1 r2 hW').elim
  · rcases hc with ⟨c1, c2⟩ | ⟨b1, n1, l1, w, b2, n2, l2, w', hW, hW', hc⟩
    · rcases c2 with c2 | c2
      · exact (no2 c2 hb hx hh).elim
      · exact (no2 c2 hb' hx' hh').elim
    · obtain ⟨rfl, rfl, rfl, hwz⟩ := br_same hR hb hx hh hW
      obtain ⟨rfl, rfl, rfl, hwz'⟩ := br_same hR hb' hx' hh' hW'
      rcases hr with ⟨r1, r2⟩ | ⟨r1, r2⟩
      · rcases hc with ⟨c1, c2⟩ | ⟨c1, -⟩
        · exact r2.trans c2.symm
        · exact absurd c1 r1
      · rcases hc with ⟨c1, -⟩ | ⟨c1, F, j, F', j', q1, q2, q3, q4, q5, q6, q7⟩
        · exact absurd r1 c1
        · subst r1
          rcases r2 w F j w' F' j' hwz q1 q2 q3 hwz' q4 q5 q6 with ⟨k1, k2⟩ | ⟨k1, k2⟩
          · rcases q7 with ⟨k3, -⟩ | ⟨-, k4⟩
            · exact k1.trans k3.symm
            · exact absurd k2 k4
          · rcases q7 with ⟨-, k3⟩ | ⟨k3, -⟩
            · exact absurd k3 k2
            · exact k1.trans k3.symm
end NFC
