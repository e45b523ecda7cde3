/-! maps: makeArcs of the reference, exactly -/
section XMC
variable {z : ow_MS}
theorem xp_arcs {n c : Nat} {A : rn_L} {sg : Nat → Bool} (hn : mw_net n) (hA : oNet z n A sg) (hok : okF A.flatten c) : Te (fun K => qe_X13_makeArcs K n z) (fun z1 => (∀ u, u < A.flatten.length → (uns A u = 0 → z1.2.1 61 (crs A u) = nI (gA9 A u)) ∧ (uns A u ≠ 0 → z1.2.1 62 (crs A u) = nI (gA9 A u) ∧ z1.2.1 63 (crs A u) = nI (gR9 A u))) ∧ fr arcH z z1) := by
  have hl := hA.len
  have hC := hA.2.2.2
  have hmn := net_mod hn
  have hV := okF_len hok
  let Q : ow_MS → Prop := fun z1 => (∀ u, u < A.flatten.length → (uns A u = 0 → z1.2.1 61 (crs A u) = nI (gA9 A u)) ∧ (uns A u ≠ 0 → z1.2.1 62 (crs A u) = nI (gA9 A u) ∧ z1.2.1 63 (crs A u) = nI (gR9 A u))) ∧ fr arcH z z1
  have oA : ∀ {y : ow_MS}, fr arcH z y → oNet y n A sg := fun hf => oNet_fr hf (fun g hg => by unfold arcH at hg; omega) hA
  have c8 : ∀ (y : ow_MS), fr arcH z y → (∀ u, u < A.flatten.length → y.2.1 59 u = nI (gA9 A u) ∧ (uns A u ≠ 0 → y.2.1 60 u = nI (gR9 A u))) → Tt (fun K i => q_X13_makeArcs K i 8 (nI 0) 0 0 n 0 y) Q := by
    intro y hf hR
    exact w_mono (xp_arc8 (a := 0) hn (oA hf) hok hR) (fun r hr => ⟨hr.1, fr_tr hf (fr_mono (fun g hg => by unfold arcH; omega) hr.2)⟩)
  have c1 : ∀ (d k a : Nat) (y : ow_MS), k + d = A.length → a = aK9 A k → fr arcH z y → y.1 58 = nI a → (∀ u, u < rn_b A k → y.2.1 59 u = nI (gA9 A u) ∧ (uns A u ≠ 0 → y.2.1 60 u = nI (gR9 A u))) → Tt (fun K i => q_X13_makeArcs K i 1 (nI k) 0 0 n 0 y) Q := by
    intro d
    induction d with
    | zero =>
      intro k a y hk ha hf h58 hR
      have hk : k = A.length := by omega
      subst hk
      rw [rn_b_len] at hR
      refine u_X13_makeArcs_1 ?_; unfold qm_X13_makeArcs_1
      exact w_rdF (lk_C (oA hf).1) (w_leT (by omega) (by omega) (c8 y hf hR))
    | succ d ih =>
      intro k a y hk ha hf h58 hR
      have hb1 := rn_b_le A k
      have hb2 := rn_b_le A (k + 1)
      have hb3 := rn_b_mono A k
      have c7 : ∀ (x3 x4 : Int32) (a : Nat) (y : ow_MS), a = aK9 A (k + 1) → fr arcH z y → y.1 58 = nI a → (∀ u, u < rn_b A (k + 1) → y.2.1 59 u = nI (gA9 A u) ∧ (uns A u ≠ 0 → y.2.1 60 u = nI (gR9 A u))) → Tt (fun K i => q_X13_makeArcs K i 7 (nI k) x3 x4 n 0 y) Q := by
        intro x3 x4 a y ha hf h58 hR
        refine u_X13_makeArcs_7 ?_; unfold qm_X13_makeArcs_7
        rw [nI_1]
        exact ih (k + 1) a y (by omega) ha hf h58 hR
      have hUm := uN_mono (A := A) (rn_b A (k + 1)) hb3
      have hUl := uN_mono (A := A) A.flatten.length hb2
      have eK : aK9 A (k + 1) = aK9 A k + max 1 (uN A (rn_b A (k + 1)) - uN A (rn_b A k)) := rfl
      have aL := aK9_le (A := A) k
      have uV := uN_ov (A := A) A.flatten.length
      -- a ring without a visit under
      have c4 : ∀ (d v : Nat) (y : ow_MS), v + d = rn_b A (k + 1) → rn_b A k ≤ v → (∀ u, rn_b A k ≤ u → u < rn_b A (k + 1) → uns A u = 0) → fr arcH z y → y.1 58 = nI a → (∀ u, u < v → y.2.1 59 u = nI (gA9 A u)) → (∀ u, u < rn_b A k → uns A u ≠ 0 → y.2.1 60 u = nI (gR9 A u)) → Tt (fun K i => q_X13_makeArcs K i 4 (nI k) (-1) (nI v) n 0 y) Q := by
        intro d
        induction d with
        | zero =>
          intro v y hv hvb hno hf h58 hR hB
          have e0 := uN_0 (A := A) (rn_b A (k + 1)) hb3 hno
          refine u_X13_makeArcs_4 ?_; unfold qm_X13_makeArcs_4
          rw [nI_1]
          refine w_rdI (pl3 hn) rfl (by omega) (lk_b (oA hf).1 (by omega)) (w_leT (by omega) (by omega) (w_rdF h58 (w_wrF (c7 _ _ (a + 1) _ (by omega) (fr_F2 hf (by unfold arcH; omega)) (po_usF_at.trans (nI_1 a)) (fun u hu => ⟨hR u (by omega), fun h9 => ?_⟩)))))
          rcases Nat.lt_or_ge u (rn_b A k) with h8 | h8
          · exact hB u h8 h9
          · exact absurd (hno u h8 hu) h9
        | succ d ih4 =>
          intro v y hv hvb hno hf h58 hR hB
          have e0 := uN_0 (A := A) (rn_b A (k + 1)) hb3 hno
          have e1 := uN_0 (A := A) v hvb (fun u h1 h2 => hno u h1 (by omega))
          have eG : gA9 A v = a := by
            rw [gA9_at hvb (by omega)]
            unfold gK9
            rw [if_pos e1]
            omega
          refine u_X13_makeArcs_4 ?_; unfold qm_X13_makeArcs_4
          rw [nI_1, nI_1]
          refine w_rdI (pl3 hn) rfl (by omega) (lk_b (oA hf).1 (by omega)) (w_leF (by omega) (by omega) (w_rdF h58 (w_wrI ml59 rfl (by omega) (ih4 (v + 1) _ (by omega) (by omega) hno (fr_I2 hf (by unfold arcH; omega)) h58 (fun u hu => ?_) (fun u hu h9 => rd_ot (by omega) (hB u hu h9))))))
          by_cases huv : u = v
          · rw [huv, eG]; exact po_usI_at
          · exact rd_ne huv (hR u (by omega))
      -- a ring whose first visit under is s
      have c5 : ∀ (s : Nat), rn_b A k ≤ s → s < rn_b A (k + 1) → uns A s = 1 → (∀ u, rn_b A k ≤ u → u < s → uns A u = 0) → ∀ (y : ow_MS), fr arcH z y → y.1 58 = nI a → (∀ u, u < rn_b A k → y.2.1 59 u = nI (gA9 A u) ∧ (uns A u ≠ 0 → y.2.1 60 u = nI (gR9 A u))) → Tt (fun K i => q_X13_makeArcs K i 5 (nI k) (nI s) (nI s) n 0 y) Q := by
        intro s hs1 hs2 hs3 hs4 y hf h58 hR
        have hUs : uN A (s + 1) = uN A s + 1 := by
          show uN A s + (if uns A s = 0 then 0 else 1) = _
          rw [if_neg (by omega)]
        have hUb := uN_mono (A := A) s hs1
        have hUe := uN_mono (A := A) (a := s + 1) (rn_b A (k + 1)) hs2
        have hUsb := uN_0 (A := A) s hs1 hs4
        have nx : ∀ v, rn_b A k ≤ v → v < rn_b A (k + 1) → rn_nx A v = if v + 1 < rn_b A (k + 1) then v + 1 else rn_b A k := by
          intro v h1 h2
          have e := rn_c_of A k v h1 h2
          unfold rn_nx
          rw [e]
        -- behind the end of the row: from its beginning to s
        have p2 : ∀ (d v m : Nat) (y : ow_MS), v + d = s → rn_b A k ≤ v → m + uN A (s + 1) = a + uN A (rn_b A (k + 1)) → fr arcH z y → y.1 58 = nI m → (∀ u, u < v → y.2.1 59 u = nI (gA9 A u)) → (∀ u, s < u → u < rn_b A (k + 1) → y.2.1 59 u = nI (gA9 A u)) → (∀ u, u < rn_b A (k + 1) → uns A u ≠ 0 → y.2.1 60 u = nI (gR9 A u)) → Tt (fun K i => q_X13_makeArcs K i 6 (nI k) (nI s) (nI v) n 0 y) Q := by
          intro d
          induction d with
          | zero =>
            intro v m y hv hvb hm hf h58 hR1 hR2 hB
            have hv : v = s := by omega
            subst hv
            have eG : gA9 A v = m := by
              rw [gA9_at hvb (by omega)]
              unfold gK9
              rw [if_pos hUsb]
              omega
            refine u_X13_makeArcs_6 ?_; unfold qm_X13_makeArcs_6
            refine w_rdI (pl5 hn) rfl (by omega) (lk_cu (oA hf).1 (by omega)).2 (w_ifF (by rw [hs3]; decide) (w_rdF h58 (w_wrI ml59 rfl (by omega) (w_rdF (x := nI m) h58 (w_wrF (w_ifT rfl (c7 _ _ (m + 1) _ (by omega) (fr_F2 (fr_I2 hf (by unfold arcH; omega)) (by unfold arcH; omega)) (po_usF_at.trans (nI_1 m)) (fun u hu => ⟨?_, fun h9 => ?_⟩))))))))
            · show (usI y 59 v (nI m)).2.1 59 u = nI (gA9 A u)
              by_cases huv : u = v
              · rw [huv, eG]; exact po_usI_at
              · rcases Nat.lt_or_ge u v with h8 | h8
                · exact rd_ne huv (hR1 u h8)
                · exact rd_ne huv (hR2 u (by omega) hu)
            · show (usI y 59 v (nI m)).2.1 60 u = nI (gR9 A u)
              exact rd_ot (by omega) (hB u hu h9)
          | succ d ih2 =>
            intro v m y hv hvb hm hf h58 hR1 hR2 hB
            have e0 := hs4 v hvb (by omega)
            have eU := uN_0 (A := A) v hvb (fun u h1 h2 => hs4 u h1 (by omega))
            have eG : gA9 A v = m := by
              rw [gA9_at hvb (by omega)]
              unfold gK9
              rw [if_pos eU]
              omega
            have en := nx v hvb (by omega)
            rw [if_pos (by omega)] at en
            have hf2 : fr arcH z (usI y 59 v (nI m)) := fr_I2 hf (by unfold arcH; omega)
            have hnx : (usI y 59 v (nI m)).2.1 (n + 9) v = nI (v + 1) := by
              rw [lk_n (oA hf2).1 (by omega), en]
            refine u_X13_makeArcs_6 ?_; unfold qm_X13_makeArcs_6
            refine w_rdI (pl5 hn) rfl (by omega) (lk_cu (oA hf).1 (by omega)).2 (w_ifT (by rw [e0]; rfl) (w_rdF h58 (w_wrI ml59 rfl (by omega) (w_rdI (pl9 hn) rfl (by omega) hnx (ih2 (v + 1) m _ (by omega) (by omega) hm hf2 h58 (fun u hu => ?_) (fun u h1 h2 => rd_ne (by omega) (hR2 u h1 h2)) (fun u hu h9 => rd_ot (by omega) (hB u hu h9)))))))
            by_cases huv : u = v
            · rw [huv, eG]; exact po_usI_at
            · exact rd_ne huv (hR1 u (by omega))
        -- before the end of the row
        have p1 : ∀ (d v m : Nat) (y : ow_MS), v + d = rn_b A (k + 1) → s < v → m + uN A (s + 1) = a + uN A v → fr arcH z y → y.1 58 = nI m → (∀ u, u < rn_b A k → y.2.1 59 u = nI (gA9 A u)) → (∀ u, s < u → u < v → y.2.1 59 u = nI (gA9 A u)) → (∀ u, u < v → uns A u ≠ 0 → y.2.1 60 u = nI (gR9 A u)) → Tt (fun K i => q_X13_makeArcs K i 6 (nI k) (nI s) (if v < rn_b A (k + 1) then nI v else nI (rn_b A k)) n 0 y) Q := by
          intro d
          induction d with
          | zero =>
            intro v m y hv hsv hm hf h58 hR1 hR2 hB
            rw [if_neg (by omega)]
            have hv : v = rn_b A (k + 1) := by omega
            subst hv
            exact p2 (s - rn_b A k) (rn_b A k) m y (by omega) (Nat.le_refl _) hm hf h58 hR1 hR2 hB
          | succ d ih1 =>
            intro v m y hv hsv hm hf h58 hR1 hR2 hB
            rw [if_pos (by omega)]
            have en := nx v (by omega) (by omega)
            have hUv : uN A (v + 1) = uN A v + if uns A v = 0 then 0 else 1 := rfl
            have hUv2 := uN_mono (A := A) (rn_b A (k + 1)) (show v + 1 ≤ rn_b A (k + 1) by omega)
            have hUv3 := uN_mono (A := A) (a := s + 1) v (by omega)
            have eG : gA9 A v = m := by
              rw [gA9_at (k := k) (by omega) (by omega)]
              unfold gK9
              rw [if_neg (by omega)]
              omega
            have eN : nI (rn_nx A v) = if v + 1 < rn_b A (k + 1) then nI (v + 1) else nI (rn_b A k) := by
              rw [en]
              split <;> rfl
            have hf2 : fr arcH z (usI y 59 v (nI m)) := fr_I2 hf (by unfold arcH; omega)
            by_cases e0 : uns A v = 0
            · have hnx : (usI y 59 v (nI m)).2.1 (n + 9) v = if v + 1 < rn_b A (k + 1) then nI (v + 1) else nI (rn_b A k) := by
                rw [lk_n (oA hf2).1 (by omega), eN]
              rw [if_pos e0] at hUv
              refine u_X13_makeArcs_6 ?_; unfold qm_X13_makeArcs_6
              refine w_rdI (pl5 hn) rfl (by omega) (lk_cu (oA hf).1 (by omega)).2 (w_ifT (by rw [e0]; rfl) (w_rdF h58 (w_wrI ml59 rfl (by omega) (w_rdI (pl9 hn) rfl (by omega) hnx (ih1 (v + 1) m _ (by omega) (by omega) (by omega) hf2 h58 (fun u hu => rd_ne (by omega) (hR1 u hu)) (fun u h1 h2 => ?_) (fun u hu h9 => ?_))))))
              · by_cases huv : u = v
                · rw [huv, eG]; exact po_usI_at
                · exact rd_ne huv (hR2 u h1 (by omega))
              · by_cases huv : u = v
                · rw [huv] at h9
                  exact absurd e0 h9
                · exact rd_ot (by omega) (hB u (by omega) h9)
            · rw [if_neg e0] at hUv
              have hu2 := ((oA hf).cx (i := v) (by omega)).2.1
              have eH : gR9 A v = m + 1 := by
                rw [gR9_at (k := k) (by omega) (by omega)]
                unfold gK9
                rw [if_neg (by omega)]
                omega
              refine u_X13_makeArcs_6 ?_; unfold qm_X13_makeArcs_6
              refine w_rdI (pl5 hn) rfl (by omega) (lk_cu (oA hf).1 (by omega)).2 (w_ifF (fun h9 => e0 ((nI_eq (by omega) (by omega)).mp (h9.trans nI_0.symm))) (w_rdF h58 (w_wrI ml59 rfl (by omega) (w_rdF (x := nI m) h58 (w_wrF (w_ifF (fun h9 => absurd ((nI_eq (by omega) (by omega)).mp h9) (by omega)) ?_))))))
              have hf3 : fr arcH z (usF (usI y 59 v (nI m)) 58 (nI m + 1)) := fr_F2 hf2 (by unfold arcH; omega)
              have hf4 : fr arcH z (usI (usF (usI y 59 v (nI m)) 58 (nI m + 1)) 60 v (nI (m + 1))) := fr_I2 hf3 (by unfold arcH; omega)
              have hnx : (usI (usF (usI y 59 v (nI m)) 58 (nI m + 1)) 60 v (nI (m + 1))).2.1 (n + 9) v = if v + 1 < rn_b A (k + 1) then nI (v + 1) else nI (rn_b A k) := by
                rw [lk_n (oA hf4).1 (by omega), eN]
              have h58' : (usI (usF (usI y 59 v (nI m)) 58 (nI m + 1)) 60 v (nI (m + 1))).1 58 = nI (m + 1) := by
                show (usF (usI y 59 v (nI m)) 58 (nI m + 1)).1 58 = _
                exact po_usF_at.trans (nI_1 m)
              refine u_X13_makeArcs_5 ?_; unfold qm_X13_makeArcs_5
              refine w_rdF (x := nI (m + 1)) (po_usF_at.trans (nI_1 m)) (w_wrI ml60 rfl (by omega) (w_rdI (pl9 hn) rfl (by omega) hnx (ih1 (v + 1) (m + 1) _ (by omega) (by omega) (by omega) hf4 h58' (fun u hu => ?_) (fun u h1 h2 => ?_) (fun u hu h9 => ?_))))
              · exact rd_ot (by omega) (show (usI y 59 v (nI m)).2.1 59 u = _ from rd_ne (by omega) (hR1 u hu))
              · refine rd_ot (by omega) (show (usI y 59 v (nI m)).2.1 59 u = _ from ?_)
                by_cases huv : u = v
                · rw [huv, eG]; exact po_usI_at
                · exact rd_ne huv (hR2 u h1 (by omega))
              · by_cases huv : u = v
                · rw [huv, eH]; exact po_usI_at
                · exact rd_ne huv (show (usI y 59 v (nI m)).2.1 60 u = _ from rd_ot (by omega) (hB u (by omega) h9))
        have eS : gR9 A s = a := by
          rw [gR9_at hs1 hs2]
          unfold gK9
          rw [if_neg (by omega)]
          omega
        have hf2 : fr arcH z (usI y 60 s (nI a)) := fr_I2 hf (by unfold arcH; omega)
        have en := nx s hs1 hs2
        have hnx : (usI y 60 s (nI a)).2.1 (n + 9) s = if s + 1 < rn_b A (k + 1) then nI (s + 1) else nI (rn_b A k) := by
          rw [lk_n (oA hf2).1 (by omega), en]
          split <;> rfl
        refine u_X13_makeArcs_5 ?_; unfold qm_X13_makeArcs_5
        refine w_rdF h58 (w_wrI ml60 rfl (by omega) (w_rdI (pl9 hn) rfl (by omega) hnx (p1 (rn_b A (k + 1) - (s + 1)) (s + 1) a _ (by omega) (by omega) (by omega) hf2 h58 (fun u hu => rd_ot (by omega) (hR u hu).1) (fun u h1 h2 => absurd h1 (by omega)) (fun u hu h9 => ?_))))
        by_cases hus : u = s
        · rw [hus, eS]; exact po_usI_at
        · rcases Nat.lt_or_ge u (rn_b A k) with h8 | h8
          · exact rd_ne hus ((hR u h8).2 h9)
          · exact absurd (hs4 u h8 (by omega)) h9
      -- the first visit under is looked for from the end on
      have c2 : ∀ (d i : Nat) (x3 : Int32), i = rn_b A k + d → i ≤ rn_b A (k + 1) → ((x3 = -1 ∧ ∀ u, i ≤ u → u < rn_b A (k + 1) → uns A u = 0) ∨ ∃ s, x3 = nI s ∧ i ≤ s ∧ s < rn_b A (k + 1) ∧ uns A s = 1 ∧ ∀ u, i ≤ u → u < s → uns A u = 0) → Tt (fun K t => q_X13_makeArcs K t 2 (nI k) x3 (iI ((i : Int) - 1)) n 0 y) Q := by
        intro d
        induction d with
        | zero =>
          intro i x3 hi hie hx
          refine u_X13_makeArcs_2 ?_; unfold qm_X13_makeArcs_2
          refine w_rdI (pl3 hn) rfl (by omega) (lk_b (oA hf).1 (by omega)) (w_ifT (by rw [nI_iI, iI_lt (by omega) (by omega) (by omega) (by omega)]; omega) ?_)
          rcases hx with ⟨hx, hno⟩ | ⟨s, hx, s1, s2, s3, s4⟩
          · rw [hx]
            refine w_ifT rfl (w_rdI (pl3 hn) rfl (by omega) (lk_b (oA hf).1 (by omega)) (c4 (rn_b A (k + 1) - rn_b A k) (rn_b A k) y (by omega) (Nat.le_refl _) (fun u h1 h2 => hno u (by omega) h2) hf h58 (fun u hu => (hR u hu).1) (fun u hu h9 => (hR u hu).2 h9)))
          · rw [hx]
            exact w_ifF (rn_neg1 (by omega)) (c5 s (by omega) s2 s3 (fun u h1 h2 => s4 u (by omega) h2) y hf h58 hR)
        | succ d ih2 =>
          intro i x3 hi hie hx
          obtain ⟨j, hj⟩ : ∃ j, i = j + 1 := ⟨i - 1, by omega⟩
          have e1 : iI ((i : Int) - 1) = nI j := iI_nI (by omega)
          have e2 : nI j + (-1) = iI ((j : Int) - 1) := by
            rw [nI_iI]
            show iI (j : Int) + iI (-1) = _
            rw [iI_add]
            rfl
          have hu2 := ((oA hf).cx (i := j) (by omega)).2.1
          rw [e1]
          refine u_X13_makeArcs_2 ?_; unfold qm_X13_makeArcs_2
          refine w_rdI (pl3 hn) rfl (by omega) (lk_b (oA hf).1 (by omega)) (w_ltF (by omega) (by omega) (w_rdI (pl5 hn) rfl (by omega) (lk_cu (oA hf).1 (by omega)).2 (w_eqN (b := 1) (by omega) (by omega) (fun h9 => ?_) (fun h9 => ?_))))
          · refine u_X13_makeArcs_3 ?_; unfold qm_X13_makeArcs_3
            rw [e2]
            refine ih2 j _ (by omega) (by omega) (Or.inr ⟨j, rfl, Nat.le_refl _, by omega, h9, fun u h1 h2 => absurd h1 (by omega)⟩)
          · refine u_X13_makeArcs_3 ?_; unfold qm_X13_makeArcs_3
            rw [e2]
            refine ih2 j _ (by omega) (by omega) ?_
            rcases hx with ⟨hx, hno⟩ | ⟨s, hx, s1, s2, s3, s4⟩
            · refine Or.inl ⟨hx, fun u h1 h2 => ?_⟩
              by_cases huj : u = j
              · rw [huj]; omega
              · exact hno u (by omega) h2
            · refine Or.inr ⟨s, hx, by omega, s2, s3, fun u h1 h2 => ?_⟩
              by_cases huj : u = j
              · rw [huj]; omega
              · exact s4 u (by omega) h2
      refine u_X13_makeArcs_1 ?_; unfold qm_X13_makeArcs_1
      rw [nI_1]
      refine w_rdF (lk_C (oA hf).1) (w_leF (by omega) (by omega) (w_rdI (pl3 hn) rfl (by omega) (lk_b (oA hf).1 (by omega)) ?_))
      rw [show nI (rn_b A (k + 1)) - 1 = iI ((rn_b A (k + 1) : Nat) - 1) from by rw [nI_iI]; exact iI_sub _ 1]
      exact c2 (rn_b A (k + 1) - rn_b A k) (rn_b A (k + 1)) (-1) (by omega) (Nat.le_refl _) (Or.inl ⟨rfl, fun u h1 h2 => absurd h1 (by omega)⟩)
  refine e_X13_makeArcs ?_
  refine u_X13_makeArcs_0 ?_; unfold qm_X13_makeArcs_0
  refine w_wrF (c1 A.length 0 0 _ (by omega) rfl (fr_F (by unfold arcH; omega)) po_usF_at (fun u hu => absurd hu (by simp [rn_b])))
end XMC
