section
/-! 99zzzzzzzzzzzzzzv.xmpc -/
/-! maps: makeArcs of the reference, exactly -/
section XMC
variable {z : ow_MS}
theorem xp_arcs {n c : Nat} {A : rn_L} {sg : Nat → Bool} (hn : mw_net n) (hA : oNet z n A sg) (hok : okF A.flatten c) : Te (fun K => qe_X13_makeArcs K n z) (fun z1 => (∀ u, u < A.flatten.length → (uns A u = 0 → z1.2.1 61 (crs A u) = nI (gA9 A u)) ∧ (uns A u ≠ 0 → z1.2.1 62 (crs A u) = nI (gA9 A u) ∧ z1.2.1 63 (crs A u) = nI (gR9 A u))) ∧ fr arcH z z1) := by
  have hl := hA.len
  have hC := hA.2.2.2
  have hmn := net_mod hn
  have hV := okF_len hok
  let Q : ow_MS → Prop := fun z1 => (∀ u, u < A.flatten.length → (uns A u = 0 → z1.2.1 61 (crs A u) = nI (gA9 A u)) ∧ (uns A u ≠ 0 → z1.2.1 62 (crs A u) = nI (gA9 A u) ∧ z1.2.1 63 (crs A u) = nI (gR9 A u))) ∧ fr arcH z z1
  have oA : ∀ {y : ow_MS}, fr arcH z y → oNet y n A sg := fun hf => oNet_fr hf (fun g hg => by unfold arcH at hg; omega) hA
  have c8 : ∀ (y : ow_MS), fr arcH z y → (∀ u, u < A.flatten.length → y.2.1 59 u = nI (gA9 A u) ∧ (uns A u ≠ 0 → y.2.1 60 u = nI (gR9 A u))) → Tt (fun K i => q_X13_makeArcs K i 8 (nI 0) 0 0 n 0 y) Q := by
    intro y hf hR
    exact w_mono (xp_arc8 (a := 0) hn (oA hf) hok hR) (fun r hr => ⟨hr.1, fr_tr hf (fr_mono (fun g hg => by unfold arcH; omega) hr.2)⟩)
  have c1 : ∀ (d k a : Nat) (y : ow_MS), k + d = A.length → a = aK9 A k → fr arcH z y → y.1 58 = nI a → (∀ u, u < rn_b A k → y.2.1 59 u = nI (gA9 A u) ∧ (uns A u ≠ 0 → y.2.1 60 u = nI (gR9 A u))) → Tt (fun K i => q_X13_makeArcs K i 1 (nI k) 0 0 n 0 y) Q := by
    intro d
    induction d with
    | zero =>
      intro k a y hk ha hf h58 hR
      have hk : k = A.length := by omega
      subst hk
      rw [rn_b_len] at hR
      refine u_X13_makeArcs_1 ?_; unfold qm_X13_makeArcs_1
      exact w_rdF (lk_C (oA hf).1) (w_leT (by omega) (by omega) (c8 y hf hR))
    | succ d ih =>
      intro k a y hk ha hf h58 hR
      have hb1 := rn_b_le A k
      have hb2 := rn_b_le A (k + 1)
      have hb3 := rn_b_mono A k
      have c7 : ∀ (x3 x4 : Int32) (a : Nat) (y : ow_MS), a = aK9 A (k + 1) → fr arcH z y → y.1 58 = nI a → (∀ u, u < rn_b A (k + 1) → y.2.1 59 u = nI (gA9 A u) ∧ (uns A u ≠ 0 → y.2.1 60 u = nI (gR9 A u))) → Tt (fun K i => q_X13_makeArcs K i 7 (nI k) x3 x4 n 0 y) Q := by
        intro x3 x4 a y ha hf h58 hR
        refine u_X13_makeArcs_7 ?_; unfold qm_X13_makeArcs_7
        rw [nI_1]
        exact ih (k + 1) a y (by omega) ha hf h58 hR
      have hUm := uN_mono (A := A) (rn_b A (k + 1)) hb3
      have hUl := uN_mono (A := A) A.flatten.length hb2
      have eK : aK9 A (k + 1) = aK9 A k + max 1 (uN A (rn_b A (k + 1)) - uN A (rn_b A k)) := rfl
      have aL := aK9_le (A := A) k
      have uV := uN_ov (A := A) A.flatten.length
      -- a ring without a visit under
      have c4 : ∀ (d v : Nat) (y : ow_MS), v + d = rn_b A (k + 1) → rn_b A k ≤ v → (∀ u, rn_b A k ≤ u → u < rn_b A (k + 1) → uns A u = 0) → fr arcH z y → y.1 58 = nI a → (∀ u, u < v → y.2.1 59 u = nI (gA9 A u)) → (∀ u, u < rn_b A k → uns A u ≠ 0 → y.2.1 60 u = nI (gR9 A u)) → Tt (fun K i => q_X13_makeArcs K i 4 (nI k) (-1) (nI v) n 0 y) Q := by
        intro d
        induction d with
        | zero =>
          intro v y hv hvb hno hf h58 hR hB
          have e0 := uN_0 (A := A) (rn_b A (k + 1)) hb3 hno
          refine u_X13_makeArcs_4 ?_; unfold qm_X13_makeArcs_4
          rw [nI_1]
          refine w_rdI (pl3 hn) rfl (by omega) (lk_b (oA hf).1 (by omega)) (w_leT (by omega) (by omega) (w_rdF h58 (w_wrF (c7 _ _ (a + 1) _ (by omega) (fr_F2 hf (by unfold arcH; omega)) (po_usF_at.trans (nI_1 a)) (fun u hu => ⟨hR u (by omega), fun h9 => ?_⟩)))))
          rcases Nat.lt_or_ge u (rn_b A k) with h8 | h8
          · exact hB u h8 h9
          · exact absurd (hno u h8 hu) h9
        | succ d ih4 =>
          intro v y hv hvb hno hf h58 hR hB
          have e0 := uN_0 (A := A) (rn_b A (k + 1)) hb3 hno
          have e1 := uN_0 (A := A) v hvb (fun u h1 h2 => hno u h1 (by omega))
          have eG : gA9 A v = a := by
            rw [gA9_at hvb (by omega)]
            unfold gK9
            rw [if_pos e1]
            omega
          refine u_X13_makeArcs_4 ?_; unfold qm_X13_makeArcs_4
          rw [nI_1, nI_1]
          refine w_rdI (pl3 hn) rfl (by omega) (lk_b (oA hf).1 (by omega)) (w_leF (by omega) (by omega) (w_rdF h58 (w_wrI ml59 rfl (by omega) (ih4 (v + 1) _ (by omega) (by omega) hno (fr_I2 hf (by unfold arcH; omega)) h58 (fun u hu => ?_) (fun u hu h9 => rd_ot (by omega) (hB u hu h9))))))
          by_cases huv : u = v
          · rw [huv, eG]; exact po_usI_at
          · exact rd_ne huv (hR u (by omega))
      -- a ring whose first visit under is s
      have c5 : ∀ (s : Nat), rn_b A k ≤ s → s < rn_b A (k + 1) → uns A s = 1 → (∀ u, rn_b A k ≤ u → u < s → uns A u = 0) → ∀ (y : ow_MS), fr arcH z y → y.1 58 = nI a → (∀ u, u < rn_b A k → y.2.1 59 u = nI (gA9 A u) ∧ (uns A u ≠ 0 → y.2.1 60 u = nI (gR9 A u))) → Tt (fun K i => q_X13_makeArcs K i 5 (nI k) (nI s) (nI s) n 0 y) Q := by
        intro s hs1 hs2 hs3 hs4 y hf h58 hR
        have hUs : uN A (s + 1) = uN A s + 1 := by
          show uN A s + (if uns A s = 0 then 0 else 1) = _
          rw [if_neg (by omega)]
        have hUb := uN_mono (A := A) s hs1
        have hUe := uN_mono (A := A) (a := s + 1) (rn_b A (k + 1)) hs2
        have hUsb := uN_0 (A := A) s hs1 hs4
        have nx : ∀ v, rn_b A k ≤ v → v < rn_b A (k + 1) → rn_nx A v = if v + 1 < rn_b A (k + 1) then v + 1 else rn_b A k := by
          intro v h1 h2
          have e := rn_c_of A k v h1 h2
          unfold rn_nx
          rw [e]
        -- behind the end of the row: from its beginning to s
        have p2 : ∀ (d v m : Nat) (y : ow_MS), v + d = s → rn_b A k ≤ v → m + uN A (s + 1) = a + uN A (rn_b A (k + 1)) → fr arcH z y → y.1 58 = nI m → (∀ u, u < v → y.2.1 59 u = nI (gA9 A u)) → (∀ u, s < u → u < rn_b A (k + 1) → y.2.1 59 u = nI (gA9 A u)) → (∀ u, u < rn_b A (k + 1) → uns A u ≠ 0 → y.2.1 60 u = nI (gR9 A u)) → Tt (fun K i => q_X13_makeArcs K i 6 (nI k) (nI s) (nI v) n 0 y) Q := by
          intro d
          induction d with
          | zero =>
            intro v m y hv hvb hm hf h58 hR1 hR2 hB
            have hv : v = s := by omega
            subst hv
            have eG : gA9 A v = m := by
              rw [gA9_at hvb (by omega)]
              unfold gK9
              rw [if_pos hUsb]
              omega
            refine u_X13_makeArcs_6 ?_; unfold qm_X13_makeArcs_6
            refine w_rdI (pl5 hn) rfl (by omega) (lk_cu (oA hf).1 (by omega)).2 (w_ifF (by rw [hs3]; decide) (w_rdF h58 (w_wrI ml59 rfl (by omega) (w_rdF (x := nI m) h58 (w_wrF (w_ifT rfl (c7 _ _ (m + 1) _ (by omega) (fr_F2 (fr_I2 hf (by unfold arcH; omega)) (by unfold arcH; omega)) (po_usF_at.trans (nI_1 m)) (fun u hu => ⟨?_, fun h9 => ?_⟩))))))))
            · show (usI y 59 v (nI m)).2.1 59 u = nI (gA9 A u)
              by_cases huv : u = v
              · rw [huv, eG]; exact po_usI_at
              · rcases Nat.lt_or_ge u v with h8 | h8
                · exact rd_ne huv (hR1 u h8)
                · exact rd_ne huv (hR2 u (by omega) hu)
            · show (usI y 59 v (nI m)).2.1 60 u = nI (gR9 A u)
              exact rd_ot (by omega) (hB u hu h9)
          | succ d ih2 =>
            intro v m y hv hvb hm hf h58 hR1 hR2 hB
            have e0 := hs4 v hvb (by omega)
            have eU := uN_0 (A := A) v hvb (fun u h1 h2 => hs4 u h1 (by omega))
            have eG : gA9 A v = m := by
              rw [gA9_at hvb (by omega)]
              unfold gK9
              rw [if_pos eU]
              omega
            have en := nx v hvb (by omega)
            rw [if_pos (by omega)] at en
            have hf2 : fr arcH z (usI y 59 v (nI m)) := fr_I2 hf (by unfold arcH; omega)
            have hnx : (usI y 59 v (nI m)).2.1 (n + 9) v = nI (v + 1) := by
              rw [lk_n (oA hf2).1 (by omega), en]
            refine u_X13_makeArcs_6 ?_; unfold qm_X13_makeArcs_6
            refine w_rdI (pl5 hn) rfl (by omega) (lk_cu (oA hf).1 (by omega)).2 (w_ifT (by rw [e0]; rfl) (w_rdF h58 (w_wrI ml59 rfl (by omega) (w_rdI (pl9 hn) rfl (by omega) hnx (ih2 (v + 1) m _ (by omega) (by omega) hm hf2 h58 (fun u hu => ?_) (fun u h1 h2 => rd_ne (by omega) (hR2 u h1 h2)) (fun u hu h9 => rd_ot (by omega) (hB u hu h9)))))))
            by_cases huv : u = v
            · rw [huv, eG]; exact po_usI_at
            · exact rd_ne huv (hR1 u (by omega))
        -- before the end of the row
        have p1 : ∀ (d v m : Nat) (y : ow_MS), v + d = rn_b A (k + 1) → s < v → m + uN A (s + 1) = a + uN A v → fr arcH z y → y.1 58 = nI m → (∀ u, u < rn_b A k → y.2.1 59 u = nI (gA9 A u)) → (∀ u, s < u → u < v → y.2.1 59 u = nI (gA9 A u)) → (∀ u, u < v → uns A u ≠ 0 → y.2.1 60 u = nI (gR9 A u)) → Tt (fun K i => q_X13_makeArcs K i 6 (nI k) (nI s) (if v < rn_b A (k + 1) then nI v else nI (rn_b A k)) n 0 y) Q := by
          intro d
          induction d with
          | zero =>
            intro v m y hv hsv hm hf h58 hR1 hR2 hB
            rw [if_neg (by omega)]
            have hv : v = rn_b A (k + 1) := by omega
            subst hv
            exact p2 (s - rn_b A k) (rn_b A k) m y (by omega) (Nat.le_refl _) hm hf h58 hR1 hR2 hB
          | succ d ih1 =>
            intro v m y hv hsv hm hf h58 hR1 hR2 hB
            rw [if_pos (by omega)]
            have en := nx v (by omega) (by omega)
            have hUv : uN A (v + 1) = uN A v + if uns A v = 0 then 0 else 1 := rfl
            have hUv2 := uN_mono (A := A) (rn_b A (k + 1)) (show v + 1 ≤ rn_b A (k + 1) by omega)
            have hUv3 := uN_mono (A := A) (a := s + 1) v (by omega)
            have eG : gA9 A v = m := by
              rw [gA9_at (k := k) (by omega) (by omega)]
              unfold gK9
              rw [if_neg (by omega)]
              omega
            have eN : nI (rn_nx A v) = if v + 1 < rn_b A (k + 1) then nI (v + 1) else nI (rn_b A k) := by
              rw [en]
              split <;> rfl
            have hf2 : fr arcH z (usI y 59 v (nI m)) := fr_I2 hf (by unfold arcH; omega)
            by_cases e0 : uns A v = 0
            · have hnx : (usI y 59 v (nI m)).2.1 (n + 9) v = if v + 1 < rn_b A (k + 1) then nI (v + 1) else nI (rn_b A k) := by
                rw [lk_n (oA hf2).1 (by omega), eN]
              rw [if_pos e0] at hUv
              refine u_X13_makeArcs_6 ?_; unfold qm_X13_makeArcs_6
              refine w_rdI (pl5 hn) rfl (by omega) (lk_cu (oA hf).1 (by omega)).2 (w_ifT (by rw [e0]; rfl) (w_rdF h58 (w_wrI ml59 rfl (by omega) (w_rdI (pl9 hn) rfl (by omega) hnx (ih1 (v + 1) m _ (by omega) (by omega) (by omega) hf2 h58 (fun u hu => rd_ne (by omega) (hR1 u hu)) (fun u h1 h2 => ?_) (fun u hu h9 => ?_))))))
              · by_cases huv : u = v
                · rw [huv, eG]; exact po_usI_at
                · exact rd_ne huv (hR2 u h1 (by omega))
              · by_cases huv : u = v
                · rw [huv] at h9
                  exact absurd e0 h9
                · exact rd_ot (by omega) (hB u (by omega) h9)
            · rw [if_neg e0] at hUv
              have hu2 := ((oA hf).cx (i := v) (by omega)).2.1
              have eH : gR9 A v = m + 1 := by
                rw [gR9_at (k := k) (by omega) (by omega)]
                unfold gK9
                rw [if_neg (by omega)]
                omega
              refine u_X13_makeArcs_6 ?_; unfold qm_X13_makeArcs_6
              refine w_rdI (pl5 hn) rfl (by omega) (lk_cu (oA hf).1 (by omega)).2 (w_ifF (fun h9 => e0 ((nI_eq (by omega) (by omega)).mp (h9.trans nI_0.symm))) (w_rdF h58 (w_wrI ml59 rfl (by omega) (w_rdF (x := nI m) h58 (w_wrF (w_ifF (fun h9 => absurd ((nI_eq (by omega) (by omega)).mp h9) (by omega)) ?_))))))
              have hf3 : fr arcH z (usF (usI y 59 v (nI m)) 58 (nI m + 1)) := fr_F2 hf2 (by unfold arcH; omega)
              have hf4 : fr arcH z (usI (usF (usI y 59 v (nI m)) 58 (nI m + 1)) 60 v (nI (m + 1))) := fr_I2 hf3 (by unfold arcH; omega)
              have hnx : (usI (usF (usI y 59 v (nI m)) 58 (nI m + 1)) 60 v (nI (m + 1))).2.1 (n + 9) v = if v + 1 < rn_b A (k + 1) then nI (v + 1) else nI (rn_b A k) := by
                rw [lk_n (oA hf4).1 (by omega), eN]
              have h58' : (usI (usF (usI y 59 v (nI m)) 58 (nI m + 1)) 60 v (nI (m + 1))).1 58 = nI (m + 1) := by
                show (usF (usI y 59 v (nI m)) 58 (nI m + 1)).1 58 = _
                exact po_usF_at.trans (nI_1 m)
              refine u_X13_makeArcs_5 ?_; unfold qm_X13_makeArcs_5
              refine w_rdF (x := nI (m + 1)) (po_usF_at.trans (nI_1 m)) (w_wrI ml60 rfl (by omega) (w_rdI (pl9 hn) rfl (by omega) hnx (ih1 (v + 1) (m + 1) _ (by omega) (by omega) (by omega) hf4 h58' (fun u hu => ?_) (fun u h1 h2 => ?_) (fun u hu h9 => ?_))))
              · exact rd_ot (by omega) (show (usI y 59 v (nI m)).2.1 59 u = _ from rd_ne (by omega) (hR1 u hu))
              · refine rd_ot (by omega) (show (usI y 59 v (nI m)).2.1 59 u = _ from ?_)
                by_cases huv : u = v
                · rw [huv, eG]; exact po_usI_at
                · exact rd_ne huv (hR2 u h1 (by omega))
              · by_cases huv : u = v
                · rw [huv, eH]; exact po_usI_at
                · exact rd_ne huv (show (usI y 59 v (nI m)).2.1 60 u = _ from rd_ot (by omega) (hB u (by omega) h9))
        have eS : gR9 A s = a := by
          rw [gR9_at hs1 hs2]
          unfold gK9
          rw [if_neg (by omega)]
          omega
        have hf2 : fr arcH z (usI y 60 s (nI a)) := fr_I2 hf (by unfold arcH; omega)
        have en := nx s hs1 hs2
        have hnx : (usI y 60 s (nI a)).2.1 (n + 9) s = if s + 1 < rn_b A (k + 1) then nI (s + 1) else nI (rn_b A k) := by
          rw [lk_n (oA hf2).1 (by omega), en]
          split <;> rfl
        refine u_X13_makeArcs_5 ?_; unfold qm_X13_makeArcs_5
        refine w_rdF h58 (w_wrI ml60 rfl (by omega) (w_rdI (pl9 hn) rfl (by omega) hnx (p1 (rn_b A (k + 1) - (s + 1)) (s + 1) a _ (by omega) (by omega) (by omega) hf2 h58 (fun u hu => rd_ot (by omega) (hR u hu).1) (fun u h1 h2 => absurd h1 (by omega)) (fun u hu h9 => ?_))))
        by_cases hus : u = s
        · rw [hus, eS]; exact po_usI_at
        · rcases Nat.lt_or_ge u (rn_b A k) with h8 | h8
          · exact rd_ne hus ((hR u h8).2 h9)
          · exact absurd (hs4 u h8 (by omega)) h9
      -- the first visit under is looked for from the end on
      have c2 : ∀ (d i : Nat) (x3 : Int32), i = rn_b A k + d → i ≤ rn_b A (k + 1) → ((x3 = -1 ∧ ∀ u, i ≤ u → u < rn_b A (k + 1) → uns A u = 0) ∨ ∃ s, x3 = nI s ∧ i ≤ s ∧ s < rn_b A (k + 1) ∧ uns A s = 1 ∧ ∀ u, i ≤ u → u < s → uns A u = 0) → Tt (fun K t => q_X13_makeArcs K t 2 (nI k) x3 (iI ((i : Int) - 1)) n 0 y) Q := by
        intro d
        induction d with
        | zero =>
          intro i x3 hi hie hx
          refine u_X13_makeArcs_2 ?_; unfold qm_X13_makeArcs_2
          refine w_rdI (pl3 hn) rfl (by omega) (lk_b (oA hf).1 (by omega)) (w_ifT (by rw [nI_iI, iI_lt (by omega) (by omega) (by omega) (by omega)]; omega) ?_)
          rcases hx with ⟨hx, hno⟩ | ⟨s, hx, s1, s2, s3, s4⟩
          · rw [hx]
            refine w_ifT rfl (w_rdI (pl3 hn) rfl (by omega) (lk_b (oA hf).1 (by omega)) (c4 (rn_b A (k + 1) - rn_b A k) (rn_b A k) y (by omega) (Nat.le_refl _) (fun u h1 h2 => hno u (by omega) h2) hf h58 (fun u hu => (hR u hu).1) (fun u hu h9 => (hR u hu).2 h9)))
          · rw [hx]
            exact w_ifF (rn_neg1 (by omega)) (c5 s (by omega) s2 s3 (fun u h1 h2 => s4 u (by omega) h2) y hf h58 hR)
        | succ d ih2 =>
          intro i x3 hi hie hx
          obtain ⟨j, hj⟩ : ∃ j, i = j + 1 := ⟨i - 1, by omega⟩
          have e1 : iI ((i : Int) - 1) = nI j := iI_nI (by omega)
          have e2 : nI j + (-1) = iI ((j : Int) - 1) := by
            rw [nI_iI]
            show iI (j : Int) + iI (-1) = _
            rw [iI_add]
            rfl
          have hu2 := ((oA hf).cx (i := j) (by omega)).2.1
          rw [e1]
          refine u_X13_makeArcs_2 ?_; unfold qm_X13_makeArcs_2
          refine w_rdI (pl3 hn) rfl (by omega) (lk_b (oA hf).1 (by omega)) (w_ltF (by omega) (by omega) (w_rdI (pl5 hn) rfl (by omega) (lk_cu (oA hf).1 (by omega)).2 (w_eqN (b := 1) (by omega) (by omega) (fun h9 => ?_) (fun h9 => ?_))))
          · refine u_X13_makeArcs_3 ?_; unfold qm_X13_makeArcs_3
            rw [e2]
            refine ih2 j _ (by omega) (by omega) (Or.inr ⟨j, rfl, Nat.le_refl _, by omega, h9, fun u h1 h2 => absurd h1 (by omega)⟩)
          · refine u_X13_makeArcs_3 ?_; unfold qm_X13_makeArcs_3
            rw [e2]
            refine ih2 j _ (by omega) (by omega) ?_
            rcases hx with ⟨hx, hno⟩ | ⟨s, hx, s1, s2, s3, s4⟩
            · refine Or.inl ⟨hx, fun u h1 h2 => ?_⟩
              by_cases huj : u = j
              · rw [huj]; omega
              · exact hno u (by omega) h2
            · refine Or.inr ⟨s, hx, by omega, s2, s3, fun u h1 h2 => ?_⟩
              by_cases huj : u = j
              · rw [huj]; omega
              · exact s4 u (by omega) h2
      refine u_X13_makeArcs_1 ?_; unfold qm_X13_makeArcs_1
      rw [nI_1]
      refine w_rdF (lk_C (oA hf).1) (w_leF (by omega) (by omega) (w_rdI (pl3 hn) rfl (by omega) (lk_b (oA hf).1 (by omega)) ?_))
      rw [show nI (rn_b A (k + 1)) - 1 = iI ((rn_b A (k + 1) : Nat) - 1) from by rw [nI_iI]; exact iI_sub _ 1]
      exact c2 (rn_b A (k + 1) - rn_b A k) (rn_b A (k + 1)) (-1) (by omega) (Nat.le_refl _) (Or.inl ⟨rfl, fun u h1 h2 => absurd h1 (by omega)⟩)
  refine e_X13_makeArcs ?_
  refine u_X13_makeArcs_0 ?_; unfold qm_X13_makeArcs_0
  refine w_wrF (c1 A.length 0 0 _ (by omega) rfl (fr_F (by unfold arcH; omega)) po_usF_at (fun u hu => absurd hu (by simp [rn_b])))
end XMC
end
section
/-! 99zzzzzzzzzzzzzzw.xmpd -/
/-! maps: colourings of the visits of a net -/
def at9 (L : List Nat) (b : Nat) : Nat := (L[b]?).getD 0
def tb9 (n : Nat) (f : Nat → Nat) : List Nat := (List.range n).map f
def cl9 (g : Nat) (op : Nat → Nat → Nat → Nat) (c : Nat) (S : ow_NP) (D : Nat → Bool) (L : List Nat) : Prop := L.length = 2 * c ∧ (∀ w, w < 2 * c → at9 L w < g ∧ (D w = false → at9 L w = 0)) ∧ ∀ x, x < c → D (2 * x) = true → at9 L (2 * x) = at9 L (S.2 (2 * x)) ∧ at9 L (2 * x + 1) = op x (at9 L (2 * x)) (at9 L (S.2 (2 * x + 1)))
def dC9 (c : Nat) (S : ow_NP) (D : Nat → Bool) : Prop := (∀ w, w < 2 * c → D (S.2 w) = D w) ∧ ∀ x, x < c → D (2 * x + 1) = D (2 * x)
def us9 (c : Nat) (D : Nat → Bool) (lab : Nat → Nat) (b : Nat) : Prop := ∃ w, w < 2 * c ∧ D w = true ∧ lab w = b
def ar9 (g : Nat) (op : Nat → Nat → Nat → Nat) (n c : Nat) (S : ow_NP) (D : Nat → Bool) (lab : Nat → Nat) (L : List Nat) : Prop := L.length = n ∧ (∀ b, b < n → at9 L b < g ∧ (¬ us9 c D lab b → at9 L b = 0)) ∧ ∀ x, x < c → D (2 * x) = true → at9 L (lab (2 * x + 1)) = op x (at9 L (lab (2 * x))) (at9 L (lab (S.2 (2 * x + 1))))
def lb9 (n c : Nat) (S : ow_NP) (lab : Nat → Nat) : Prop := (∀ w, w < 2 * c → lab w < n) ∧ (∀ x, x < c → lab (2 * x) = lab (S.2 (2 * x))) ∧ ∀ h : Nat → Nat, (∀ x, x < c → h (2 * x) = h (S.2 (2 * x))) → ∀ v w, v < 2 * c → w < 2 * c → lab v = lab w → h v = h w
def pd9 (f : Nat → Nat) : Nat → Nat
  | 0 => 1
  | p + 1 => pd9 f p * f p
section XMD
theorem tb9_len {n : Nat} {f : Nat → Nat} : (tb9 n f).length = n := by
  unfold tb9
  rw [List.length_map, List.length_range]
theorem tb9_at {n b : Nat} {f : Nat → Nat} (hb : b < n) : at9 (tb9 n f) b = f b := by
  unfold at9 tb9
  rw [List.getElem?_map, List.getElem?_range hb]
  rfl
theorem at9_ext {L M : List Nat} {n : Nat} (h1 : L.length = n) (h2 : M.length = n) (h : ∀ b, b < n → at9 L b = at9 M b) : L = M := by
  refine List.ext_getElem (by omega) (fun i i1 i2 => ?_)
  have := h i (by omega)
  unfold at9 at this
  rw [List.getElem?_eq_getElem i1, List.getElem?_eq_getElem i2] at this
  exact this
theorem sm9_c {k : Nat} : ∀ n, sm9 (fun _ => k) n = n * k
  | 0 => (Nat.zero_mul _).symm
  | n + 1 => by
    show sm9 (fun _ => k) n + k = _
    rw [sm9_c n, Nat.succ_mul]
theorem cnt_mul {α β : Type} {Φ : α → Prop} {Ψ : β → Prop} {n k : Nat} (h : cnt9 Φ n) (h' : cnt9 Ψ k) : cnt9 (fun p : α × β => Φ p.1 ∧ Ψ p.2) (n * k) := by
  obtain ⟨l, a1, a2, a3⟩ := h
  rw [← sm9_c n]
  have key := cnt_sm (Φ := fun i (p : α × β) => l[i]? = some p.1 ∧ Ψ p.2) (f := fun _ => k) (fun L p q h1 h2 => ?_) n (fun p hp => ?_)
  · refine cnt_cg (fun L => ?_) key
    constructor
    · rintro ⟨p, p1, p2, p3⟩
      exact ⟨(a2 _).mp (List.mem_of_getElem? p2), p3⟩
    · rintro ⟨p1, p2⟩
      obtain ⟨i, i1, i2⟩ := List.getElem_of_mem ((a2 _).mpr p1)
      exact ⟨i, by omega, by rw [List.getElem?_eq_getElem i1, i2], p2⟩
  · exact (List.getElem?_inj (List.getElem?_eq_some_iff.mp h1.1).1 a1).mp (h1.1.trans h2.1.symm)
  · have hp : p < l.length := by omega
    refine cnt_bij (fun b => (l[p], b)) (fun x hx => ⟨List.getElem?_eq_getElem hp, hx⟩) (fun x y _ _ e => (Prod.mk.inj e).2) (fun y hy => ⟨y.2, hy.2, ?_⟩) h'
    have := hy.1
    rw [List.getElem?_eq_getElem hp] at this
    exact Prod.ext (Option.some.inj this) rfl
variable {g c n : Nat} {op : Nat → Nat → Nat → Nat} {S : ow_NP} {D : Nat → Bool}
theorem cl9_cg {D' : Nat → Bool} {op' : Nat → Nat → Nat → Nat} (h : ∀ w, w < 2 * c → D w = D' w) (ho : ∀ x a b, x < c → op x a b = op' x a b) {L : List Nat} (hL : cl9 g op c S D L) : cl9 g op' c S D' L := by
  refine ⟨hL.1, fun w hw => ⟨(hL.2.1 w hw).1, fun e => (hL.2.1 w hw).2 (by rw [h w hw]; exact e)⟩, fun x hx e => ?_⟩
  have := hL.2.2 x hx (by rw [h _ (by omega)]; exact e)
  rw [ho x _ _ hx] at this
  exact this
/-- colourings of arcs and of visits -/
theorem ar_cl {lab : Nat → Nat} {N : Nat} (hv : vn c S) (hD : dC9 c S D) (hl : lb9 n c S lab) (hg : 0 < g) (h : cnt9 (ar9 g op n c S D lab) N) : cnt9 (cl9 g op c S D) N := by
  obtain ⟨l1, l2, l3⟩ := hl
  have f1 : ∀ (L : List Nat) w, w < 2 * c → at9 (tb9 (2 * c) (fun w => if D w = true then at9 L (lab w) else 0)) w = if D w = true then at9 L (lab w) else 0 := fun L w hw => tb9_at hw
  refine cnt_bij (fun L => tb9 (2 * c) (fun w => if D w = true then at9 L (lab w) else 0)) (fun L hL => ⟨tb9_len, fun w hw => ?_, fun x hx e => ?_⟩) (fun L M hL hM e => ?_) (fun H hH => ?_) h
  · rw [f1 L w hw]
    by_cases d : D w = true
    · rw [if_pos d]
      exact ⟨(hL.2.1 _ (l1 w hw)).1, fun e => by rw [e] at d; cases d⟩
    · rw [if_neg d]
      exact ⟨hg, fun _ => rfl⟩
  · have s0 := (hv (2 * x) (by omega)).2.1
    have s1 := (hv (2 * x + 1) (by omega)).2.1
    have d1 : D (2 * x + 1) = true := (hD.2 x hx).trans e
    have d2 : D (S.2 (2 * x)) = true := (hD.1 _ (by omega)).trans e
    have d3 : D (S.2 (2 * x + 1)) = true := (hD.1 _ (by omega)).trans d1
    rw [f1 L _ (by omega), f1 L _ s0, f1 L _ (by omega), f1 L _ s1, if_pos e, if_pos d1, if_pos d2, if_pos d3]
    exact ⟨by rw [l2 x hx], hL.2.2 x hx e⟩
  · refine at9_ext hL.1 hM.1 (fun b hb => ?_)
    by_cases u : us9 c D lab b
    · obtain ⟨w, w1, w2, w3⟩ := u
      have e2 := congrArg (fun H => at9 H w) e
      rw [f1 L w w1, f1 M w w1, if_pos w2, if_pos w2, w3] at e2
      exact e2
    · rw [(hL.2.1 b hb).2 u, (hM.2.1 b hb).2 u]
  · have hh : ∀ x, x < c → at9 H (2 * x) = at9 H (S.2 (2 * x)) := fun x hx => by
      by_cases d : D (2 * x) = true
      · exact (hH.2.2 x hx d).1
      · have d : D (2 * x) = false := by simpa using d
        rw [(hH.2.1 _ (by omega)).2 d, (hH.2.1 _ (hv (2 * x) (by omega)).2.1).2 ((hD.1 _ (by omega)).trans d)]
    have cn := l3 (at9 H) hh
    obtain ⟨k, hk⟩ : ∃ k : Nat → Nat, ∀ b, (us9 c D lab b → ∃ w, w < 2 * c ∧ D w = true ∧ lab w = b ∧ k b = at9 H w) ∧ (¬ us9 c D lab b → k b = 0) := by
      refine Classical.axiomOfChoice (r := fun b q => (us9 c D lab b → ∃ w, w < 2 * c ∧ D w = true ∧ lab w = b ∧ q = at9 H w) ∧ (¬ us9 c D lab b → q = 0)) (fun b => ?_)
      by_cases u : us9 c D lab b
      · obtain ⟨w, w1, w2, w3⟩ := id u
        exact ⟨at9 H w, fun _ => ⟨w, w1, w2, w3, rfl⟩, fun h9 => absurd u h9⟩
      · exact ⟨0, fun h9 => absurd h9 u, fun _ => rfl⟩
    have kl : ∀ w, w < 2 * c → D w = true → k (lab w) = at9 H w := fun w hw d => by
      obtain ⟨w', w1, w2, w3, w4⟩ := (hk (lab w)).1 ⟨w, hw, d, rfl⟩
      rw [w4]
      exact cn w' w w1 hw w3
    refine ⟨tb9 n k, ⟨tb9_len, fun b hb => ?_, fun x hx e => ?_⟩, at9_ext tb9_len hH.1 (fun w hw => ?_)⟩
    · rw [tb9_at hb]
      refine ⟨?_, (hk b).2⟩
      by_cases u : us9 c D lab b
      · obtain ⟨w, w1, w2, w3, w4⟩ := (hk b).1 u
        rw [w4]
        exact (hH.2.1 w w1).1
      · rw [(hk b).2 u]
        exact hg
    · have s1 := (hv (2 * x + 1) (by omega)).2.1
      have d1 : D (2 * x + 1) = true := (hD.2 x hx).trans e
      have d3 : D (S.2 (2 * x + 1)) = true := (hD.1 _ (by omega)).trans d1
      rw [tb9_at (l1 _ (by omega)), tb9_at (l1 _ (by omega)), tb9_at (l1 _ s1), kl _ (by omega) d1, kl _ (by omega) e, kl _ s1 d3]
      exact (hH.2.2 x hx e).2
    · rw [f1 _ w hw]
      by_cases d : D w = true
      · rw [if_pos d, tb9_at (l1 w hw), kl w hw d]
      · rw [if_neg d, (hH.2.1 w hw).2 (by simpa using d)]
/-- two parts are coloured one by one -/
theorem cl_or {D1 D2 : Nat → Bool} {N1 N2 : Nat} (hv : vn c S) (h1 : dC9 c S D1) (h2 : dC9 c S D2) (hd : ∀ w, w < 2 * c → D1 w = true → D2 w = true → False) (k1 : cnt9 (cl9 g op c S D1) N1) (k2 : cnt9 (cl9 g op c S D2) N2) (hg : 0 < g) : cnt9 (cl9 g op c S (fun w => D1 w || D2 w)) (N1 * N2) := by
  have f1 : ∀ (f : Nat → Nat) w, w < 2 * c → at9 (tb9 (2 * c) f) w = f w := fun f w hw => tb9_at hw
  refine cnt_bij (fun p : List Nat × List Nat => tb9 (2 * c) (fun w => if D1 w = true then at9 p.1 w else at9 p.2 w)) (fun p hp => ⟨tb9_len, fun w hw => ?_, fun x hx e => ?_⟩) (fun p q hp hq e => ?_) (fun H hH => ?_) (cnt_mul k1 k2)
  · rw [f1 _ w hw]
    by_cases d : D1 w = true
    · rw [if_pos d]
      refine ⟨(hp.1.2.1 w hw).1, fun e => ?_⟩
      have e : (D1 w || D2 w) = false := e
      rw [d] at e
      cases e
    · rw [if_neg d]
      refine ⟨(hp.2.2.1 w hw).1, fun e => (hp.2.2.1 w hw).2 ?_⟩
      exact (Bool.or_eq_false_iff.mp e).2
  · have s0 := (hv (2 * x) (by omega)).2.1
    have s1 := (hv (2 * x + 1) (by omega)).2.1
    rw [f1 _ _ (by omega), f1 _ _ s0, f1 _ _ (by omega), f1 _ _ s1, h1.1 _ (by omega), h1.1 _ (by omega), h1.2 x hx]
    by_cases d : D1 (2 * x) = true
    · rw [if_pos d, if_pos d, if_pos d, if_pos d]
      exact hp.1.2.2 x hx d
    · rw [if_neg d, if_neg d, if_neg d, if_neg d]
      refine hp.2.2.2 x hx ?_
      rcases (Bool.or_eq_true _ _).mp e with h9 | h9
      · exact absurd h9 d
      · exact h9
  · have e2 : ∀ w, w < 2 * c → (if D1 w = true then at9 p.1 w else at9 p.2 w) = if D1 w = true then at9 q.1 w else at9 q.2 w := fun w hw => by
      have e3 := congrArg (fun H => at9 H w) e
      rw [f1 _ w hw, f1 _ w hw] at e3
      exact e3
    refine Prod.ext (at9_ext hp.1.1 hq.1.1 (fun w hw => ?_)) (at9_ext hp.2.1 hq.2.1 (fun w hw => ?_))
    · have e4 := e2 w hw
      by_cases d : D1 w = true
      · rw [if_pos d, if_pos d] at e4
        exact e4
      · have d : D1 w = false := by simpa using d
        rw [(hp.1.2.1 w hw).2 d, (hq.1.2.1 w hw).2 d]
    · have e4 := e2 w hw
      by_cases d : D1 w = true
      · have d2 : D2 w = false := by
          cases h9 : D2 w
          · rfl
          · exact absurd (hd w hw d h9) id
        rw [(hp.2.2.1 w hw).2 d2, (hq.2.2.1 w hw).2 d2]
      · rw [if_neg d, if_neg d] at e4
        exact e4
  · have hr : ∀ D' : Nat → Bool, dC9 c S D' → (∀ w, w < 2 * c → D' w = true → (D1 w || D2 w) = true) → cl9 g op c S D' (tb9 (2 * c) (fun w => if D' w = true then at9 H w else 0)) := by
      intro D' hD' hs
      refine ⟨tb9_len, fun w hw => ?_, fun x hx e => ?_⟩
      · rw [f1 _ w hw]
        by_cases d : D' w = true
        · rw [if_pos d]
          exact ⟨(hH.2.1 w hw).1, fun e => by rw [d] at e; cases e⟩
        · rw [if_neg d]
          exact ⟨hg, fun _ => rfl⟩
      · have s0 := (hv (2 * x) (by omega)).2.1
        have s1 := (hv (2 * x + 1) (by omega)).2.1
        rw [f1 _ _ (by omega), f1 _ _ s0, f1 _ _ (by omega), f1 _ _ s1, hD'.1 _ (by omega), hD'.1 _ (by omega), hD'.2 x hx, if_pos e, if_pos e, if_pos e, if_pos e]
        exact hH.2.2 x hx (hs _ (by omega) e)
    refine ⟨(tb9 (2 * c) (fun w => if D1 w = true then at9 H w else 0), tb9 (2 * c) (fun w => if D2 w = true then at9 H w else 0)), ⟨hr D1 h1 (fun w _ d => by rw [d]; rfl), hr D2 h2 (fun w _ d => by rw [d, Bool.or_true])⟩, at9_ext tb9_len hH.1 (fun w hw => ?_)⟩
    rw [f1 _ w hw]
    dsimp only
    rw [f1 _ w hw, f1 _ w hw]
    by_cases d : D1 w = true
    · rw [if_pos d, if_pos d]
    · rw [if_neg d]
      by_cases d2 : D2 w = true
      · rw [if_pos d2]
      · rw [if_neg d2]
        refine ((hH.2.1 w hw).2 ?_).symm
        show (D1 w || D2 w) = false
        rw [show D1 w = false by simpa using d, show D2 w = false by simpa using d2]
        rfl
/-- all parts -/
theorem cl_prod {pr : Nat → Nat} {P : Nat} {f : Nat → Nat} (hv : vn c S) (hg : 0 < g) (hp : ∀ w, w < 2 * c → pr w < P ∧ pr (S.2 w) = pr w) (hx : ∀ x, x < c → pr (2 * x + 1) = pr (2 * x)) (hN : ∀ p, p < P → cnt9 (cl9 g op c S (fun w => decide (pr w = p))) (f p)) : cnt9 (cl9 g op c S (fun _ => true)) (pd9 f P) := by
  have key : ∀ p, p ≤ P → cnt9 (cl9 g op c S (fun w => decide (pr w < p))) (pd9 f p) := by
    intro p
    induction p with
    | zero =>
      intro _
      refine cnt_1 (L0 := tb9 (2 * c) (fun _ => 0)) (fun L => ⟨fun hL => at9_ext hL.1 tb9_len (fun w hw => ?_), fun e => ?_⟩)
      · rw [(hL.2.1 w hw).2 (decide_eq_false (Nat.not_lt_zero _)), tb9_at hw]
      · rw [e]
        refine ⟨tb9_len, fun w hw => ?_, fun x _ h9 => absurd (of_decide_eq_true h9) (Nat.not_lt_zero _)⟩
        rw [tb9_at hw]
        exact ⟨hg, fun _ => rfl⟩
    | succ p ih =>
      intro h9
      have := cl_or (D1 := fun w => decide (pr w < p)) (D2 := fun w => decide (pr w = p)) hv ⟨fun w hw => by dsimp only; rw [(hp w hw).2], fun x hx9 => by dsimp only; rw [hx x hx9]⟩ ⟨fun w hw => by dsimp only; rw [(hp w hw).2], fun x hx9 => by dsimp only; rw [hx x hx9]⟩ (fun w _ a b => by have := of_decide_eq_true a; have := of_decide_eq_true b; omega) (ih (by omega)) (hN p (by omega)) hg
      have eD : ∀ w, (decide (pr w < p) || decide (pr w = p)) = decide (pr w < p + 1) := fun w => by
        rw [← Bool.decide_or]
        exact decide_eq_decide.mpr (by omega)
      exact cnt_cg (fun L => ⟨fun h => cl9_cg (fun w _ => eD w) (fun _ _ _ _ => rfl) h, fun h => cl9_cg (fun w _ => (eD w).symm) (fun _ _ _ _ => rfl) h⟩) this
  exact cnt_cg (fun L => ⟨fun h => cl9_cg (fun w hw => decide_eq_true (hp w hw).1) (fun _ _ _ _ => rfl) h, fun h => cl9_cg (fun w hw => (decide_eq_true (hp w hw).1).symm) (fun _ _ _ _ => rfl) h⟩) (key P (Nat.le_refl _))
end XMD
end
section
/-! 99zzzzzzzzzzzzzzx.xmpe -/
/-! maps: the reference, part by part -/
def vU9 (A : rn_L) (V : Nat → Nat → Nat) (c : Nat) : Prop := ∀ x u, x < c → u < 2 → V x u < A.flatten.length ∧ crs A (V x u) = x ∧ uns A (V x u) = u
def mR9 (A : rn_L) (sg : Nat → Bool) (V : Nat → Nat → Nat) (c m : Nat) (mm : Nat → Nat) (p : Nat) (L : List Nat) : Prop := slM m c (aK9 A A.length) sg (fun x => gA9 A (V x 0)) (fun x => gA9 A (V x 1)) (fun x => gR9 A (V x 1)) (fun x => decide (mm (rn_c A (V x 0)) = p)) L
def mQ9 (A : rn_L) (sg : Nat → Bool) (V : Nat → Nat → Nat) (c m : Nat) (mm : Nat → Nat) (p N : Nat) : Prop := (∃ v, v < A.flatten.length ∧ mm (rn_c A v) = p) ∧ cnt9 (mR9 A sg V c m mm p) N ∨ (∀ v, v < A.flatten.length → mm (rn_c A v) ≠ p) ∧ N = thM m
def mA9 (A : rn_L) (sg : Nat → Bool) (m : Nat) (v : Int32) : Prop := ∃ c V mm P f, okF A.flatten c ∧ vU9 A V c ∧ mk A mm P ∧ (∀ p, p < P → mQ9 A sg V c m mm p (f p)) ∧ v = nI (pd9 f P)
section XME
theorem pd9_cg {f f' : Nat → Nat} : ∀ p, (∀ q, q < p → f q = f' q) → pd9 f p = pd9 f' p
  | 0, _ => rfl
  | p + 1, h => by
    show pd9 f p * f p = pd9 f' p * f' p
    rw [pd9_cg p (fun q hq => h q (by omega)), h p (by omega)]
theorem vU_ex {A : rn_L} {c : Nat} (h : okF A.flatten c) : ∃ V, vU9 A V c := by
  obtain ⟨W, hW⟩ : ∃ W : Nat × Nat → Nat, ∀ q, q.1 < c → q.2 < 2 → W q < A.flatten.length ∧ crs A (W q) = q.1 ∧ uns A (W q) = q.2 := by
    refine Classical.axiomOfChoice (r := fun (q : Nat × Nat) t => q.1 < c → q.2 < 2 → t < A.flatten.length ∧ crs A t = q.1 ∧ uns A t = q.2) (fun q => ?_)
    by_cases h1 : q.1 < c
    · by_cases h2 : q.2 < 2
      · obtain ⟨t, t1, t2, t3⟩ := ok_u h h1 q.2 h2
        exact ⟨t, fun _ _ => ⟨t1, t2, t3⟩⟩
      · exact ⟨0, fun _ h9 => absurd h9 h2⟩
    · exact ⟨0, fun h9 => absurd h9 h1⟩
  exact ⟨fun x u => W (x, u), fun x u hx hu => hW (x, u) hx hu⟩
theorem vU_at {A : rn_L} {c : Nat} {V : Nat → Nat → Nat} (h : okF A.flatten c) (hV : vU9 A V c) {v : Nat} (hv : v < A.flatten.length) : crs A v < c ∧ uns A v < 2 ∧ V (crs A v) (uns A v) = v := by
  obtain ⟨a1, a2⟩ := (h.2 _).mp (vAt_mem hv)
  obtain ⟨b1, b2, b3⟩ := hV (crs A v) (uns A v) a1 a2
  exact ⟨a1, a2, vu_inj h b1 hv b2 b3⟩
theorem vU_mk {A : rn_L} {c P x : Nat} {mm : Nat → Nat} {V : Nat → Nat → Nat} (hV : vU9 A V c) (hk : mk A mm P) (hx : x < c) : mm (rn_c A (V x 1)) = mm (rn_c A (V x 0)) := by
  obtain ⟨a1, a2, a3⟩ := hV x 0 hx (by omega)
  obtain ⟨b1, b2, b3⟩ := hV x 1 hx (by omega)
  refine hk.2.1 _ _ ⟨V x 1, V x 0, ⟨fun e => ?_, vAt A (V x 1), vAt A (V x 0), vAt_of b1, vAt_of a1, b2.trans a2.symm⟩, rfl, rfl⟩
  rw [e, a3] at b3
  omega
theorem nar_b9 (b : Bool) : vp_nar .boolean (bI9 b) = bI9 b := by
  cases b <;> rfl
variable {X : (Nat → Nat → Int32) → Prop} {z : ow_MS} {St : plT}
theorem xq_maps {d k : Int32} (h : gI X z) (hR : relR z St) (hE : epA z) : Te (fun K => qe_X13_maps K d k z) (fun r => (r.2.1 1 = nI 1 ∧ ∀ e, e < 40 → d = nI e → St e = none) ∨ ∃ e A sg, e < 40 ∧ d = nI e ∧ St e = some (A, sg) ∧ (r.2.1 1 = nI 2 ∧ (k < 1 ∨ ¬ k ≤ 4) ∨ (¬ k < 1 ∧ k ≤ 4) ∧ (r.2.1 1 = nI 3 ∧ (14 < A.flatten.length ∨ 4 < A.length) ∨ r.2.1 1 = 0 ∧ A.flatten.length ≤ 14 ∧ A.length ≤ 4 ∧ ∀ m, 1 ≤ m → m ≤ 4 → k = nI m → mA9 A sg m r.1))) := by
  let Q : Int32 × ow_MS → Prop := fun r => (r.2.1 1 = nI 1 ∧ ∀ e, e < 40 → d = nI e → St e = none) ∨ ∃ e A sg, e < 40 ∧ d = nI e ∧ St e = some (A, sg) ∧ (r.2.1 1 = nI 2 ∧ (k < 1 ∨ ¬ k ≤ 4) ∨ (¬ k < 1 ∧ k ≤ 4) ∧ (r.2.1 1 = nI 3 ∧ (14 < A.flatten.length ∨ 4 < A.length) ∨ r.2.1 1 = 0 ∧ A.flatten.length ≤ 14 ∧ A.length ≤ 4 ∧ ∀ m, 1 ≤ m → m ≤ 4 → k = nI m → mA9 A sg m r.1))
  have h1 := gI_1 (c := 0) h
  have hR1 := relR_1 (c := 0) hR
  refine e_X13_maps ?_
  refine u_X13_maps_0 ?_; unfold qm_X13_maps_0
  refine w_wrF (w_hasX hR1 (fun h0 => w_ifT rfl (w_mono (w_failX h1 fr_1) (fun r hr => Or.inl ⟨hr.2.1, h0⟩))) (fun e A sg he hx hs hv hne => w_ifF (by decide) ?_))
  subst hx
  have c1 : (k < 1 ∨ ¬ k ≤ 4) → ∀ {x1 x2 : Int32}, Tt (fun K i => q_X13_maps K i 1 x1 x2 0 0 0 0 0 0 (usF z 1 0)) Q := by
    intro hk x1 x2
    refine u_X13_maps_1 ?_; unfold qm_X13_maps_1
    exact w_mono (w_failX h1 fr_1) (fun r hr => Or.inr ⟨e, A, sg, he, rfl, hs, Or.inl ⟨hr.2.1, hk⟩⟩)
  refine w_if (fun h9 => c1 (Or.inl h9)) (fun h0 => w_if (fun h4 => ?_) (fun h9 => c1 (Or.inr h9)))
  obtain ⟨m, hm1, hm4, rfl⟩ : ∃ m, 1 ≤ m ∧ m ≤ 4 ∧ k = nI m := by
    obtain ⟨a, ha, rfl⟩ := nI_of (x := k) (fun h9 => h0 (by
      rw [Int32.lt_iff_toInt_lt] at h9 ⊢
      exact Int.lt_trans h9 (by decide)))
    refine ⟨a, ?_, (nI_leI (b := 4) ha (by omega)).mp h4, rfl⟩
    rcases Nat.eq_zero_or_pos a with h9 | h9
    · exact absurd (show nI a < 1 by rw [h9]; decide) h0
    · exact h9
  refine w_cs0 (to_open pn1 he hv) (fun z2 ⟨o2, f2⟩ => ?_)
  have g2 : gI X z2 := gI_net pn1 f2 (fun g hg => by omega) h1
  have hl := o2.len
  have hC := o2.2.2.2
  have c2 : (14 < A.flatten.length ∨ 4 < A.length) → ∀ {x1 x2 : Int32}, Tt (fun K i => q_X13_maps K i 2 x1 x2 0 0 0 0 0 0 z2) Q := by
    intro hk x1 x2
    refine u_X13_maps_2 ?_; unfold qm_X13_maps_2
    exact w_mono (w_failX (z0 := z2) g2 fr_rf) (fun r hr => Or.inr ⟨e, A, sg, he, rfl, hs, Or.inr ⟨⟨h0, h4⟩, Or.inl ⟨hr.2.1, hk⟩⟩⟩)
  refine w_rdF o2.1.V (w_lt (a := 14) (by omega) (by omega) (fun h9 => c2 (Or.inl h9)) (fun h14 => w_rdF (lk_C o2.1) (w_le (b := 4) (by omega) (by omega) (fun h44 => ?_) (fun h9 => c2 (Or.inr (by omega))))))
  obtain ⟨c, hok, hc⟩ := o2.2.2.1
  have hV := okF_len hok
  refine w_cs0 (tn_split pn1 (by omega) (by omega) (wkF_ok o2.wk) o2.1) (fun z3 ⟨f3, P, hpt⟩ => ?_)
  obtain ⟨mm, hmk, hmm⟩ := mk_of (by omega) hpt
  have hPl := hpt.2.1
  have o3 : oNet z3 1000 A sg := oNet_fr f3 (fun g hg => by unfold frP at hg; omega) o2
  have e3 : epA z3 := epA_fr f3 (fun g g1 g2 hg => by unfold frP at hg; omega) (epA_fr f2 (fun g g1 g2 hg => by omega) (epA_fr (fr_F (P := fun g => g = 1) rfl) (fun g g1 g2 hg => by omega) hE))
  have t3 : z3.1 1 = 0 := by
    rw [(f3 1 (by unfold frP; omega)).1, (f2 1 (by omega)).1]
    exact po_usF_at
  refine w_cs0 (xp_arcs pn1 o3 hok) (fun z4 ⟨hA4, f4⟩ => ?_)
  have o4 : oNet z4 1000 A sg := oNet_fr f4 (fun g hg => by unfold arcH at hg; omega) o3
  have e4 : epA z4 := epA_fr f4 (fun g g1 g2 hg => by unfold arcH at hg; omega) e3
  have t4 : z4.1 1 = 0 := by rw [(f4 1 (by unfold arcH; omega)).1]; exact t3
  have hP4 : z4.1 1013 = nI P := by rw [(f4 1013 (by unfold arcH; omega)).1]; exact hpt.1
  have hm4' : ∀ t, t < A.length → z4.2.1 1012 t = nI (mm t) := fun t ht => by rw [(f4 1012 (by unfold arcH; omega)).2.1]; exact hmm t ht
  obtain ⟨V, hVU⟩ := vU_ex hok
  have kL := aK9_le (A := A) A.length
  have kU := uN_c hok
  rw [rn_b_len] at kL
  have hX4 : arX z4 c (aK9 A A.length) (fun x => gA9 A (V x 0)) (fun x => gA9 A (V x 1)) (fun x => gR9 A (V x 1)) := by
    intro x hx
    obtain ⟨a1, a2, a3⟩ := hVU x 0 hx (by omega)
    obtain ⟨b1, b2, b3⟩ := hVU x 1 hx (by omega)
    have q1 := (hA4 _ a1).1 a3
    have q2 := (hA4 _ b1).2 (by omega)
    rw [a2] at q1
    rw [b2] at q2
    have lt : ∀ v u, v < A.flatten.length → u ≤ v + 1 → gK9 A (rn_c A v) u < aK9 A A.length := fun v u hv hu => by
      obtain ⟨d1, d2, d3⟩ := rn_c_in A v hv
      exact Nat.lt_of_lt_of_le (gK9_lt (A := A) (k := rn_c A v) (u := u) (by omega)).2 (aK9_mono (A := A) (a := rn_c A v + 1) A.length (by omega))
    exact ⟨⟨q1, lt _ _ a1 (by omega)⟩, ⟨q2.1, lt _ _ b1 (by omega)⟩, q2.2, lt _ _ b1 (by omega)⟩
  let F : Nat → Prop := fun g => 77 ≤ g ∧ g ≤ 80
  have xF : ∀ {y : ow_MS} {pt : Nat → Bool}, fr F z4 y → pY9 y c pt → mcX y 1000 m A sg c (aK9 A A.length) (fun x => gA9 A (V x 0)) (fun x => gA9 A (V x 1)) (fun x => gR9 A (V x 1)) pt := fun {y} {pt} hf hp => by
    refine ⟨oNet_fr hf (fun g hg => by have hg : 77 ≤ g ∧ g ≤ 80 := hg; omega) o4, fun x hx => ?_, (fun o x ho hx hl => ?_), hp⟩
    · rw [(hf 61 (by show ¬ (77 ≤ 61 ∧ 61 ≤ 80); omega)).2.1, (hf 62 (by show ¬ (77 ≤ 62 ∧ 62 ≤ 80); omega)).2.1, (hf 63 (by show ¬ (77 ≤ 63 ∧ 63 ≤ 80); omega)).2.1]
      exact hX4 x hx
    · rw [(hf 75 (by show ¬ (77 ≤ 75 ∧ 75 ≤ 80); omega)).2.1, (hf 76 (by show ¬ (77 ≤ 76 ∧ 76 ≤ 80); omega)).2.1]
      exact (e4.1 m hm1 hm4).2 o x ho hx hl
  have f73 : ∀ {y : ow_MS}, fr F z4 y → y.2.1 73 m = nI (thM m) := fun hf => by
    rw [(hf 73 (by show ¬ (77 ≤ 73 ∧ 73 ≤ 80); omega)).2.1]
    exact e4.2 m hm4
  have oF : ∀ {y : ow_MS}, fr F z4 y → oNet y 1000 A sg := fun hf => oNet_fr hf (fun g hg => by have hg : 77 ≤ g ∧ g ≤ 80 := hg; omega) o4
  have c3 : ∀ (d p : Nat) (f : Nat → Nat) (x3 : Int32) (y : ow_MS), p + d = P → fr F z4 y → x3 = nI (pd9 f p) → (∀ q, q < p → mQ9 A sg V c m mm q (f q)) → Tt (fun K i => q_X13_maps K i 3 (nI e) (nI m) x3 (nI p) 0 0 0 0 y) Q := by
    intro d
    induction d with
    | zero =>
      intro p f x3 y hp hf hx3 hq
      have hp : p = P := by omega
      subst hp
      refine u_X13_maps_3 ?_; unfold qm_X13_maps_3
      refine w_rdF (x := nI p) (by rw [(hf (1000 + 13) (by show ¬ (77 ≤ 1013 ∧ 1013 ≤ 80); omega)).1]; exact hP4) (w_leT (by omega) (by omega) (w_some (Or.inr ⟨e, A, sg, he, rfl, hs, Or.inr ⟨⟨h0, h4⟩, Or.inr ⟨?_, by omega, h44, fun m' q1 q2 q3 => ?_⟩⟩⟩)))
      · show y.1 1 = 0
        rw [(hf 1 (by show ¬ (77 ≤ 1 ∧ 1 ≤ 80); omega)).1]
        exact t4
      · have em := nI_inj9 (a := m) (b := m') (by omega) (by omega) q3
        rw [← em]
        exact ⟨c, V, mm, p, f, hok, hVU, hmk, hq, hx3⟩
    | succ d ih =>
      intro p f x3 y hp hf hx3 hq
      have c7 : ∀ (x5 x6 : Int32) (N : Nat) (y : ow_MS), fr F z4 y → mQ9 A sg V c m mm p N → Tt (fun K i => q_X13_maps K i 7 (nI e) (nI m) x3 (nI p) x5 x6 (nI N) x3 y) Q := by
        intro x5 x6 N y hf hN
        refine u_X13_maps_7 ?_; unfold qm_X13_maps_7
        rw [nI_1]
        refine ih (p + 1) (fun q => if q = p then N else f q) _ y (by omega) hf ?_ (fun q hq9 => ?_)
        · rw [hx3, pk_mul]
          show nI (pd9 f p * N) = nI (pd9 (fun q => if q = p then N else f q) p * (if p = p then N else f p))
          rw [if_pos rfl, pd9_cg p (f' := fun q => if q = p then N else f q) (fun q hq9 => (if_neg (by omega)).symm)]
        · by_cases eq : q = p
          · rw [eq, if_pos rfl]
            exact hN
          · rw [if_neg eq]
            exact hq q (by omega)
      have c5 : ∀ (d v : Nat) (b : Bool) (y : ow_MS), v + d = A.flatten.length → fr F z4 y → (∀ b, b < 40 → y.2.1 77 b = -1) → (b = true ↔ ∃ u, u < v ∧ mm (rn_c A u) = p) → (∀ u, u < v → y.2.1 80 (crs A u) = bI9 (decide (mm (rn_c A u) = p))) → Tt (fun K i => q_X13_maps K i 5 (nI e) (nI m) x3 (nI p) (bI9 b) (nI v) 0 0 y) Q := by
        intro d
        induction d with
        | zero =>
          intro v b y hv hf h77 hb h80
          have hv : v = A.flatten.length := by omega
          subst hv
          refine u_X13_maps_5 ?_; unfold qm_X13_maps_5
          have hf2 : fr F z4 (usF y 79 0) := fr_F2 hf (by show 77 ≤ 79 ∧ 79 ≤ 80; omega)
          refine w_rdF (oF hf).1.V (w_leT (by omega) (by omega) (w_wrF ?_))
          cases b
          · refine w_ifT rfl (w_rdI ml73 rfl (by omega) (f73 hf2) (c7 _ _ (thM m) _ hf2 (Or.inr ⟨fun u hu e9 => ?_, rfl⟩)))
            exact absurd (hb.mpr ⟨u, hu, e9⟩) (by decide)
          · refine w_ifF (by decide) ?_
            have hI0 : mgI (usF y 79 0) (aK9 A A.length) m [] := ⟨po_usF_at, List.nodup_nil, fun b hb => absurd hb List.not_mem_nil, fun i b hb => (by simp at hb), fun b hb => Or.inl ⟨List.not_mem_nil, h77 b hb⟩⟩
            have h80' : pY9 (usF y 79 0) c (fun x => decide (mm (rn_c A (V x 0)) = p)) := fun x hx => by
              obtain ⟨a1, a2, a3⟩ := hVU x 0 hx (by omega)
              have := h80 _ a1
              rw [a2] at this
              exact this
            refine w_cs1 (xp_mapsOf pn1 hm1 hm4 hV (by omega) (by omega) (aK9 A A.length - ([] : List Nat).length) 42 [] _ (Nat.le_refl _) (by show aK9 A A.length - 0 < 42; omega) hI0 (xF hf2 h80') (f73 hf2) (fun b hb => absurd hb List.not_mem_nil)) ?_
            rintro v1 y1 ⟨⟨_, f5⟩, -, N, eN, hN⟩
            have eN : v1 = nI N := eN
            have f5 : fr gvH (usF y 79 0) y1 := f5
            rw [eN]
            refine c7 _ _ N y1 (fr_tr hf2 (fr_mono (fun g hg => by unfold gvH at hg; show 77 ≤ g ∧ g ≤ 80; omega) f5)) (Or.inl ⟨hb.mp rfl, ?_⟩)
            exact cnt_cg (fun L => ⟨fun h9 => h9.1, fun h9 => ⟨h9, fun b q hb => absurd hb List.not_mem_nil⟩⟩) hN
        | succ d ih5 =>
          intro v b y hv hf h77 hb h80
          have hvl : v < A.flatten.length := by omega
          have hO := oF hf
          have hcx := (hO.cx hvl).1
          have hcc := (rn_c_in A v hvl).1
          have c6 : ∀ (t : Bool), t = decide (mm (rn_c A v) = p) → Tt (fun K i => q_X13_maps K i 6 (nI e) (nI m) x3 (nI p) (bI9 b) (nI v) (bI9 t) 0 y) Q := by
            intro t ht
            refine u_X13_maps_6 ?_; unfold qm_X13_maps_6
            rw [nI_1, show bI9 b ||| bI9 t = bI9 (b || t) from by cases b <;> cases t <;> rfl]
            refine w_rdI (pl4 pn1) rfl (by omega) (lk_cu hO.1 hvl).1 (w_wrZ ml80 rfl (by omega) (ih5 (v + 1) _ _ (by omega) (fr_I2 hf (by show 77 ≤ 80 ∧ 80 ≤ 80; omega)) (fun b hb => rd_ot (by omega) (h77 b hb)) ?_ (fun u hu => ?_)))
            · rw [Bool.or_eq_true, hb, ht, decide_eq_true_eq]
              constructor
              · rintro (⟨u, u1, u2⟩ | h9)
                · exact ⟨u, by omega, u2⟩
                · exact ⟨v, by omega, h9⟩
              · rintro ⟨u, u1, u2⟩
                by_cases euv : u = v
                · rw [euv] at u2
                  exact Or.inr u2
                · exact Or.inl ⟨u, by omega, u2⟩
            · rw [nar_b9]
              by_cases ec : crs A u = crs A v
              · rw [ec, po_usI_at, ht]
                obtain ⟨a1, a2, a3⟩ := vU_at hok hVU (v := u) (by omega)
                obtain ⟨b1, b2, b3⟩ := vU_at hok hVU hvl
                have same : ∀ w, w < A.flatten.length → crs A w = crs A v → mm (rn_c A w) = mm (rn_c A (V (crs A v) 0)) := fun w hw ew => by
                  obtain ⟨d1, d2, d3⟩ := vU_at hok hVU hw
                  rw [ew] at d3
                  have := vU_mk hVU hmk b1
                  rcases (show uns A w = 0 ∨ uns A w = 1 by omega) with e9 | e9
                  · rw [e9] at d3
                    rw [d3]
                  · rw [e9] at d3
                    rw [← this, d3]
                rw [same u (by omega) ec, same v hvl rfl]
              · rw [po_usI_ne ec]
                by_cases euv : u = v
                · rw [euv] at ec
                  exact absurd rfl ec
                · exact h80 u (by omega)
          have hmv := hmk.1 _ hcc
          refine u_X13_maps_5 ?_; unfold qm_X13_maps_5
          refine w_rdF hO.1.V (w_leF (by omega) hvl (w_rdI (pl8 pn1) rfl (by omega) (lk_c hO.1 hvl) (w_rdI (pl12 pn1) rfl (by omega) ((congrFun (hf 1012 (by show ¬ (77 ≤ 1012 ∧ 1012 ≤ 80); omega)).2.1 _).trans (hm4' _ hcc)) (w_eqN (by omega) (by omega) (fun h9 => c6 true (decide_eq_true h9).symm) (fun h9 => c6 false (decide_eq_false h9).symm)))))
      have c4 : ∀ (d b : Nat) (y : ow_MS), b + d = 40 → fr F z4 y → (∀ t, t < b → y.2.1 77 t = -1) → Tt (fun K i => q_X13_maps K i 4 (nI e) (nI m) x3 (nI p) 0 (nI b) 0 0 y) Q := by
        intro d
        induction d with
        | zero =>
          intro b y hb hf h77
          refine u_X13_maps_4 ?_; unfold qm_X13_maps_4
          refine w_leT (a := 40) (by omega) (by omega) (c5 A.flatten.length 0 false y (by omega) hf (fun t ht => h77 t (by omega)) ⟨fun h9 => (by cases h9), fun ⟨u, hu, _⟩ => absurd hu (Nat.not_lt_zero _)⟩ (fun u hu => absurd hu (Nat.not_lt_zero _)))
        | succ d ih4 =>
          intro b y hb hf h77
          refine u_X13_maps_4 ?_; unfold qm_X13_maps_4
          rw [nI_1]
          refine w_leF (a := 40) (by omega) (by omega) (w_wrI ml77 rfl (by omega) (ih4 (b + 1) _ (by omega) (fr_I2 hf (by show 77 ≤ 77 ∧ 77 ≤ 80; omega)) (fun t ht => ?_)))
          by_cases htb : t = b
          · rw [htb, po_usI_at]
          · exact rd_ne htb (h77 t (by omega))
      refine u_X13_maps_3 ?_; unfold qm_X13_maps_3
      exact w_rdF (x := nI P) (by rw [(hf (1000 + 13) (by show ¬ (77 ≤ 1013 ∧ 1013 ≤ 80); omega)).1]; exact hP4) (w_leF (by omega) (by omega) (c4 40 0 y (by omega) hf (fun t ht => absurd ht (by omega))))
  exact c3 P 0 (fun _ => 0) 1 z4 (by omega) fr_rf rfl (fun q hq => absurd hq (Nat.not_lt_zero _))
end XME
end
section
/-! 99zzzzzzzzzzzzzzy.xmpf -/
/-! maps: the number that the reference answers, of the net's visits -/
section XMF
variable {A : rn_L} {sg : Nat → Bool} {c ci : Nat} {S : ow_NP} {G : Nat → Int32} {V : Nat → Nat → Nat}
def vW9 (V : Nat → Nat → Nat) (w : Nat) : Nat := V (w / 2) (w % 2)
theorem vW_0 (hV : vU9 A V c) {w : Nat} (hw : w < 2 * c) : vW9 V w < A.flatten.length ∧ crs A (vW9 V w) = w / 2 ∧ uns A (vW9 V w) = w % 2 := hV (w / 2) (w % 2) (by omega) (by omega)
theorem vW_e {x : Nat} : vW9 V (2 * x) = V x 0 := by
  unfold vW9
  rw [show 2 * x / 2 = x by omega, show 2 * x % 2 = 0 by omega]
theorem vW_o {x : Nat} : vW9 V (2 * x + 1) = V x 1 := by
  unfold vW9
  rw [show (2 * x + 1) / 2 = x by omega, show (2 * x + 1) % 2 = 1 by omega]
theorem vW_l (hV : vU9 A V c) {w : Nat} (hw : w < 2 * c) : lbv A (fun x => x) (vW9 V w) = w := by
  obtain ⟨a1, a2, a3⟩ := vW_0 hV hw
  show 2 * crs A (vW9 V w) + uns A (vW9 V w) = w
  rw [a2, a3]
  omega
theorem vW_nx (hi : isoN A sg (fun x => x) (c, ci, S, G)) (hv : vn c S) (hV : vU9 A V c) {w : Nat} (hw : w < 2 * c) : rn_nx A (vW9 V (S.2 w)) = vW9 V w := by
  obtain ⟨-, b2, -, b4⟩ := hv w hw
  obtain ⟨a1, -, -⟩ := vW_0 hV b2
  obtain ⟨c1, -, -⟩ := vW_0 hV hw
  have h1 : S.1 (lbv A (fun x => x) (vW9 V (S.2 w))) = lbv A (fun x => x) (rn_nx A (vW9 V (S.2 w))) := hi.2.2.2.2.2.1 _ a1
  rw [vW_l hV b2, b4] at h1
  exact lbv_inj hi (rn_nx_lt a1) c1 (h1.symm.trans (vW_l hV hw).symm)
theorem vW_lb9 (hi : isoN A sg (fun x => x) (c, ci, S, G)) (hv : vn c S) (hok : okF A.flatten c) (hV : vU9 A V c) : lb9 (aK9 A A.length) c S (fun w => gR9 A (vW9 V w)) := by
  have hl : A.flatten.length = 2 * c := okF_len hok
  refine ⟨fun w hw => ?_, fun x hx => ?_, fun h hh v w hv1 hw1 e => ?_⟩
  · obtain ⟨a1, -, -⟩ := vW_0 hV hw
    obtain ⟨d1, d2, d3⟩ := rn_c_in A _ a1
    exact Nat.lt_of_lt_of_le (gK9_lt (A := A) (k := rn_c A (vW9 V w)) (u := vW9 V w + 1) (by omega)).2 (aK9_mono (A := A) (a := rn_c A (vW9 V w) + 1) A.length (by omega))
  · dsimp only
    obtain ⟨a1, a2, a3⟩ := vW_0 hV (show 2 * x < 2 * c by omega)
    have b2 := (hv (2 * x) (by omega)).2.1
    rw [gR9_ov (by rw [a3]; omega), ← vW_nx hi hv hV (show 2 * x < 2 * c by omega)]
    exact gA9_nx (vW_0 hV b2).1
  · have key := gR9_cn (A := A) (h := fun v => h (lbv A (fun x => x) v)) (fun u hu e0 => ?_) (vW_0 hV hv1).1 (vW_0 hV hw1).1 e
    · rw [vW_l hV hv1, vW_l hV hw1] at key
      exact key
    · have h1 : S.1 (lbv A (fun x => x) u) = lbv A (fun x => x) (rn_nx A u) := hi.2.2.2.2.2.1 u hu
      have l1 : lbv A (fun x => x) u < 2 * c := lbv_lt hi hu
      have e1 : lbv A (fun x => x) (rn_nx A u) = 2 * crs A (rn_nx A u) := by
        show 2 * crs A (rn_nx A u) + uns A (rn_nx A u) = _
        rw [e0]
        rfl
      have l2 : lbv A (fun x => x) (rn_nx A u) < 2 * c := lbv_lt hi (rn_nx_lt hu)
      have := hh (crs A (rn_nx A u)) (by omega)
      rw [← e1, ← h1, (hv _ l1).2.2.1] at this
      rw [← h1]
      exact this
theorem at9_some {L : List Nat} {b : Nat} (hb : b < L.length) : L[b]? = some (at9 L b) := by
  unfold at9
  rw [List.getElem?_eq_getElem hb]
  rfl
theorem sl_ar {m p P : Nat} {mm : Nat → Nat} (hi : isoN A sg (fun x => x) (c, ci, S, G)) (hv : vn c S) (hok : okF A.flatten c) (hV : vU9 A V c) (hk : mk A mm P) (L : List Nat) : mR9 A sg V c m mm p L ↔ ar9 (thM m) (fun x o i => opM m (sg x) o i) (aK9 A A.length) c S (fun w => decide (mm (rn_c A (vW9 V w)) = p)) (fun w => gR9 A (vW9 V w)) L := by
  have hlb := vW_lb9 hi hv hok hV
  have e1 : ∀ x, x < c → gA9 A (V x 0) = gR9 A (vW9 V (2 * x)) := fun x hx => by
    rw [vW_e, gR9_ov (hV x 0 hx (by omega)).2.2]
  have e2 : ∀ x, x < c → gA9 A (V x 1) = gR9 A (vW9 V (S.2 (2 * x + 1))) := fun x hx => by
    have b2 := (hv (2 * x + 1) (by omega)).2.1
    rw [← vW_o (V := V) (x := x), ← vW_nx hi hv hV (show 2 * x + 1 < 2 * c by omega)]
    exact gA9_nx (vW_0 hV b2).1
  have e3 : ∀ x, gR9 A (V x 1) = gR9 A (vW9 V (2 * x + 1)) := fun x => by rw [vW_o]
  have d1 : ∀ x, x < c → mm (rn_c A (vW9 V (2 * x + 1))) = mm (rn_c A (vW9 V (2 * x))) := fun x hx => by
    rw [vW_o, vW_e]
    exact vU_mk hV hk hx
  have d2 : ∀ w, w < 2 * c → mm (rn_c A (vW9 V (S.2 w))) = mm (rn_c A (vW9 V w)) := fun w hw => by
    rw [← vW_nx hi hv hV hw, c_nx (vW_0 hV (hv w hw).2.1).1]
  have us : ∀ b, usP c (fun x => gA9 A (V x 0)) (fun x => gA9 A (V x 1)) (fun x => gR9 A (V x 1)) (fun x => decide (mm (rn_c A (V x 0)) = p)) b ↔ us9 c (fun w => decide (mm (rn_c A (vW9 V w)) = p)) (fun w => gR9 A (vW9 V w)) b := by
    intro b
    constructor
    · rintro ⟨x, hx, hp, hb⟩
      have hp : mm (rn_c A (V x 0)) = p := of_decide_eq_true hp
      rw [← vW_e (V := V) (x := x)] at hp
      rcases hb with hb | hb | hb
      · exact ⟨2 * x, by omega, decide_eq_true hp, (e1 x hx).symm.trans hb.symm⟩
      · exact ⟨S.2 (2 * x + 1), (hv (2 * x + 1) (by omega)).2.1, decide_eq_true ((d2 _ (by omega)).trans ((d1 x hx).trans hp)), (e2 x hx).symm.trans hb.symm⟩
      · exact ⟨2 * x + 1, by omega, decide_eq_true ((d1 x hx).trans hp), (e3 x).symm.trans hb.symm⟩
    · rintro ⟨w, hw, hp, hb⟩
      have hp : mm (rn_c A (vW9 V w)) = p := of_decide_eq_true hp
      have hb : gR9 A (vW9 V w) = b := hb
      rcases (show w = 2 * (w / 2) ∨ w = 2 * (w / 2) + 1 by omega) with e | e
      · rw [e] at hp hb
        refine ⟨w / 2, by omega, decide_eq_true ?_, Or.inl ?_⟩
        · rw [← vW_e (V := V) (x := w / 2)]
          exact hp
        · exact hb.symm.trans (e1 _ (by omega)).symm
      · rw [e] at hp hb
        refine ⟨w / 2, by omega, decide_eq_true ?_, Or.inr (Or.inr ?_)⟩
        · rw [← vW_e (V := V) (x := w / 2), ← d1 _ (by omega)]
          exact hp
        · exact hb.symm.trans (e3 _).symm
  constructor
  · rintro ⟨h1, h2, h3⟩
    refine ⟨h1, fun b hb => ?_, fun x hx hp => ?_⟩
    · have := h2 b _ (at9_some (by omega))
      exact ⟨this.1, fun h9 => this.2 (fun h8 => h9 ((us b).mp h8))⟩
    · have hp : mm (rn_c A (vW9 V (2 * x))) = p := of_decide_eq_true hp
      rw [vW_e] at hp
      have l1 := hlb.1 (2 * x) (by omega)
      have l2 := hlb.1 (S.2 (2 * x + 1)) (hv (2 * x + 1) (by omega)).2.1
      have l3 := hlb.1 (2 * x + 1) (by omega)
      dsimp only at l1 l2 l3 ⊢
      refine h3 x hx (decide_eq_true hp) _ _ _ ?_ ?_ ?_
      · dsimp only
        rw [e1 x hx]
        exact at9_some (by omega)
      · dsimp only
        rw [e2 x hx]
        exact at9_some (by omega)
      · dsimp only
        rw [e3 x]
        exact at9_some (by omega)
  · rintro ⟨h1, h2, h3⟩
    refine ⟨h1, fun b q hb => ?_, fun x hx hp o i j ho hi9 hj => ?_⟩
    · have hl := (List.getElem?_eq_some_iff.mp hb).1
      have eb := Option.some.inj ((at9_some hl).symm.trans hb)
      have := h2 b (by omega)
      rw [eb] at this
      exact ⟨this.1, fun h9 => this.2 (fun h8 => h9 ((us b).mpr h8))⟩
    · have hp : mm (rn_c A (V x 0)) = p := of_decide_eq_true hp
      have k3 := h3 x hx (decide_eq_true (by rw [vW_e]; exact hp))
      dsimp only at k3 ho hi9 hj
      rw [e1 x hx] at ho
      rw [e2 x hx] at hi9
      rw [e3 x] at hj
      have f1 := Option.some.inj ((at9_some (List.getElem?_eq_some_iff.mp ho).1).symm.trans ho)
      have f2 := Option.some.inj ((at9_some (List.getElem?_eq_some_iff.mp hi9).1).symm.trans hi9)
      have f3 := Option.some.inj ((at9_some (List.getElem?_eq_some_iff.mp hj).1).symm.trans hj)
      rw [f1, f2, f3] at k3
      exact k3
theorem thM_pos (m : Nat) : 0 < thM m := by
  unfold thM
  split
  · decide
  · split
    · decide
    · split <;> decide
/-- what the reference answers: all colourings, and a factor for each circle -/
theorem mA_cl {m : Nat} {v : Int32} (hi : isoN A sg (fun x => x) (c, ci, S, G)) (hv : vn c S) (h : mA9 A sg m v) : ∃ N, cnt9 (cl9 (thM m) (fun x o i => opM m (sg x) o i) c S (fun _ => true)) N ∧ v = nI (N * thM m ^ cirs A) := by
  obtain ⟨c', V, mm, P, f, hok, hV, hk, hq, hx⟩ := h
  have ec : c' = c := by
    have h1 := okF_len hok
    have h2 : A.flatten.length = 2 * c := hi.2.1
    omega
  subst ec
  have pw : ∀ w, w < 2 * c' → mm (rn_c A (vW9 V w)) < P := fun w hw => hk.1 _ (rn_c_in A _ (vW_0 hV hw).1).1
  have d1 : ∀ x, x < c' → mm (rn_c A (vW9 V (2 * x + 1))) = mm (rn_c A (vW9 V (2 * x))) := fun x hx => by
    rw [vW_o, vW_e]
    exact vU_mk hV hk hx
  have d2 : ∀ w, w < 2 * c' → mm (rn_c A (vW9 V (S.2 w))) = mm (rn_c A (vW9 V w)) := fun w hw => by
    rw [← vW_nx hi hv hV hw, c_nx (vW_0 hV (hv w hw).2.1).1]
  have nv : ∀ p, pvl A mm p A.flatten.length = [] ↔ ∀ v, v < A.flatten.length → mm (rn_c A v) ≠ p := fun p => by
    unfold pvl
    rw [List.filter_eq_nil_iff]
    constructor
    · intro h9 v hv9 e
      exact h9 v (List.mem_range.mpr hv9) (decide_eq_true e)
    · intro h9 v hv9 e
      exact h9 v (List.mem_range.mp hv9) (of_decide_eq_true e)
  refine ⟨pd9 (fun p => if pvl A mm p A.flatten.length = [] then 1 else f p) P, cl_prod (pr := fun w => mm (rn_c A (vW9 V w))) hv (thM_pos m) (fun w hw => ⟨pw w hw, d2 w hw⟩) d1 (fun p hp => ?_), ?_⟩
  · by_cases e : pvl A mm p A.flatten.length = []
    · rw [if_pos e]
      have e' := (nv p).mp e
      refine cnt_1 (L0 := tb9 (2 * c') (fun _ => 0)) (fun L => ⟨fun hL => at9_ext hL.1 tb9_len (fun w hw => ?_), fun eL => ?_⟩)
      · rw [(hL.2.1 w hw).2 (decide_eq_false (e' _ (vW_0 hV hw).1)), tb9_at hw]
      · rw [eL]
        refine ⟨tb9_len, fun w hw => ?_, fun x hx9 h9 => absurd (of_decide_eq_true h9) (e' _ (vW_0 hV (by omega)).1)⟩
        rw [tb9_at hw]
        exact ⟨thM_pos m, fun _ => rfl⟩
    · rw [if_neg e]
      rcases hq p hp with ⟨-, hN⟩ | ⟨h9, -⟩
      · exact ar_cl hv ⟨fun w hw => by dsimp only; rw [d2 w hw], fun x hx9 => by dsimp only; rw [d1 x hx9]⟩ (vW_lb9 hi hv hok hV) (thM_pos m) (cnt_cg (fun L => sl_ar hi hv hok hV hk L) hN)
      · exact absurd ((nv p).mpr h9) e
  · rw [hx, ← cir_eq hk]
    have key : ∀ p, p ≤ P → pd9 f p = pd9 (fun p => if pvl A mm p A.flatten.length = [] then 1 else f p) p * thM m ^ cir A mm p := by
      intro p
      induction p with
      | zero => exact fun _ => rfl
      | succ p ih =>
        intro hp
        show pd9 f p * f p = (pd9 _ p * (if pvl A mm p A.flatten.length = [] then 1 else f p)) * thM m ^ (cir A mm p + if pvl A mm p A.flatten.length = [] then 1 else 0)
        rw [ih (by omega)]
        by_cases e : pvl A mm p A.flatten.length = []
        · rw [if_pos e, if_pos e, Nat.mul_one, Nat.pow_succ, Nat.mul_assoc]
          congr 1
          rcases hq p (by omega) with ⟨⟨v, v1, v2⟩, -⟩ | ⟨-, h9⟩
          · exact absurd v2 ((nv p).mp e v v1)
          · rw [h9]
        · rw [if_neg e, if_neg e, Nat.add_zero, Nat.mul_assoc, Nat.mul_assoc, Nat.mul_comm (f p)]
    rw [key P (Nat.le_refl _)]
end XMF
end
section
/-! 99zzzzzzzzzzzzzzz.xmpg -/
/-! maps: the class's arcs; classes of permutations -/
/-- alike along visits over -/
def hC9 (S : ow_NP) (c : Nat) (h : Nat → Nat) : Prop := ∀ v, v < 2 * c → S.1 v % 2 = 0 → h (S.1 v) = h v
def hI9 (S : ow_NP) (c : Nat) (f : Nat → Option Nat) : Prop := ∀ h : Nat → Nat, hC9 S c h → ∀ v l, v < 2 * c → f v = some l → l < c → h v = h (2 * l + 1)
def hA9 (S : ow_NP) (c : Nat) (a : Nat → Nat) : Prop := ∀ h : Nat → Nat, hC9 S c h → ∀ v, v < 2 * c → a v < c → h v = h (2 * a v + 1)
section XMG
variable {vl : Nat → Nat} {y : ow_MS} {S : ow_NP} {G : Nat → Int32} {c ci : Nat} {q : Nat → Nat}
theorem hI9_ge {f : Nat → Option Nat} {v l : Nat} (hl : c ≤ l) (h : hI9 S c f) : hI9 S c (stO f v l) := fun g hg w k hw e hk => by
  by_cases ew : w = v
  · rw [ew, stO_at] at e
    have := Option.some.inj e
    omega
  · rw [stO_ne ew] at e
    exact h g hg w k hw e hk
theorem hI9_0 {f : Nat → Option Nat} {k : Nat} (h : hI9 S c f) : hI9 S c (stO f (2 * k + 1) k) := fun g hg w l hw e hk => by
  by_cases ew : w = 2 * k + 1
  · rw [ew, stO_at] at e
    rw [ew, ← Option.some.inj e]
  · rw [stO_ne ew] at e
    exact h g hg w l hw e hk
theorem hI9_s {f : Nat → Option Nat} {k v : Nat} (hv : vn c S) (hvc : v < 2 * c) (h2 : v % 2 = 0) (hp : f (S.2 v) = some k) (h : hI9 S c f) : hI9 S c (stO f v k) := fun g hg w l hw e hk => by
  by_cases ew : w = v
  · rw [ew, stO_at] at e
    have el := Option.some.inj e
    obtain ⟨-, b2, -, b4⟩ := hv v hvc
    have h1 := hg (S.2 v) b2 (by rw [b4]; exact h2)
    rw [b4] at h1
    rw [ew, h1, ← el]
    exact h g hg (S.2 v) k b2 hp (by omega)
  · rw [stO_ne ew] at e
    exact h g hg w l hw e hk
theorem xc_markArcs {h m : Nat} {R : List Nat} (hh : nH h) (hy : cAt y h (c, ci, S, G)) (hv : vn c S) (hc : c ≤ 12) (hci : ci ≤ 6) (hq : ∀ v, v < 2 * c → q (S.1 v) = q v) (hr : ∀ v w, v < 2 * c → w < 2 * c → q v = q w → ∃ i, it S.1 i v = w) (hR : R.length ≤ m) (hR2 : ∀ v, v < 2 * c → q v ∈ R) (hm : m ≤ 6) : Te (fun K => ce_X0_markArcs vl K 41000 h y) (fun y1 => (∃ a n, arcS y1 S c ci q a n ∧ n ≤ c + m ∧ c ≤ n ∧ hA9 S c a) ∧ fr arP y y1) := by
  let Q : ow_MS → Prop := fun y1 => (∃ a n, arcS y1 S c ci q a n ∧ n ≤ c + m ∧ c ≤ n ∧ hA9 S c a) ∧ fr arP y y1
  have h4 : 4000 ≤ h ∧ h ≤ 44000 := nH_all (P := fun h => 4000 ≤ h ∧ h ≤ 44000) (by decide) hh
  have h41 : ¬ (arP (h + 1) ∨ arP (h + 2) ∨ arP (h + 3) ∨ arP (h + 8) ∨ arP (h + 9)) := by
    have key : ∀ a, a ∈ nHL → a ≠ 41000 ∧ a % 1000 = 0 := by decide
    have := key h hh
    unfold arP
    omega
  have hA : ∀ z, fr arP y z → cAt z h (c, ci, S, G) := fun z hf => cAt_fr hf (fun g hg h9 => by unfold cP at hg; unfold arP at h9 h41; omega) hy
  let J : ow_MS → (Nat → Option Nat) → Nat → Prop := fun z f n => (∀ v, v < 24 → z.2.1 41001 v = oM (f v)) ∧ z.1 41002 = nI n ∧ fr arP y z ∧ hI9 S c f
  have Jset : ∀ z f n v l, J z f n → l = n → hI9 S c (stO f v l) → J (usI z 41001 v (nI l)) (stO f v l) n := by
    rintro z f n v l ⟨j1, j2, j3, j4⟩ rfl j5
    refine ⟨fun w hw => ?_, j2, fr_I2 j3 (Or.inl rfl), j5⟩
    by_cases e : w = v
    · rw [e, po_usI_at, stO_at]
      rfl
    · rw [stO_ne e]
      exact rd_ne e (j1 w hw)
  -- the last: circles come
  have fin : ∀ z f U s, ar2 S c q s U f → 2 * c ≤ s → J z f (c + U.length) → Tt (fun K k => c_X0_markArcs vl K k 1 (nI (2 * c)) (nI 0 + -1) 0 0 0 41000 h z) Q := by
    rintro z f U s ⟨a1, a2, a3, a4, ⟨u1, u2, u3, u4⟩, a6⟩ hs ⟨j1, j2, j3, j4⟩
    have hU : U.length ≤ m := Nat.le_trans (nodup_le U R u1 (fun r hr2 => by
      obtain ⟨v, v1, v2⟩ := u2 r hr2
      rw [← v2]
      exact hR2 v v1)) hR
    have all : ∀ v, v < 2 * c → ∃ l, f v = some l := by
      intro v hv2
      rcases Nat.mod_two_eq_zero_or_one v with h9 | h9
      · cases hf : f v with
        | none => exact absurd hf (a6 v hv2 (by omega) h9)
        | some l => exact ⟨l, rfl⟩
      · have := a1 (v / 2) (by omega)
        rw [show 2 * (v / 2) + 1 = v by omega] at this
        exact ⟨_, this⟩
    refine u_X0_markArcs_1 ?_; unfold cm_X0_markArcs_1
    refine w_ifT (by decide) (w_rdF j2 (w_rdF (hA z j3).2.1 (w_wrF (w_some ⟨⟨fun v => (f v).getD 0, c + U.length, ⟨fun v hv2 => ?_, fun x hx => ?_, fun v hv2 he => ?_, fun v w hv2 hw hl e => ?_, ?_⟩, by omega, by omega, fun h hh v hv2 hl => ?_⟩, fr_F2 j3 (Or.inr rfl)⟩))))
    · obtain ⟨l, hl⟩ := all v hv2
      refine ⟨(j1 v (by omega)).trans ?_, ?_⟩
      · dsimp only
        rw [hl]
        rfl
      · dsimp only
        rw [hl]
        exact (a2 v l hv2 hl).1
    · dsimp only
      rw [a1 x hx]
      rfl
    · obtain ⟨l, hl⟩ := all v hv2
      dsimp only
      rw [hl, (a2 v l hv2 hl).2.2 he]
    · obtain ⟨l, e1⟩ := all v hv2
      obtain ⟨l', e2⟩ := all w hw
      dsimp only at hl e
      rw [e1] at hl e
      rw [e2] at e
      have e : l = l' := e
      subst e
      have q1 := u3 v l hv2 e1 hl
      have q2 := u3 w l hw e2 hl
      rw [q1] at q2
      injection q2
    · rw [po_usF_at, nI_add]
    · obtain ⟨l, e1⟩ := all v hv2
      dsimp only at hl ⊢
      rw [e1] at hl ⊢
      exact j4 h hh v l hv2 e1 hl
  -- the even visits
  have p2 : ∀ (d s : Nat) (U : List Nat) (z : ow_MS) (f : Nat → Option Nat), s + 2 * d = 2 * c + 2 → s % 2 = 0 → ar2 S c q s U f → J z f (c + U.length) → Tt (fun K k => c_X0_markArcs vl K k 2 (nI (2 * c)) (nI 0) (nI s) 0 0 41000 h z) Q := by
    intro d
    induction d with
    | zero =>
      intro s U z f hs he ha hJ
      refine u_X0_markArcs_2 ?_; unfold cm_X0_markArcs_2
      exact w_leT (by omega) (by omega) (fin z f U s ha (by omega) hJ)
    | succ d ih =>
      intro s U z f hs he ha hJ
      have c6 : ∀ (U' : List Nat) (z : ow_MS) (f : Nat → Option Nat), ar2 S c q (s + 2) U' f → J z f (c + U'.length) → Tt (fun K k => c_X0_markArcs vl K k 6 (nI (2 * c)) (nI 0) (nI s) 0 0 41000 h z) Q := by
        intro U' z f ha hJ
        refine u_X0_markArcs_6 ?_; unfold cm_X0_markArcs_6
        rw [show nI s + (2 : Int32) = nI (s + 2) from nI_add s 2]
        exact ih (s + 2) U' z f (by omega) (by omega) ha hJ
      have c5 : ∀ (v i : Int32) (z : ow_MS) (f : Nat → Option Nat), ar2 S c q (s + 2) (U ++ [q s]) f → J z f (c + U.length) → Tt (fun K k => c_X0_markArcs vl K k 5 (nI (2 * c)) (nI 0) (nI s) v i 41000 h z) Q := by
        rintro v i z f ha ⟨j1, j2, j3, j4⟩
        refine u_X0_markArcs_5 ?_; unfold cm_X0_markArcs_5
        refine w_rdF j2 (w_wrF (c6 (U ++ [q s]) _ f ha ⟨j1, ?_, fr_F2 j3 (Or.inr rfl), j4⟩))
        rw [po_usF_at, nI_1, List.length_append]
        rfl
      by_cases hsc : s < 2 * c
      · have c3 : ∀ (e i v : Nat) (z : ow_MS) (f : Nat → Option Nat), i + e = 2 * c → v < 2 * c → i + ucn f (2 * c) ≤ 2 * c → ax2 S c q s U f v → J z f (c + U.length) → 0 < i → Tt (fun K k => c_X0_markArcs vl K k 3 (nI (2 * c)) (nI 0) (nI s) (nI v) (nI i) 41000 h z) Q := by
          intro e
          induction e with
          | zero =>
            intro i v z f hi hvc hu hx hJ hi0
            refine u_X0_markArcs_3 ?_; unfold cm_X0_markArcs_3
            exact w_leT (by omega) (by omega) (c5 _ _ z f (ax2_e hv hr hsc he (ucn_0 _ (by omega) v hvc) hx) hJ)
          | succ e ihe =>
            intro i v z f hi hvc hu hx hJ hi0
            by_cases hn : f v = none
            · have hv2 : v % 2 = 0 := by
                rcases Nat.mod_two_eq_zero_or_one v with h9 | h9
                · exact h9
                · have := hx.1 (v / 2) (by omega)
                  rw [show 2 * (v / 2) + 1 = v by omega, hn] at this
                  cases this
              have uc := ucn_st (l := c + U.length) hn (2 * c) hvc
              obtain ⟨j1, j2, j3, j4⟩ := id hJ
              refine u_X0_markArcs_3 ?_; unfold cm_X0_markArcs_3
              refine w_leF (by omega) (by omega) (w_ifF (fun h9 => by have := (nI_eq (a := i) (b := 0) (by omega) (by omega)).mp h9; omega) (w_ifT ((vm2 ⟨v, by omega⟩).mpr hv2) ?_))
              refine u_X0_markArcs_4 ?_; unfold cm_X0_markArcs_4
              refine w_crI ch_41001 rfl (by omega) ((j1 v (by omega)).trans (by rw [hn]; rfl)) (w_ifT rfl (w_rdF j2 (w_ctI ch_41001 rfl (by omega) (w_crI (nH_1 hh) rfl (show v < 24 by omega) (rd_ot (by unfold arP at h41; omega) ((hA z j3).2.2.1 v)) ?_))))
              rw [nI_1]
              have hU6 : U.length ≤ 1000 := by
                have := nodup_le U R hx.2.2.2.2.1.1 (fun r hr2 => by
                  obtain ⟨v, v1, v2⟩ := hx.2.2.2.2.1.2.1 r hr2
                  rw [← v2]
                  exact hR2 v v1)
                omega
              exact ihe (i + 1) (S.1 v) _ _ (by omega) (hv v hvc).1 (by omega) (ax2_s hv hq hsc hvc hn hx) (Jset z f _ v _ hJ rfl (hI9_ge (by omega) j4)) (by omega)
            · obtain ⟨j1, j2, j3, j4⟩ := id hJ
              have hU6 : U.length ≤ 1000 := by
                have := nodup_le U R hx.2.2.2.2.1.1 (fun r hr2 => by
                  obtain ⟨v, v1, v2⟩ := hx.2.2.2.2.1.2.1 r hr2
                  rw [← v2]
                  exact hR2 v v1)
                omega
              have e5 := c5 (nI v) (nI i) z f (ax2_e hv hr hsc he hn hx) hJ
              obtain ⟨l, hl⟩ : ∃ l, f v = some l := by
                cases hf : f v with
                | none => exact absurd hf hn
                | some l => exact ⟨l, rfl⟩
              have hl2 := (hx.2.1 v l hvc hl).1
              refine u_X0_markArcs_3 ?_; unfold cm_X0_markArcs_3
              refine w_leF (by omega) (by omega) (w_if (fun _ => ?_) (fun _ => w_if (fun _ => ?_) (fun _ => e5)))
              · refine u_X0_markArcs_4 ?_; unfold cm_X0_markArcs_4
                exact w_crI ch_41001 rfl (by omega) ((j1 v (by omega)).trans (by rw [hl])) (w_ifF (oM_n (by omega)) e5)
              · refine u_X0_markArcs_4 ?_; unfold cm_X0_markArcs_4
                exact w_crI ch_41001 rfl (by omega) ((j1 v (by omega)).trans (by rw [hl])) (w_ifF (oM_n (by omega)) e5)
        obtain ⟨j1, j2, j3, j4⟩ := id hJ
        by_cases hn : f s = none
        · have uc := ucn_st (l := c + U.length) hn (2 * c) hsc
          have ul := ucn_le f (2 * c)
          have x0 := ax2_0 hv hq hsc he hn ha
          refine u_X0_markArcs_2 ?_; unfold cm_X0_markArcs_2
          refine w_leF (by omega) (by omega) (w_crI ch_41001 rfl (by omega) ((j1 s (by omega)).trans (by rw [hn]; rfl)) (w_ifT rfl ?_))
          refine u_X0_markArcs_3 ?_; unfold cm_X0_markArcs_3
          refine w_leF (b := 0) (by omega) (by omega) (w_ifT rfl ?_)
          refine u_X0_markArcs_4 ?_; unfold cm_X0_markArcs_4
          refine w_crI ch_41001 rfl (by omega) ((j1 s (by omega)).trans (by rw [hn]; rfl)) (w_ifT rfl (w_rdF j2 (w_ctI ch_41001 rfl (by omega) (w_crI (nH_1 hh) rfl (show s < 24 by omega) (rd_ot (by unfold arP at h41; omega) ((hA z j3).2.2.1 s)) ?_))))
          exact c3 (2 * c - 1) 1 (S.1 s) _ _ (by omega) (hv s hsc).1 (by omega) x0 (Jset z f _ s _ hJ rfl (hI9_ge (by omega) j4)) (by omega)
        · obtain ⟨l, hl⟩ : ∃ l, f s = some l := by
            cases hf : f s with
            | none => exact absurd hf hn
            | some l => exact ⟨l, rfl⟩
          have hl2 := (ha.2.1 s l hsc hl).1
          have hU6 : U.length ≤ 1000 := by
            have := nodup_le U R ha.2.2.2.2.1.1 (fun r hr2 => by
              obtain ⟨v, v1, v2⟩ := ha.2.2.2.2.1.2.1 r hr2
              rw [← v2]
              exact hR2 v v1)
            omega
          refine u_X0_markArcs_2 ?_; unfold cm_X0_markArcs_2
          exact w_leF (by omega) (by omega) (w_crI ch_41001 rfl (by omega) ((j1 s (by omega)).trans (by rw [hl])) (w_ifF (oM_n (by omega)) (c6 U z f (ar2_k (fun _ => hn) ha he) hJ)))
      · refine u_X0_markArcs_2 ?_; unfold cm_X0_markArcs_2
        exact w_leT (by omega) (by omega) (fin z f U s ha (by omega) hJ)
  -- the odd visits
  have p1 : ∀ (d k : Nat) (z : ow_MS) (f : Nat → Option Nat), k + d = c → ar1 S c k f → J z f k → Tt (fun K t => c_X0_markArcs vl K t 2 (nI (2 * c)) (nI 1) (nI (2 * k + 1)) 0 0 41000 h z) Q := by
    intro d
    induction d with
    | zero =>
      intro k z f hk ha hJ
      have hk : k = c := by omega
      subst hk
      refine u_X0_markArcs_2 ?_; unfold cm_X0_markArcs_2
      refine w_leT (by omega) (by omega) ?_
      rw [show nI 1 + (-1 : Int32) = nI 0 from by decide]
      refine u_X0_markArcs_1 ?_; unfold cm_X0_markArcs_1
      refine w_ifF (by decide) ?_
      exact p2 (k + 1) 0 [] z f (by omega) (by omega) (ar2_0 hv ha) hJ
    | succ d ih =>
      intro k z f hk ha hJ
      have c5 : ∀ (v i : Int32) (z : ow_MS) (f : Nat → Option Nat), ar1 S c (k + 1) f → J z f k → Tt (fun K t => c_X0_markArcs vl K t 5 (nI (2 * c)) (nI 1) (nI (2 * k + 1)) v i 41000 h z) Q := by
        rintro v i z f ha ⟨j1, j2, j3, j4⟩
        refine u_X0_markArcs_5 ?_; unfold cm_X0_markArcs_5
        refine w_rdF j2 (w_wrF ?_)
        refine u_X0_markArcs_6 ?_; unfold cm_X0_markArcs_6
        rw [show nI (2 * k + 1) + (2 : Int32) = nI (2 * (k + 1) + 1) from nI_add _ 2]
        refine ih (k + 1) _ f (by omega) ha ⟨j1, ?_, fr_F2 j3 (Or.inr rfl), j4⟩
        rw [po_usF_at, nI_1]
      have c3 : ∀ (e i v : Nat) (z : ow_MS) (f : Nat → Option Nat), i + e = 2 * c → v < 2 * c → i + ucn f (2 * c) ≤ 2 * c → ax1 S c k f v → J z f k → 0 < i → Tt (fun K t => c_X0_markArcs vl K t 3 (nI (2 * c)) (nI 1) (nI (2 * k + 1)) (nI v) (nI i) 41000 h z) Q := by
        intro e
        induction e with
        | zero =>
          intro i v z f hi hvc hu hx hJ hi0
          refine u_X0_markArcs_3 ?_; unfold cm_X0_markArcs_3
          exact w_leT (by omega) (by omega) (c5 _ _ z f (ax1_e hv hvc (Or.inr (ucn_0 _ (by omega) v hvc)) hx) hJ)
        | succ e ihe =>
          intro i v z f hi hvc hu hx hJ hi0
          obtain ⟨j1, j2, j3, j4⟩ := id hJ
          have hi9 : ¬ nI i = 0 := fun h9 => by have := (nI_eq (a := i) (b := 0) (by omega) (by omega)).mp h9; omega
          rcases Nat.mod_two_eq_zero_or_one v with hv2 | hv2
          · by_cases hn : f v = none
            · have uc := ucn_st (l := k) hn (2 * c) hvc
              refine u_X0_markArcs_3 ?_; unfold cm_X0_markArcs_3
              refine w_leF (by omega) (by omega) (w_ifF hi9 (w_ifT ((vm2 ⟨v, by omega⟩).mpr hv2) ?_))
              refine u_X0_markArcs_4 ?_; unfold cm_X0_markArcs_4
              refine w_crI ch_41001 rfl (by omega) ((j1 v (by omega)).trans (by rw [hn]; rfl)) (w_ifT rfl (w_rdF j2 (w_ctI ch_41001 rfl (by omega) (w_crI (nH_1 hh) rfl (show v < 24 by omega) (rd_ot (by unfold arP at h41; omega) ((hA z j3).2.2.1 v)) ?_))))
              rw [nI_1]
              exact ihe (i + 1) (S.1 v) _ _ (by omega) (hv v hvc).1 (by omega) (ax1_s hv hvc hv2 hn hx) (Jset z f _ v _ hJ rfl (hI9_s hv hvc hv2 hx.2.2.2.2 j4)) (by omega)
            · obtain ⟨l, hl⟩ : ∃ l, f v = some l := by
                cases hf : f v with
                | none => exact absurd hf hn
                | some l => exact ⟨l, rfl⟩
              have hl2 := (hx.2.2.1 v l hvc hl).1
              refine u_X0_markArcs_3 ?_; unfold cm_X0_markArcs_3
              refine w_leF (by omega) (by omega) (w_ifF hi9 (w_ifT ((vm2 ⟨v, by omega⟩).mpr hv2) ?_))
              refine u_X0_markArcs_4 ?_; unfold cm_X0_markArcs_4
              exact w_crI ch_41001 rfl (by omega) ((j1 v (by omega)).trans (by rw [hl])) (w_ifF (oM_n (by omega)) (c5 (nI v) (nI i) z f (ax1_e hv hvc (Or.inr hn) hx) hJ))
          · refine u_X0_markArcs_3 ?_; unfold cm_X0_markArcs_3
            exact w_leF (by omega) (by omega) (w_ifF hi9 (w_ifF (fun h9 => by have := (vm2 ⟨v, by omega⟩).mp h9; dsimp only at this; omega) (c5 (nI v) (nI i) z f (ax1_e hv hvc (Or.inl hv2) hx) hJ)))
      obtain ⟨j1, j2, j3, j4⟩ := id hJ
      have hn := ha.2.1 k (Nat.le_refl _)
      have uc := ucn_st (l := k) hn (2 * c) (by omega)
      have ul := ucn_le f (2 * c)
      refine u_X0_markArcs_2 ?_; unfold cm_X0_markArcs_2
      refine w_leF (by omega) (by omega) (w_crI ch_41001 rfl (by omega) ((j1 _ (by omega)).trans (by rw [hn]; rfl)) (w_ifT rfl ?_))
      refine u_X0_markArcs_3 ?_; unfold cm_X0_markArcs_3
      refine w_leF (b := 0) (by omega) (by omega) (w_ifT rfl ?_)
      refine u_X0_markArcs_4 ?_; unfold cm_X0_markArcs_4
      refine w_crI ch_41001 rfl (by omega) ((j1 _ (by omega)).trans (by rw [hn]; rfl)) (w_ifT rfl (w_rdF j2 (w_ctI ch_41001 rfl (by omega) (w_crI (nH_1 hh) rfl (show 2 * k + 1 < 24 by omega) (rd_ot (by unfold arP at h41; omega) ((hA z j3).2.2.1 _)) ?_))))
      exact c3 (2 * c - 1) 1 (S.1 (2 * k + 1)) _ _ (by omega) (hv _ (by omega)).1 (by omega) (ax1_0 hv (by omega) ha) (Jset z f _ _ _ hJ rfl (hI9_0 j4)) (by omega)
  refine e_X0_markArcs ?_
  refine u_X0_markArcs_0 ?_; unfold cm_X0_markArcs_0
  refine w_rdF hy.1 (w_cs0 (tc_fillA ch_41001 (by omega)) ?_)
  rintro y2 ⟨g1, g2⟩
  refine w_wrF ?_
  rw [rn_mul2]
  refine u_X0_markArcs_1 ?_; unfold cm_X0_markArcs_1
  refine w_ifF (by decide) ?_
  refine p1 c 0 _ (fun _ => none) (by omega) ⟨fun x hx => absurd hx (by omega), fun x _ => rfl, fun v l _ h9 => (by cases h9), fun v l _ _ h9 => (by cases h9)⟩ ⟨fun v hv2 => ?_, po_usF_at, fr_F2 (fr_mono (fun g hg => Or.inl hg) g2) (Or.inr rfl), fun h _ v l _ h9 => (by cases h9)⟩
  exact g1 v hv2
/-- one number: one arc -/
theorem arc_lb {a : Nat → Nat} {n : Nat} (hv : vn c S) (hq : ∀ v, v < 2 * c → q (S.1 v) = q v) (hr : ∀ v w, v < 2 * c → w < 2 * c → q v = q w → ∃ i, it S.1 i v = w) (hs : arcS y S c ci q a n) (hA : hA9 S c a) : lb9 n c S a := by
  obtain ⟨s1, s2, s3, s4, -⟩ := hs
  refine ⟨fun w hw => (s1 w hw).2, fun x hx => ?_, fun h hh v w hv1 hw1 e => ?_⟩
  · obtain ⟨-, b2, -, b4⟩ := hv (2 * x) (by omega)
    have := s3 (S.2 (2 * x)) b2 (by rw [b4]; omega)
    rw [b4] at this
    exact this
  · have hc : hC9 S c h := fun u hu e0 => by
      obtain ⟨b1, -, b3, -⟩ := hv u hu
      have := hh (S.1 u / 2) (by omega)
      rw [show 2 * (S.1 u / 2) = S.1 u by omega, b3] at this
      exact this
    by_cases hl : a v < c
    · rw [hA h hc v hv1 hl, hA h hc w hw1 (by omega), e]
    · have lt : ∀ i x, x < 2 * c → a x < c → a (it S.1 i x) < c := by
        intro i
        induction i with
        | zero => exact fun x _ h9 => h9
        | succ i ih =>
          intro x hx h9
          have b := it_lt hv hx i
          show a (S.1 (it S.1 i x)) < c
          have b1 := (hv _ b).1
          by_cases e0 : S.1 (it S.1 i x) % 2 = 0
          · rw [s3 _ b e0]
            exact ih x hx h9
          · have := s2 (S.1 (it S.1 i x) / 2) (by omega)
            rw [show 2 * (S.1 (it S.1 i x) / 2) + 1 = S.1 (it S.1 i x) by omega] at this
            omega
      have qi : ∀ i, q (it S.1 i v) = q v := by
        intro i
        induction i with
        | zero => rfl
        | succ i ih => exact (hq _ (it_lt hv hv1 i)).trans ih
      have ev : ∀ i, it S.1 i v % 2 = 0 := by
        intro i
        rcases Nat.mod_two_eq_zero_or_one (it S.1 i v) with h9 | h9
        · exact h9
        · have b := it_lt hv hv1 i
          have := s2 (it S.1 i v / 2) (by omega)
          rw [show 2 * (it S.1 i v / 2) + 1 = it S.1 i v by omega] at this
          obtain ⟨j, ej⟩ := hr _ v b hv1 (qi i)
          have := lt j _ b (by omega)
          rw [ej] at this
          exact absurd this hl
      have hi : ∀ i, h (it S.1 i v) = h v := by
        intro i
        induction i with
        | zero => rfl
        | succ i ih => exact (hc _ (it_lt hv hv1 i) (ev (i + 1))).trans ih
      obtain ⟨i, ei⟩ := hr v w hv1 hw1 (s4 v w hv1 hw1 (by omega) e)
      rw [← ei]
      exact (hi i).symm
/-- the least that is conjugate -/
def lsM (x : Nat) : Nat → Nat
  | 0 => x
  | o + 1 => if cjG o x < lsM x o then cjG o x else lsM x o
def csz (g : Nat) : Nat → Nat → Nat
  | 0, _ => 0
  | k + 1, l => csz g k l + if lsM k g = l then 1 else 0
theorem csz_le {g l : Nat} : ∀ k, csz g k l ≤ k
  | 0 => Nat.le_refl _
  | k + 1 => by
    have := csz_le (g := g) (l := l) k
    show csz g k l + (if lsM k g = l then 1 else 0) ≤ k + 1
    split <;> omega
theorem lsM_or {x : Nat} : ∀ g, lsM x g = x ∨ ∃ o, o < g ∧ lsM x g = cjG o x
  | 0 => Or.inl rfl
  | g + 1 => by
    show (if cjG g x < lsM x g then cjG g x else lsM x g) = x ∨ ∃ o, o < g + 1 ∧ (if cjG g x < lsM x g then cjG g x else lsM x g) = cjG o x
    by_cases e : cjG g x < lsM x g
    · rw [if_pos e]
      exact Or.inr ⟨g, by omega, rfl⟩
    · rw [if_neg e]
      rcases lsM_or (x := x) g with h | ⟨o, o1, o2⟩
      · exact Or.inl h
      · exact Or.inr ⟨o, by omega, o2⟩
theorem lsM_lt {x g : Nat} (hx : x < 24) (hg : g ≤ 24) : lsM x g < 24 := by
  rcases lsM_or (x := x) g with h | ⟨o, o1, o2⟩
  · rw [h]
    exact hx
  · rw [o2]
    exact (ca9 (h := o) (o := x) (by omega) hx).2.2.2.1
theorem xc_findCl {g : Nat} (hg : g ≤ 24) (h : cjT y) : Te (fun K => ce_X0_findClasses vl K 41000 (nI g) y) (fun y1 => (∀ l, l < 24 → y1.2.1 41008 l = nI (csz g g l)) ∧ fr (fun q => q = 41008) y y1) := by
  let Q : ow_MS → Prop := fun z => (∀ l, l < 24 → z.2.1 41008 l = nI (csz g g l)) ∧ fr (fun q => q = 41008) y z
  have c1 : ∀ (d x : Nat) (z : ow_MS), x + d = g → (∀ l, l < 24 → z.2.1 41008 l = nI (csz g x l)) → fr (fun q => q = 41008) y z → Tt (fun K k => c_X0_findClasses vl K k 1 (nI g) (nI x) 0 0 41000 z) Q := by
    intro d
    induction d with
    | zero =>
      intro x z hx hz hf
      have ex : x = g := by omega
      rw [ex] at hz
      refine u_X0_findClasses_1 ?_; unfold cm_X0_findClasses_1
      exact w_leT (by omega) (by omega) (w_some ⟨hz, hf⟩)
    | succ d ih =>
      intro x z hx hz hf
      have c2 : ∀ (e o : Nat), o + e = g → Tt (fun K k => c_X0_findClasses vl K k 2 (nI g) (nI x) (nI (lsM x o)) (nI o) 41000 z) Q := by
        intro e
        induction e with
        | zero =>
          intro o ho
          have eo : o = g := by omega
          subst eo
          have hm := lsM_lt (x := x) (g := o) (by omega) hg
          refine u_X0_findClasses_2 ?_; unfold cm_X0_findClasses_2
          refine w_leT (by omega) (by omega) (w_crI ch_41008 rfl hm (hz _ hm) (w_ctI ch_41008 rfl hm ?_))
          rw [nI_1, nI_1]
          refine ih (x + 1) _ (by omega) (fun l hl => ?_) (fr_I2 hf rfl)
          show (usI z 41008 (lsM x o) (nI (csz o x (lsM x o) + 1))).2.1 41008 l = nI (csz o x l + if lsM x o = l then 1 else 0)
          by_cases el : l = lsM x o
          · rw [if_pos el.symm, el]
            exact po_usI_at
          · rw [if_neg (fun h9 => el h9.symm)]
            exact rd_ne el (hz l hl)
        | succ e ihe =>
          intro o ho
          have k2 := h.1 o x (by omega) (by omega)
          have k1 := (ca9 (h := o) (o := x) (by omega) (by omega)).2.2.2.1
          have hm := lsM_lt (x := x) (g := o) (by omega) (by omega)
          have e1 : lsM x (o + 1) = if cjG o x < lsM x o then cjG o x else lsM x o := rfl
          refine u_X0_findClasses_2 ?_; unfold cm_X0_findClasses_2
          rw [show (24 : Int32) * nI o = nI (24 * o) from pk_mul 24 o, nI_add, nI_1, nI_1]
          refine w_leF (by omega) (by omega) (w_crI ch_41006 rfl (by omega) ((congrFun (hf 41006 (by decide)).2.1 _).trans k2) ?_)
          by_cases hk : cjG o x < lsM x o
          · rw [if_pos hk] at e1
            rw [if_pos (nI_lt hk (by omega)), ← e1]
            exact ihe (o + 1) (by omega)
          · rw [if_neg hk] at e1
            rw [if_neg (nI_nlt (by omega) (by omega)), ← e1]
            exact ihe (o + 1) (by omega)
      refine u_X0_findClasses_1 ?_; unfold cm_X0_findClasses_1
      exact w_leF (by omega) (by omega) (c2 g 0 (by omega))
  refine e_X0_findClasses ?_
  refine u_X0_findClasses_0 ?_; unfold cm_X0_findClasses_0
  refine w_cs0 (tc_fillA ch_41008 (by omega)) ?_
  rintro z ⟨hz, hf⟩
  exact c1 g 0 z (by omega) (fun l hl => hz l hl) hf
end XMG
end
