section
/-! 99zzzzzzzzzzzzzzv.xmpc -/
/-! maps: makeArcs of the reference, exactly -/
section XMC
variable {z : ow_MS}
theorem xp_arcs {n c : Nat} {A : rn_L} {sg : Nat → Bool} (hn : mw_net n) (hA : oNet z n A sg) (hok : okF A.flatten c) : Te (fun K => qe_X13_makeArcs K n z) (fun z1 => (∀ u, u < A.flatten.length → (uns A u = 0 → z1.2.1 61 (crs A u) = nI (gA9 A u)) ∧ (uns A u ≠ 0 → z1.2.1 62 (crs A u) = nI (gA9 A u) ∧ z1.2.1 63 (crs A u) = nI (gR9 A u))) ∧ fr arcH z z1) := by
  have hl := hA.len
  have hC := hA.2.2.2
  have hmn := net_mod hn
  have hV := okF_len hok
  let Q : ow_MS → Prop := fun z1 => (∀ u, u < A.flatten.length → (uns A u = 0 → z1.2.1 61 (crs A u) = nI (gA9 A u)) ∧ (uns A u ≠ 0 → z1.2.1 62 (crs A u) = nI (gA9 A u) ∧ z1.2.1 63 (crs A u) = nI (gR9 A u))) ∧ fr arcH z z1
  have oA : ∀ {y : ow_MS}, fr arcH z y → oNet y n A sg := fun hf => oNet_fr hf (fun g hg => by unfold arcH at hg; omega) hA
  have c8 : ∀ (y : ow_MS), fr arcH z y → (∀ u, u < A.flatten.length → y.2.1 59 u = nI (gA9 A u) ∧ (uns A u ≠ 0 → y.2.1 60 u = nI (gR9 A u))) → Tt (fun K i => q_X13_makeArcs K i 8 (nI 0) 0 0 n 0 y) Q := by
    intro y hf hR
    exact w_mono (xp_arc8 (a := 0) hn (oA hf) hok hR) (fun r hr => ⟨hr.1, fr_tr hf (fr_mono (fun g hg => by unfold arcH; omega) hr.2)⟩)
  have c1 : ∀ (d k a : Nat) (y : ow_MS), k + d = A.length → a = aK9 A k → fr arcH z y → y.1 58 = nI a → (∀ u, u < rn_b A k → y.2.1 59 u = nI (gA9 A u) ∧ (uns A u ≠ 0 → y.2.1 60 u = nI (gR9 A u))) → Tt (fun K i => q_X13_makeArcs K i 1 (nI k) 0 0 n 0 y) Q := by
    intro d
    induction d with
    | zero =>
      intro k a y hk ha hf h58 hR
      have hk : k = A.length := by omega
      subst hk
      rw [rn_b_len] at hR
      refine u_X13_makeArcs_1 ?_; unfold qm_X13_makeArcs_1
      exact w_rdF (lk_C (oA hf).1) (w_leT (by omega) (by omega) (c8 y hf hR))
    | succ d ih =>
      intro k a y hk ha hf h58 hR
      have hb1 := rn_b_le A k
      have hb2 := rn_b_le A (k + 1)
      have hb3 := rn_b_mono A k
      have c7 : ∀ (x3 x4 : Int32) (a : Nat) (y : ow_MS), a = aK9 A (k + 1) → fr arcH z y → y.1 58 = nI a → (∀ u, u < rn_b A (k + 1) → y.2.1 59 u = nI (gA9 A u) ∧ (uns A u ≠ 0 → y.2.1 60 u = nI (gR9 A u))) → Tt (fun K i => q_X13_makeArcs K i 7 (nI k) x3 x4 n 0 y) Q := by
        intro x3 x4 a y ha hf h58 hR
        refine u_X13_makeArcs_7 ?_; unfold qm_X13_makeArcs_7
        rw [nI_1]
        exact ih (k + 1) a y (by omega) ha hf h58 hR
      have hUm := uN_mono (A := A) (rn_b A (k + 1)) hb3
      have hUl := uN_mono (A := A) A.flatten.length hb2
      have eK : aK9 A (k + 1) = aK9 A k + max 1 (uN A (rn_b A (k + 1)) - uN A (rn_b A k)) := rfl
      have aL := aK9_le (A := A) k
      have uV := uN_ov (A := A) A.flatten.length
      -- a ring without a visit under
      have c4 : ∀ (d v : Nat) (y : ow_MS), v + d = rn_b A (k + 1) → rn_b A k ≤ v → (∀ u, rn_b A k ≤ u → u < rn_b A (k + 1) → uns A u = 0) → fr arcH z y → y.1 58 = nI a → (∀ u, u < v → y.2.1 59 u = nI (gA9 A u)) → (∀ u, u < rn_b A k → uns A u ≠ 0 → y.2.1 60 u = nI (gR9 A u)) → Tt (fun K i => q_X13_makeArcs K i 4 (nI k) (-1) (nI v) n 0 y) Q := by
        intro d
        induction d with
        | zero =>
          intro v y hv hvb hno hf h58 hR hB
          have e0 := uN_0 (A := A) (rn_b A (k + 1)) hb3 hno
          refine u_X13_makeArcs_4 ?_; unfold qm_X13_makeArcs_4
          rw [nI_1]
          refine w_rdI (pl3 hn) rfl (by omega) (lk_b (oA hf).1 (by omega)) (w_leT (by omega) (by omega) (w_rdF h58 (w_wrF (c7 _ _ (a + 1) _ (by omega) (fr_F2 hf (by unfold arcH; omega)) (po_usF_at.trans (nI_1 a)) (fun u hu => ⟨hR u (by omega), fun h9 => ?_⟩)))))
          rcases Nat.lt_or_ge u (rn_b A k) with h8 | h8
          · exact hB u h8 h9
          · exact absurd (hno u h8 hu) h9
        | succ d ih4 =>
          intro v y hv hvb hno hf h58 hR hB
          have e0 := uN_0 (A := A) (rn_b A (k + 1)) hb3 hno
          have e1 := uN_0 (A := A) v hvb (fun u h1 h2 => hno u h1 (by omega))
          have eG : gA9 A v = a := by
            rw [gA9_at hvb (by omega)]
            unfold gK9
            rw [if_pos e1]
            omega
          refine u_X13_makeArcs_4 ?_; unfold qm_X13_makeArcs_4
          rw [nI_1, nI_1]
          refine w_rdI (pl3 hn) rfl (by omega) (lk_b (oA hf).1 (by omega)) (w_leF (by omega) (by omega) (w_rdF h58 (w_wrI ml59 rfl (by omega) (ih4 (v + 1) _ (by omega) (by omega) hno (fr_I2 hf (by unfold arcH; omega)) h58 (fun u hu => ?_) (fun u hu h9 => rd_ot (by omega) (hB u hu h9))))))
          by_cases huv : u = v
          · rw [huv, eG]; exact po_usI_at
          · exact rd_ne huv (hR u (by omega))
      -- a ring whose first visit under is s
      have c5 : ∀ (s : Nat), rn_b A k ≤ s → s < rn_b A (k + 1) → uns A s = 1 → (∀ u, rn_b A k ≤ u → u < s → uns A u = 0) → ∀ (y : ow_MS), fr arcH z y → y.1 58 = nI a → (∀ u, u < rn_b A k → y.2.1 59 u = nI (gA9 A u) ∧ (uns A u ≠ 0 → y.2.1 60 u = nI (gR9 A u))) → Tt (fun K i => q_X13_makeArcs K i 5 (nI k) (nI s) (nI s) n 0 y) Q := by
        intro s hs1 hs2 hs3 hs4 y hf h58 hR
        have hUs : uN A (s + 1) = uN A s + 1 := by
          show uN A s + (if uns A s = 0 then 0 else 1) = _
          rw [if_neg (by omega)]
        have hUb := uN_mono (A := A) s hs1
        have hUe := uN_mono (A := A) (a := s + 1) (rn_b A (k + 1)) hs2
        have hUsb := uN_0 (A := A) s hs1 hs4
        have nx : ∀ v, rn_b A k ≤ v → v < rn_b A (k + 1) → rn_nx A v = if v + 1 < rn_b A (k + 1) then v + 1 else rn_b A k := by
          intro v h1 h2
          have e := rn_c_of A k v h1 h2
          unfold rn_nx
          rw [e]
        -- behind the end of the row: from its beginning to s
        have p2 : ∀ (d v m : Nat) (y : ow_MS), v + d = s → rn_b A k ≤ v → m + uN A (s + 1) = a + uN A (rn_b A (k + 1)) → fr arcH z y → y.1 58 = nI m → (∀ u, u < v → y.2.1 59 u = nI (gA9 A u)) → (∀ u, s < u → u < rn_b A (k + 1) → y.2.1 59 u = nI (gA9 A u)) → (∀ u, u < rn_b A (k + 1) → uns A u ≠ 0 → y.2.1 60 u = nI (gR9 A u)) → Tt (fun K i => q_X13_makeArcs K i 6 (nI k) (nI s) (nI v) n 0 y) Q := by
          intro d
          induction d with
          | zero =>
            intro v m y hv hvb hm hf h58 hR1 hR2 hB
            have hv : v = s := by omega
            subst hv
            have eG : gA9 A v = m := by
              rw [gA9_at hvb (by omega)]
              unfold gK9
              rw [if_pos hUsb]
              omega
            refine u_X13_makeArcs_6 ?_; unfold qm_X13_makeArcs_6
            refine w_rdI (pl5 hn) rfl (by omega) (lk_cu (oA hf).1 (by omega)).2 (w_ifF (by rw [hs3]; decide) (w_rdF h58 (w_wrI ml59 rfl (by omega) (w_rdF (x := nI m) h58 (w_wrF (w_ifT rfl (c7 _ _ (m + 1) _ (by omega) (fr_F2 (fr_I2 hf (by unfold arcH; omega)) (by unfold arcH; omega)) (po_usF_at.trans (nI_1 m)) (fun u hu => ⟨?_, fun h9 => ?_⟩))))))))
            · show (usI y 59 v (nI m)).2.1 59 u = nI (gA9 A u)
              by_cases huv : u = v
              · rw [huv, eG]; exact po_usI_at
              · rcases Nat.lt_or_ge u v with h8 | h8
                · exact rd_ne huv (hR1 u h8)
                · exact rd_ne huv (hR2 u (by omega) hu)
            · show (usI y 59 v (nI m)).2.1 60 u = nI (gR9 A u)
              exact rd_ot (by omega) (hB u hu h9)
          | succ d ih2 =>
            intro v m y hv hvb hm hf h58 hR1 hR2 hB
            have e0 := hs4 v hvb (by omega)
            have eU := uN_0 (A := A) v hvb (fun u h1 h2 => hs4 u h1 (by omega))
            have eG : gA9 A v = m := by
              rw [gA9_at hvb (by omega)]
              unfold gK9
              rw [if_pos eU]
              omega
            have en := nx v hvb (by omega)
            rw [if_pos (by omega)] at en
            have hf2 : fr arcH z (usI y 59 v (nI m)) := fr_I2 hf (by unfold arcH; omega)
            have hnx : (usI y 59 v (nI m)).2.1 (n + 9) v = nI (v + 1) := by
              rw [lk_n (oA hf2).1 (by omega), en]
            refine u_X13_makeArcs_6 ?_; unfold qm_X13_makeArcs_6
            refine w_rdI (pl5 hn) rfl (by omega) (lk_cu (oA hf).1 (by omega)).2 (w_ifT (by rw [e0]; rfl) (w_rdF h58 (w_wrI ml59 rfl (by omega) (w_rdI (pl9 hn) rfl (by omega) hnx (ih2 (v + 1) m _ (by omega) (by omega) hm hf2 h58 (fun u hu => ?_) (fun u h1 h2 => rd_ne (by omega) (hR2 u h1 h2)) (fun u hu h9 => rd_ot (by omega) (hB u hu h9)))))))
            by_cases huv : u = v
            · rw [huv, eG]; exact po_usI_at
            · exact rd_ne huv (hR1 u (by omega))
        -- before the end of the row
        have p1 : ∀ (d v m : Nat) (y : ow_MS), v + d = rn_b A (k + 1) → s < v → m + uN A (s + 1) = a + uN A v → fr arcH z y → y.1 58 = nI m → (∀ u, u < rn_b A k → y.2.1 59 u = nI (gA9 A u)) → (∀ u, s < u → u < v → y.2.1 59 u = nI (gA9 A u)) → (∀ u, u < v → uns A u ≠ 0 → y.2.1 60 u = nI (gR9 A u)) → Tt (fun K i => q_X13_makeArcs K i 6 (nI k) (nI s) (if v < rn_b A (k + 1) then nI v else nI (rn_b A k)) n 0 y) Q := by
          intro d
          induction d with
          | zero =>
            intro v m y hv hsv hm hf h58 hR1 hR2 hB
            rw [if_neg (by omega)]
            have hv : v = rn_b A (k + 1) := by omega
            subst hv
            exact p2 (s - rn_b A k) (rn_b A k) m y (by omega) (Nat.le_refl _) hm hf h58 hR1 hR2 hB
          | succ d ih1 =>
            intro v m y hv hsv hm hf h58 hR1 hR2 hB
            rw [if_pos (by omega)]
            have en := nx v (by omega) (by omega)
            have hUv : uN A (v + 1) = uN A v + if uns A v = 0 then 0 else 1 := rfl
            have hUv2 := uN_mono (A := A) (rn_b A (k + 1)) (show v + 1 ≤ rn_b A (k + 1) by omega)
            have hUv3 := uN_mono (A := A) (a := s + 1) v (by omega)
            have eG : gA9 A v = m := by
              rw [gA9_at (k := k) (by omega) (by omega)]
              unfold gK9
              rw [if_neg (by omega)]
              omega
            have eN : nI (rn_nx A v) = if v + 1 < rn_b A (k + 1) then nI (v + 1) else nI (rn_b A k) := by
              rw [en]
              split <;> rfl
            have hf2 : fr arcH z (usI y 59 v (nI m)) := fr_I2 hf (by unfold arcH; omega)
            by_cases e0 : uns A v = 0
            · have hnx : (usI y 59 v (nI m)).2.1 (n + 9) v = if v + 1 < rn_b A (k + 1) then nI (v + 1) else nI (rn_b A k) := by
                rw [lk_n (oA hf2).1 (by omega), eN]
              rw [if_pos e0] at hUv
              refine u_X13_makeArcs_6 ?_; unfold qm_X13_makeArcs_6
              refine w_rdI (pl5 hn) rfl (by omega) (lk_cu (oA hf).1 (by omega)).2 (w_ifT (by rw [e0]; rfl) (w_rdF h58 (w_wrI ml59 rfl (by omega) (w_rdI (pl9 hn) rfl (by omega) hnx (ih1 (v + 1) m _ (by omega) (by omega) (by omega) hf2 h58 (fun u hu => rd_ne (by omega) (hR1 u hu)) (fun u h1 h2 => ?_) (fun u hu h9 => ?_))))))
              · by_cases huv : u = v
                · rw [huv, eG]; exact po_usI_at
                · exact rd_ne huv (hR2 u h1 (by omega))
              · by_cases huv : u = v
                · rw [huv] at h9
                  exact absurd e0 h9
                · exact rd_ot (by omega) (hB u (by omega) h9)
            · rw [if_neg e0] at hUv
              have hu2 := ((oA hf).cx (i := v) (by omega)).2.1
              have eH : gR9 A v = m + 1 := by
                rw [gR9_at (k := k) (by omega) (by omega)]
                unfold gK9
                rw [if_neg (by omega)]
                omega
              refine u_X13_makeArcs_6 ?_; unfold qm_X13_makeArcs_6
              refine w_rdI (pl5 hn) rfl (by omega) (lk_cu (oA hf).1 (by omega)).2 (w_ifF (fun h9 => e0 ((nI_eq (by omega) (by omega)).mp (h9.trans nI_0.symm))) (w_rdF h58 (w_wrI ml59 rfl (by omega) (w_rdF (x := nI m) h58 (w_wrF (w_ifF (fun h9 => absurd ((nI_eq (by omega) (by omega)).mp h9) (by omega)) ?_))))))
              have hf3 : fr arcH z (usF (usI y 59 v (nI m)) 58 (nI m + 1)) := fr_F2 hf2 (by unfold arcH; omega)
              have hf4 : fr arcH z (usI (usF (usI y 59 v (nI m)) 58 (nI m + 1)) 60 v (nI (m + 1))) := fr_I2 hf3 (by unfold arcH; omega)
              have hnx : (usI (usF (usI y 59 v (nI m)) 58 (nI m + 1)) 60 v (nI (m + 1))).2.1 (n + 9) v = if v + 1 < rn_b A (k + 1) then nI (v + 1) else nI (rn_b A k) := by
                rw [lk_n (oA hf4).1 (by omega), eN]
              have h58' : (usI (usF (usI y 59 v (nI m)) 58 (nI m + 1)) 60 v (nI (m + 1))).1 58 = nI (m + 1) := by
                show (usF (usI y 59 v (nI m)) 58 (nI m + 1)).1 58 = _
                exact po_usF_at.trans (nI_1 m)
              refine u_X13_makeArcs_5 ?_; unfold qm_X13_makeArcs_5
              refine w_rdF (x := nI (m + 1)) (po_usF_at.trans (nI_1 m)) (w_wrI ml60 rfl (by omega) (w_rdI (pl9 hn) rfl (by omega) hnx (ih1 (v + 1) (m + 1) _ (by omega) (by omega) (by omega) hf4 h58' (fun u hu => ?_) (fun u h1 h2 => ?_) (fun u hu h9 => ?_))))
              · exact rd_ot (by omega) (show (usI y 59 v (nI m)).2.1 59 u = _ from rd_ne (by omega) (hR1 u hu))
              · refine rd_ot (by omega) (show (usI y 59 v (nI m)).2.1 59 u = _ from ?_)
                by_cases huv : u = v
                · rw [huv, eG]; exact po_usI_at
                · exact rd_ne huv (hR2 u h1 (by omega))
              · by_cases huv : u = v
                · rw [huv, eH]; exact po_usI_at
                · exact rd_ne huv (show (usI y 59 v (nI m)).2.1 60 u = _ from rd_ot (by omega) (hB u (by omega) h9))
        have eS : gR9 A s = a := by
          rw [gR9_at hs1 hs2]
          unfold gK9
          rw [if_neg (by omega)]
          omega
        have hf2 : fr arcH z (usI y 60 s (nI a)) := fr_I2 hf (by unfold arcH; omega)
        have en := nx s hs1 hs2
        have hnx : (usI y 60 s (nI a)).2.1 (n + 9) s = if s + 1 < rn_b A (k + 1) then nI (s + 1) else nI (rn_b A k) := by
          rw [lk_n (oA hf2).1 (by omega), en]
          split <;> rfl
        refine u_X13_makeArcs_5 ?_; unfold qm_X13_makeArcs_5
        refine w_rdF h58 (w_wrI ml60 rfl (by omega) (w_rdI (pl9 hn) rfl (by omega) hnx (p1 (rn_b A (k + 1) - (s + 1)) (s + 1) a _ (by omega) (by omega) (by omega) hf2 h58 (fun u hu => rd_ot (by omega) (hR u hu).1) (fun u h1 h2 => absurd h1 (by omega)) (fun u hu h9 => ?_))))
        by_cases hus : u = s
        · rw [hus, eS]; exact po_usI_at
        · rcases Nat.lt_or_ge u (rn_b A k) with h8 | h8
          · exact rd_ne hus ((hR u h8).2 h9)
          · exact absurd (hs4 u h8 (by omega)) h9
      -- the first visit under is looked for from the end on
      have c2 : ∀ (d i : Nat) (x3 : Int32), i = rn_b A k + d → i ≤ rn_b A (k + 1) → ((x3 = -1 ∧ ∀ u, i ≤ u → u < rn_b A (k + 1) → uns A u = 0) ∨ ∃ s, x3 = nI s ∧ i ≤ s ∧ s < rn_b A (k + 1) ∧ uns A s = 1 ∧ ∀ u, i ≤ u → u < s → uns A u = 0) → Tt (fun K t => q_X13_makeArcs K t 2 (nI k) x3 (iI ((i : Int) - 1)) n 0 y) Q := by
        intro d
        induction d with
        | zero =>
          intro i x3 hi hie hx
          refine u_X13_makeArcs_2 ?_; unfold qm_X13_makeArcs_2
          refine w_rdI (pl3 hn) rfl (by omega) (lk_b (oA hf).1 (by omega)) (w_ifT (by rw [nI_iI, iI_lt (by omega) (by omega) (by omega) (by omega)]; omega) ?_)
          rcases hx with ⟨hx, hno⟩ | ⟨s, hx, s1, s2, s3, s4⟩
          · rw [hx]
            refine w_ifT rfl (w_rdI (pl3 hn) rfl (by omega) (lk_b (oA hf).1 (by omega)) (c4 (rn_b A (k + 1) - rn_b A k) (rn_b A k) y (by omega) (Nat.le_refl _) (fun u h1 h2 => hno u (by omega) h2) hf h58 (fun u hu => (hR u hu).1) (fun u hu h9 => (hR u hu).2 h9)))
          · rw [hx]
            exact w_ifF (rn_neg1 (by omega)) (c5 s (by omega) s2 s3 (fun u h1 h2 => s4 u (by omega) h2) y hf h58 hR)
        | succ d ih2 =>
          intro i x3 hi hie hx
          obtain ⟨j, hj⟩ : ∃ j, i = j + 1 := ⟨i - 1, by omega⟩
          have e1 : iI ((i : Int) - 1) = nI j := iI_nI (by omega)
          have e2 : nI j + (-1) = iI ((j : Int) - 1) := by
            rw [nI_iI]
            show iI (j : Int) + iI (-1) = _
            rw [iI_add]
            rfl
          have hu2 := ((oA hf).cx (i := j) (by omega)).2.1
          rw [e1]
          refine u_X13_makeArcs_2 ?_; unfold qm_X13_makeArcs_2
          refine w_rdI (pl3 hn) rfl (by omega) (lk_b (oA hf).1 (by omega)) (w_ltF (by omega) (by omega) (w_rdI (pl5 hn) rfl (by omega) (lk_cu (oA hf).1 (by omega)).2 (w_eqN (b := 1) (by omega) (by omega) (fun h9 => ?_) (fun h9 => ?_))))
          · refine u_X13_makeArcs_3 ?_; unfold qm_X13_makeArcs_3
            rw [e2]
            refine ih2 j _ (by omega) (by omega) (Or.inr ⟨j, rfl, Nat.le_refl _, by omega, h9, fun u h1 h2 => absurd h1 (by omega)⟩)
          · refine u_X13_makeArcs_3 ?_; unfold qm_X13_makeArcs_3
            rw [e2]
            refine ih2 j _ (by omega) (by omega) ?_
            rcases hx with ⟨hx, hno⟩ | ⟨s, hx, s1, s2, s3, s4⟩
            · refine Or.inl ⟨hx, fun u h1 h2 => ?_⟩
              by_cases huj : u = j
              · rw [huj]; omega
              · exact hno u (by omega) h2
            · refine Or.inr ⟨s, hx, by omega, s2, s3, fun u h1 h2 => ?_⟩
              by_cases huj : u = j
              · rw [huj]; omega
              · exact s4 u (by omega) h2
      refine u_X13_makeArcs_1 ?_; unfold qm_X13_makeArcs_1
      rw [nI_1]
      refine w_rdF (lk_C (oA hf).1) (w_leF (by omega) (by omega) (w_rdI (pl3 hn) rfl (by omega) (lk_b (oA hf).1 (by omega)) ?_))
      rw [show nI (rn_b A (k + 1)) - 1 = iI ((rn_b A (k + 1) : Nat) - 1) from by rw [nI_iI]; exact iI_sub _ 1]
      exact c2 (rn_b A (k + 1) - rn_b A k) (rn_b A (k + 1)) (-1) (by omega) (Nat.le_refl _) (Or.inl ⟨rfl, fun u h1 h2 => absurd h1 (by omega)⟩)
  refine e_X13_makeArcs ?_
  refine u_X13_makeArcs_0 ?_; unfold qm_X13_makeArcs_0
  refine w_wrF (c1 A.length 0 0 _ (by omega) rfl (fr_F (by unfold arcH; omega)) po_usF_at (fun u hu => absurd hu (by simp [rn_b])))
end XMC
end
section
/-! 99zzzzzzzzzzzzzzw.xmpd -/
/-! maps: colourings of the visits of a net -/
def at9 (L : List Nat) (b : Nat) : Nat := (L[b]?).getD 0
def tb9 (n : Nat) (f : Nat → Nat) : List Nat := (List.range n).map f
def cl9 (g : Nat) (op : Nat → Nat → Nat → Nat) (c : Nat) (S : ow_NP) (D : Nat → Bool) (L : List Nat) : Prop := L.length = 2 * c ∧ (∀ w, w < 2 * c → at9 L w < g ∧ (D w = false → at9 L w = 0)) ∧ ∀ x, x < c → D (2 * x) = true → at9 L (2 * x) = at9 L (S.2 (2 * x)) ∧ at9 L (2 * x + 1) = op x (at9 L (2 * x)) (at9 L (S.2 (2 * x + 1)))
def dC9 (c : Nat) (S : ow_NP) (D : Nat → Bool) : Prop := (∀ w, w < 2 * c → D (S.2 w) = D w) ∧ ∀ x, x < c → D (2 * x + 1) = D (2 * x)
def us9 (c : Nat) (D : Nat → Bool) (lab : Nat → Nat) (b : Nat) : Prop := ∃ w, w < 2 * c ∧ D w = true ∧ lab w = b
def ar9 (g : Nat) (op : Nat → Nat → Nat → Nat) (n c : Nat) (S : ow_NP) (D : Nat → Bool) (lab : Nat → Nat) (L : List Nat) : Prop := L.length = n ∧ (∀ b, b < n → at9 L b < g ∧ (¬ us9 c D lab b → at9 L b = 0)) ∧ ∀ x, x < c → D (2 * x) = true → at9 L (lab (2 * x + 1)) = op x (at9 L (lab (2 * x))) (at9 L (lab (S.2 (2 * x + 1))))
def lb9 (n c : Nat) (S : ow_NP) (lab : Nat → Nat) : Prop := (∀ w, w < 2 * c → lab w < n) ∧ (∀ x, x < c → lab (2 * x) = lab (S.2 (2 * x))) ∧ ∀ h : Nat → Nat, (∀ x, x < c → h (2 * x) = h (S.2 (2 * x))) → ∀ v w, v < 2 * c → w < 2 * c → lab v = lab w → h v = h w
def pd9 (f : Nat → Nat) : Nat → Nat
  | 0 => 1
  | p + 1 => pd9 f p * f p
section XMD
theorem tb9_len {n : Nat} {f : Nat → Nat} : (tb9 n f).length = n := by
  unfold tb9
  rw [List.length_map, List.length_range]
theorem tb9_at {n b : Nat} {f : Nat → Nat} (hb : b < n) : at9 (tb9 n f) b = f b := by
  unfold at9 tb9
  rw [List.getElem?_map, List.getElem?_range hb]
  rfl
theorem at9_ext {L M : List Nat} {n : Nat} (h1 : L.length = n) (h2 : M.length = n) (h : ∀ b, b < n → at9 L b = at9 M b) : L = M := by
  refine List.ext_getElem (by omega) (fun i i1 i2 => ?_)
  have := h i (by omega)
  unfold at9 at this
  rw [List.getElem?_eq_getElem i1, List.getElem?_eq_getElem i2] at this
  exact this
theorem sm9_c {k : Nat} : ∀ n, sm9 (fun _ => k) n = n * k
  | 0 => (Nat.zero_mul _).symm
  | n + 1 => by
    show sm9 (fun _ => k) n + k = _
    rw [sm9_c n, Nat.succ_mul]
theorem cnt_mul {α β : Type} {Φ : α → Prop} {Ψ : β → Prop} {n k : Nat} (h : cnt9 Φ n) (h' : cnt9 Ψ k) : cnt9 (fun p : α × β => Φ p.1 ∧ Ψ p.2) (n * k) := by
  obtain ⟨l, a1, a2, a3⟩ := h
  rw [← sm9_c n]
  have key := cnt_sm (Φ := fun i (p : α × β) => l[i]? = some p.1 ∧ Ψ p.2) (f := fun _ => k) (fun L p q h1 h2 => ?_) n (fun p hp => ?_)
  · refine cnt_cg (fun L => ?_) key
    constructor
    · rintro ⟨p, p1, p2, p3⟩
      exact ⟨(a2 _).mp (List.mem_of_getElem? p2), p3⟩
    · rintro ⟨p1, p2⟩
      obtain ⟨i, i1, i2⟩ := List.getElem_of_mem ((a2 _).mpr p1)
      exact ⟨i, by omega, by rw [List.getElem?_eq_getElem i1, i2], p2⟩
  · exact (List.getElem?_inj (List.getElem?_eq_some_iff.mp h1.1).1 a1).mp (h1.1.trans h2.1.symm)
  · have hp : p < l.length := by omega
    refine cnt_bij (fun b => (l[p], b)) (fun x hx => ⟨List.getElem?_eq_getElem hp, hx⟩) (fun x y _ _ e => (Prod.mk.inj e).2) (fun y hy => ⟨y.2, hy.2, ?_⟩) h'
    have := hy.1
    rw [List.getElem?_eq_getElem hp] at this
    exact Prod.ext (Option.some.inj this) rfl
variable {g c n : Nat} {op : Nat → Nat → Nat → Nat} {S : ow_NP} {D : Nat → Bool}
theorem cl9_cg {D' : Nat → Bool} {op' : Nat → Nat → Nat → Nat} (h : ∀ w, w < 2 * c → D w = D' w) (ho : ∀ x a b, x < c → op x a b = op' x a b) {L : List Nat} (hL : cl9 g op c S D L) : cl9 g op' c S D' L := by
  refine ⟨hL.1, fun w hw => ⟨(hL.2.1 w hw).1, fun e => (hL.2.1 w hw).2 (by rw [h w hw]; exact e)⟩, fun x hx e => ?_⟩
  have := hL.2.2 x hx (by rw [h _ (by omega)]; exact e)
  rw [ho x _ _ hx] at this
  exact this
/-- colourings of arcs and of visits -/
theorem ar_cl {lab : Nat → Nat} {N : Nat} (hv : vn c S) (hD : dC9 c S D) (hl : lb9 n c S lab) (hg : 0 < g) (h : cnt9 (ar9 g op n c S D lab) N) : cnt9 (cl9 g op c S D) N := by
  obtain ⟨l1, l2, l3⟩ := hl
  have f1 : ∀ (L : List Nat) w, w < 2 * c → at9 (tb9 (2 * c) (fun w => if D w = true then at9 L (lab w) else 0)) w = if D w = true then at9 L (lab w) else 0 := fun L w hw => tb9_at hw
  refine cnt_bij (fun L => tb9 (2 * c) (fun w => if D w = true then at9 L (lab w) else 0)) (fun L hL => ⟨tb9_len, fun w hw => ?_, fun x hx e => ?_⟩) (fun L M hL hM e => ?_) (fun H hH => ?_) h
  · rw [f1 L w hw]
    by_cases d : D w = true
    · rw [if_pos d]
      exact ⟨(hL.2.1 _ (l1 w hw)).1, fun e => by rw [e] at d; cases d⟩
    · rw [if_neg d]
      exact ⟨hg, fun _ => rfl⟩
  · have s0 := (hv (2 * x) (by omega)).2.1
    have s1 := (hv (2 * x + 1) (by omega)).2.1
    have d1 : D (2 * x + 1) = true := (hD.2 x hx).trans e
    have d2 : D (S.2 (2 * x)) = true := (hD.1 _ (by omega)).trans e
    have d3 : D (S.2 (2 * x + 1)) = true := (hD.1 _ (by omega)).trans d1
    rw [f1 L _ (by omega), f1 L _ s0, f1 L _ (by omega), f1 L _ s1, if_pos e, if_pos d1, if_pos d2, if_pos d3]
    exact ⟨by rw [l2 x hx], hL.2.2 x hx e⟩
  · refine at9_ext hL.1 hM.1 (fun b hb => ?_)
    by_cases u : us9 c D lab b
    · obtain ⟨w, w1, w2, w3⟩ := u
      have e2 := congrArg (fun H => at9 H w) e
      rw [f1 L w w1, f1 M w w1, if_pos w2, if_pos w2, w3] at e2
      exact e2
    · rw [(hL.2.1 b hb).2 u, (hM.2.1 b hb).2 u]
  · have hh : ∀ x, x < c → at9 H (2 * x) = at9 H (S.2 (2 * x)) := fun x hx => by
      by_cases d : D (2 * x) = true
      · exact (hH.2.2 x hx d).1
      · have d : D (2 * x) = false := by simpa using d
        rw [(hH.2.1 _ (by omega)).2 d, (hH.2.1 _ (hv (2 * x) (by omega)).2.1).2 ((hD.1 _ (by omega)).trans d)]
    have cn := l3 (at9 H) hh
    obtain ⟨k, hk⟩ : ∃ k : Nat → Nat, ∀ b, (us9 c D lab b → ∃ w, w < 2 * c ∧ D w = true ∧ lab w = b ∧ k b = at9 H w) ∧ (¬ us9 c D lab b → k b = 0) := by
      refine Classical.axiomOfChoice (r := fun b q => (us9 c D lab b → ∃ w, w < 2 * c ∧ D w = true ∧ lab w = b ∧ q = at9 H w) ∧ (¬ us9 c D lab b → q = 0)) (fun b => ?_)
      by_cases u : us9 c D lab b
      · obtain ⟨w, w1, w2, w3⟩ := id u
        exact ⟨at9 H w, fun _ => ⟨w, w1, w2, w3, rfl⟩, fun h9 => absurd u h9⟩
      · exact ⟨0, fun h9 => absurd h9 u, fun _ => rfl⟩
    have kl : ∀ w, w < 2 * c → D w = true → k (lab w) = at9 H w := fun w hw d => by
      obtain ⟨w', w1, w2, w3, w4⟩ := (hk (lab w)).1 ⟨w, hw, d, rfl⟩
      rw [w4]
      exact cn w' w w1 hw w3
    refine ⟨tb9 n k, ⟨tb9_len, fun b hb => ?_, fun x hx e => ?_⟩, at9_ext tb9_len hH.1 (fun w hw => ?_)⟩
    · rw [tb9_at hb]
      refine ⟨?_, (hk b).2⟩
      by_cases u : us9 c D lab b
      · obtain ⟨w, w1, w2, w3, w4⟩ := (hk b).1 u
        rw [w4]
        exact (hH.2.1 w w1).1
      · rw [(hk b).2 u]
        exact hg
    · have s1 := (hv (2 * x + 1) (by omega)).2.1
      have d1 : D (2 * x + 1) = true := (hD.2 x hx).trans e
      have d3 : D (S.2 (2 * x + 1)) = true := (hD.1 _ (by omega)).trans d1
      rw [tb9_at (l1 _ (by omega)), tb9_at (l1 _ (by omega)), tb9_at (l1 _ s1), kl _ (by omega) d1, kl _ (by omega) e, kl _ s1 d3]
      exact (hH.2.2 x hx e).2
    · rw [f1 _ w hw]
      by_cases d : D w = true
      · rw [if_pos d, tb9_at (l1 w hw), kl w hw d]
      · rw [if_neg d, (hH.2.1 w hw).2 (by simpa using d)]
/-- two parts are coloured one by one -/
theorem cl_or {D1 D2 : Nat → Bool} {N1 N2 : Nat} (hv : vn c S) (h1 : dC9 c S D1) (h2 : dC9 c S D2) (hd : ∀ w, w < 2 * c → D1 w = true → D2 w = true → False) (k1 : cnt9 (cl9 g op c S D1) N1) (k2 : cnt9 (cl9 g op c S D2) N2) (hg : 0 < g) : cnt9 (cl9 g op c S (fun w => D1 w || D2 w)) (N1 * N2) := by
  have f1 : ∀ (f : Nat → Nat) w, w < 2 * c → at9 (tb9 (2 * c) f) w = f w := fun f w hw => tb9_at hw
  refine cnt_bij (fun p : List Nat × List Nat => tb9 (2 * c) (fun w => if D1 w = true then at9 p.1 w else at9 p.2 w)) (fun p hp => ⟨tb9_len, fun w hw => ?_, fun x hx e => ?_⟩) (fun p q hp hq e => ?_) (fun H hH => ?_) (cnt_mul k1 k2)
  · rw [f1 _ w hw]
    by_cases d : D1 w = true
    · rw [if_pos d]
      refine ⟨(hp.1.2.1 w hw).1, fun e => ?_⟩
      have e : (D1 w || D2 w) = false := e
      rw [d] at e
      cases e
    · rw [if_neg d]
      refine ⟨(hp.2.2.1 w hw).1, fun e => (hp.2.2.1 w hw).2 ?_⟩
      exact (Bool.or_eq_false_iff.mp e).2
  · have s0 := (hv (2 * x) (by omega)).2.1
    have s1 := (hv (2 * x + 1) (by omega)).2.1
    rw [f1 _ _ (by omega), f1 _ _ s0, f1 _ _ (by omega), f1 _ _ s1, h1.1 _ (by omega), h1.1 _ (by omega), h1.2 x hx]
    by_cases d : D1 (2 * x) = true
    · rw [if_pos d, if_pos d, if_pos d, if_pos d]
      exact hp.1.2.2 x hx d
    · rw [if_neg d, if_neg d, if_neg d, if_neg d]
      refine hp.2.2.2 x hx ?_
      rcases (Bool.or_eq_true _ _).mp e with h9 | h9
      · exact absurd h9 d
      · exact h9
  · have e2 : ∀ w, w < 2 * c → (if D1 w = true then at9 p.1 w else at9 p.2 w) = if D1 w = true then at9 q.1 w else at9 q.2 w := fun w hw => by
      have e3 := congrArg (fun H => at9 H w) e
      rw [f1 _ w hw, f1 _ w hw] at e3
      exact e3
    refine Prod.ext (at9_ext hp.1.1 hq.1.1 (fun w hw => ?_)) (at9_ext hp.2.1 hq.2.1 (fun w hw => ?_))
    · have e4 := e2 w hw
      by_cases d : D1 w = true
      · rw [if_pos d, if_pos d] at e4
        exact e4
      · have d : D1 w = false := by simpa using d
        rw [(hp.1.2.1 w hw).2 d, (hq.1.2.1 w hw).2 d]
    · have e4 := e2 w hw
      by_cases d : D1 w = true
      · have d2 : D2 w = false := by
          cases h9 : D2 w
          · rfl
          · exact absurd (hd w hw d h9) id
        rw [(hp.2.2.1 w hw).2 d2, (hq.2.2.1 w hw).2 d2]
      · rw [if_neg d, if_neg d] at e4
        exact e4
  · have hr : ∀ D' : Nat → Bool, dC9 c S D' → (∀ w, w < 2 * c → D' w = true → (D1 w || D2 w) = true) → cl9 g op c S D' (tb9 (2 * c) (fun w => if D' w = true then at9 H w else 0)) := by
      intro D' hD' hs
      refine ⟨tb9_len, fun w hw => ?_, fun x hx e => ?_⟩
      · rw [f1 _ w hw]
        by_cases d : D' w = true
        · rw [if_pos d]
          exact ⟨(hH.2.1 w hw).1, fun e => by rw [d] at e; cases e⟩
        · rw [if_neg d]
          exact ⟨hg, fun _ => rfl⟩
      · have s0 := (hv (2 * x) (by omega)).2.1
        have s1 := (hv (2 * x + 1) (by omega)).2.1
        rw [f1 _ _ (by omega), f1 _ _ s0, f1 _ _ (by omega), f1 _ _ s1, hD'.1 _ (by omega), hD'.1 _ (by omega), hD'.2 x hx, if_pos e, if_pos e, if_pos e, if_pos e]
        exact hH.2.2 x hx (hs _ (by omega) e)
    refine ⟨(tb9 (2 * c) (fun w => if D1 w = true then at9 H w else 0), tb9 (2 * c) (fun w => if D2 w = true then at9 H w else 0)), ⟨hr D1 h1 (fun w _ d => by rw [d]; rfl), hr D2 h2 (fun w _ d => by rw [d, Bool.or_true])⟩, at9_ext tb9_len hH.1 (fun w hw => ?_)⟩
    rw [f1 _ w hw]
    dsimp only
    rw [f1 _ w hw, f1 _ w hw]
    by_cases d : D1 w = true
    · rw [if_pos d, if_pos d]
    · rw [if_neg d]
      by_cases d2 : D2 w = true
      · rw [if_pos d2]
      · rw [if_neg d2]
        refine ((hH.2.1 w hw).2 ?_).symm
        show (D1 w || D2 w) = false
        rw [show D1 w = false by simpa using d, show D2 w = false by simpa using d2]
        rfl
/-- all parts -/
theorem cl_prod {pr : Nat → Nat} {P : Nat} {f : Nat → Nat} (hv : vn c S) (hg : 0 < g) (hp : ∀ w, w < 2 * c → pr w < P ∧ pr (S.2 w) = pr w) (hx : ∀ x, x < c → pr (2 * x + 1) = pr (2 * x)) (hN : ∀ p, p < P → cnt9 (cl9 g op c S (fun w => decide (pr w = p))) (f p)) : cnt9 (cl9 g op c S (fun _ => true)) (pd9 f P) := by
  have key : ∀ p, p ≤ P → cnt9 (cl9 g op c S (fun w => decide (pr w < p))) (pd9 f p) := by
    intro p
    induction p with
    | zero =>
      intro _
      refine cnt_1 (L0 := tb9 (2 * c) (fun _ => 0)) (fun L => ⟨fun hL => at9_ext hL.1 tb9_len (fun w hw => ?_), fun e => ?_⟩)
      · rw [(hL.2.1 w hw).2 (decide_eq_false (Nat.not_lt_zero _)), tb9_at hw]
      · rw [e]
        refine ⟨tb9_len, fun w hw => ?_, fun x _ h9 => absurd (of_decide_eq_true h9) (Nat.not_lt_zero _)⟩
        rw [tb9_at hw]
        exact ⟨hg, fun _ => rfl⟩
    | succ p ih =>
      intro h9
      have := cl_or (D1 := fun w => decide (pr w < p)) (D2 := fun w => decide (pr w = p)) hv ⟨fun w hw => by dsimp only; rw [(hp w hw).2], fun x hx9 => by dsimp only; rw [hx x hx9]⟩ ⟨fun w hw => by dsimp only; rw [(hp w hw).2], fun x hx9 => by dsimp only; rw [hx x hx9]⟩ (fun w _ a b => by have := of_decide_eq_true a; have := of_decide_eq_true b; omega) (ih (by omega)) (hN p (by omega)) hg
      have eD : ∀ w, (decide (pr w < p) || decide (pr w = p)) = decide (pr w < p + 1) := fun w => by
        rw [← Bool.decide_or]
        exact decide_eq_decide.mpr (by omega)
      exact cnt_cg (fun L => ⟨fun h => cl9_cg (fun w _ => eD w) (fun _ _ _ _ => rfl) h, fun h => cl9_cg (fun w _ => (eD w).symm) (fun _ _ _ _ => rfl) h⟩) this
  exact cnt_cg (fun L => ⟨fun h => cl9_cg (fun w hw => decide_eq_true (hp w hw).1) (fun _ _ _ _ => rfl) h, fun h => cl9_cg (fun w hw => (decide_eq_true (hp w hw).1).symm) (fun _ _ _ _ => rfl) h⟩) (key P (Nat.le_refl _))
end XMD
end
section
/-! 99zzzzzzzzzzzzzzx.xmpe -/
/-! maps: the reference, part by part -/
def vU9 (A : rn_L) (V : Nat → Nat → Nat) (c : Nat) : Prop := ∀ x u, x < c → u < 2 → V x u < A.flatten.length ∧ crs A (V x u) = x ∧ uns A (V x u) = u
def mR9 (A : rn_L) (sg : Nat → Bool) (V : Nat → Nat → Nat) (c m : Nat) (mm : Nat → Nat) (p : Nat) (L : List Nat) : Prop := slM m c (aK9 A A.length) sg (fun x => gA9 A (V x 0)) (fun x => gA9 A (V x 1)) (fun x => gR9 A (V x 1)) (fun x => decide (mm (rn_c A (V x 0)) = p)) L
def mQ9 (A : rn_L) (sg : Nat → Bool) (V : Nat → Nat → Nat) (c m : Nat) (mm : Nat → Nat) (p N : Nat) : Prop := (∃ v, v < A.flatten.length ∧ mm (rn_c A v) = p) ∧ cnt9 (mR9 A sg V c m mm p) N ∨ (∀ v, v < A.flatten.length → mm (rn_c A v) ≠ p) ∧ N = thM m
def mA9 (A : rn_L) (sg : Nat → Bool) (m : Nat) (v : Int32) : Prop := ∃ c V mm P f, okF A.flatten c ∧ vU9 A V c ∧ mk A mm P ∧ (∀ p, p < P → mQ9 A sg V c m mm p (f p)) ∧ v = nI (pd9 f P)
section XME
theorem pd9_cg {f f' : Nat → Nat} : ∀ p, (∀ q, q < p → f q = f' q) → pd9 f p = pd9 f' p
  | 0, _ => rfl
  | p + 1, h => by
    show pd9 f p * f p = pd9 f' p * f' p
    rw [pd9_cg p (fun q hq => h q (by omega)), h p (by omega)]
theorem vU_ex {A : rn_L} {c : Nat} (h : okF A.flatten c) : ∃ V, vU9 A V c := by
  obtain ⟨W, hW⟩ : ∃ W : Nat × Nat → Nat, ∀ q, q.1 < c → q.2 < 2 → W q < A.flatten.length ∧ crs A (W q) = q.1 ∧ uns A (W q) = q.2 := by
    refine Classical.axiomOfChoice (r := fun (q : Nat × Nat) t => q.1 < c → q.2 < 2 → t < A.flatten.length ∧ crs A t = q.1 ∧ uns A t = q.2) (fun q => ?_)
    by_cases h1 : q.1 < c
    · by_cases h2 : q.2 < 2
      · obtain ⟨t, t1, t2, t3⟩ := ok_u h h1 q.2 h2
        exact ⟨t, fun _ _ => ⟨t1, t2, t3⟩⟩
      · exact ⟨0, fun _ h9 => absurd h9 h2⟩
    · exact ⟨0, fun h9 => absurd h9 h1⟩
  exact ⟨fun x u => W (x, u), fun x u hx hu => hW (x, u) hx hu⟩
theorem vU_at {A : rn_L} {c : Nat} {V : Nat → Nat → Nat} (h : okF A.flatten c) (hV : vU9 A V c) {v : Nat} (hv : v < A.flatten.length) : crs A v < c ∧ uns A v < 2 ∧ V (crs A v) (uns A v) = v := by
  obtain ⟨a1, a2⟩ := (h.2 _).mp (vAt_mem hv)
  obtain ⟨b1, b2, b3⟩ := hV (crs A v) (uns A v) a1 a2
  exact ⟨a1, a2, vu_inj h b1 hv b2 b3⟩
theorem vU_mk {A : rn_L} {c P x : Nat} {mm : Nat → Nat} {V : Nat → Nat → Nat} (hV : vU9 A V c) (hk : mk A mm P) (hx : x < c) : mm (rn_c A (V x 1)) = mm (rn_c A (V x 0)) := by
  obtain ⟨a1, a2, a3⟩ := hV x 0 hx (by omega)
  obtain ⟨b1, b2, b3⟩ := hV x 1 hx (by omega)
  refine hk.2.1 _ _ ⟨V x 1, V x 0, ⟨fun e => ?_, vAt A (V x 1), vAt A (V x 0), vAt_of b1, vAt_of a1, b2.trans a2.symm⟩, rfl, rfl⟩
  rw [e, a3] at b3
  omega
theorem nar_b9 (b : Bool) : vp_nar .boolean (bI9 b) = bI9 b := by
  cases b <;> rfl
variable {X : (Nat → Nat → Int32) → Prop} {z : ow_MS} {St : plT}
theorem xq_maps {d k : Int32} (h : gI X z) (hR : relR z St) (hE : epA z) : Te (fun K => qe_X13_maps K d k z) (fun r => (r.2.1 1 = nI 1 ∧ ∀ e, e < 40 → d = nI e → St e = none) ∨ ∃ e A sg, e < 40 ∧ d = nI e ∧ St e = some (A, sg) ∧ (r.2.1 1 = nI 2 ∧ (k < 1 ∨ ¬ k ≤ 4) ∨ (¬ k < 1 ∧ k ≤ 4) ∧ (r.2.1 1 = nI 3 ∧ (14 < A.flatten.length ∨ 4 < A.length) ∨ r.2.1 1 = 0 ∧ A.flatten.length ≤ 14 ∧ A.length ≤ 4 ∧ ∀ m, 1 ≤ m → m ≤ 4 → k = nI m → mA9 A sg m r.1))) := by
  let Q : Int32 × ow_MS → Prop := fun r => (r.2.1 1 = nI 1 ∧ ∀ e, e < 40 → d = nI e → St e = none) ∨ ∃ e A sg, e < 40 ∧ d = nI e ∧ St e = some (A, sg) ∧ (r.2.1 1 = nI 2 ∧ (k < 1 ∨ ¬ k ≤ 4) ∨ (¬ k < 1 ∧ k ≤ 4) ∧ (r.2.1 1 = nI 3 ∧ (14 < A.flatten.length ∨ 4 < A.length) ∨ r.2.1 1 = 0 ∧ A.flatten.length ≤ 14 ∧ A.length ≤ 4 ∧ ∀ m, 1 ≤ m → m ≤ 4 → k = nI m → mA9 A sg m r.1))
  have h1 := gI_1 (c := 0) h
  have hR1 := relR_1 (c := 0) hR
  refine e_X13_maps ?_
  refine u_X13_maps_0 ?_; unfold qm_X13_maps_0
  refine w_wrF (w_hasX hR1 (fun h0 => w_ifT rfl (w_mono (w_failX h1 fr_1) (fun r hr => Or.inl ⟨hr.2.1, h0⟩))) (fun e A sg he hx hs hv hne => w_ifF (by decide) ?_))
  subst hx
  have c1 : (k < 1 ∨ ¬ k ≤ 4) → ∀ {x1 x2 : Int32}, Tt (fun K i => q_X13_maps K i 1 x1 x2 0 0 0 0 0 0 (usF z 1 0)) Q := by
    intro hk x1 x2
    refine u_X13_maps_1 ?_; unfold qm_X13_maps_1
    exact w_mono (w_failX h1 fr_1) (fun r hr => Or.inr ⟨e, A, sg, he, rfl, hs, Or.inl ⟨hr.2.1, hk⟩⟩)
  refine w_if (fun h9 => c1 (Or.inl h9)) (fun h0 => w_if (fun h4 => ?_) (fun h9 => c1 (Or.inr h9)))
  obtain ⟨m, hm1, hm4, rfl⟩ : ∃ m, 1 ≤ m ∧ m ≤ 4 ∧ k = nI m := by
    obtain ⟨a, ha, rfl⟩ := nI_of (x := k) (fun h9 => h0 (by
      rw [Int32.lt_iff_toInt_lt] at h9 ⊢
      exact Int.lt_trans h9 (by decide)))
    refine ⟨a, ?_, (nI_leI (b := 4) ha (by omega)).mp h4, rfl⟩
    rcases Nat.eq_zero_or_pos a with h9 | h9
    · exact absurd (show nI a < 1 by rw [h9]; decide) h0
    · exact h9
  refine w_cs0 (to_open pn1 he hv) (fun z2 ⟨o2, f2⟩ => ?_)
  have g2 : gI X z2 := gI_net pn1 f2 (fun g hg => by omega) h1
  have hl := o2.len
  have hC := o2.2.2.2
  have c2 : (14 < A.flatten.length ∨ 4 < A.length) → ∀ {x1 x2 : Int32}, Tt (fun K i => q_X13_maps K i 2 x1 x2 0 0 0 0 0 0 z2) Q := by
    intro hk x1 x2
    refine u_X13_maps_2 ?_; unfold qm_X13_maps_2
    exact w_mono (w_failX (z0 := z2) g2 fr_rf) (fun r hr => Or.inr ⟨e, A, sg, he, rfl, hs, Or.inr ⟨⟨h0, h4⟩, Or.inl ⟨hr.2.1, hk⟩⟩⟩)
  refine w_rdF o2.1.V (w_lt (a := 14) (by omega) (by omega) (fun h9 => c2 (Or.inl h9)) (fun h14 => w_rdF (lk_C o2.1) (w_le (b := 4) (by omega) (by omega) (fun h44 => ?_) (fun h9 => c2 (Or.inr (by omega))))))
  obtain ⟨c, hok, hc⟩ := o2.2.2.1
  have hV := okF_len hok
  refine w_cs0 (tn_split pn1 (by omega) (by omega) (wkF_ok o2.wk) o2.1) (fun z3 ⟨f3, P, hpt⟩ => ?_)
  obtain ⟨mm, hmk, hmm⟩ := mk_of (by omega) hpt
  have hPl := hpt.2.1
  have o3 : oNet z3 1000 A sg := oNet_fr f3 (fun g hg => by unfold frP at hg; omega) o2
  have e3 : epA z3 := epA_fr f3 (fun g g1 g2 hg => by unfold frP at hg; omega) (epA_fr f2 (fun g g1 g2 hg => by omega) (epA_fr (fr_F (P := fun g => g = 1) rfl) (fun g g1 g2 hg => by omega) hE))
  have t3 : z3.1 1 = 0 := by
    rw [(f3 1 (by unfold frP; omega)).1, (f2 1 (by omega)).1]
    exact po_usF_at
  refine w_cs0 (xp_arcs pn1 o3 hok) (fun z4 ⟨hA4, f4⟩ => ?_)
  have o4 : oNet z4 1000 A sg := oNet_fr f4 (fun g hg => by unfold arcH at hg; omega) o3
  have e4 : epA z4 := epA_fr f4 (fun g g1 g2 hg => by unfold arcH at hg; omega) e3
  have t4 : z4.1 1 = 0 := by rw [(f4 1 (by unfold arcH; omega)).1]; exact t3
  have hP4 : z4.1 1013 = nI P := by rw [(f4 1013 (by unfold arcH; omega)).1]; exact hpt.1
  have hm4' : ∀ t, t < A.length → z4.2.1 1012 t = nI (mm t) := fun t ht => by rw [(f4 1012 (by unfold arcH; omega)).2.1]; exact hmm t ht
  obtain ⟨V, hVU⟩ := vU_ex hok
  have kL := aK9_le (A := A) A.length
  have kU := uN_c hok
  rw [rn_b_len] at kL
  have hX4 : arX z4 c (aK9 A A.length) (fun x => gA9 A (V x 0)) (fun x => gA9 A (V x 1)) (fun x => gR9 A (V x 1)) := by
    intro x hx
    obtain ⟨a1, a2, a3⟩ := hVU x 0 hx (by omega)
    obtain ⟨b1, b2, b3⟩ := hVU x 1 hx (by omega)
    have q1 := (hA4 _ a1).1 a3
    have q2 := (hA4 _ b1).2 (by omega)
    rw [a2] at q1
    rw [b2] at q2
    have lt : ∀ v u, v < A.flatten.length → u ≤ v + 1 → gK9 A (rn_c A v) u < aK9 A A.length := fun v u hv hu => by
      obtain ⟨d1, d2, d3⟩ := rn_c_in A v hv
      exact Nat.lt_of_lt_of_le (gK9_lt (A := A) (k := rn_c A v) (u := u) (by omega)).2 (aK9_mono (A := A) (a := rn_c A v + 1) A.length (by omega))
    exact ⟨⟨q1, lt _ _ a1 (by omega)⟩, ⟨q2.1, lt _ _ b1 (by omega)⟩, q2.2, lt _ _ b1 (by omega)⟩
  let F : Nat → Prop := fun g => 77 ≤ g ∧ g ≤ 80
  have xF : ∀ {y : ow_MS} {pt : Nat → Bool}, fr F z4 y → pY9 y c pt → mcX y 1000 m A sg c (aK9 A A.length) (fun x => gA9 A (V x 0)) (fun x => gA9 A (V x 1)) (fun x => gR9 A (V x 1)) pt := fun {y} {pt} hf hp => by
    refine ⟨oNet_fr hf (fun g hg => by have hg : 77 ≤ g ∧ g ≤ 80 := hg; omega) o4, fun x hx => ?_, (fun o x ho hx hl => ?_), hp⟩
    · rw [(hf 61 (by show ¬ (77 ≤ 61 ∧ 61 ≤ 80); omega)).2.1, (hf 62 (by show ¬ (77 ≤ 62 ∧ 62 ≤ 80); omega)).2.1, (hf 63 (by show ¬ (77 ≤ 63 ∧ 63 ≤ 80); omega)).2.1]
      exact hX4 x hx
    · rw [(hf 75 (by show ¬ (77 ≤ 75 ∧ 75 ≤ 80); omega)).2.1, (hf 76 (by show ¬ (77 ≤ 76 ∧ 76 ≤ 80); omega)).2.1]
      exact (e4.1 m hm1 hm4).2 o x ho hx hl
  have f73 : ∀ {y : ow_MS}, fr F z4 y → y.2.1 73 m = nI (thM m) := fun hf => by
    rw [(hf 73 (by show ¬ (77 ≤ 73 ∧ 73 ≤ 80); omega)).2.1]
    exact e4.2 m hm4
  have oF : ∀ {y : ow_MS}, fr F z4 y → oNet y 1000 A sg := fun hf => oNet_fr hf (fun g hg => by have hg : 77 ≤ g ∧ g ≤ 80 := hg; omega) o4
  have c3 : ∀ (d p : Nat) (f : Nat → Nat) (x3 : Int32) (y : ow_MS), p + d = P → fr F z4 y → x3 = nI (pd9 f p) → (∀ q, q < p → mQ9 A sg V c m mm q (f q)) → Tt (fun K i => q_X13_maps K i 3 (nI e) (nI m) x3 (nI p) 0 0 0 0 y) Q := by
    intro d
    induction d with
    | zero =>
      intro p f x3 y hp hf hx3 hq
      have hp : p = P := by omega
      subst hp
      refine u_X13_maps_3 ?_; unfold qm_X13_maps_3
      refine w_rdF (x := nI p) (by rw [(hf (1000 + 13) (by show ¬ (77 ≤ 1013 ∧ 1013 ≤ 80); omega)).1]; exact hP4) (w_leT (by omega) (by omega) (w_some (Or.inr ⟨e, A, sg, he, rfl, hs, Or.inr ⟨⟨h0, h4⟩, Or.inr ⟨?_, by omega, h44, fun m' q1 q2 q3 => ?_⟩⟩⟩)))
      · show y.1 1 = 0
        rw [(hf 1 (by show ¬ (77 ≤ 1 ∧ 1 ≤ 80); omega)).1]
        exact t4
      · have em := nI_inj9 (a := m) (b := m') (by omega) (by omega) q3
        rw [← em]
        exact ⟨c, V, mm, p, f, hok, hVU, hmk, hq, hx3⟩
    | succ d ih =>
      intro p f x3 y hp hf hx3 hq
      have c7 : ∀ (x5 x6 : Int32) (N : Nat) (y : ow_MS), fr F z4 y → mQ9 A sg V c m mm p N → Tt (fun K i => q_X13_maps K i 7 (nI e) (nI m) x3 (nI p) x5 x6 (nI N) x3 y) Q := by
        intro x5 x6 N y hf hN
        refine u_X13_maps_7 ?_; unfold qm_X13_maps_7
        rw [nI_1]
        refine ih (p + 1) (fun q => if q = p then N else f q) _ y (by omega) hf ?_ (fun q hq9 => ?_)
        · rw [hx3, pk_mul]
          show nI (pd9 f p * N) = nI (pd9 (fun q => if q = p then N else f q) p * (if p = p then N else f p))
          rw [if_pos rfl, pd9_cg p (f' := fun q => if q = p then N else f q) (fun q hq9 => (if_neg (by omega)).symm)]
        · by_cases eq : q = p
          · rw [eq, if_pos rfl]
            exact hN
          · rw [if_neg eq]
            exact hq q (by omega)
      have c5 : ∀ (d v : Nat) (b : Bool) (y : ow_MS), v + d = A.flatten.length → fr F z4 y → (∀ b, b < 40 → y.2.1 77 b = -1) → (b = true ↔ ∃ u, u < v ∧ mm (rn_c A u) = p) → (∀ u, u < v → y.2.1 80 (crs A u) = bI9 (decide (mm (rn_c A u) = p))) → Tt (fun K i => q_X13_maps K i 5 (nI e) (nI m) x3 (nI p) (bI9 b) (nI v) 0 0 y) Q := by
        intro d
        induction d with
        | zero =>
          intro v b y hv hf h77 hb h80
          have hv : v = A.flatten.length := by omega
          subst hv
          refine u_X13_maps_5 ?_; unfold qm_X13_maps_5
          have hf2 : fr F z4 (usF y 79 0) := fr_F2 hf (by show 77 ≤ 79 ∧ 79 ≤ 80; omega)
          refine w_rdF (oF hf).1.V (w_leT (by omega) (by omega) (w_wrF ?_))
          cases b
          · refine w_ifT rfl (w_rdI ml73 rfl (by omega) (f73 hf2) (c7 _ _ (thM m) _ hf2 (Or.inr ⟨fun u hu e9 => ?_, rfl⟩)))
            exact absurd (hb.mpr ⟨u, hu, e9⟩) (by decide)
          · refine w_ifF (by decide) ?_
            have hI0 : mgI (usF y 79 0) (aK9 A A.length) m [] := ⟨po_usF_at, List.nodup_nil, fun b hb => absurd hb List.not_mem_nil, fun i b hb => (by simp at hb), fun b hb => Or.inl ⟨List.not_mem_nil, h77 b hb⟩⟩
            have h80' : pY9 (usF y 79 0) c (fun x => decide (mm (rn_c A (V x 0)) = p)) := fun x hx => by
              obtain ⟨a1, a2, a3⟩ := hVU x 0 hx (by omega)
              have := h80 _ a1
              rw [a2] at this
              exact this
            refine w_cs1 (xp_mapsOf pn1 hm1 hm4 hV (by omega) (by omega) (aK9 A A.length - ([] : List Nat).length) 42 [] _ (Nat.le_refl _) (by show aK9 A A.length - 0 < 42; omega) hI0 (xF hf2 h80') (f73 hf2) (fun b hb => absurd hb List.not_mem_nil)) ?_
            rintro v1 y1 ⟨⟨_, f5⟩, -, N, eN, hN⟩
            have eN : v1 = nI N := eN
            have f5 : fr gvH (usF y 79 0) y1 := f5
            rw [eN]
            refine c7 _ _ N y1 (fr_tr hf2 (fr_mono (fun g hg => by unfold gvH at hg; show 77 ≤ g ∧ g ≤ 80; omega) f5)) (Or.inl ⟨hb.mp rfl, ?_⟩)
            exact cnt_cg (fun L => ⟨fun h9 => h9.1, fun h9 => ⟨h9, fun b q hb => absurd hb List.not_mem_nil⟩⟩) hN
        | succ d ih5 =>
          intro v b y hv hf h77 hb h80
          have hvl : v < A.flatten.length := by omega
          have hO := oF hf
          have hcx := (hO.cx hvl).1
          have hcc := (rn_c_in A v hvl).1
          have c6 : ∀ (t : Bool), t = decide (mm (rn_c A v) = p) → Tt (fun K i => q_X13_maps K i 6 (nI e) (nI m) x3 (nI p) (bI9 b) (nI v) (bI9 t) 0 y) Q := by
            intro t ht
            refine u_X13_maps_6 ?_; unfold qm_X13_maps_6
            rw [nI_1, show bI9 b ||| bI9 t = bI9 (b || t) from by cases b <;> cases t <;> rfl]
            refine w_rdI (pl4 pn1) rfl (by omega) (lk_cu hO.1 hvl).1 (w_wrZ ml80 rfl (by omega) (ih5 (v + 1) _ _ (by omega) (fr_I2 hf (by show 77 ≤ 80 ∧ 80 ≤ 80; omega)) (fun b hb => rd_ot (by omega) (h77 b hb)) ?_ (fun u hu => ?_)))
            · rw [Bool.or_eq_true, hb, ht, decide_eq_true_eq]
              constructor
              · rintro (⟨u, u1, u2⟩ | h9)
                · exact ⟨u, by omega, u2⟩
                · exact ⟨v, by omega, h9⟩
              · rintro ⟨u, u1, u2⟩
                by_cases euv : u = v
                · rw [euv] at u2
                  exact Or.inr u2
                · exact Or.inl ⟨u, by omega, u2⟩
            · rw [nar_b9]
              by_cases ec : crs A u = crs A v
              · rw [ec, po_usI_at, ht]
                obtain ⟨a1, a2, a3⟩ := vU_at hok hVU (v := u) (by omega)
                obtain ⟨b1, b2, b3⟩ := vU_at hok hVU hvl
                have same : ∀ w, w < A.flatten.length → crs A w = crs A v → mm (rn_c A w) = mm (rn_c A (V (crs A v) 0)) := fun w hw ew => by
                  obtain ⟨d1, d2, d3⟩ := vU_at hok hVU hw
                  rw [ew] at d3
                  have := vU_mk hVU hmk b1
                  rcases (show uns A w = 0 ∨ uns A w = 1 by omega) with e9 | e9
                  · rw [e9] at d3
                    rw [d3]
                  · rw [e9] at d3
                    rw [← this, d3]
                rw [same u (by omega) ec, same v hvl rfl]
              · rw [po_usI_ne ec]
                by_cases euv : u = v
                · rw [euv] at ec
                  exact absurd rfl ec
                · exact h80 u (by omega)
          have hmv := hmk.1 _ hcc
          refine u_X13_maps_5 ?_; unfold qm_X13_maps_5
          refine w_rdF hO.1.V (w_leF (by omega) hvl (w_rdI (pl8 pn1) rfl (by omega) (lk_c hO.1 hvl) (w_rdI (pl12 pn1) rfl (by omega) ((congrFun (hf 1012 (by show ¬ (77 ≤ 1012 ∧ 1012 ≤ 80); omega)).2.1 _).trans (hm4' _ hcc)) (w_eqN (by omega) (by omega) (fun h9 => c6 true (decide_eq_true h9).symm) (fun h9 => c6 false (decide_eq_false h9).symm)))))
      have c4 : ∀ (d b : Nat) (y : ow_MS), b + d = 40 → fr F z4 y → (∀ t, t < b → y.2.1 77 t = -1) → Tt (fun K i => q_X13_maps K i 4 (nI e) (nI m) x3 (nI p) 0 (nI b) 0 0 y) Q := by
        intro d
        induction d with
        | zero =>
          intro b y hb hf h77
          refine u_X13_maps_4 ?_; unfold qm_X13_maps_4
          refine w_leT (a := 40) (by omega) (by omega) (c5 A.flatten.length 0 false y (by omega) hf (fun t ht => h77 t (by omega)) ⟨fun h9 => (by cases h9), fun ⟨u, hu, _⟩ => absurd hu (Nat.not_lt_zero _)⟩ (fun u hu => absurd hu (Nat.not_lt_zero _)))
        | succ d ih4 =>
          intro b y hb hf h77
          refine u_X13_maps_4 ?_; unfold qm_X13_maps_4
          rw [nI_1]
          refine w_leF (a := 40) (by omega) (by omega) (w_wrI ml77 rfl (by omega) (ih4 (b + 1) _ (by omega) (fr_I2 hf (by show 77 ≤ 77 ∧ 77 ≤ 80; omega)) (fun t ht => ?_)))
          by_cases htb : t = b
          · rw [htb, po_usI_at]
          · exact rd_ne htb (h77 t (by omega))
      refine u_X13_maps_3 ?_; unfold qm_X13_maps_3
      exact w_rdF (x := nI P) (by rw [(hf (1000 + 13) (by show ¬ (77 ≤ 1013 ∧ 1013 ≤ 80); omega)).1]; exact hP4) (w_leF (by omega) (by omega) (c4 40 0 y (by omega) hf (fun t ht => absurd ht (by omega))))
  exact c3 P 0 (fun _ => 0) 1 z4 (by omega) fr_rf rfl (fun q hq => absurd hq (Nat.not_lt_zero _))
end XME
end
section
/-! 99zzzzzzzzzzzzzzy.xmpf -/
/-! maps: the number that the reference answers, of the net's visits -/
section XMF
variable {A : rn_L} {sg : Nat → Bool} {c ci : Nat} {S : ow_NP} {G : Nat → Int32} {V : Nat → Nat → Nat}
def vW9 (V : Nat → Nat → Nat) (w : Nat) : Nat := V (w / 2) (w % 2)
theorem vW_0 (hV : vU9 A V c) {w : Nat} (hw : w < 2 * c) : vW9 V w < A.flatten.length ∧ crs A (vW9 V w) = w / 2 ∧ uns A (vW9 V w) = w % 2 := hV (w / 2) (w % 2) (by omega) (by omega)
theorem vW_e {x : Nat} : vW9 V (2 * x) = V x 0 := by
  unfold vW9
  rw [show 2 * x / 2 = x by omega, show 2 * x % 2 = 0 by omega]
theorem vW_o {x : Nat} : vW9 V (2 * x + 1) = V x 1 := by
  unfold vW9
  rw [show (2 * x + 1) / 2 = x by omega, show (2 * x + 1) % 2 = 1 by omega]
theorem vW_l (hV : vU9 A V c) {w : Nat} (hw : w < 2 * c) : lbv A (fun x => x) (vW9 V w) = w := by
  obtain ⟨a1, a2, a3⟩ := vW_0 hV hw
  show 2 * crs A (vW9 V w) + uns A (vW9 V w) = w
  rw [a2, a3]
  omega
theorem vW_nx (hi : isoN A sg (fun x => x) (c, ci, S, G)) (hv : vn c S) (hV : vU9 A V c) {w : Nat} (hw : w < 2 * c) : rn_nx A (vW9 V (S.2 w)) = vW9 V w := by
  obtain ⟨-, b2, -, b4⟩ := hv w hw
  obtain ⟨a1, -, -⟩ := vW_0 hV b2
  obtain ⟨c1, -, -⟩ := vW_0 hV hw
  have h1 : S.1 (lbv A (fun x => x) (vW9 V (S.2 w))) = lbv A (fun x => x) (rn_nx A (vW9 V (S.2 w))) := hi.2.2.2.2.2.1 _ a1
  rw [vW_l hV b2, b4] at h1
  exact lbv_inj hi (rn_nx_lt a1) c1 (h1.symm.trans (vW_l hV hw).symm)
theorem vW_lb9 (hi : isoN A sg (fun x => x) (c, ci, S, G)) (hv : vn c S) (hok : okF A.flatten c) (hV : vU9 A V c) : lb9 (aK9 A A.length) c S (fun w => gR9 A (vW9 V w)) := by
  have hl : A.flatten.length = 2 * c := okF_len hok
  refine ⟨fun w hw => ?_, fun x hx => ?_, fun h hh v w hv1 hw1 e => ?_⟩
  · obtain ⟨a1, -, -⟩ := vW_0 hV hw
    obtain ⟨d1, d2, d3⟩ := rn_c_in A _ a1
    exact Nat.lt_of_lt_of_le (gK9_lt (A := A) (k := rn_c A (vW9 V w)) (u := vW9 V w + 1) (by omega)).2 (aK9_mono (A := A) (a := rn_c A (vW9 V w) + 1) A.length (by omega))
  · dsimp only
    obtain ⟨a1, a2, a3⟩ := vW_0 hV (show 2 * x < 2 * c by omega)
    have b2 := (hv (2 * x) (by omega)).2.1
    rw [gR9_ov (by rw [a3]; omega), ← vW_nx hi hv hV (show 2 * x < 2 * c by omega)]
    exact gA9_nx (vW_0 hV b2).1
  · have key := gR9_cn (A := A) (h := fun v => h (lbv A (fun x => x) v)) (fun u hu e0 => ?_) (vW_0 hV hv1).1 (vW_0 hV hw1).1 e
    · rw [vW_l hV hv1, vW_l hV hw1] at key
      exact key
    · have h1 : S.1 (lbv A (fun x => x) u) = lbv A (fun x => x) (rn_nx A u) := hi.2.2.2.2.2.1 u hu
      have l1 : lbv A (fun x => x) u < 2 * c := lbv_lt hi hu
      have e1 : lbv A (fun x => x) (rn_nx A u) = 2 * crs A (rn_nx A u) := by
        show 2 * crs A (rn_nx A u) + uns A (rn_nx A u) = _
        rw [e0]
        rfl
      have l2 : lbv A (fun x => x) (rn_nx A u) < 2 * c := lbv_lt hi (rn_nx_lt hu)
      have := hh (crs A (rn_nx A u)) (by omega)
      rw [← e1, ← h1, (hv _ l1).2.2.1] at this
      rw [← h1]
      exact this
theorem at9_some {L : List Nat} {b : Nat} (hb : b < L.length) : L[b]? = some (at9 L b) := by
  unfold at9
  rw [List.getElem?_eq_getElem hb]
  rfl
theorem sl_ar {m p P : Nat} {mm : Nat → Nat} (hi : isoN A sg (fun x => x) (c, ci, S, G)) (hv : vn c S) (hok : okF A.flatten c) (hV : vU9 A V c) (hk : mk A mm P) (L : List Nat) : mR9 A sg V c m mm p L ↔ ar9 (thM m) (fun x o i => opM m (sg x) o i) (aK9 A A.length) c S (fun w => decide (mm (rn_c A (vW9 V w)) = p)) (fun w => gR9 A (vW9 V w)) L := by
  have hlb := vW_lb9 hi hv hok hV
  have e1 : ∀ x, x < c → gA9 A (V x 0) = gR9 A (vW9 V (2 * x)) := fun x hx => by
    rw [vW_e, gR9_ov (hV x 0 hx (by omega)).2.2]
  have e2 : ∀ x, x < c → gA9 A (V x 1) = gR9 A (vW9 V (S.2 (2 * x + 1))) := fun x hx => by
    have b2 := (hv (2 * x + 1) (by omega)).2.1
    rw [← vW_o (V := V) (x := x), ← vW_nx hi hv hV (show 2 * x + 1 < 2 * c by omega)]
    exact gA9_nx (vW_0 hV b2).1
  have e3 : ∀ x, gR9 A (V x 1) = gR9 A (vW9 V (2 * x + 1)) := fun x => by rw [vW_o]
  have d1 : ∀ x, x < c → mm (rn_c A (vW9 V (2 * x + 1))) = mm (rn_c A (vW9 V (2 * x))) := fun x hx => by
    rw [vW_o, vW_e]
    exact vU_mk hV hk hx
  have d2 : ∀ w, w < 2 * c → mm (rn_c A (vW9 V (S.2 w))) = mm (rn_c A (vW9 V w)) := fun w hw => by
    rw [← vW_nx hi hv hV hw, c_nx (vW_0 hV (hv w hw).2.1).1]
  have us : ∀ b, usP c (fun x => gA9 A (V x 0)) (fun x => gA9 A (V x 1)) (fun x => gR9 A (V x 1)) (fun x => decide (mm (rn_c A (V x 0)) = p)) b ↔ us9 c (fun w => decide (mm (rn_c A (vW9 V w)) = p)) (fun w => gR9 A (vW9 V w)) b := by
    intro b
    constructor
    · rintro ⟨x, hx, hp, hb⟩
      have hp : mm (rn_c A (V x 0)) = p := of_decide_eq_true hp
      rw [← vW_e (V := V) (x := x)] at hp
      rcases hb with hb | hb | hb
      · exact ⟨2 * x, by omega, decide_eq_true hp, (e1 x hx).symm.trans hb.symm⟩
      · exact ⟨S.2 (2 * x + 1), (hv (2 * x + 1) (by omega)).2.1, decide_eq_true ((d2 _ (by omega)).trans ((d1 x hx).trans hp)), (e2 x hx).symm.trans hb.symm⟩
      · exact ⟨2 * x + 1, by omega, decide_eq_true ((d1 x hx).trans hp), (e3 x).symm.trans hb.symm⟩
    · rintro ⟨w, hw, hp, hb⟩
      have hp : mm (rn_c A (vW9 V w)) = p := of_decide_eq_true hp
      have hb : gR9 A (vW9 V w) = b := hb
      rcases (show w = 2 * (w / 2) ∨ w = 2 * (w / 2) + 1 by omega) with e | e
      · rw [e] at hp hb
        refine ⟨w / 2, by omega, decide_eq_true ?_, Or.inl ?_⟩
        · rw [← vW_e (V := V) (x := w / 2)]
          exact hp
        · exact hb.symm.trans (e1 _ (by omega)).symm
      · rw [e] at hp hb
        refine ⟨w / 2, by omega, decide_eq_true ?_, Or.inr (Or.inr ?_)⟩
        · rw [← vW_e (V := V) (x := w / 2), ← d1 _ (by omega)]
          exact hp
        · exact hb.symm.trans (e3 _).symm
  constructor
  · rintro ⟨h1, h2, h3⟩
    refine ⟨h1, fun b hb => ?_, fun x hx hp => ?_⟩
    · have := h2 b _ (at9_some (by omega))
      exact ⟨this.1, fun h9 => this.2 (fun h8 => h9 ((us b).mp h8))⟩
    · have hp : mm (rn_c A (vW9 V (2 * x))) = p := of_decide_eq_true hp
      rw [vW_e] at hp
      have l1 := hlb.1 (2 * x) (by omega)
      have l2 := hlb.1 (S.2 (2 * x + 1)) (hv (2 * x + 1) (by omega)).2.1
      have l3 := hlb.1 (2 * x + 1) (by omega)
      dsimp only at l1 l2 l3 ⊢
      refine h3 x hx (decide_eq_true hp) _ _ _ ?_ ?_ ?_
      · dsimp only
        rw [e1 x hx]
        exact at9_some (by omega)
      · dsimp only
        rw [e2 x hx]
        exact at9_some (by omega)
      · dsimp only
        rw [e3 x]
        exact at9_some (by omega)
  · rintro ⟨h1, h2, h3⟩
    refine ⟨h1, fun b q hb => ?_, fun x hx hp o i j ho hi9 hj => ?_⟩
    · have hl := (List.getElem?_eq_some_iff.mp hb).1
      have eb := Option.some.inj ((at9_some hl).symm.trans hb)
      have := h2 b (by omega)
      rw [eb] at this
      exact ⟨this.1, fun h9 => this.2 (fun h8 => h9 ((us b).mpr h8))⟩
    · have hp : mm (rn_c A (V x 0)) = p := of_decide_eq_true hp
      have k3 := h3 x hx (decide_eq_true (by rw [vW_e]; exact hp))
      dsimp only at k3 ho hi9 hj
      rw [e1 x hx] at ho
      rw [e2 x hx] at hi9
      rw [e3 x] at hj
      have f1 := Option.some.inj ((at9_some (List.getElem?_eq_some_iff.mp ho).1).symm.trans ho)
      have f2 := Option.some.inj ((at9_some (List.getElem?_eq_some_iff.mp hi9).1).symm.trans hi9)
      have f3 := Option.some.inj ((at9_some (List.getElem?_eq_some_iff.mp hj).1).symm.trans hj)
      rw [f1, f2, f3] at k3
      exact k3
theorem thM_pos (m : Nat) : 0 < thM m := by
  unfold thM
  split
  · decide
  · split
    · decide
    · split <;> decide
/-- what the reference answers: all colourings, and a factor for each circle -/
theorem mA_cl {m : Nat} {v : Int32} (hi : isoN A sg (fun x => x) (c, ci, S, G)) (hv : vn c S) (h : mA9 A sg m v) : ∃ N, cnt9 (cl9 (thM m) (fun x o i => opM m (sg x) o i) c S (fun _ => true)) N ∧ v = nI (N * thM m ^ cirs A) := by
  obtain ⟨c', V, mm, P, f, hok, hV, hk, hq, hx⟩ := h
  have ec : c' = c := by
    have h1 := okF_len hok
    have h2 : A.flatten.length = 2 * c := hi.2.1
    omega
  subst ec
  have pw : ∀ w, w < 2 * c' → mm (rn_c A (vW9 V w)) < P := fun w hw => hk.1 _ (rn_c_in A _ (vW_0 hV hw).1).1
  have d1 : ∀ x, x < c' → mm (rn_c A (vW9 V (2 * x + 1))) = mm (rn_c A (vW9 V (2 * x))) := fun x hx => by
    rw [vW_o, vW_e]
    exact vU_mk hV hk hx
  have d2 : ∀ w, w < 2 * c' → mm (rn_c A (vW9 V (S.2 w))) = mm (rn_c A (vW9 V w)) := fun w hw => by
    rw [← vW_nx hi hv hV hw, c_nx (vW_0 hV (hv w hw).2.1).1]
  have nv : ∀ p, pvl A mm p A.flatten.length = [] ↔ ∀ v, v < A.flatten.length → mm (rn_c A v) ≠ p := fun p => by
    unfold pvl
    rw [List.filter_eq_nil_iff]
    constructor
    · intro h9 v hv9 e
      exact h9 v (List.mem_range.mpr hv9) (decide_eq_true e)
    · intro h9 v hv9 e
      exact h9 v (List.mem_range.mp hv9) (of_decide_eq_true e)
  refine ⟨pd9 (fun p => if pvl A mm p A.flatten.length = [] then 1 else f p) P, cl_prod (pr := fun w => mm (rn_c A (vW9 V w))) hv (thM_pos m) (fun w hw => ⟨pw w hw, d2 w hw⟩) d1 (fun p hp => ?_), ?_⟩
  · by_cases e : pvl A mm p A.flatten.length = []
    · rw [if_pos e]
      have e' := (nv p).mp e
      refine cnt_1 (L0 := tb9 (2 * c') (fun _ => 0)) (fun L => ⟨fun hL => at9_ext hL.1 tb9_len (fun w hw => ?_), fun eL => ?_⟩)
      · rw [(hL.2.1 w hw).2 (decide_eq_false (e' _ (vW_0 hV hw).1)), tb9_at hw]
      · rw [eL]
        refine ⟨tb9_len, fun w hw => ?_, fun x hx9 h9 => absurd (of_decide_eq_true h9) (e' _ (vW_0 hV (by omega)).1)⟩
        rw [tb9_at hw]
        exact ⟨thM_pos m, fun _ => rfl⟩
    · rw [if_neg e]
      rcases hq p hp with ⟨-, hN⟩ | ⟨h9, -⟩
      · exact ar_cl hv ⟨fun w hw => by dsimp only; rw [d2 w hw], fun x hx9 => by dsimp only; rw [d1 x hx9]⟩ (vW_lb9 hi hv hok hV) (thM_pos m) (cnt_cg (fun L => sl_ar hi hv hok hV hk L) hN)
      · exact absurd ((nv p).mpr h9) e
  · rw [hx, ← cir_eq hk]
    have key : ∀ p, p ≤ P → pd9 f p = pd9 (fun p => if pvl A mm p A.flatten.length = [] then 1 else f p) p * thM m ^ cir A mm p := by
      intro p
      induction p with
      | zero => exact fun _ => rfl
      | succ p ih =>
        intro hp
        show pd9 f p * f p = (pd9 _ p * (if pvl A mm p A.flatten.length = [] then 1 else f p)) * thM m ^ (cir A mm p + if pvl A mm p A.flatten.length = [] then 1 else 0)
        rw [ih (by omega)]
        by_cases e : pvl A mm p A.flatten.length = []
        · rw [if_pos e, if_pos e, Nat.mul_one, Nat.pow_succ, Nat.mul_assoc]
          congr 1
          rcases hq p (by omega) with ⟨⟨v, v1, v2⟩, -⟩ | ⟨-, h9⟩
          · exact absurd v2 ((nv p).mp e v v1)
          · rw [h9]
        · rw [if_neg e, if_neg e, Nat.add_zero, Nat.mul_assoc, Nat.mul_assoc, Nat.mul_comm (f p)]
    rw [key P (Nat.le_refl _)]
end XMF
end
section
/-! 99zzzzzzzzzzzzzzz.xmpg -/
/-! maps: the class's arcs; classes of permutations -/
/-- alike along visits over -/
def hC9 (S : ow_NP) (c : Nat) (h : Nat → Nat) : Prop := ∀ v, v < 2 * c → S.1 v % 2 = 0 → h (S.1 v) = h v
def hI9 (S : ow_NP) (c : Nat) (f : Nat → Option Nat) : Prop := ∀ h : Nat → Nat, hC9 S c h → ∀ v l, v < 2 * c → f v = some l → l < c → h v = h (2 * l + 1)
def hA9 (S : ow_NP) (c : Nat) (a : Nat → Nat) : Prop := ∀ h : Nat → Nat, hC9 S c h → ∀ v, v < 2 * c → a v < c → h v = h (2 * a v + 1)
section XMG
variable {vl : Nat → Nat} {y : ow_MS} {S : ow_NP} {G : Nat → Int32} {c ci : Nat} {q : Nat → Nat}
theorem hI9_ge {f : Nat → Option Nat} {v l : Nat} (hl : c ≤ l) (h : hI9 S c f) : hI9 S c (stO f v l) := fun g hg w k hw e hk => by
  by_cases ew : w = v
  · rw [ew, stO_at] at e
    have := Option.some.inj e
    omega
  · rw [stO_ne ew] at e
    exact h g hg w k hw e hk
theorem hI9_0 {f : Nat → Option Nat} {k : Nat} (h : hI9 S c f) : hI9 S c (stO f (2 * k + 1) k) := fun g hg w l hw e hk => by
  by_cases ew : w = 2 * k + 1
  · rw [ew, stO_at] at e
    rw [ew, ← Option.some.inj e]
  · rw [stO_ne ew] at e
    exact h g hg w l hw e hk
theorem hI9_s {f : Nat → Option Nat} {k v : Nat} (hv : vn c S) (hvc : v < 2 * c) (h2 : v % 2 = 0) (hp : f (S.2 v) = some k) (h : hI9 S c f) : hI9 S c (stO f v k) := fun g hg w l hw e hk => by
  by_cases ew : w = v
  · rw [ew, stO_at] at e
    have el := Option.some.inj e
    obtain ⟨-, b2, -, b4⟩ := hv v hvc
    have h1 := hg (S.2 v) b2 (by rw [b4]; exact h2)
    rw [b4] at h1
    rw [ew, h1, ← el]
    exact h g hg (S.2 v) k b2 hp (by omega)
  · rw [stO_ne ew] at e
    exact h g hg w l hw e hk
theorem xc_markArcs {h m : Nat} {R : List Nat} (hh : nH h) (hy : cAt y h (c, ci, S, G)) (hv : vn c S) (hc : c ≤ 12) (hci : ci ≤ 6) (hq : ∀ v, v < 2 * c → q (S.1 v) = q v) (hr : ∀ v w, v < 2 * c → w < 2 * c → q v = q w → ∃ i, it S.1 i v = w) (hR : R.length ≤ m) (hR2 : ∀ v, v < 2 * c → q v ∈ R) (hm : m ≤ 6) : Te (fun K => ce_X0_markArcs vl K 41000 h y) (fun y1 => (∃ a n, arcS y1 S c ci q a n ∧ n ≤ c + m ∧ c ≤ n ∧ hA9 S c a) ∧ fr arP y y1) := by
  let Q : ow_MS → Prop := fun y1 => (∃ a n, arcS y1 S c ci q a n ∧ n ≤ c + m ∧ c ≤ n ∧ hA9 S c a) ∧ fr arP y y1
  have h4 : 4000 ≤ h ∧ h ≤ 44000 := nH_all (P := fun h => 4000 ≤ h ∧ h ≤ 44000) (by decide) hh
  have h41 : ¬ (arP (h + 1) ∨ arP (h + 2) ∨ arP (h + 3) ∨ arP (h + 8) ∨ arP (h + 9)) := by
    have key : ∀ a, a ∈ nHL → a ≠ 41000 ∧ a % 1000 = 0 := by decide
    have := key h hh
    unfold arP
    omega
  have hA : ∀ z, fr arP y z → cAt z h (c, ci, S, G) := fun z hf => cAt_fr hf (fun g hg h9 => by unfold cP at hg; unfold arP at h9 h41; omega) hy
  let J : ow_MS → (Nat → Option Nat) → Nat → Prop := fun z f n => (∀ v, v < 24 → z.2.1 41001 v = oM (f v)) ∧ z.1 41002 = nI n ∧ fr arP y z ∧ hI9 S c f
  have Jset : ∀ z f n v l, J z f n → l = n → hI9 S c (stO f v l) → J (usI z 41001 v (nI l)) (stO f v l) n := by
    rintro z f n v l ⟨j1, j2, j3, j4⟩ rfl j5
    refine ⟨fun w hw => ?_, j2, fr_I2 j3 (Or.inl rfl), j5⟩
    by_cases e : w = v
    · rw [e, po_usI_at, stO_at]
      rfl
    · rw [stO_ne e]
      exact rd_ne e (j1 w hw)
  -- the last: circles come
  have fin : ∀ z f U s, ar2 S c q s U f → 2 * c ≤ s → J z f (c + U.length) → Tt (fun K k => c_X0_markArcs vl K k 1 (nI (2 * c)) (nI 0 + -1) 0 0 0 41000 h z) Q := by
    rintro z f U s ⟨a1, a2, a3, a4, ⟨u1, u2, u3, u4⟩, a6⟩ hs ⟨j1, j2, j3, j4⟩
    have hU : U.length ≤ m := Nat.le_trans (nodup_le U R u1 (fun r hr2 => by
      obtain ⟨v, v1, v2⟩ := u2 r hr2
      rw [← v2]
      exact hR2 v v1)) hR
    have all : ∀ v, v < 2 * c → ∃ l, f v = some l := by
      intro v hv2
      rcases Nat.mod_two_eq_zero_or_one v with h9 | h9
      · cases hf : f v with
        | none => exact absurd hf (a6 v hv2 (by omega) h9)
        | some l => exact ⟨l, rfl⟩
      · have := a1 (v / 2) (by omega)
        rw [show 2 * (v / 2) + 1 = v by omega] at this
        exact ⟨_, this⟩
    refine u_X0_markArcs_1 ?_; unfold cm_X0_markArcs_1
    refine w_ifT (by decide) (w_rdF j2 (w_rdF (hA z j3).2.1 (w_wrF (w_some ⟨⟨fun v => (f v).getD 0, c + U.length, ⟨fun v hv2 => ?_, fun x hx => ?_, fun v hv2 he => ?_, fun v w hv2 hw hl e => ?_, ?_⟩, by omega, by omega, fun h hh v hv2 hl => ?_⟩, fr_F2 j3 (Or.inr rfl)⟩))))
    · obtain ⟨l, hl⟩ := all v hv2
      refine ⟨(j1 v (by omega)).trans ?_, ?_⟩
      · dsimp only
        rw [hl]
        rfl
      · dsimp only
        rw [hl]
        exact (a2 v l hv2 hl).1
    · dsimp only
      rw [a1 x hx]
      rfl
    · obtain ⟨l, hl⟩ := all v hv2
      dsimp only
      rw [hl, (a2 v l hv2 hl).2.2 he]
    · obtain ⟨l, e1⟩ := all v hv2
      obtain ⟨l', e2⟩ := all w hw
      dsimp only at hl e
      rw [e1] at hl e
      rw [e2] at e
      have e : l = l' := e
      subst e
      have q1 := u3 v l hv2 e1 hl
      have q2 := u3 w l hw e2 hl
      rw [q1] at q2
      injection q2
    · rw [po_usF_at, nI_add]
    · obtain ⟨l, e1⟩ := all v hv2
      dsimp only at hl ⊢
      rw [e1] at hl ⊢
      exact j4 h hh v l hv2 e1 hl
  -- the even visits
  have p2 : ∀ (d s : Nat) (U : List Nat) (z : ow_MS) (f : Nat → Option Nat), s + 2 * d = 2 * c + 2 → s % 2 = 0 → ar2 S c q s U f → J z f (c + U.length) → Tt (fun K k => c_X0_markArcs vl K k 2 (nI (2 * c)) (nI 0) (nI s) 0 0 41000 h z) Q := by
    intro d
    induction d with
    | zero =>
      intro s U z f hs he ha hJ
      refine u_X0_markArcs_2 ?_; unfold cm_X0_markArcs_2
      exact w_leT (by omega) (by omega) (fin z f U s ha (by omega) hJ)
    | succ d ih =>
      intro s U z f hs he ha hJ
      have c6 : ∀ (U' : List Nat) (z : ow_MS) (f : Nat → Option Nat), ar2 S c q (s + 2) U' f → J z f (c + U'.length) → Tt (fun K k => c_X0_markArcs vl K k 6 (nI (2 * c)) (nI 0) (nI s) 0 0 41000 h z) Q := by
        intro U' z f ha hJ
        refine u_X0_markArcs_6 ?_; unfold cm_X0_markArcs_6
        rw [show nI s + (2 : Int32) = nI (s + 2) from nI_add s 2]
        exact ih (s + 2) U' z f (by omega) (by omega) ha hJ
      have c5 : ∀ (v i : Int32) (z : ow_MS) (f : Nat → Option Nat), ar2 S c q (s + 2) (U ++ [q s]) f → J z f (c + U.length) → Tt (fun K k => c_X0_markArcs vl K k 5 (nI (2 * c)) (nI 0) (nI s) v i 41000 h z) Q := by
        rintro v i z f ha ⟨j1, j2, j3, j4⟩
        refine u_X0_markArcs_5 ?_; unfold cm_X0_markArcs_5
        refine w_rdF j2 (w_wrF (c6 (U ++ [q s]) _ f ha ⟨j1, ?_, fr_F2 j3 (Or.inr rfl), j4⟩))
        rw [po_usF_at, nI_1, List.length_append]
        rfl
      by_cases hsc : s < 2 * c
      · have c3 : ∀ (e i v : Nat) (z : ow_MS) (f : Nat → Option Nat), i + e = 2 * c → v < 2 * c → i + ucn f (2 * c) ≤ 2 * c → ax2 S c q s U f v → J z f (c + U.length) → 0 < i → Tt (fun K k => c_X0_markArcs vl K k 3 (nI (2 * c)) (nI 0) (nI s) (nI v) (nI i) 41000 h z) Q := by
          intro e
          induction e with
          | zero =>
            intro i v z f hi hvc hu hx hJ hi0
            refine u_X0_markArcs_3 ?_; unfold cm_X0_markArcs_3
            exact w_leT (by omega) (by omega) (c5 _ _ z f (ax2_e hv hr hsc he (ucn_0 _ (by omega) v hvc) hx) hJ)
          | succ e ihe =>
            intro i v z f hi hvc hu hx hJ hi0
            by_cases hn : f v = none
            · have hv2 : v % 2 = 0 := by
                rcases Nat.mod_two_eq_zero_or_one v with h9 | h9
                · exact h9
                · have := hx.1 (v / 2) (by omega)
                  rw [show 2 * (v / 2) + 1 = v by omega, hn] at this
                  cases this
              have uc := ucn_st (l := c + U.length) hn (2 * c) hvc
              obtain ⟨j1, j2, j3, j4⟩ := id hJ
              refine u_X0_markArcs_3 ?_; unfold cm_X0_markArcs_3
              refine w_leF (by omega) (by omega) (w_ifF (fun h9 => by have := (nI_eq (a := i) (b := 0) (by omega) (by omega)).mp h9; omega) (w_ifT ((vm2 ⟨v, by omega⟩).mpr hv2) ?_))
              refine u_X0_markArcs_4 ?_; unfold cm_X0_markArcs_4
              refine w_crI ch_41001 rfl (by omega) ((j1 v (by omega)).trans (by rw [hn]; rfl)) (w_ifT rfl (w_rdF j2 (w_ctI ch_41001 rfl (by omega) (w_crI (nH_1 hh) rfl (show v < 24 by omega) (rd_ot (by unfold arP at h41; omega) ((hA z j3).2.2.1 v)) ?_))))
              rw [nI_1]
              have hU6 : U.length ≤ 1000 := by
                have := nodup_le U R hx.2.2.2.2.1.1 (fun r hr2 => by
                  obtain ⟨v, v1, v2⟩ := hx.2.2.2.2.1.2.1 r hr2
                  rw [← v2]
                  exact hR2 v v1)
                omega
              exact ihe (i + 1) (S.1 v) _ _ (by omega) (hv v hvc).1 (by omega) (ax2_s hv hq hsc hvc hn hx) (Jset z f _ v _ hJ rfl (hI9_ge (by omega) j4)) (by omega)
            · obtain ⟨j1, j2, j3, j4⟩ := id hJ
              have hU6 : U.length ≤ 1000 := by
                have := nodup_le U R hx.2.2.2.2.1.1 (fun r hr2 => by
                  obtain ⟨v, v1, v2⟩ := hx.2.2.2.2.1.2.1 r hr2
                  rw [← v2]
                  exact hR2 v v1)
                omega
              have e5 := c5 (nI v) (nI i) z f (ax2_e hv hr hsc he hn hx) hJ
              obtain ⟨l, hl⟩ : ∃ l, f v = some l := by
                cases hf : f v with
                | none => exact absurd hf hn
                | some l => exact ⟨l, rfl⟩
              have hl2 := (hx.2.1 v l hvc hl).1
              refine u_X0_markArcs_3 ?_; unfold cm_X0_markArcs_3
              refine w_leF (by omega) (by omega) (w_if (fun _ => ?_) (fun _ => w_if (fun _ => ?_) (fun _ => e5)))
              · refine u_X0_markArcs_4 ?_; unfold cm_X0_markArcs_4
                exact w_crI ch_41001 rfl (by omega) ((j1 v (by omega)).trans (by rw [hl])) (w_ifF (oM_n (by omega)) e5)
              · refine u_X0_markArcs_4 ?_; unfold cm_X0_markArcs_4
                exact w_crI ch_41001 rfl (by omega) ((j1 v (by omega)).trans (by rw [hl])) (w_ifF (oM_n (by omega)) e5)
        obtain ⟨j1, j2, j3, j4⟩ := id hJ
        by_cases hn : f s = none
        · have uc := ucn_st (l := c + U.length) hn (2 * c) hsc
          have ul := ucn_le f (2 * c)
          have x0 := ax2_0 hv hq hsc he hn ha
          refine u_X0_markArcs_2 ?_; unfold cm_X0_markArcs_2
          refine w_leF (by omega) (by omega) (w_crI ch_41001 rfl (by omega) ((j1 s (by omega)).trans (by rw [hn]; rfl)) (w_ifT rfl ?_))
          refine u_X0_markArcs_3 ?_; unfold cm_X0_markArcs_3
          refine w_leF (b := 0) (by omega) (by omega) (w_ifT rfl ?_)
          refine u_X0_markArcs_4 ?_; unfold cm_X0_markArcs_4
          refine w_crI ch_41001 rfl (by omega) ((j1 s (by omega)).trans (by rw [hn]; rfl)) (w_ifT rfl (w_rdF j2 (w_ctI ch_41001 rfl (by omega) (w_crI (nH_1 hh) rfl (show s < 24 by omega) (rd_ot (by unfold arP at h41; omega) ((hA z j3).2.2.1 s)) ?_))))
          exact c3 (2 * c - 1) 1 (S.1 s) _ _ (by omega) (hv s hsc).1 (by omega) x0 (Jset z f _ s _ hJ rfl (hI9_ge (by omega) j4)) (by omega)
        · obtain ⟨l, hl⟩ : ∃ l, f s = some l := by
            cases hf : f s with
            | none => exact absurd hf hn
            | some l => exact ⟨l, rfl⟩
          have hl2 := (ha.2.1 s l hsc hl).1
          have hU6 : U.length ≤ 1000 := by
            have := nodup_le U R ha.2.2.2.2.1.1 (fun r hr2 => by
              obtain ⟨v, v1, v2⟩ := ha.2.2.2.2.1.2.1 r hr2
              rw [← v2]
              exact hR2 v v1)
            omega
          refine u_X0_markArcs_2 ?_; unfold cm_X0_markArcs_2
          exact w_leF (by omega) (by omega) (w_crI ch_41001 rfl (by omega) ((j1 s (by omega)).trans (by rw [hl])) (w_ifF (oM_n (by omega)) (c6 U z f (ar2_k (fun _ => hn) ha he) hJ)))
      · refine u_X0_markArcs_2 ?_; unfold cm_X0_markArcs_2
        exact w_leT (by omega) (by omega) (fin z f U s ha (by omega) hJ)
  -- the odd visits
  have p1 : ∀ (d k : Nat) (z : ow_MS) (f : Nat → Option Nat), k + d = c → ar1 S c k f → J z f k → Tt (fun K t => c_X0_markArcs vl K t 2 (nI (2 * c)) (nI 1) (nI (2 * k + 1)) 0 0 41000 h z) Q := by
    intro d
    induction d with
    | zero =>
      intro k z f hk ha hJ
      have hk : k = c := by omega
      subst hk
      refine u_X0_markArcs_2 ?_; unfold cm_X0_markArcs_2
      refine w_leT (by omega) (by omega) ?_
      rw [show nI 1 + (-1 : Int32) = nI 0 from by decide]
      refine u_X0_markArcs_1 ?_; unfold cm_X0_markArcs_1
      refine w_ifF (by decide) ?_
      exact p2 (k + 1) 0 [] z f (by omega) (by omega) (ar2_0 hv ha) hJ
    | succ d ih =>
      intro k z f hk ha hJ
      have c5 : ∀ (v i : Int32) (z : ow_MS) (f : Nat → Option Nat), ar1 S c (k + 1) f → J z f k → Tt (fun K t => c_X0_markArcs vl K t 5 (nI (2 * c)) (nI 1) (nI (2 * k + 1)) v i 41000 h z) Q := by
        rintro v i z f ha ⟨j1, j2, j3, j4⟩
        refine u_X0_markArcs_5 ?_; unfold cm_X0_markArcs_5
        refine w_rdF j2 (w_wrF ?_)
        refine u_X0_markArcs_6 ?_; unfold cm_X0_markArcs_6
        rw [show nI (2 * k + 1) + (2 : Int32) = nI (2 * (k + 1) + 1) from nI_add _ 2]
        refine ih (k + 1) _ f (by omega) ha ⟨j1, ?_, fr_F2 j3 (Or.inr rfl), j4⟩
        rw [po_usF_at, nI_1]
      have c3 : ∀ (e i v : Nat) (z : ow_MS) (f : Nat → Option Nat), i + e = 2 * c → v < 2 * c → i + ucn f (2 * c) ≤ 2 * c → ax1 S c k f v → J z f k → 0 < i → Tt (fun K t => c_X0_markArcs vl K t 3 (nI (2 * c)) (nI 1) (nI (2 * k + 1)) (nI v) (nI i) 41000 h z) Q := by
        intro e
        induction e with
        | zero =>
          intro i v z f hi hvc hu hx hJ hi0
          refine u_X0_markArcs_3 ?_; unfold cm_X0_markArcs_3
          exact w_leT (by omega) (by omega) (c5 _ _ z f (ax1_e hv hvc (Or.inr (ucn_0 _ (by omega) v hvc)) hx) hJ)
        | succ e ihe =>
          intro i v z f hi hvc hu hx hJ hi0
          obtain ⟨j1, j2, j3, j4⟩ := id hJ
          have hi9 : ¬ nI i = 0 := fun h9 => by have := (nI_eq (a := i) (b := 0) (by omega) (by omega)).mp h9; omega
          rcases Nat.mod_two_eq_zero_or_one v with hv2 | hv2
          · by_cases hn : f v = none
            · have uc := ucn_st (l := k) hn (2 * c) hvc
              refine u_X0_markArcs_3 ?_; unfold cm_X0_markArcs_3
              refine w_leF (by omega) (by omega) (w_ifF hi9 (w_ifT ((vm2 ⟨v, by omega⟩).mpr hv2) ?_))
              refine u_X0_markArcs_4 ?_; unfold cm_X0_markArcs_4
              refine w_crI ch_41001 rfl (by omega) ((j1 v (by omega)).trans (by rw [hn]; rfl)) (w_ifT rfl (w_rdF j2 (w_ctI ch_41001 rfl (by omega) (w_crI (nH_1 hh) rfl (show v < 24 by omega) (rd_ot (by unfold arP at h41; omega) ((hA z j3).2.2.1 v)) ?_))))
              rw [nI_1]
              exact ihe (i + 1) (S.1 v) _ _ (by omega) (hv v hvc).1 (by omega) (ax1_s hv hvc hv2 hn hx) (Jset z f _ v _ hJ rfl (hI9_s hv hvc hv2 hx.2.2.2.2 j4)) (by omega)
            · obtain ⟨l, hl⟩ : ∃ l, f v = some l := by
                cases hf : f v with
                | none => exact absurd hf hn
                | some l => exact ⟨l, rfl⟩
              have hl2 := (hx.2.2.1 v l hvc hl).1
              refine u_X0_markArcs_3 ?_; unfold cm_X0_markArcs_3
              refine w_leF (by omega) (by omega) (w_ifF hi9 (w_ifT ((vm2 ⟨v, by omega⟩).mpr hv2) ?_))
              refine u_X0_markArcs_4 ?_; unfold cm_X0_markArcs_4
              exact w_crI ch_41001 rfl (by omega) ((j1 v (by omega)).trans (by rw [hl])) (w_ifF (oM_n (by omega)) (c5 (nI v) (nI i) z f (ax1_e hv hvc (Or.inr hn) hx) hJ))
          · refine u_X0_markArcs_3 ?_; unfold cm_X0_markArcs_3
            exact w_leF (by omega) (by omega) (w_ifF hi9 (w_ifF (fun h9 => by have := (vm2 ⟨v, by omega⟩).mp h9; dsimp only at this; omega) (c5 (nI v) (nI i) z f (ax1_e hv hvc (Or.inl hv2) hx) hJ)))
      obtain ⟨j1, j2, j3, j4⟩ := id hJ
      have hn := ha.2.1 k (Nat.le_refl _)
      have uc := ucn_st (l := k) hn (2 * c) (by omega)
      have ul := ucn_le f (2 * c)
      refine u_X0_markArcs_2 ?_; unfold cm_X0_markArcs_2
      refine w_leF (by omega) (by omega) (w_crI ch_41001 rfl (by omega) ((j1 _ (by omega)).trans (by rw [hn]; rfl)) (w_ifT rfl ?_))
      refine u_X0_markArcs_3 ?_; unfold cm_X0_markArcs_3
      refine w_leF (b := 0) (by omega) (by omega) (w_ifT rfl ?_)
      refine u_X0_markArcs_4 ?_; unfold cm_X0_markArcs_4
      refine w_crI ch_41001 rfl (by omega) ((j1 _ (by omega)).trans (by rw [hn]; rfl)) (w_ifT rfl (w_rdF j2 (w_ctI ch_41001 rfl (by omega) (w_crI (nH_1 hh) rfl (show 2 * k + 1 < 24 by omega) (rd_ot (by unfold arP at h41; omega) ((hA z j3).2.2.1 _)) ?_))))
      exact c3 (2 * c - 1) 1 (S.1 (2 * k + 1)) _ _ (by omega) (hv _ (by omega)).1 (by omega) (ax1_0 hv (by omega) ha) (Jset z f _ _ _ hJ rfl (hI9_0 j4)) (by omega)
  refine e_X0_markArcs ?_
  refine u_X0_markArcs_0 ?_; unfold cm_X0_markArcs_0
  refine w_rdF hy.1 (w_cs0 (tc_fillA ch_41001 (by omega)) ?_)
  rintro y2 ⟨g1, g2⟩
  refine w_wrF ?_
  rw [rn_mul2]
  refine u_X0_markArcs_1 ?_; unfold cm_X0_markArcs_1
  refine w_ifF (by decide) ?_
  refine p1 c 0 _ (fun _ => none) (by omega) ⟨fun x hx => absurd hx (by omega), fun x _ => rfl, fun v l _ h9 => (by cases h9), fun v l _ _ h9 => (by cases h9)⟩ ⟨fun v hv2 => ?_, po_usF_at, fr_F2 (fr_mono (fun g hg => Or.inl hg) g2) (Or.inr rfl), fun h _ v l _ h9 => (by cases h9)⟩
  exact g1 v hv2
/-- one number: one arc -/
theorem arc_lb {a : Nat → Nat} {n : Nat} (hv : vn c S) (hq : ∀ v, v < 2 * c → q (S.1 v) = q v) (hr : ∀ v w, v < 2 * c → w < 2 * c → q v = q w → ∃ i, it S.1 i v = w) (hs : arcS y S c ci q a n) (hA : hA9 S c a) : lb9 n c S a := by
  obtain ⟨s1, s2, s3, s4, -⟩ := hs
  refine ⟨fun w hw => (s1 w hw).2, fun x hx => ?_, fun h hh v w hv1 hw1 e => ?_⟩
  · obtain ⟨-, b2, -, b4⟩ := hv (2 * x) (by omega)
    have := s3 (S.2 (2 * x)) b2 (by rw [b4]; omega)
    rw [b4] at this
    exact this
  · have hc : hC9 S c h := fun u hu e0 => by
      obtain ⟨b1, -, b3, -⟩ := hv u hu
      have := hh (S.1 u / 2) (by omega)
      rw [show 2 * (S.1 u / 2) = S.1 u by omega, b3] at this
      exact this
    by_cases hl : a v < c
    · rw [hA h hc v hv1 hl, hA h hc w hw1 (by omega), e]
    · have lt : ∀ i x, x < 2 * c → a x < c → a (it S.1 i x) < c := by
        intro i
        induction i with
        | zero => exact fun x _ h9 => h9
        | succ i ih =>
          intro x hx h9
          have b := it_lt hv hx i
          show a (S.1 (it S.1 i x)) < c
          have b1 := (hv _ b).1
          by_cases e0 : S.1 (it S.1 i x) % 2 = 0
          · rw [s3 _ b e0]
            exact ih x hx h9
          · have := s2 (S.1 (it S.1 i x) / 2) (by omega)
            rw [show 2 * (S.1 (it S.1 i x) / 2) + 1 = S.1 (it S.1 i x) by omega] at this
            omega
      have qi : ∀ i, q (it S.1 i v) = q v := by
        intro i
        induction i with
        | zero => rfl
        | succ i ih => exact (hq _ (it_lt hv hv1 i)).trans ih
      have ev : ∀ i, it S.1 i v % 2 = 0 := by
        intro i
        rcases Nat.mod_two_eq_zero_or_one (it S.1 i v) with h9 | h9
        · exact h9
        · have b := it_lt hv hv1 i
          have := s2 (it S.1 i v / 2) (by omega)
          rw [show 2 * (it S.1 i v / 2) + 1 = it S.1 i v by omega] at this
          obtain ⟨j, ej⟩ := hr _ v b hv1 (qi i)
          have := lt j _ b (by omega)
          rw [ej] at this
          exact absurd this hl
      have hi : ∀ i, h (it S.1 i v) = h v := by
        intro i
        induction i with
        | zero => rfl
        | succ i ih => exact (hc _ (it_lt hv hv1 i) (ev (i + 1))).trans ih
      obtain ⟨i, ei⟩ := hr v w hv1 hw1 (s4 v w hv1 hw1 (by omega) e)
      rw [← ei]
      exact (hi i).symm
/-- the least that is conjugate -/
def lsM (x : Nat) : Nat → Nat
  | 0 => x
  | o + 1 => if cjG o x < lsM x o then cjG o x else lsM x o
def csz (g : Nat) : Nat → Nat → Nat
  | 0, _ => 0
  | k + 1, l => csz g k l + if lsM k g = l then 1 else 0
theorem csz_le {g l : Nat} : ∀ k, csz g k l ≤ k
  | 0 => Nat.le_refl _
  | k + 1 => by
    have := csz_le (g := g) (l := l) k
    show csz g k l + (if lsM k g = l then 1 else 0) ≤ k + 1
    split <;> omega
theorem lsM_or {x : Nat} : ∀ g, lsM x g = x ∨ ∃ o, o < g ∧ lsM x g = cjG o x
  | 0 => Or.inl rfl
  | g + 1 => by
    show (if cjG g x < lsM x g then cjG g x else lsM x g) = x ∨ ∃ o, o < g + 1 ∧ (if cjG g x < lsM x g then cjG g x else lsM x g) = cjG o x
    by_cases e : cjG g x < lsM x g
    · rw [if_pos e]
      exact Or.inr ⟨g, by omega, rfl⟩
    · rw [if_neg e]
      rcases lsM_or (x := x) g with h | ⟨o, o1, o2⟩
      · exact Or.inl h
      · exact Or.inr ⟨o, by omega, o2⟩
theorem lsM_lt {x g : Nat} (hx : x < 24) (hg : g ≤ 24) : lsM x g < 24 := by
  rcases lsM_or (x := x) g with h | ⟨o, o1, o2⟩
  · rw [h]
    exact hx
  · rw [o2]
    exact (ca9 (h := o) (o := x) (by omega) hx).2.2.2.1
theorem xc_findCl {g : Nat} (hg : g ≤ 24) (h : cjT y) : Te (fun K => ce_X0_findClasses vl K 41000 (nI g) y) (fun y1 => (∀ l, l < 24 → y1.2.1 41008 l = nI (csz g g l)) ∧ fr (fun q => q = 41008) y y1) := by
  let Q : ow_MS → Prop := fun z => (∀ l, l < 24 → z.2.1 41008 l = nI (csz g g l)) ∧ fr (fun q => q = 41008) y z
  have c1 : ∀ (d x : Nat) (z : ow_MS), x + d = g → (∀ l, l < 24 → z.2.1 41008 l = nI (csz g x l)) → fr (fun q => q = 41008) y z → Tt (fun K k => c_X0_findClasses vl K k 1 (nI g) (nI x) 0 0 41000 z) Q := by
    intro d
    induction d with
    | zero =>
      intro x z hx hz hf
      have ex : x = g := by omega
      rw [ex] at hz
      refine u_X0_findClasses_1 ?_; unfold cm_X0_findClasses_1
      exact w_leT (by omega) (by omega) (w_some ⟨hz, hf⟩)
    | succ d ih =>
      intro x z hx hz hf
      have c2 : ∀ (e o : Nat), o + e = g → Tt (fun K k => c_X0_findClasses vl K k 2 (nI g) (nI x) (nI (lsM x o)) (nI o) 41000 z) Q := by
        intro e
        induction e with
        | zero =>
          intro o ho
          have eo : o = g := by omega
          subst eo
          have hm := lsM_lt (x := x) (g := o) (by omega) hg
          refine u_X0_findClasses_2 ?_; unfold cm_X0_findClasses_2
          refine w_leT (by omega) (by omega) (w_crI ch_41008 rfl hm (hz _ hm) (w_ctI ch_41008 rfl hm ?_))
          rw [nI_1, nI_1]
          refine ih (x + 1) _ (by omega) (fun l hl => ?_) (fr_I2 hf rfl)
          show (usI z 41008 (lsM x o) (nI (csz o x (lsM x o) + 1))).2.1 41008 l = nI (csz o x l + if lsM x o = l then 1 else 0)
          by_cases el : l = lsM x o
          · rw [if_pos el.symm, el]
            exact po_usI_at
          · rw [if_neg (fun h9 => el h9.symm)]
            exact rd_ne el (hz l hl)
        | succ e ihe =>
          intro o ho
          have k2 := h.1 o x (by omega) (by omega)
          have k1 := (ca9 (h := o) (o := x) (by omega) (by omega)).2.2.2.1
          have hm := lsM_lt (x := x) (g := o) (by omega) (by omega)
          have e1 : lsM x (o + 1) = if cjG o x < lsM x o then cjG o x else lsM x o := rfl
          refine u_X0_findClasses_2 ?_; unfold cm_X0_findClasses_2
          rw [show (24 : Int32) * nI o = nI (24 * o) from pk_mul 24 o, nI_add, nI_1, nI_1]
          refine w_leF (by omega) (by omega) (w_crI ch_41006 rfl (by omega) ((congrFun (hf 41006 (by decide)).2.1 _).trans k2) ?_)
          by_cases hk : cjG o x < lsM x o
          · rw [if_pos hk] at e1
            rw [if_pos (nI_lt hk (by omega)), ← e1]
            exact ihe (o + 1) (by omega)
          · rw [if_neg hk] at e1
            rw [if_neg (nI_nlt (by omega) (by omega)), ← e1]
            exact ihe (o + 1) (by omega)
      refine u_X0_findClasses_1 ?_; unfold cm_X0_findClasses_1
      exact w_leF (by omega) (by omega) (c2 g 0 (by omega))
  refine e_X0_findClasses ?_
  refine u_X0_findClasses_0 ?_; unfold cm_X0_findClasses_0
  refine w_cs0 (tc_fillA ch_41008 (by omega)) ?_
  rintro z ⟨hz, hf⟩
  exact c1 g 0 z (by omega) (fun l hl => hz l hl) hf
end XMG
end
section
/-! 99zzzzzzzzzzzzzzza.xmph -/
/-! maps: the class's plan of a part -/
abbrev sT9 : Type := Nat × Nat × Nat × Nat × Bool
def tos (P : List sT9) : List Nat := P.map (fun t => t.2.1)
def cjS (s : Bool) (o x : Nat) : Nat := cjG (if s = true then ivC o else o) x
def eS9 (t : sT9) (v : Nat → Nat) : Prop := v t.2.1 = cjS t.2.2.2.2 (v t.2.2.1) (v t.2.2.2.1)
def eX9 (S : ow_NP) (ng : Nat → Bool) (lab : Nat → Nat) (x : Nat) (v : Nat → Nat) : Prop := v (lab (2 * x + 1)) = cjS (ng x) (v (lab (2 * x))) (v (lab (S.2 (2 * x + 1))))
def vS9 (R : List sT9) (t : sT9) : Prop := t.1 = 0 ∧ t.2.1 ∉ tos R ∨ (t.1 = 1 ∧ t.2.1 ∉ tos R ∨ t.1 = 2 ∧ t.2.1 ∈ tos R) ∧ t.2.2.1 ∈ tos R ∧ t.2.2.2.1 ∈ tos R
def stL (z : ow_MS) (P : List sT9) : Prop := z.1 41010 = nI P.length ∧ ∀ s t, P[s]? = some t → z.2.1 41011 s = nI t.1 ∧ z.2.1 41012 s = nI t.2.1 ∧ z.2.1 41013 s = nI t.2.2.1 ∧ z.2.1 41014 s = nI t.2.2.2.1 ∧ z.2.1 41015 s = bI9 t.2.2.2.2
def pI9 (c : Nat) (S : ow_NP) (ng : Nat → Bool) (lab pr : Nat → Nat) (p : Nat) (P : List sT9) (U : List Nat) : Prop := U.Nodup ∧ (∀ x, x ∈ U → x < c ∧ pr (2 * x) = p ∧ ∃ t, t ∈ P ∧ t.1 ≠ 0 ∧ ∀ v : Nat → Nat, (∀ b, v b < 24) → (eS9 t v ↔ eX9 S ng lab x v)) ∧ (∀ t, t ∈ P → (∃ w, w < 2 * c ∧ pr w = p ∧ lab w = t.2.1) ∧ (t.1 ≠ 0 → ∃ x, x < c ∧ pr (2 * x) = p ∧ ∀ v : Nat → Nat, (∀ b, v b < 24) → (eS9 t v ↔ eX9 S ng lab x v))) ∧ ∀ s t, P[s]? = some t → vS9 (P.take s) t
def pZ9 (z : ow_MS) (P : List sT9) (U : List Nat) (kn : Nat) : Prop := stL z P ∧ kn < 2 ^ 24 ∧ (∀ b, o_gn kn b ↔ b ∈ tos P) ∧ ∃ us, z.1 41016 = nI us ∧ us < 2 ^ 24 ∧ ∀ x, o_gn us x ↔ x ∈ U
def rdy9 (S : ow_NP) (lab : Nat → Nat) (k : Nat → Prop) (x : Nat) : Prop := (k (lab (2 * x)) ∨ lab (2 * x) = lab (S.2 (2 * x + 1)) ∨ lab (2 * x) = lab (2 * x + 1)) ∧ (k (lab (S.2 (2 * x + 1))) ∨ k (lab (2 * x + 1)))
section XMH
theorem cj_self : ∀ a : Fin 24, cjG a.val a.val = a.val ∧ cjG (ivC a.val) a.val = a.val := by decide +kernel
theorem cjS_inv {s : Bool} {o a b : Nat} (ho : o < 24) (ha : a < 24) (hb : b < 24) : b = cjS s o a ↔ a = cjS (!s) o b := by
  obtain ⟨-, p2, p3, -, -⟩ := ca9 (h := o) (o := a) ho ha
  obtain ⟨-, q2, q3, -, -⟩ := ca9 (h := o) (o := b) ho hb
  cases s
  · show b = cjG o a ↔ a = cjG (ivC o) b
    exact ⟨fun e => by rw [e, p2], fun e => by rw [e, q3]⟩
  · show b = cjG (ivC o) a ↔ a = cjG o b
    exact ⟨fun e => by rw [e, p3], fun e => by rw [e, q2]⟩
theorem cjS_self {s : Bool} {a : Nat} (ha : a < 24) : cjS s a a = a := by
  cases s
  · exact (cj_self ⟨a, ha⟩).1
  · exact (cj_self ⟨a, ha⟩).2
theorem cjS_sp {s : Bool} {o a b : Nat} (ha : a < 24) (hb : b < 24) (h : o = a ∨ o = b) : b = cjS s o a ↔ a = b := by
  rcases h with h | h
  · rw [h, cjS_self ha]
    exact eq_comm
  · rw [h, cjS_inv hb ha hb, cjS_self hb]
theorem tos_app {P : List sT9} {t : sT9} {b : Nat} : b ∈ tos (P ++ [t]) ↔ b ∈ tos P ∨ b = t.2.1 := by
  unfold tos
  rw [List.map_append, List.mem_append]
  exact or_congr Iff.rfl List.mem_singleton
theorem vS9_app {P : List sT9} {t : sT9} (h : ∀ s t, P[s]? = some t → vS9 (P.take s) t) (ht : vS9 P t) : ∀ s t', (P ++ [t])[s]? = some t' → vS9 ((P ++ [t]).take s) t' := by
  intro s t' e
  have hl := (List.getElem?_eq_some_iff.mp e).1
  rw [List.length_append, List.length_singleton] at hl
  by_cases c : s < P.length
  · rw [List.getElem?_append_left c] at e
    rw [List.take_append_of_le_length (by omega)]
    exact h s t' e
  · have es : s = P.length := by omega
    rw [es, List.getElem?_append_right (Nat.le_refl _), Nat.sub_self] at e
    have e2 : t = t' := Option.some.inj e
    rw [es, List.take_append_of_le_length (Nat.le_refl _), List.take_length, ← e2]
    exact ht
variable {c : Nat} {S : ow_NP} {ng : Nat → Bool} {lab pr : Nat → Nat} {p : Nat} {P : List sT9} {U : List Nat}
theorem pI9_add {x : Nat} {t : sT9} (h : pI9 c S ng lab pr p P U) (hx : x < c) (hp : pr (2 * x) = p) (hU : x ∉ U) (ht : vS9 P t) (h0 : t.1 ≠ 0) (ha : ∃ w, w < 2 * c ∧ pr w = p ∧ lab w = t.2.1) (he : ∀ v : Nat → Nat, (∀ b, v b < 24) → (eS9 t v ↔ eX9 S ng lab x v)) : pI9 c S ng lab pr p (P ++ [t]) (x :: U) := by
  obtain ⟨h1, h2, h3, h4⟩ := h
  refine ⟨List.nodup_cons.mpr ⟨hU, h1⟩, fun x' hx' => ?_, fun t' ht' => ?_, vS9_app h4 ht⟩
  · rcases List.mem_cons.mp hx' with e | e
    · rw [e]
      exact ⟨hx, hp, t, List.mem_append_right _ List.mem_cons_self, h0, he⟩
    · obtain ⟨a1, a2, t', a3, a4⟩ := h2 x' e
      exact ⟨a1, a2, t', List.mem_append_left _ a3, a4⟩
  · rcases List.mem_append.mp ht' with e | e
    · exact h3 t' e
    · rw [List.mem_singleton.mp e]
      exact ⟨ha, fun _ => ⟨x, hx, hp, he⟩⟩
theorem pI9_seed {a : Nat} (h : pI9 c S ng lab pr p P U) (hn : a ∉ tos P) (ha : ∃ w, w < 2 * c ∧ pr w = p ∧ lab w = a) : pI9 c S ng lab pr p (P ++ [(0, a, a, a, false)]) U := by
  obtain ⟨h1, h2, h3, h4⟩ := h
  refine ⟨h1, fun x' hx' => ?_, fun t' ht' => ?_, vS9_app h4 (Or.inl ⟨rfl, hn⟩)⟩
  · obtain ⟨a1, a2, t', a3, a4⟩ := h2 x' hx'
    exact ⟨a1, a2, t', List.mem_append_left _ a3, a4⟩
  · rcases List.mem_append.mp ht' with e | e
    · exact h3 t' e
    · rw [List.mem_singleton.mp e]
      exact ⟨ha, fun h9 => absurd rfl h9⟩
theorem tos_part (h : pI9 c S ng lab pr p P U) {b : Nat} (hb : b ∈ tos P) : ∃ w, w < 2 * c ∧ pr w = p ∧ lab w = b := by
  obtain ⟨t, t1, t2⟩ := List.mem_map.mp hb
  rw [← t2]
  exact (h.2.2.1 t t1).1
variable {vl : Nat → Nat} {y : ow_MS}
theorem xc_addStep {t : sT9} (h : stL y P) (h36 : P.length < 36) : Te (fun K => ce_X0_addStep vl K 41000 (nI t.1) (nI t.2.1) (nI t.2.2.1) (nI t.2.2.2.1) (bI9 t.2.2.2.2) y) (fun y1 => stL y1 (P ++ [t]) ∧ fr (fun g => 41010 ≤ g ∧ g ≤ 41015) y y1) := by
  obtain ⟨h1, h2⟩ := id h
  refine e_X0_addStep ?_; unfold cm_X0_addStep_0
  rw [show Int32.ofNat (uw_len (cX vl) y (41000 + 11)) = nI 36 from rfl]
  refine w_rdF h1 (w_leF (by omega) h36 (w_rdF h1 (w_ctI ch_41011 rfl h36 (w_rdF (x := nI P.length) h1 (w_ctI ch_41012 rfl h36 (w_rdF (x := nI P.length) h1 (w_ctI ch_41013 rfl h36 (w_rdF (x := nI P.length) h1 (w_ctI ch_41014 rfl h36 (w_rdF (x := nI P.length) h1 (w_ctZ ch_41015 rfl h36 (w_rdF (x := nI P.length) h1 (w_wrF (w_some ⟨⟨?_, fun s t' hs => ?_⟩, ?_⟩))))))))))))))
  · rw [po_usF_at, nI_1, List.length_append]
    rfl
  · have hl := (List.getElem?_eq_some_iff.mp hs).1
    rw [List.length_append, List.length_singleton] at hl
    by_cases e : s < P.length
    · rw [List.getElem?_append_left e] at hs
      obtain ⟨b1, b2, b3, b4, b5⟩ := h2 s t' hs
      have ne : s ≠ P.length := by omega
      exact ⟨rd_ot (by omega) (rd_ot (by omega) (rd_ot (by omega) (rd_ot (by omega) (rd_ne ne b1)))), rd_ot (by omega) (rd_ot (by omega) (rd_ot (by omega) (rd_ne ne (rd_ot (by omega) b2)))), rd_ot (by omega) (rd_ot (by omega) (rd_ne ne (rd_ot (by omega) (rd_ot (by omega) b3)))), rd_ot (by omega) (rd_ne ne (rd_ot (by omega) (rd_ot (by omega) (rd_ot (by omega) b4)))), rd_ne ne (rd_ot (by omega) (rd_ot (by omega) (rd_ot (by omega) (rd_ot (by omega) b5))))⟩
    · have es : s = P.length := by omega
      rw [es, List.getElem?_append_right (Nat.le_refl _), Nat.sub_self] at hs
      have e2 : t = t' := Option.some.inj hs
      rw [es, ← e2]
      exact ⟨rd_ot (by omega) (rd_ot (by omega) (rd_ot (by omega) (rd_ot (by omega) po_usI_at))), rd_ot (by omega) (rd_ot (by omega) (rd_ot (by omega) po_usI_at)), rd_ot (by omega) (rd_ot (by omega) po_usI_at), rd_ot (by omega) po_usI_at, po_usI_at.trans (nar_b9 _)⟩
  · exact fr_F2 (fr_I2 (fr_I2 (fr_I2 (fr_I2 (fr_I (by omega)) (by omega)) (by omega)) (by omega)) (by omega)) (by omega)
variable {ci N : Nat} {G : Nat → Int32}
theorem xc_planX {x kn : Nat} (h : plN y c ci S G lab N) (hng : ng x = decide (G x ≤ 0)) (hd : ∀ w, w < 2 * c → pr (S.2 w) = pr w) (hd2 : pr (2 * x + 1) = pr (2 * x)) (hx : x < c) (hp : pr (2 * x) = p) (hU : x ∉ U) (hZ : pZ9 y P U kn) (hI : pI9 c S ng lab pr p P U) (h36 : P.length < 36) : Te (fun K => ce_X0_planCrossing vl K 41000 4000 (nI x) (nI kn) y) (fun r => fr plR y r.2 ∧ ∃ P' U' kn', r.1 = nI kn' ∧ pZ9 r.2 P' U' kn' ∧ pI9 c S ng lab pr p P' U' ∧ (P' = P ∧ U' = U ∧ kn' = kn ∧ ¬ rdy9 S lab (fun b => b ∈ tos P) x ∨ U' = x :: U ∧ P'.length = P.length + 1 ∧ ∀ b, b ∈ tos P → b ∈ tos P')) := by
  obtain ⟨h1, hv, hc, h18, h2, h3⟩ := h
  obtain ⟨z1, z2, z3, us, z4, z5, z6⟩ := id hZ
  obtain ⟨-, v2, -, -⟩ := hv (2 * x + 1) (by omega)
  obtain ⟨o1, o2⟩ := h2 (2 * x) (by omega)
  obtain ⟨u1, u2⟩ := h2 (2 * x + 1) (by omega)
  obtain ⟨i1, i2⟩ := h2 _ v2
  let Q : Int32 × ow_MS → Prop := fun r => fr plR y r.2 ∧ ∃ P' U' kn', r.1 = nI kn' ∧ pZ9 r.2 P' U' kn' ∧ pI9 c S ng lab pr p P' U' ∧ (P' = P ∧ U' = U ∧ kn' = kn ∧ ¬ rdy9 S lab (fun b => b ∈ tos P) x ∨ U' = x :: U ∧ P'.length = P.length + 1 ∧ ∀ b, b ∈ tos P → b ∈ tos P')
  generalize eO : lab (2 * x) = OV at *
  generalize eI : lab (S.2 (2 * x + 1)) = IN at *
  generalize eU : lab (2 * x + 1) = OU at *
  have aI : ∃ w, w < 2 * c ∧ pr w = p ∧ lab w = IN := ⟨_, v2, by rw [hd _ (by omega), hd2, hp], eI⟩
  have aU : ∃ w, w < 2 * c ∧ pr w = p ∧ lab w = OU := ⟨2 * x + 1, by omega, by rw [hd2, hp], eU⟩
  have eX : ∀ v, eX9 S ng lab x v ↔ v OU = cjS (ng x) (v OV) (v IN) := fun v => by
    unfold eX9
    rw [eO, eI, eU]
  have c14 : ∀ (t : sT9) (x7 x8 x9 x10 ov : Int32) (z : ow_MS), fr plR y z → stL z (P ++ [t]) → z.1 41016 = nI (us ||| 2 ^ x) → vS9 P t → t.1 ≠ 0 → (∃ w, w < 2 * c ∧ pr w = p ∧ lab w = t.2.1) → (∀ v : Nat → Nat, (∀ b, v b < 24) → (eS9 t v ↔ eX9 S ng lab x v)) → (∀ b, (b ∈ tos P ∨ b = IN) ∨ b = OU ↔ b ∈ tos P ∨ b = t.2.1) → Tt (fun K k => c_X0_planCrossing vl K k 14 (nI x) (nI kn) ov (nI IN) (nI OU) x7 x8 x9 x10 41000 4000 0 0 0 0 0 z) Q := by
    intro t x7 x8 x9 x10 ov z hf hst hu ht h0 ha he hb
    obtain ⟨g1, g2⟩ := gor9 (g := kn) (v := IN) z2 (by omega)
    obtain ⟨g3, g4⟩ := gor9 (g := kn ||| 2 ^ IN) (v := OU) g2 (by omega)
    obtain ⟨g5, g6⟩ := gor9 (g := us) (v := x) z5 (by omega)
    refine u_X0_planCrossing_14 ?_; unfold cm_X0_planCrossing_14
    refine w_some ⟨hf, P ++ [t], x :: U, (kn ||| 2 ^ IN) ||| 2 ^ OU, ?_, ⟨hst, g4, fun b => ?_, us ||| 2 ^ x, hu, g6, fun x' => ?_⟩, pI9_add hI hx hp hU ht h0 ha he, Or.inr ⟨rfl, ?_, fun b hb9 => tos_app.mpr (Or.inl hb9)⟩⟩
    · rw [g1, g3]
    · rw [gn_or, gn_or, z3, tos_app]
      exact hb b
    · rw [gn_or, z6, List.mem_cons]
      exact or_comm
    · rw [List.length_append]
      rfl
  have c9 : ∀ (o : Nat) (kI kO kV : Bool), o < 18 → (kI = true ↔ IN ∈ tos P) → (kO = true ↔ OU ∈ tos P) → (kV = true → (kI = true ∨ kO = true) → o ∈ tos P) → (kV = true ∧ (kI = true ∨ kO = true) ↔ rdy9 S lab (fun b => b ∈ tos P) x) → (∀ v : Nat → Nat, (∀ b, v b < 24) → (v OU = cjS (ng x) (v o) (v IN) ↔ eX9 S ng lab x v)) → Tt (fun K k => c_X0_planCrossing vl K k 9 (nI x) (nI kn) (nI o) (nI IN) (nI OU) (bI9 (!ng x)) (bI9 kI) (bI9 kO) (bI9 kV) 41000 4000 0 0 0 0 0 y) Q := by
    intro o kI kO kV ho hkI hkO hkV hrd hE
    have nop : ¬ rdy9 S lab (fun b => b ∈ tos P) x → Q (nI kn, y) := fun h9 => ⟨fr_rf, P, U, kn, rfl, hZ, hI, Or.inl ⟨rfl, rfl, rfl, h9⟩⟩
    have c10 : kV = true → (kI = true ∨ kO = true) → Tt (fun K k => c_X0_planCrossing vl K k 10 (nI x) (nI kn) (nI o) (nI IN) (nI OU) (bI9 (!ng x)) (bI9 kI) (bI9 kO) (bI9 kV) 41000 4000 0 0 0 0 0 y) Q := by
      intro hV hIO
      have hoK := hkV hV hIO
      obtain ⟨g5, g6⟩ := gor9 (g := us) (v := x) z5 (by omega)
      refine u_X0_planCrossing_10 ?_; unfold cm_X0_planCrossing_10
      refine w_rdF z4 (w_wrF ?_)
      rw [g5]
      have fz : fr plR y (usF y 41016 (nI (us ||| 2 ^ x))) := fr_F (by unfold plR; omega)
      have sz : stL (usF y 41016 (nI (us ||| 2 ^ x))) P := ⟨rf_ot (by omega) z1.1, z1.2⟩
      have uz : (usF y 41016 (nI (us ||| 2 ^ x))).1 41016 = nI (us ||| 2 ^ x) := po_usF_at
      generalize usF y 41016 (nI (us ||| 2 ^ x)) = z at fz sz uz
      have ad : ∀ (t : sT9), Te (fun K => ce_X0_addStep vl K 41000 (nI t.1) (nI t.2.1) (nI t.2.2.1) (nI t.2.2.2.1) (bI9 t.2.2.2.2) z) (fun y1 => stL y1 (P ++ [t]) ∧ y1.1 41016 = nI (us ||| 2 ^ x) ∧ fr plR y y1) := fun t => w_monoE (xc_addStep sz h36) (fun r hr => ⟨hr.1, (hr.2 41016 (by omega)).1.trans uz, fr_tr fz (fr_mono (fun g hg => by unfold plR; omega) hr.2)⟩)
      have e12 : ∀ s : Bool, (if (bI9 s : Int32) = 0 then (1 : Int32) else 0) = bI9 (!s) := fun s => by cases s <;> rfl
      cases kI
      · -- what goes out is known
        have hO : kO = true := by simpa using hIO
        have nI9 : IN ∉ tos P := fun h9 => by have := hkI.mpr h9; cases this
        refine w_ifT rfl ?_
        refine u_X0_planCrossing_12 ?_; unfold cm_X0_planCrossing_12
        refine w_ifT rfl (w_cs0 (ad (1, IN, o, OU, !ng x)) ?_)
        rintro y1 ⟨s1, s2, s3⟩
        refine c14 (1, IN, o, OU, !ng x) _ _ _ _ _ y1 s3 s1 s2 (Or.inr ⟨Or.inl ⟨rfl, nI9⟩, hoK, hkO.mp hO⟩) (show (1 : Nat) ≠ 0 by decide) aI (fun v hv9 => ?_) (fun b => ?_)
        · rw [← hE v hv9]
          exact (cjS_inv (hv9 _) (hv9 _) (hv9 _)).symm
        · have := hkO.mp hO
          constructor
          · rintro ((h9 | h9) | h9)
            · exact Or.inl h9
            · exact Or.inr h9
            · rw [h9]
              exact Or.inl this
          · rintro (h9 | h9)
            · exact Or.inl (Or.inl h9)
            · exact Or.inl (Or.inr h9)
      · have kI1 := hkI.mp rfl
        cases kO
        · -- what goes in is known
          have nO9 : OU ∉ tos P := fun h9 => by have := hkO.mpr h9; cases this
          have c13 : ∀ (t0 : Int32), t0 = bI9 (ng x) → Tt (fun K k => c_X0_planCrossing vl K k 13 (nI x) (nI kn) (nI o) (nI IN) (nI OU) (bI9 (!ng x)) (bI9 true) (bI9 false) (bI9 kV) 41000 4000 t0 (nI IN) (nI o) (nI OU) 1 z) Q := by
            intro t0 ht0
            subst ht0
            refine u_X0_planCrossing_13 ?_; unfold cm_X0_planCrossing_13
            refine w_cs0 (ad (1, OU, o, IN, ng x)) ?_
            rintro y1 ⟨s1, s2, s3⟩
            refine c14 (1, OU, o, IN, ng x) _ _ _ _ _ y1 s3 s1 s2 (Or.inr ⟨Or.inl ⟨rfl, nO9⟩, hoK, kI1⟩) (show (1 : Nat) ≠ 0 by decide) aU (fun v hv9 => hE v hv9) (fun b => ?_)
            constructor
            · rintro ((h9 | h9) | h9)
              · exact Or.inl h9
              · rw [h9]
                exact Or.inl kI1
              · exact Or.inr h9
            · rintro (h9 | h9)
              · exact Or.inl (Or.inl h9)
              · exact Or.inr h9
          refine w_ifF (by decide) (w_ifT rfl ?_)
          refine u_X0_planCrossing_12 ?_; unfold cm_X0_planCrossing_12
          refine w_ifF (by decide) (w_if (fun h9 => c13 _ ?_) (fun h9 => c13 _ ?_))
          · cases hn : ng x
            · rw [hn] at h9
              exact absurd h9 (by decide)
            · rfl
          · cases hn : ng x
            · rfl
            · rw [hn] at h9
              exact absurd rfl h9
        · have kO1 := hkO.mp rfl
          have c11 : ∀ (t0 : Int32), t0 = bI9 (ng x) → Tt (fun K k => c_X0_planCrossing vl K k 11 (nI x) (nI kn) (nI o) (nI IN) (nI OU) (bI9 (!ng x)) (bI9 true) (bI9 true) (bI9 kV) 41000 4000 t0 (nI IN) (nI o) (nI OU) 2 z) Q := by
            intro t0 ht0
            subst ht0
            refine u_X0_planCrossing_11 ?_; unfold cm_X0_planCrossing_11
            refine w_cs0 (ad (2, OU, o, IN, ng x)) ?_
            rintro y1 ⟨s1, s2, s3⟩
            refine c14 (2, OU, o, IN, ng x) _ _ _ _ _ y1 s3 s1 s2 (Or.inr ⟨Or.inr ⟨rfl, kO1⟩, hoK, kI1⟩) (show (2 : Nat) ≠ 0 by decide) aU (fun v hv9 => hE v hv9) (fun b => ?_)
            constructor
            · rintro ((h9 | h9) | h9)
              · exact Or.inl h9
              · rw [h9]
                exact Or.inl kI1
              · exact Or.inr h9
            · rintro (h9 | h9)
              · exact Or.inl (Or.inl h9)
              · exact Or.inr h9
          refine w_ifF (by decide) (w_ifF (by decide) (w_if (fun h9 => c11 _ ?_) (fun h9 => c11 _ ?_)))
          · cases hn : ng x
            · rw [hn] at h9
              exact absurd h9 (by decide)
            · rfl
          · cases hn : ng x
            · rfl
            · rw [hn] at h9
              exact absurd rfl h9
    cases kV
    · refine u_X0_planCrossing_9 ?_; unfold cm_X0_planCrossing_9
      exact w_ifT rfl (w_some (nop (fun h9 => by have := (hrd.mpr h9).1; cases this)))
    · cases kI
      · cases kO
        · refine u_X0_planCrossing_9 ?_; unfold cm_X0_planCrossing_9
          exact w_ifF (by decide) (w_ifT rfl (w_ifT rfl (w_some (nop (fun h9 => by rcases (hrd.mpr h9).2 with h8 | h8 <;> cases h8)))))
        · have := c10 rfl (Or.inr rfl)
          refine u_X0_planCrossing_9 ?_; unfold cm_X0_planCrossing_9
          exact w_ifF (by decide) (w_ifT rfl (w_ifF (by decide) this))
      · have := c10 rfl (Or.inl rfl)
        refine u_X0_planCrossing_9 ?_; unfold cm_X0_planCrossing_9
        exact w_ifF (by decide) (w_ifF (by decide) this)
  -- one with the arc over
  have c5 : ∀ (kI kO kV : Bool), (OV = IN ∨ OV = OU) → (kI = true ↔ IN ∈ tos P) → (kO = true ↔ OU ∈ tos P) → Tt (fun K k => c_X0_planCrossing vl K k 5 (nI x) (nI kn) (nI OV) (nI IN) (nI OU) (bI9 (!ng x)) (bI9 kI) (bI9 kO) (bI9 kV) 41000 4000 0 0 0 0 0 y) Q := by
    intro kI kO kV hsp hkI hkO
    have hE : ∀ o, o = IN ∨ o = OU → ∀ v : Nat → Nat, (∀ b, v b < 24) → (v OU = cjS (ng x) (v o) (v IN) ↔ eX9 S ng lab x v) := by
      intro o ho v hv9
      rw [eX, cjS_sp (hv9 _) (hv9 _) (ho.imp (fun e => by rw [e]) (fun e => by rw [e])), cjS_sp (hv9 _) (hv9 _) (hsp.imp (fun e => by rw [e]) (fun e => by rw [e]))]
    have hrd : (kI || kO) = true ∧ (kI = true ∨ kO = true) ↔ rdy9 S lab (fun b => b ∈ tos P) x := by
      unfold rdy9
      rw [eO, eI, eU, Bool.or_eq_true, hkI, hkO]
      exact ⟨fun h9 => ⟨Or.inr hsp, h9.2⟩, fun h9 => ⟨h9.2, h9.2⟩⟩
    have c7 : Tt (fun K k => c_X0_planCrossing vl K k 7 (nI x) (nI kn) (nI OV) (nI IN) (nI OU) (bI9 (!ng x)) (bI9 kI) (bI9 kO) (bI9 kV) 41000 4000 (bI9 (kI || kO)) 0 0 0 0 y) Q := by
      cases kI
      · refine u_X0_planCrossing_7 ?_; unfold cm_X0_planCrossing_7
        refine w_ifT rfl ?_
        refine u_X0_planCrossing_8 ?_; unfold cm_X0_planCrossing_8
        exact c9 OU false kO (false || kO) (by omega) hkI hkO (fun _ h9 => hkO.mp (by simpa using h9)) hrd (hE OU (Or.inr rfl))
      · refine u_X0_planCrossing_7 ?_; unfold cm_X0_planCrossing_7
        refine w_ifF (by decide) ?_
        refine u_X0_planCrossing_8 ?_; unfold cm_X0_planCrossing_8
        exact c9 IN true kO (true || kO) (by omega) hkI hkO (fun _ _ => hkI.mp rfl) hrd (hE IN (Or.inl rfl))
    have c6 : (kI || kO) = true → Tt (fun K k => c_X0_planCrossing vl K k 6 (nI x) (nI kn) (nI OV) (nI IN) (nI OU) (bI9 (!ng x)) (bI9 kI) (bI9 kO) (bI9 kV) 41000 4000 0 0 0 0 0 y) Q := by
      intro e
      rw [e] at c7
      refine u_X0_planCrossing_6 ?_; unfold cm_X0_planCrossing_6
      exact c7
    cases kI
    · cases kO
      · refine u_X0_planCrossing_5 ?_; unfold cm_X0_planCrossing_5
        exact w_ifT rfl (w_ifT rfl c7)
      · refine u_X0_planCrossing_5 ?_; unfold cm_X0_planCrossing_5
        exact w_ifT rfl (w_ifF (by decide) (c6 rfl))
    · refine u_X0_planCrossing_5 ?_; unfold cm_X0_planCrossing_5
      exact w_ifF (by decide) (c6 rfl)
  have c4 : ∀ (kI kO kV : Bool), (kI = true ↔ IN ∈ tos P) → (kO = true ↔ OU ∈ tos P) → (kV = true ↔ OV ∈ tos P) → Tt (fun K k => c_X0_planCrossing vl K k 4 (nI x) (nI kn) (nI OV) (nI IN) (nI OU) (bI9 (!ng x)) (bI9 kI) (bI9 kO) 0 41000 4000 (bI9 kV) 0 0 0 0 y) Q := by
    intro kI kO kV hkI hkO hkV
    refine u_X0_planCrossing_4 ?_; unfold cm_X0_planCrossing_4
    refine w_eqN (by omega) (by omega) (fun h9 => c5 kI kO kV (Or.inl h9) hkI hkO) (fun n1 => w_eqN (by omega) (by omega) (fun h9 => c5 kI kO kV (Or.inr h9) hkI hkO) (fun n2 => c9 OV kI kO kV (by omega) hkI hkO (fun h9 _ => hkV.mp h9) ?_ (fun v _ => (eX v).symm)))
    unfold rdy9
    rw [eO, eI, eU, hkI, hkO, hkV]
    constructor
    · exact fun h9 => ⟨Or.inl h9.1, h9.2⟩
    · rintro ⟨h9 | h9 | h9, h8⟩
      · exact ⟨h9, h8⟩
      · exact absurd h9 n1
      · exact absurd h9 n2
  have bt : ∀ b, b < 18 → (((nI kn >>> (nI b &&& 31)) &&& 1 = 0) ↔ ¬ b ∈ tos P) := fun b hb => by
    rw [gbit0 z2 (by omega), z3]
  have c3 : ∀ (kI kO : Bool), (kI = true ↔ IN ∈ tos P) → (kO = true ↔ OU ∈ tos P) → Tt (fun K k => c_X0_planCrossing vl K k 3 (nI x) (nI kn) (nI OV) (nI IN) (nI OU) (bI9 (!ng x)) (bI9 kI) 0 0 41000 4000 (bI9 kO) 0 0 0 0 y) Q := by
    intro kI kO hkI hkO
    refine u_X0_planCrossing_3 ?_; unfold cm_X0_planCrossing_3
    exact w_if (fun h9 => c4 kI kO false hkI hkO ⟨fun h8 => (by cases h8), fun h8 => absurd h8 ((bt OV (by omega)).mp h9)⟩) (fun h9 => c4 kI kO true hkI hkO ⟨fun _ => Classical.byContradiction (fun h8 => h9 ((bt OV (by omega)).mpr h8)), fun _ => rfl⟩)
  have c2 : ∀ (kI : Bool), (kI = true ↔ IN ∈ tos P) → Tt (fun K k => c_X0_planCrossing vl K k 2 (nI x) (nI kn) (nI OV) (nI IN) (nI OU) (bI9 (!ng x)) 0 0 0 41000 4000 (bI9 kI) 0 0 0 0 y) Q := by
    intro kI hkI
    refine u_X0_planCrossing_2 ?_; unfold cm_X0_planCrossing_2
    exact w_if (fun h9 => c3 kI false hkI ⟨fun h8 => (by cases h8), fun h8 => absurd h8 ((bt OU (by omega)).mp h9)⟩) (fun h9 => c3 kI true hkI ⟨fun _ => Classical.byContradiction (fun h8 => h9 ((bt OU (by omega)).mpr h8)), fun _ => rfl⟩)
  have c1 : ∀ (t0 : Int32), t0 = bI9 (!ng x) → Tt (fun K k => c_X0_planCrossing vl K k 1 (nI x) (nI kn) (nI OV) (nI IN) (nI OU) 0 0 0 0 41000 4000 t0 0 0 0 0 y) Q := by
    intro t0 ht0
    subst ht0
    refine u_X0_planCrossing_1 ?_; unfold cm_X0_planCrossing_1
    exact w_if (fun h9 => c2 false ⟨fun h8 => (by cases h8), fun h8 => absurd h8 ((bt IN (by omega)).mp h9)⟩) (fun h9 => c2 true ⟨fun _ => Classical.byContradiction (fun h8 => h9 ((bt IN (by omega)).mpr h8)), fun _ => rfl⟩)
  refine e_X0_planCrossing ?_
  refine u_X0_planCrossing_0 ?_; unfold cm_X0_planCrossing_0
  rw [rn_mul2, nI_1]
  refine w_crI ch_41001 rfl (show 2 * x < 24 by omega) o1 (w_crI (nH_2 nH4) rfl (show 2 * x + 1 < 24 by omega) (h1.2.2.2.1 _) (w_crI ch_41001 rfl (show S.2 (2 * x + 1) < 24 by omega) i1 (w_crI ch_41001 rfl (show 2 * x + 1 < 24 by omega) u1 (w_crI (nH_3 nH4) rfl (show x < 12 by omega) (h1.2.2.2.2 x) (w_if (fun h9 => c1 _ ?_) (fun h9 => c1 _ ?_))))))
  · rw [hng, decide_eq_true (show G x ≤ 0 from h9)]
    rfl
  · rw [hng, decide_eq_false (show ¬ G x ≤ 0 from h9)]
    rfl
end XMH
end
section
/-! 99zzzzzzzzzzzzzzzb.xmpi -/
/-! maps: the class's plan from seeds, and of a part -/
section XMI
variable {c : Nat} {S : ow_NP} {ng : Nat → Bool} {lab pr : Nat → Nat} {p : Nat} {vl : Nat → Nat} {y : ow_MS} {ci N : Nat} {G : Nat → Int32}
theorem gn_ext {a b : Nat} (h : ∀ i, o_gn a i ↔ o_gn b i) : a = b := by
  refine Nat.eq_of_testBit_eq (fun i => ?_)
  have := h i
  rw [gn_test, gn_test] at this
  cases h1 : a.testBit i <;> cases h2 : b.testBit i
  · rfl
  · rw [h1, h2] at this
    exact absurd (this.mpr rfl) (by decide)
  · rw [h1, h2] at this
    exact absurd (this.mp rfl) (by decide)
  · rfl
theorem xc_planFrom {se : Nat} (h : plN y c ci S G lab N) (hng : ∀ x, x < c → ng x = decide (G x ≤ 0)) (hd : ∀ w, w < 2 * c → pr (S.2 w) = pr w) (hd2 : ∀ x, x < c → pr (2 * x + 1) = pr (2 * x)) (hrow : ∀ w, w < 2 * c → y.2.1 4006 w = nI (pr w) ∧ pr w < 100) (hp : p < 100) (hc7 : c ≤ 7) (hN : N ≤ 11) (hse : se < 2 ^ 24) (hs : ∀ b, o_gn se b → ∃ w, w < 2 * c ∧ pr w = p ∧ lab w = b) : Te (fun K => ce_X0_planFrom vl K 41000 4000 (nI p) (nI se) y) (fun r => fr plR y r.2 ∧ ∃ P U kn, r.1 = nI kn ∧ pZ9 r.2 P U kn ∧ pI9 c S ng lab pr p P U ∧ P.length ≤ 18 ∧ (∀ x, x < c → pr (2 * x) = p → x ∉ U → ¬ rdy9 S lab (fun b => b ∈ tos P) x) ∧ ∀ b, b < N → o_gn se b → b ∈ tos P) := by
  let Q : Int32 × ow_MS → Prop := fun r => fr plR y r.2 ∧ ∃ P U kn, r.1 = nI kn ∧ pZ9 r.2 P U kn ∧ pI9 c S ng lab pr p P U ∧ P.length ≤ 18 ∧ (∀ x, x < c → pr (2 * x) = p → x ∉ U → ¬ rdy9 S lab (fun b => b ∈ tos P) x) ∧ ∀ b, b < N → o_gn se b → b ∈ tos P
  have hP : ∀ z, fr plR y z → plN z c ci S G lab N := fun z hf => plN_fr hf (fun g hg => plR_n hg) h
  have hR : ∀ z, fr plR y z → ∀ w, w < 2 * c → z.2.1 4006 w = nI (pr w) := fun z hf w hw => by
    rw [(hf 4006 (by unfold plR; omega)).2.1]
    exact (hrow w hw).1
  obtain ⟨-, hv, -, -, hl, -⟩ := id h
  have uc : ∀ {P : List sT9} {U : List Nat}, pI9 c S ng lab pr p P U → U.length ≤ c := fun {P} {U} hI => by
    have := nodup_le U (List.range c) hI.1 (fun x hx => List.mem_range.mpr (hI.2.1 x hx).1)
    rw [List.length_range] at this
    exact this
  have tN : ∀ {P : List sT9} {U : List Nat}, pI9 c S ng lab pr p P U → ∀ b, b ∈ tos P → b < N := fun hI b hb => by
    obtain ⟨w, w1, -, w3⟩ := tos_part hI hb
    rw [← w3]
    exact (hl w w1).2
  have c1 : ∀ (d j : Nat) (P : List sT9) (U : List Nat) (kn : Nat) (z : ow_MS), j + d = N → fr plR y z → pZ9 z P U kn → pI9 c S ng lab pr p P U → P.length ≤ j + U.length → (∀ x, x < c → pr (2 * x) = p → x ∉ U → ¬ rdy9 S lab (fun b => b ∈ tos P) x) → (∀ b, b < j → o_gn se b → b ∈ tos P) → Tt (fun K k => c_X0_planFrom vl K k 1 (nI p) (nI se) (nI kn) (nI j) 0 0 0 41000 4000 z) Q := by
    intro d
    induction d with
    | zero =>
      intro j P U kn z hj hf hZ hI hlen hcl hsd
      have := uc hI
      refine u_X0_planFrom_1 ?_; unfold cm_X0_planFrom_1
      exact w_rdF (hP z hf).2.2.2.2.2 (w_leT (by omega) (by omega) (w_some ⟨hf, P, U, kn, rfl, hZ, hI, by omega, hcl, fun b hb => hsd b (by omega)⟩))
    | succ d ih =>
      intro j P U kn z hj hf hZ hI hlen hcl hsd
      have c6 : ∀ (P : List sT9) (U : List Nat) (kn : Nat) (z : ow_MS), fr plR y z → pZ9 z P U kn → pI9 c S ng lab pr p P U → P.length ≤ j + 1 + U.length → (∀ x, x < c → pr (2 * x) = p → x ∉ U → ¬ rdy9 S lab (fun b => b ∈ tos P) x) → (∀ b, b < j + 1 → o_gn se b → b ∈ tos P) → Tt (fun K k => c_X0_planFrom vl K k 6 (nI p) (nI se) (nI kn) (nI j) 0 0 0 41000 4000 z) Q := by
        intro P U kn z hf hZ hI hlen hcl hsd
        refine u_X0_planFrom_6 ?_; unfold cm_X0_planFrom_6
        rw [nI_1]
        exact ih (j + 1) P U kn z (by omega) hf hZ hI hlen hcl hsd
      have c2 : ∀ (e i : Nat) (P : List sT9) (U : List Nat) (kn : Nat) (z : ow_MS) (M : List Nat), i + e = 12 → fr plR y z → pZ9 z P U kn → pI9 c S ng lab pr p P U → P.length ≤ j + 1 + U.length → (∀ b, b < j + 1 → o_gn se b → b ∈ tos P) → M.Nodup → (∀ b, b ∈ M → b ∈ tos P) → 1 ≤ M.length → i ≤ M.length → Tt (fun K k => c_X0_planFrom vl K k 2 (nI p) (nI se) (nI kn) (nI j) (nI i) 0 0 41000 4000 z) Q := by
        intro e
        induction e with
        | zero =>
          intro i P U kn z M hi hf hZ hI hlen hsd hM1 hM2 hM3 hM4
          exfalso
          have := nodup_le M (List.range N) hM1 (fun b hb => List.mem_range.mpr (tN hI b (hM2 b hb)))
          rw [List.length_range] at this
          omega
        | succ e ihe =>
          intro i P U kn z M hi hf hZ hI hlen hsd hM1 hM2 hM3 hM4
          have c5 : ∀ (P : List sT9) (U : List Nat) (kn : Nat) (z : ow_MS) (M : List Nat) (x7 x8 : Int32), fr plR y z → pZ9 z P U kn → pI9 c S ng lab pr p P U → P.length ≤ j + 1 + U.length → (∀ b, b < j + 1 → o_gn se b → b ∈ tos P) → M.Nodup → (∀ b, b ∈ M → b ∈ tos P) → 1 ≤ M.length → i + 1 ≤ M.length → Tt (fun K k => c_X0_planFrom vl K k 5 (nI p) (nI se) (nI kn) (nI j) (nI i) x7 x8 41000 4000 z) Q := by
            intro P U kn z M x7 x8 hf hZ hI hlen hsd hM1 hM2 hM3 hM4
            refine u_X0_planFrom_5 ?_; unfold cm_X0_planFrom_5
            rw [nI_1]
            exact ihe (i + 1) P U kn z M (by omega) hf hZ hI hlen hsd hM1 hM2 hM3 hM4
          have c3 : ∀ (g x : Nat) (P' : List sT9) (U' : List Nat) (kn' : Nat) (z : ow_MS), x + g = c → fr plR y z → pZ9 z P' U' kn' → pI9 c S ng lab pr p P' U' → P'.length ≤ j + 1 + U'.length → (∀ b, b ∈ tos P → b ∈ tos P') → ((∀ b, b ∈ tos P' → b ∈ tos P) → ∀ x', x' < x → pr (2 * x') = p → x' ∉ U' → ¬ rdy9 S lab (fun b => b ∈ tos P) x') → Tt (fun K k => c_X0_planFrom vl K k 3 (nI p) (nI se) (nI kn') (nI j) (nI i) (nI kn) (nI x) 41000 4000 z) Q := by
            intro g
            induction g with
            | zero =>
              intro x P' U' kn' z hx hf' hZ' hI' hlen' hmo hcl'
              have hsd' : ∀ b, b < j + 1 → o_gn se b → b ∈ tos P' := fun b h1 h2 => hmo b (hsd b h1 h2)
              refine u_X0_planFrom_3 ?_; unfold cm_X0_planFrom_3
              refine w_rdF (hP z hf').1.1 (w_leT (by omega) (by omega) (w_eqN (by have := hZ'.2.1; omega) (by have := hZ.2.1; omega) (fun h9 => ?_) (fun h9 => ?_)))
              · have hsub : ∀ b, b ∈ tos P' → b ∈ tos P := fun b hb => by
                  rw [← hZ.2.2.1, ← h9, hZ'.2.2.1]
                  exact hb
                have ek : (fun b => b ∈ tos P') = fun b => b ∈ tos P := funext (fun b => propext ⟨hsub b, hmo b⟩)
                refine w_le (b := 0) (by omega) (by omega) (fun h8 => c5 P' U' kn' z M _ _ hf' hZ' hI' hlen' hsd' hM1 (fun b hb => hmo b (hM2 b hb)) hM3 (by omega)) (fun h8 => c6 P' U' kn' z hf' hZ' hI' hlen' (fun x' h1 h2 h3 => ?_) hsd')
                rw [ek]
                exact hcl' hsub x' (by omega) h2 h3
              · obtain ⟨b, b1, b2⟩ : ∃ b, b ∈ tos P' ∧ b ∉ tos P := by
                  refine Classical.byContradiction (fun h8 => h9 (gn_ext (fun i => ?_)))
                  rw [hZ.2.2.1, hZ'.2.2.1]
                  exact ⟨fun h7 => Classical.byContradiction (fun h6 => h8 ⟨i, h7, h6⟩), hmo i⟩
                refine c5 P' U' kn' z (b :: M) _ _ hf' hZ' hI' hlen' hsd' (List.nodup_cons.mpr ⟨fun h7 => b2 (hM2 b h7), hM1⟩) (fun b' hb' => ?_) (by rw [List.length_cons]; omega) (by rw [List.length_cons]; omega)
                rcases List.mem_cons.mp hb' with h7 | h7
                · rw [h7]
                  exact b1
                · exact hmo b' (hM2 b' h7)
            | succ g ihg =>
              intro x P' U' kn' z hx hf' hZ' hI' hlen' hmo hcl'
              have c4 : ∀ (P' : List sT9) (U' : List Nat) (kn' : Nat) (z : ow_MS), fr plR y z → pZ9 z P' U' kn' → pI9 c S ng lab pr p P' U' → P'.length ≤ j + 1 + U'.length → (∀ b, b ∈ tos P → b ∈ tos P') → ((∀ b, b ∈ tos P' → b ∈ tos P) → ∀ x', x' < x + 1 → pr (2 * x') = p → x' ∉ U' → ¬ rdy9 S lab (fun b => b ∈ tos P) x') → Tt (fun K k => c_X0_planFrom vl K k 4 (nI p) (nI se) (nI kn') (nI j) (nI i) (nI kn) (nI x) 41000 4000 z) Q := by
                intro P' U' kn' z hf' hZ' hI' hlen' hmo hcl'
                refine u_X0_planFrom_4 ?_; unfold cm_X0_planFrom_4
                rw [nI_1]
                exact ihg (x + 1) P' U' kn' z (by omega) hf' hZ' hI' hlen' hmo hcl'
              have hxc : x < c := by omega
              have ul := uc hI'
              obtain ⟨us, u1, u2, u3⟩ := hZ'.2.2.2
              refine u_X0_planFrom_3 ?_; unfold cm_X0_planFrom_3
              rw [rn_mul2]
              refine w_rdF (hP z hf').1.1 (w_leF (by omega) (by omega) (w_crI (nH_6 nH4) rfl (show 2 * x < 24 by omega) (hR z hf' _ (by omega)) (w_eqN (by have := (hrow (2 * x) (by omega)).2; omega) (by omega) (fun hpx => w_rdF u1 (w_if (fun h9 => ?_) (fun h9 => ?_))) (fun hpx => c4 P' U' kn' z hf' hZ' hI' hlen' hmo (fun h8 x' h1 h2 h3 => ?_)))))
              · have hxU : x ∉ U' := fun h8 => ((gbit0 u2 (by omega)).mp h9) ((u3 x).mpr h8)
                refine w_cs1 (xc_planX (hP z hf') (hng x hxc) hd (hd2 x hxc) hxc hpx hxU hZ' hI' (by omega)) ?_
                rintro v z1 ⟨f1, P2, U2, kn2, e2, Z2, I2, h8⟩
                have e2 : v = nI kn2 := e2
                have f1 : fr plR z z1 := f1
                have Z2 : pZ9 z1 P2 U2 kn2 := Z2
                rw [e2]
                rcases h8 with ⟨k1, k2, k3, k4⟩ | ⟨k1, k2, k3⟩
                · rw [k1, k2, k3] at Z2
                  rw [k3]
                  refine c4 P' U' kn' z1 (fr_tr hf' f1) Z2 hI' hlen' hmo (fun h7 x' h1 h2 h3 => ?_)
                  by_cases ex : x' = x
                  · have ek : (fun b => b ∈ tos P') = fun b => b ∈ tos P := funext (fun b => propext ⟨h7 b, hmo b⟩)
                    rw [ek] at k4
                    rw [ex]
                    exact k4
                  · exact hcl' h7 x' (by omega) h2 h3
                · refine c4 P2 U2 kn2 z1 (fr_tr hf' f1) Z2 I2 (by rw [k1, List.length_cons]; omega) (fun b hb => k3 b (hmo b hb)) (fun h7 x' h1 h2 h3 => ?_)
                  rw [k1] at h3
                  have hne : x' ≠ x := fun e9 => h3 (by rw [e9]; exact List.mem_cons_self)
                  exact hcl' (fun b hb => h7 b (k3 b hb)) x' (by omega) h2 (fun h9 => h3 (List.mem_cons_of_mem _ h9))
              · have hxU : x ∈ U' := Classical.byContradiction (fun h8 => h9 ((gbit0 u2 (by omega)).mpr (fun h7 => h8 ((u3 x).mp h7))))
                refine c4 P' U' kn' z hf' hZ' hI' hlen' hmo (fun h7 x' h1 h2 h3 => ?_)
                have hne : x' ≠ x := fun e9 => h3 (by rw [e9]; exact hxU)
                exact hcl' h7 x' (by omega) h2 h3
              · have hne : x' ≠ x := fun e9 => hpx (by rw [← e9]; exact h2)
                exact hcl' h8 x' (by omega) h2 h3
          refine u_X0_planFrom_2 ?_; unfold cm_X0_planFrom_2
          exact w_leF (a := 12) (by omega) (by omega) (c3 c 0 P U kn z (by omega) hf hZ hI hlen (fun b hb => hb) (fun _ x' hx' => absurd hx' (Nat.not_lt_zero _)))
      have ul := uc hI
      refine u_X0_planFrom_1 ?_; unfold cm_X0_planFrom_1
      refine w_rdF (hP z hf).2.2.2.2.2 (w_leF (by omega) (by omega) (w_if (fun h9 => ?_) (fun h9 => w_if (fun h8 => ?_) (fun h8 => ?_))))
      · refine c6 P U kn z hf hZ hI (by omega) hcl (fun b h1 h2 => ?_)
        by_cases eb : b = j
        · rw [eb] at h2
          exact absurd h2 ((gbit0 hse (by omega)).mp h9)
        · exact hsd b (by omega) h2
      · have hj1 : o_gn se j := Classical.byContradiction (fun h7 => h9 ((gbit0 hse (by omega)).mpr h7))
        have hj2 : j ∉ tos P := fun h7 => ((gbit0 hZ.2.1 (by omega)).mp h8) ((hZ.2.2.1 j).mpr h7)
        obtain ⟨g1, g2⟩ := gor9 (g := kn) (v := j) hZ.2.1 (by omega)
        refine w_cs0 (xc_addStep (t := (0, j, j, j, false)) hZ.1 (by omega)) ?_
        rintro z1 ⟨s1, f1⟩
        have f2 : fr plR z z1 := fr_mono (fun g hg => by unfold plR; omega) f1
        rw [g1]
        obtain ⟨us, u1, u2, u3⟩ := hZ.2.2.2
        refine c2 12 0 (P ++ [(0, j, j, j, false)]) U (kn ||| 2 ^ j) z1 [j] (by omega) (fr_tr hf f2) ⟨s1, g2, fun b => ?_, us, (f1 41016 (by omega)).1.trans u1, u2, u3⟩ (pI9_seed hI hj2 (hs j hj1)) (by rw [List.length_append, List.length_singleton]; omega) (fun b h1 h2 => ?_) (List.nodup_cons.mpr ⟨List.not_mem_nil, List.nodup_nil⟩) (fun b hb => ?_) (by rw [List.length_singleton]; omega) (Nat.zero_le _)
        · rw [gn_or, hZ.2.2.1, tos_app]
        · by_cases eb : b = j
          · exact tos_app.mpr (Or.inr eb)
          · exact tos_app.mpr (Or.inl (hsd b (by omega) h2))
        · exact tos_app.mpr (Or.inr (List.mem_singleton.mp hb))
      · have hj2 : j ∈ tos P := Classical.byContradiction (fun h7 => h8 ((gbit0 hZ.2.1 (by omega)).mpr (fun h6 => h7 ((hZ.2.2.1 j).mp h6))))
        refine c6 P U kn z hf hZ hI (by omega) hcl (fun b h1 h2 => ?_)
        by_cases eb : b = j
        · rw [eb]
          exact hj2
        · exact hsd b (by omega) h2
  refine e_X0_planFrom ?_
  refine u_X0_planFrom_0 ?_; unfold cm_X0_planFrom_0
  refine w_wrF (w_wrF (c1 N 0 [] [] 0 _ (by omega) (fr_F2 (fr_F (by unfold plR; omega)) (by unfold plR; omega)) ⟨⟨rf_ot (by omega) po_usF_at, fun s t hs => (by simp at hs)⟩, by omega, fun b => ⟨fun h9 => absurd h9 (gn_z9 b), fun h9 => absurd h9 List.not_mem_nil⟩, 0, po_usF_at, by omega, fun x => ⟨fun h9 => absurd h9 (gn_z9 x), fun h9 => absurd h9 List.not_mem_nil⟩⟩ ⟨List.nodup_nil, fun x hx => absurd hx List.not_mem_nil, fun t ht => absurd ht List.not_mem_nil, fun s t hs => (by simp at hs)⟩ (Nat.zero_le _) (fun x _ _ _ h9 => ?_) (fun b hb => absurd hb (Nat.not_lt_zero _))))
  rcases h9.2 with h8 | h8
  · exact absurd h8 List.not_mem_nil
  · exact absurd h8 List.not_mem_nil
theorem sub9 {s a : Nat} (hs : s < 2 ^ 24) (ha : a < 2 ^ 24) : (nI s &&& (nI a ^^^ (-1))) = 0 ↔ ∀ b, o_gn s b → o_gn a b := by
  have key : ∀ b, b < 32 → (nI s &&& (nI a ^^^ (-1))).toBitVec.getLsbD b = (s.testBit b && !a.testBit b) := by
    intro b hb
    rw [Int32.toBitVec_and, Int32.toBitVec_xor, BitVec.getLsbD_and, BitVec.getLsbD_xor]
    have e1 : (nI s).toBitVec.getLsbD b = s.testBit b := by
      unfold BitVec.getLsbD
      rw [pk_tn (by omega)]
    have e2 : (nI a).toBitVec.getLsbD b = a.testBit b := by
      unfold BitVec.getLsbD
      rw [pk_tn (by omega)]
    have e3 : (-1 : Int32).toBitVec.getLsbD b = true := by
      have : ∀ b : Fin 32, (-1 : Int32).toBitVec.getLsbD b.val = true := by decide
      exact this ⟨b, hb⟩
    rw [e1, e2, e3, Bool.xor_true]
  constructor
  · intro e b hb
    rw [gn_test] at hb ⊢
    have hb32 : b < 32 := by
      rcases Nat.lt_or_ge b 32 with h9 | h9
      · exact h9
      · rw [Nat.testBit_lt_two_pow (Nat.lt_of_lt_of_le hs (Nat.pow_le_pow_right (by decide) (by omega)))] at hb
        cases hb
    have := key b hb32
    rw [e, hb] at this
    cases h9 : a.testBit b
    · rw [h9] at this
      have z0 : (0 : Int32).toBitVec.getLsbD b = false := BitVec.getLsbD_zero
      rw [z0] at this
      cases this
    · rfl
  · intro h
    apply Int32.toBitVec_inj.mp
    apply BitVec.eq_of_getLsbD_eq
    intro b hb
    rw [key b hb]
    have z0 : (0 : Int32).toBitVec.getLsbD b = false := BitVec.getLsbD_zero
    rw [z0]
    cases h9 : s.testBit b
    · rfl
    · have := (gn_test a b).mp (h b ((gn_test s b).mpr h9))
      rw [this]
      rfl
theorem xc_planPart (h : plN y c ci S G lab N) (hng : ∀ x, x < c → ng x = decide (G x ≤ 0)) (hd : ∀ w, w < 2 * c → pr (S.2 w) = pr w) (hd2 : ∀ x, x < c → pr (2 * x + 1) = pr (2 * x)) (hrow : ∀ w, w < 2 * c → y.2.1 4006 w = nI (pr w) ∧ pr w < 100) (hp : p < 100) (hc7 : c ≤ 7) (hN : N ≤ 11) (hne : ∃ w, w < 2 * c ∧ pr w = p) : Te (fun K => ce_X0_planPart vl K 41000 4000 (nI p) y) (fun y1 => fr plR y y1 ∧ ∃ P U, stL y1 P ∧ P.length ≤ 18 ∧ pI9 c S ng lab pr p P U ∧ (∀ x, x < c → pr (2 * x) = p → x ∈ U) ∧ ∀ w, w < 2 * c → pr w = p → lab w ∈ tos P) := by
  let Q : ow_MS → Prop := fun y1 => fr plR y y1 ∧ ∃ P U, stL y1 P ∧ P.length ≤ 18 ∧ pI9 c S ng lab pr p P U ∧ (∀ x, x < c → pr (2 * x) = p → x ∈ U) ∧ ∀ w, w < 2 * c → pr w = p → lab w ∈ tos P
  have hP : ∀ z, fr plR y z → plN z c ci S G lab N := fun z hf => plN_fr hf (fun g hg => plR_n hg) h
  have hR : ∀ z, fr plR y z → ∀ w, w < 2 * c → z.2.1 4006 w = nI (pr w) ∧ pr w < 100 := fun z hf w hw => by
    rw [(hf 4006 (by unfold plR; omega)).2.1]
    exact hrow w hw
  obtain ⟨h1, hv, -, -, h2, h3⟩ := id h
  have c3 : ∀ (al : Nat), al < 2 ^ N → (∀ b, o_gn al b ↔ ∃ w, w < 2 * c ∧ pr w = p ∧ lab w = b) → ∀ (d s : Nat) (z : ow_MS), s + d = pc al → 1 ≤ s → fr plR y z → Tt (fun K k => c_X0_planPart vl K k 3 (nI p) (nI al) (nI s) 0 41000 4000 z) Q := by
    intro al hal hbits d
    have h11 : 2 ^ N ≤ 2 ^ 11 := Nat.pow_le_pow_right (by decide) hN
    have hpc := pc_le hal
    have al1 : 1 ≤ al := by
      obtain ⟨w, w1, w2⟩ := hne
      have := (hbits (lab w)).mpr ⟨w, w1, w2, rfl⟩
      rcases Nat.eq_zero_or_pos al with h9 | h9
      · rw [h9] at this
        exact absurd this (gn_z9 _)
      · exact h9
    induction d with
    | zero =>
      intro s z hs1 hs2 hz
      have c4 : ∀ (e q : Nat) (z : ow_MS), q + e = al → 1 ≤ q → fr plR y z → Tt (fun K k => c_X0_planPart vl K k 4 (nI p) (nI al) (nI s) (nI q) 41000 4000 z) Q := by
        intro e
        induction e with
        | zero =>
          intro q z hq hq1 hz
          have eq : q = al := by omega
          subst eq
          refine u_X0_planPart_4 ?_; unfold cm_X0_planPart_4
          refine w_ltF (by omega) (by omega) (w_ifT ((sub9 (by omega) (by omega)).mpr (fun b hb => hb)) (w_ifT (by rw [bc_pc (by omega), ← hs1]; rfl) (w_cs1 (xc_planFrom (hP z hz) hng hd hd2 (hR z hz) hp hc7 hN (by omega) (fun b hb => (hbits b).mp hb)) ?_)))
          rintro v z1 ⟨g1, P, U, kn, e1, Z1, I1, hl1, hcl, hsd⟩
          have e1 : v = nI kn := e1
          have g1 : fr plR z z1 := g1
          have Z1 : pZ9 z1 P U kn := Z1
          have all : ∀ w, w < 2 * c → pr w = p → lab w ∈ tos P := fun w w1 w2 => hsd _ (h2 w w1).2 ((hbits _).mpr ⟨w, w1, w2, rfl⟩)
          have ek : kn = q := gn_ext (fun b => by
            rw [Z1.2.2.1, hbits]
            exact ⟨fun h9 => tos_part I1 h9, fun ⟨w, w1, w2, w3⟩ => by rw [← w3]; exact all w w1 w2⟩)
          rw [e1, ek]
          refine w_ifT rfl (w_some ⟨fr_tr hz g1, P, U, Z1.1, hl1, I1, fun x hx hpx => Classical.byContradiction (fun h9 => hcl x hx hpx h9 ?_), all⟩)
          exact ⟨Or.inl (all _ (by omega) hpx), Or.inr (all _ (by omega) ((hd2 x hx).trans hpx))⟩
        | succ e ihe =>
          intro q z hq hq1 hz
          have c5 : ∀ (z : ow_MS), fr plR y z → Tt (fun K k => c_X0_planPart vl K k 5 (nI p) (nI al) (nI s) (nI q) 41000 4000 z) Q := by
            intro z hz
            refine u_X0_planPart_5 ?_; unfold cm_X0_planPart_5
            rw [nI_1]
            exact ihe (q + 1) z (by omega) (by omega) hz
          refine u_X0_planPart_4 ?_; unfold cm_X0_planPart_4
          refine w_ltF (by omega) (by omega) (w_if (fun hsb => w_if (fun _ => w_cs1 (xc_planFrom (hP z hz) hng hd hd2 (hR z hz) hp hc7 hN (by omega) (fun b hb => (hbits b).mp ((sub9 (by omega) (by omega)).mp hsb b hb))) ?_) (fun _ => c5 z hz)) (fun _ => c5 z hz))
          rintro v z1 ⟨g1, P, U, kn, e1, Z1, I1, hl1, hcl, hsd⟩
          have e1 : v = nI kn := e1
          have g1 : fr plR z z1 := g1
          have Z1 : pZ9 z1 P U kn := Z1
          rw [e1]
          refine w_eqN (by have := Z1.2.1; omega) (by omega) (fun ek => w_some ⟨fr_tr hz g1, P, U, Z1.1, hl1, I1, fun x hx hpx => Classical.byContradiction (fun h9 => hcl x hx hpx h9 ?_), fun w w1 w2 => ?_⟩) (fun _ => c5 z1 (fr_tr hz g1))
          · refine ⟨Or.inl ((Z1.2.2.1 _).mp ?_), Or.inr ((Z1.2.2.1 _).mp ?_)⟩
            · rw [ek]
              exact (hbits _).mpr ⟨2 * x, by omega, hpx, rfl⟩
            · rw [ek]
              exact (hbits _).mpr ⟨2 * x + 1, by omega, (hd2 x hx).trans hpx, rfl⟩
          · refine (Z1.2.2.1 _).mp ?_
            rw [ek]
            exact (hbits _).mpr ⟨w, w1, w2, rfl⟩
      refine u_X0_planPart_3 ?_; unfold cm_X0_planPart_3
      exact w_rdF (hP z hz).2.2.2.2.2 (w_ltF (by omega) (by omega) (c4 (al - 1) 1 z (by omega) (by omega) hz))
    | succ d ih =>
      intro s z hs1 hs2 hz
      have c4 : ∀ (e q : Nat) (z : ow_MS), q + e = al + 1 → 1 ≤ q → fr plR y z → Tt (fun K k => c_X0_planPart vl K k 4 (nI p) (nI al) (nI s) (nI q) 41000 4000 z) Q := by
        intro e
        induction e with
        | zero =>
          intro q z hq hq1 hz
          refine u_X0_planPart_4 ?_; unfold cm_X0_planPart_4
          rw [nI_1]
          exact w_ltT (by omega) (by omega) (ih (s + 1) z (by omega) (by omega) hz)
        | succ e ihe =>
          intro q z hq hq1 hz
          have c5 : ∀ (z : ow_MS), fr plR y z → Tt (fun K k => c_X0_planPart vl K k 5 (nI p) (nI al) (nI s) (nI q) 41000 4000 z) Q := by
            intro z hz
            refine u_X0_planPart_5 ?_; unfold cm_X0_planPart_5
            rw [nI_1]
            exact ihe (q + 1) z (by omega) (by omega) hz
          refine u_X0_planPart_4 ?_; unfold cm_X0_planPart_4
          refine w_ltF (by omega) (by omega) (w_if (fun hsb => w_if (fun _ => w_cs1 (xc_planFrom (hP z hz) hng hd hd2 (hR z hz) hp hc7 hN (by omega) (fun b hb => (hbits b).mp ((sub9 (by omega) (by omega)).mp hsb b hb))) ?_) (fun _ => c5 z hz)) (fun _ => c5 z hz))
          rintro v z1 ⟨g1, P, U, kn, e1, Z1, I1, hl1, hcl, hsd⟩
          have e1 : v = nI kn := e1
          have g1 : fr plR z z1 := g1
          have Z1 : pZ9 z1 P U kn := Z1
          rw [e1]
          refine w_eqN (by have := Z1.2.1; omega) (by omega) (fun ek => w_some ⟨fr_tr hz g1, P, U, Z1.1, hl1, I1, fun x hx hpx => Classical.byContradiction (fun h9 => hcl x hx hpx h9 ?_), fun w w1 w2 => ?_⟩) (fun _ => c5 z1 (fr_tr hz g1))
          · refine ⟨Or.inl ((Z1.2.2.1 _).mp ?_), Or.inr ((Z1.2.2.1 _).mp ?_)⟩
            · rw [ek]
              exact (hbits _).mpr ⟨2 * x, by omega, hpx, rfl⟩
            · rw [ek]
              exact (hbits _).mpr ⟨2 * x + 1, by omega, (hd2 x hx).trans hpx, rfl⟩
          · refine (Z1.2.2.1 _).mp ?_
            rw [ek]
            exact (hbits _).mpr ⟨w, w1, w2, rfl⟩
      refine u_X0_planPart_3 ?_; unfold cm_X0_planPart_3
      exact w_rdF (hP z hz).2.2.2.2.2 (w_ltF (by omega) (by omega) (c4 al 1 z (by omega) (by omega) hz))
  have c1 : ∀ (d v m : Nat), m < 2 ^ N → (∀ b, o_gn m b ↔ ∃ w, w < v ∧ pr w = p ∧ lab w = b) → v + d = 2 * c → Tt (fun K k => c_X0_planPart vl K k 1 (nI p) (nI m) (nI v) 0 41000 4000 y) Q := by
    intro d
    have h11 : 2 ^ N ≤ 2 ^ 11 := Nat.pow_le_pow_right (by decide) hN
    induction d with
    | zero =>
      intro v m hm hb hv9
      have ev : v = 2 * c := by omega
      subst ev
      have pc1 : 1 ≤ pc m := by
        rcases Nat.eq_zero_or_pos (pc m) with h9 | h9
        · exfalso
          obtain ⟨w, w1, w2⟩ := hne
          have h8 := (hb (lab w)).mpr ⟨w, w1, w2, rfl⟩
          have key : ∀ (n k b : Nat), b < n → o_gn k b → 1 ≤ pcF n k := by
            intro n
            induction n with
            | zero => exact fun k b hb _ => absurd hb (Nat.not_lt_zero _)
            | succ n ih =>
              intro k b hb hk
              show 1 ≤ k % 2 + pcF n (k / 2)
              cases b with
              | zero =>
                unfold o_gn at hk
                rw [Nat.pow_zero, Nat.div_one] at hk
                omega
              | succ b =>
                have := ih (k / 2) b (by omega) (by
                  unfold o_gn at hk ⊢
                  rw [Nat.div_div_eq_div_mul, ← Nat.pow_succ']
                  exact hk)
                omega
          have := key 32 m (lab w) (by have := (h2 w w1).2; omega) h8
          unfold pc at h9
          omega
        · exact h9
      refine u_X0_planPart_1 ?_; unfold cm_X0_planPart_1
      exact w_rdF h1.1 (by rw [rn_mul2]; exact w_leT (by omega) (by omega) (c3 m hm hb (pc m - 1) 1 y (by omega) (by omega) fr_rf))
    | succ d ih =>
      intro v m hm hb hv9
      have c2 : ∀ (m : Nat), m < 2 ^ N → (∀ b, o_gn m b ↔ ∃ w, w < v + 1 ∧ pr w = p ∧ lab w = b) → Tt (fun K k => c_X0_planPart vl K k 2 (nI p) (nI m) (nI v) 0 41000 4000 y) Q := by
        intro m hm hb
        refine u_X0_planPart_2 ?_; unfold cm_X0_planPart_2
        rw [nI_1]
        exact ih (v + 1) m hm hb (by omega)
      obtain ⟨l1, l2⟩ := h2 v (by omega)
      refine u_X0_planPart_1 ?_; unfold cm_X0_planPart_1
      refine w_rdF h1.1 ?_
      rw [rn_mul2]
      refine w_leF (by omega) (by omega) (w_crI (nH_6 nH4) rfl (show v < 24 by omega) (hrow v (by omega)).1 (w_eqN (by have := (hrow v (by omega)).2; omega) (by omega) (fun h9 => w_crI ch_41001 rfl (show v < 24 by omega) l1 ?_) (fun h9 => c2 m hm (fun b => ?_))))
      · obtain ⟨m1, m2⟩ := gor9 (g := m) (v := lab v) (by omega) (by omega)
        rw [m1]
        refine c2 _ (Nat.or_lt_two_pow hm (Nat.pow_lt_pow_right (by decide) l2)) (fun b => ?_)
        rw [gn_or, hb]
        constructor
        · rintro (⟨w, w1, w2, w3⟩ | e)
          · exact ⟨w, by omega, w2, w3⟩
          · exact ⟨v, by omega, h9, e.symm⟩
        · rintro ⟨w, w1, w2, w3⟩
          by_cases ew : w = v
          · rw [ew] at w3
            exact Or.inr w3.symm
          · exact Or.inl ⟨w, by omega, w2, w3⟩
      · rw [hb]
        constructor
        · rintro ⟨w, w1, w2, w3⟩
          exact ⟨w, by omega, w2, w3⟩
        · rintro ⟨w, w1, w2, w3⟩
          by_cases ew : w = v
          · rw [ew] at w2
            exact absurd w2 h9
          · exact ⟨w, by omega, w2, w3⟩
  refine e_X0_planPart ?_
  refine u_X0_planPart_0 ?_; unfold cm_X0_planPart_0
  exact c1 (2 * c) 0 0 (Nat.two_pow_pos N) (fun b => ⟨fun h9 => absurd h9 (gn_z9 b), fun ⟨w, w1, _⟩ => absurd w1 (Nat.not_lt_zero _)⟩) (by omega)
end XMI
end
section
/-! 99zzzzzzzzzzzzzzzc.xmpj -/
/-! maps: the class counts along its plan -/
def sP9 (g n : Nat) (P : List sT9) (L : List Nat) : Prop := L.length = n ∧ (∀ b, b < n → at9 L b < g ∧ (b ∉ tos P → at9 L b = 0)) ∧ ∀ t, t ∈ P → t.1 ≠ 0 → eS9 t (at9 L)
def xt9 (R : List sT9) (v : Nat → Nat) (L : List Nat) : Prop := ∀ b, b ∈ tos R → at9 L b = v b
def vR9 (z : ow_MS) (v : Nat → Nat) : Prop := ∀ b, b < 18 → z.2.1 41009 b = nI (v b) ∧ v b < 24
def ud9 (v : Nat → Nat) (a q : Nat) : Nat → Nat := fun b => if b = a then q else v b
def okP9 (n : Nat) (P : List sT9) : Prop := (∀ s t, P[s]? = some t → vS9 (P.take s) t) ∧ ∀ b, b ∈ tos P → b < n
section XMJ
theorem ud9_at {v : Nat → Nat} {a q : Nat} : ud9 v a q a = q := if_pos rfl
theorem ud9_ne {v : Nat → Nat} {a q b : Nat} (h : b ≠ a) : ud9 v a q b = v b := if_neg h
theorem vR9_set {z : ow_MS} {v : Nat → Nat} {a q : Nat} (hq : q < 24) (h : vR9 z v) : vR9 (usI z 41009 a (nI q)) (ud9 v a q) := fun b hb => by
  by_cases e : b = a
  · rw [e, ud9_at]
    exact ⟨po_usI_at, hq⟩
  · rw [ud9_ne e]
    exact ⟨rd_ne e (h b hb).1, (h b hb).2⟩
theorem take_s9 {P : List sT9} {j : Nat} {t : sT9} (h : P[j]? = some t) : P.take (j + 1) = P.take j ++ [t] := by
  rw [List.take_add_one, h]
  rfl
theorem tos_take {P : List sT9} {j b : Nat} (h : b ∈ tos (P.take j)) : b ∈ tos P := by
  obtain ⟨t, t1, t2⟩ := List.mem_map.mp h
  exact List.mem_map.mpr ⟨t, List.mem_of_mem_take t1, t2⟩
theorem tos_mono {P : List sT9} {i j b : Nat} (hij : i ≤ j) (h : b ∈ tos (P.take i)) : b ∈ tos (P.take j) := by
  have e : P.take i = (P.take j).take i := by rw [List.take_take, Nat.min_eq_left hij]
  rw [e] at h
  exact tos_take h
/-- the arcs of a step that tells of others are known before it, or are it -/
theorem st_in {n : Nat} {P : List sT9} (hP : okP9 n P) {i : Nat} {t : sT9} (hi : P[i]? = some t) : t.2.1 ∈ tos (P.take (i + 1)) ∧ (t.1 ≠ 0 → t.2.2.1 ∈ tos (P.take i) ∧ t.2.2.2.1 ∈ tos (P.take i)) := by
  refine ⟨?_, fun h0 => ?_⟩
  · rw [take_s9 hi, tos_app]
    exact Or.inr rfl
  · rcases hP.1 i t hi with h9 | h9
    · exact absurd h9.1 h0
    · exact h9.2
theorem eS_cg {t : sT9} {v w : Nat → Nat} (h1 : v t.2.1 = w t.2.1) (h2 : v t.2.2.1 = w t.2.2.1) (h3 : v t.2.2.2.1 = w t.2.2.2.1) (h : eS9 t v) : eS9 t w := by
  unfold eS9 at h ⊢
  rw [← h1, ← h2, ← h3]
  exact h
theorem sm9_add {a b : Nat → Nat} : ∀ k, sm9 (fun l => a l + b l) k = sm9 a k + sm9 b k
  | 0 => rfl
  | k + 1 => by
    show sm9 _ k + (a k + b k) = (sm9 a k + a k) + (sm9 b k + b k)
    rw [sm9_add k]
    omega
theorem sm9_cg {a b : Nat → Nat} : ∀ k, (∀ l, l < k → a l = b l) → sm9 a k = sm9 b k
  | 0, _ => rfl
  | k + 1, h => by
    show sm9 a k + a k = sm9 b k + b k
    rw [sm9_cg k (fun l hl => h l (by omega)), h k (by omega)]
theorem sm9_one {F : Nat → Nat} {e : Nat} : ∀ k, sm9 (fun l => if e = l then F l else 0) k = if e < k then F e else 0
  | 0 => rfl
  | k + 1 => by
    show sm9 _ k + (if e = k then F k else 0) = _
    rw [sm9_one k]
    by_cases h : e = k
    · rw [if_neg (by omega), if_pos h, if_pos (by omega), h, Nat.zero_add]
    · rw [if_neg h, Nat.add_zero]
      by_cases h2 : e < k
      · rw [if_pos h2, if_pos (by omega)]
      · rw [if_neg h2, if_neg (by omega)]
/-- one of each class, with its class's size -/
theorem sm_cls {F : Nat → Nat} {g : Nat} (h : ∀ t, t < g → lsM t g < g) : ∀ k, k ≤ g → sm9 (fun t => F (lsM t g)) k = sm9 (fun l => csz g k l * F l) g
  | 0, _ => by
    rw [sm9_cg (b := fun _ => 0) g (fun l _ => by show 0 * F l = 0; rw [Nat.zero_mul]), sm9_c, Nat.mul_zero]
    rfl
  | k + 1, hk => by
    show sm9 (fun t => F (lsM t g)) k + F (lsM k g) = _
    rw [sm_cls h k (by omega), sm9_cg (a := fun l => csz g (k + 1) l * F l) (b := fun l => csz g k l * F l + if lsM k g = l then F l else 0) g (fun l _ => ?_), sm9_add, sm9_one, if_pos (h k (by omega))]
    show (csz g k l + if lsM k g = l then 1 else 0) * F l = _
    by_cases e : lsM k g = l
    · rw [if_pos e, if_pos e, Nat.add_mul, Nat.one_mul]
    · rw [if_neg e, if_neg e, Nat.add_zero, Nat.add_zero]
theorem csz_pos {g : Nat} : ∀ k t, t < k → 1 ≤ csz g k (lsM t g)
  | 0, t, h => absurd h (Nat.not_lt_zero _)
  | k + 1, t, h => by
    show 1 ≤ csz g k (lsM t g) + if lsM k g = lsM t g then 1 else 0
    by_cases e : t = k
    · rw [e, if_pos rfl]
      omega
    · have := csz_pos (g := g) k t (by omega)
      omega
/-- colourings may be conjugated -/
theorem sP_cj {m n h : Nat} {P : List sT9} {L : List Nat} (hm1 : 1 ≤ m) (hm4 : m ≤ 4) (hP : okP9 n P) (hh : h < thM m) (hL : sP9 (thM m) n P L) : sP9 (thM m) n P (tb9 n (fun b => if b ∈ tos P then cjG h (at9 L b) else 0)) := by
  have h24 := (thM_le m).2
  refine ⟨tb9_len, fun b hb => ?_, fun t ht h0 => ?_⟩
  · rw [tb9_at hb]
    by_cases e : b ∈ tos P
    · rw [if_pos e]
      exact ⟨(ca9_m hm1 hm4 hh (hL.2.1 b hb).1).1, fun h9 => absurd e h9⟩
    · rw [if_neg e]
      exact ⟨thM_pos m, fun _ => rfl⟩
  · obtain ⟨i, hi⟩ := List.getElem?_of_mem ht
    obtain ⟨k1, k2⟩ := st_in hP hi
    have m1 := tos_take k1
    have m2 := tos_take (k2 h0).1
    have m3 := tos_take (k2 h0).2
    have l1 := hP.2 _ m1
    have l2 := hP.2 _ m2
    have l3 := hP.2 _ m3
    have e := hL.2.2 t ht h0
    unfold eS9 at e ⊢
    rw [tb9_at l1, tb9_at l2, tb9_at l3, if_pos m1, if_pos m2, if_pos m3, e]
    have b2 : at9 L t.2.2.1 < 24 := by have := (hL.2.1 _ l2).1; omega
    have b3 : at9 L t.2.2.2.1 < 24 := by have := (hL.2.1 _ l3).1; omega
    obtain ⟨c1, -, -, -, c5⟩ := ca9 (h := h) (o := at9 L t.2.2.1) (by omega) b2
    cases t.2.2.2.2
    · exact (sd9 (by omega) b2 b3).symm
    · show cjG h (cjG (ivC (at9 L t.2.2.1)) (at9 L t.2.2.2.1)) = cjG (ivC (cjG h (at9 L t.2.2.1))) (cjG h (at9 L t.2.2.2.1))
      rw [c1]
      exact (sd9 (by omega) c5 b3).symm
theorem cnt_cj {m n h a l N : Nat} {P : List sT9} (hm1 : 1 ≤ m) (hm4 : m ≤ 4) (hP : okP9 n P) (hh : h < thM m) (ha : a ∈ tos P) (hl : l < thM m) (hc : cnt9 (fun L => sP9 (thM m) n P L ∧ at9 L a = l) N) : cnt9 (fun L => sP9 (thM m) n P L ∧ at9 L a = cjG h l) N := by
  have h24 := (thM_le m).2
  have hi := (ca9_m hm1 hm4 hh hh).2
  have back : ∀ (h h' : Nat), h < thM m → h' < thM m → (∀ x, x < 24 → cjG h' (cjG h x) = x) → ∀ L, sP9 (thM m) n P L → tb9 n (fun b => if b ∈ tos P then cjG h' (at9 (tb9 n (fun b => if b ∈ tos P then cjG h (at9 L b) else 0)) b) else 0) = L := by
    intro h h' h1 h2 hx L hL
    refine at9_ext tb9_len hL.1 (fun b hb => ?_)
    rw [tb9_at hb]
    by_cases e : b ∈ tos P
    · rw [if_pos e, tb9_at hb, if_pos e, hx _ (by have := (hL.2.1 b hb).1; omega)]
    · rw [if_neg e, (hL.2.1 b hb).2 e]
  have i1 : ∀ x, x < 24 → cjG (ivC h) (cjG h x) = x := fun x hx => (ca9 (h := h) (o := x) (by omega) hx).2.1
  have i2 : ∀ x, x < 24 → cjG h (cjG (ivC h) x) = x := fun x hx => (ca9 (h := h) (o := x) (by omega) hx).2.2.1
  have la := hP.2 a ha
  refine cnt_bij (fun L => tb9 n (fun b => if b ∈ tos P then cjG h (at9 L b) else 0)) (fun L hL => ⟨sP_cj hm1 hm4 hP hh hL.1, ?_⟩) (fun L M hL hM e => ?_) (fun M hM => ⟨tb9 n (fun b => if b ∈ tos P then cjG (ivC h) (at9 M b) else 0), ⟨sP_cj hm1 hm4 hP hi hM.1, ?_⟩, back (ivC h) h hi hh i2 M hM.1⟩) hc
  · rw [tb9_at la, if_pos ha, hL.2]
  · have e1 := back h (ivC h) hh hi i1 L hL.1
    have e2 := back h (ivC h) hh hi i1 M hM.1
    rw [← e1, ← e2]
    exact congrArg (fun R => tb9 n (fun b => if b ∈ tos P then cjG (ivC h) (at9 R b) else 0)) e
  · rw [tb9_at la, if_pos ha, hM.2, i1 _ (by omega)]
theorem i64_24 : ∀ k : Fin 25, (nI k.val).toInt64 = Int64.ofNat k.val := by decide +kernel
theorem lsM_th {m t : Nat} (hm1 : 1 ≤ m) (hm4 : m ≤ 4) (ht : t < thM m) : lsM t (thM m) < thM m := by
  rcases lsM_or (x := t) (thM m) with h | ⟨o, o1, o2⟩
  · rw [h]
    exact ht
  · rw [o2]
    exact (ca9_m hm1 hm4 o1 ht).1
variable {vl : Nat → Nat}
theorem xc_countF {m n : Nat} {P : List sT9} (hm1 : 1 ≤ m) (hm4 : m ≤ 4) (hP : okP9 n P) (hn : n ≤ 18) (hl : P.length ≤ 18) : ∀ (d q s dd : Nat) (v : Nat → Nat) (z : ow_MS), q + d = 19 → d ≤ dd → s ≤ P.length → q ≤ s → (q = 0 → s = 0) → vR9 z v → stL z P → cjT z → (∀ l, l < 24 → z.2.1 41008 l = nI (csz (thM m) (thM m) l)) → (∀ b, b ∈ tos (P.take s) → v b < thM m) → (∀ i t, i < s → P[i]? = some t → t.1 ≠ 0 → eS9 t v) → Te (fun K => cd0_X0_countFrom vl K (dd + 1) 41000 (nI s) (nI q) (nI (thM m)) z) (fun r => (∃ v', vR9 r.2 v' ∧ ∀ b, b ∈ tos (P.take s) → v' b = v b) ∧ fr (fun q => q = 41009) z r.2 ∧ ∃ M, r.1 = Int64.ofNat M ∧ cnt9 (fun L => sP9 (thM m) n P L ∧ xt9 (P.take s) v L) M) := by
  have h24 := (thM_le m).2
  intro d
  induction d with
  | zero =>
    intro q s dd v z hq hdd hs hqs
    exfalso
    omega
  | succ d ih =>
    intro q s dd v z hq hdd hs hqs hq0 hv hst hcj hcl hvs hes
    obtain ⟨dd, rfl⟩ : ∃ k, dd = k + 1 := ⟨dd - 1, by omega⟩
    let Q : Int64 × ow_MS → Prop := fun r => (∃ v', vR9 r.2 v' ∧ ∀ b, b ∈ tos (P.take s) → v' b = v b) ∧ fr (fun q => q = 41009) z r.2 ∧ ∃ M, r.1 = Int64.ofNat M ∧ cnt9 (fun L => sP9 (thM m) n P L ∧ xt9 (P.take s) v L) M
    have sf : ∀ y1, fr (fun q => q = 41009) z y1 → stL y1 P := fun y1 hf => by
      refine ⟨(hf 41010 (by decide)).1.trans hst.1, fun s t hs => ?_⟩
      rw [(hf 41011 (by decide)).2.1, (hf 41012 (by decide)).2.1, (hf 41013 (by decide)).2.1, (hf 41014 (by decide)).2.1, (hf 41015 (by decide)).2.1]
      exact hst.2 s t hs
    have cf : ∀ y1, fr (fun q => q = 41009) z y1 → cjT y1 := fun y1 hf => by
      refine ⟨fun o x ho hx => ?_, fun o ho => ?_⟩
      · rw [(hf 41006 (by decide)).2.1]
        exact hcj.1 o x ho hx
      · rw [(hf 41007 (by decide)).2.1]
        exact hcj.2 o ho
    have lf : ∀ y1, fr (fun q => q = 41009) z y1 → ∀ l, l < 24 → y1.2.1 41008 l = nI (csz (thM m) (thM m) l) := fun y1 hf l hl9 => by
      rw [(hf 41008 (by decide)).2.1]
      exact hcl l hl9
    have c1 : ∀ (e j : Nat) (w : Nat → Nat) (y1 : ow_MS), j + e = P.length → s ≤ j → (q = 0 → j = 0) → vR9 y1 w → fr (fun q => q = 41009) z y1 → (∀ b, b ∈ tos (P.take s) → w b = v b) → (∀ b, b ∈ tos (P.take j) → w b < thM m) → (∀ i t, i < j → P[i]? = some t → t.1 ≠ 0 → eS9 t w) → (∀ L, sP9 (thM m) n P L → (xt9 (P.take s) v L ↔ xt9 (P.take j) w L)) → Tt (fun K k => c_X0_countFrom vl K (cd0_X0_countFrom vl K (dd + 1)) k 1 (nI s) (nI q) (nI (thM m)) (nI j) 0 0 0 0 0 41000 0 0 0 0 y1) Q := by
      intro e
      induction e with
      | zero =>
        intro j w y1 hj hsj hqj hw hf hvw hwj hew hx
        have ej : j = P.length := by omega
        subst ej
        rw [List.take_length] at hwj hx
        refine u_X0_countFrom_1 ?_; unfold cm_X0_countFrom_1
        refine w_rdF (sf y1 hf).1 (w_leT (by omega) (by omega) (w_some ⟨⟨w, hw, hvw⟩, hf, 1, rfl, ?_⟩))
        refine cnt_1 (L0 := tb9 n (fun b => if b ∈ tos P then w b else 0)) (fun L => ⟨fun hL => ?_, fun eL => ?_⟩)
        · refine at9_ext hL.1.1 tb9_len (fun b hb => ?_)
          rw [tb9_at hb]
          by_cases e9 : b ∈ tos P
          · rw [if_pos e9]
            exact (hx L hL.1).mp hL.2 b e9
          · rw [if_neg e9]
            exact (hL.1.2.1 b hb).2 e9
        · have a9 : ∀ b, b ∈ tos P → at9 L b = w b := fun b hb => by
            rw [eL, tb9_at (hP.2 b hb), if_pos hb]
          have s9 : sP9 (thM m) n P L := by
            refine ⟨by rw [eL]; exact tb9_len, fun b hb => ?_, fun t ht h0 => ?_⟩
            · rw [eL, tb9_at hb]
              by_cases e9 : b ∈ tos P
              · rw [if_pos e9]
                exact ⟨hwj b e9, fun h9 => absurd e9 h9⟩
              · rw [if_neg e9]
                exact ⟨thM_pos m, fun _ => rfl⟩
            · obtain ⟨i, hi⟩ := List.getElem?_of_mem ht
              obtain ⟨k1, k2⟩ := st_in hP hi
              exact eS_cg (a9 _ (tos_take k1)).symm (a9 _ (tos_take (k2 h0).1)).symm (a9 _ (tos_take (k2 h0).2)).symm (hew i t (List.getElem?_eq_some_iff.mp hi).1 hi h0)
          exact ⟨s9, (hx L s9).mpr (fun b hb => a9 b hb)⟩
      | succ e ihe =>
        intro j w y1 hj hsj hqj hw hf hvw hwj hew hx
        have hjl : j < P.length := by omega
        obtain ⟨t, ht⟩ : ∃ t, P[j]? = some t := ⟨_, List.getElem?_eq_getElem hjl⟩
        obtain ⟨r1, r2, r3, r4, r5⟩ := (sf y1 hf).2 j t ht
        obtain ⟨k1, k2⟩ := st_in hP ht
        have hto := hP.2 _ (tos_take k1)
        have htk := take_s9 ht
        have c6 : ∀ (x5 x6 : Int32) (w' : Nat → Nat) (y2 : ow_MS), q ≠ 0 → vR9 y2 w' → fr (fun q => q = 41009) z y2 → (∀ b, b ∈ tos (P.take s) → w' b = v b) → (∀ b, b ∈ tos (P.take (j + 1)) → w' b < thM m) → (∀ i t, i < j + 1 → P[i]? = some t → t.1 ≠ 0 → eS9 t w') → (∀ L, sP9 (thM m) n P L → (xt9 (P.take s) v L ↔ xt9 (P.take (j + 1)) w' L)) → Tt (fun K k => c_X0_countFrom vl K (cd0_X0_countFrom vl K (dd + 1)) k 6 (nI s) (nI q) (nI (thM m)) (nI j) x5 x6 0 0 0 41000 0 0 0 0 y2) Q := by
          intro x5 x6 w' y2 hqn a1 a2 a3 a4 a5 a6
          refine u_X0_countFrom_6 ?_; unfold cm_X0_countFrom_6
          rw [nI_1]
          exact ihe (j + 1) w' y2 (by omega) (by omega) (fun h9 => absurd h9 hqn) a1 a2 a3 a4 a5 a6
        -- setting an arc that is new
        have new : t.2.1 ∉ tos (P.take j) → ∀ g, (∀ b, b ∈ tos (P.take s) → ud9 w t.2.1 g b = v b) ∧ (g < thM m → ∀ b, b ∈ tos (P.take (j + 1)) → ud9 w t.2.1 g b < thM m) ∧ (∀ i t', i < j → P[i]? = some t' → t'.1 ≠ 0 → eS9 t' (ud9 w t.2.1 g)) ∧ ∀ b, b ∈ tos (P.take j) → ud9 w t.2.1 g b = w b := by
          intro hnew g
          have n0 : ∀ b, b ∈ tos (P.take j) → ud9 w t.2.1 g b = w b := fun b hb => ud9_ne (fun e9 => hnew (by rw [← e9]; exact hb))
          refine ⟨fun b hb => (n0 b (tos_mono hsj hb)).trans (hvw b hb), fun hg b hb => ?_, fun i t' hi hi2 h0 => ?_, n0⟩
          · rw [htk, tos_app] at hb
            rcases hb with hb | hb
            · rw [n0 b hb]
              exact hwj b hb
            · rw [hb, ud9_at]
              exact hg
          · obtain ⟨l1, l2⟩ := st_in hP hi2
            exact eS_cg (n0 _ (tos_mono (by omega) l1)).symm (n0 _ (tos_mono (by omega) (l2 h0).1)).symm (n0 _ (tos_mono (by omega) (l2 h0).2)).symm (hew i t' hi hi2 h0)
        refine u_X0_countFrom_1 ?_; unfold cm_X0_countFrom_1
        refine w_rdF (sf y1 hf).1 (w_leF (by omega) hjl (w_crI ch_41011 rfl (show j < 36 by omega) r1 ?_))
        rcases hP.1 j t ht with ⟨h0, hnew⟩ | ⟨hk, hby, hfr⟩
        · -- a seed
          rw [h0]
          refine w_ifT rfl ?_
          obtain ⟨-, -, -, -⟩ := new hnew 0
          let Φ : Nat → List Nat → Prop := fun g L => sP9 (thM m) n P L ∧ xt9 (P.take (j + 1)) (ud9 w t.2.1 g) L
          have Φd : ∀ L g g', Φ g L → Φ g' L → g = g' := fun L g g' h1 h2 => by
            have e1 := h1.2 _ k1
            have e2 := h2.2 _ k1
            rw [ud9_at] at e1 e2
            exact e1.symm.trans e2
          have Φe : ∀ L, (∃ g, g < thM m ∧ Φ g L) ↔ sP9 (thM m) n P L ∧ xt9 (P.take s) v L := fun L => by
            constructor
            · rintro ⟨g, g1, g2, g3⟩
              refine ⟨g2, (hx L g2).mpr (fun b hb => ?_)⟩
              rw [← (new hnew g).2.2.2 b hb]
              exact g3 b (by rw [htk, tos_app]; exact Or.inl hb)
            · rintro ⟨g2, g3⟩
              refine ⟨at9 L t.2.1, (g2.2.1 _ hto).1, g2, fun b hb => ?_⟩
              rw [htk, tos_app] at hb
              rcases hb with hb | hb
              · rw [(new hnew _).2.2.2 b hb]
                exact (hx L g2).mp g3 b hb
              · rw [hb, ud9_at]
          let W : Nat → Nat := fun g => if q = 0 then csz (thM m) (thM m) g else 1
          have c2 : ∀ (f g : Nat) (F w2 : Nat → Nat) (y2 : ow_MS), g + f = thM m → vR9 y2 w2 → fr (fun q => q = 41009) z y2 → (∀ b, b ∈ tos (P.take j) → w2 b = w b) → (∀ g', g' < g → W g' ≠ 0 → cnt9 (Φ g') (F g')) → Tt (fun K k => c_X0_countFrom vl K (cd0_X0_countFrom vl K (dd + 1)) k 2 (nI s) (nI q) (nI (thM m)) (nI j) 0 0 (nI g) 0 (Int64.ofNat (sm9 (fun g' => W g' * F g') g)) 41000 0 0 0 0 y2) Q := by
            intro f
            induction f with
            | zero =>
              intro g F w2 y2 hg hw2 hf2 hww hF
              have eg : g = thM m := by omega
              subst eg
              refine u_X0_countFrom_2 ?_; unfold cm_X0_countFrom_2
              refine w_leT (by omega) (by omega) (w_some ⟨⟨w2, hw2, fun b hb => (hww b (tos_mono hsj hb)).trans (hvw b hb)⟩, hf2, _, rfl, ?_⟩)
              by_cases q0 : q = 0
              · have j0 := hqj q0
                have eW : W = fun g => csz (thM m) (thM m) g := funext (fun g => if_pos q0)
                have Φa : ∀ g L, Φ g L ↔ sP9 (thM m) n P L ∧ at9 L t.2.1 = g := fun g L => by
                  have e9 : tos (P.take (j + 1)) = [t.2.1] := by
                    rw [htk, j0]
                    rfl
                  constructor
                  · rintro ⟨g1, g2⟩
                    have := g2 _ k1
                    rw [ud9_at] at this
                    exact ⟨g1, this⟩
                  · rintro ⟨g1, g2⟩
                    refine ⟨g1, fun b hb => ?_⟩
                    rw [e9] at hb
                    rw [List.mem_singleton.mp hb, ud9_at]
                    exact g2
                have Fc : ∀ g, g < thM m → cnt9 (Φ g) (F (lsM g (thM m))) := fun g hg => by
                  have l1 := lsM_th hm1 hm4 hg
                  have l2 := csz_pos (g := thM m) (thM m) g hg
                  have l3 := hF (lsM g (thM m)) l1 (by rw [eW]; exact Nat.ne_of_gt l2)
                  have l4 := cnt_cg (Φa _) l3
                  refine cnt_cg (fun L => (Φa g L).symm) ?_
                  rcases lsM_or (x := g) (thM m) with h9 | ⟨o, o1, o2⟩
                  · rw [h9] at l4 ⊢
                    exact l4
                  · have oi := (ca9_m hm1 hm4 o1 o1).2
                    have := cnt_cj hm1 hm4 hP oi (tos_take k1) l1 l4
                    rw [show cjG (ivC o) (lsM g (thM m)) = g by rw [o2]; exact (ca9 (h := o) (o := g) (by omega) (by omega)).2.1] at this
                    exact this
                have := cnt_sm Φd (thM m) Fc
                rw [sm_cls (F := F) (fun t ht => lsM_th hm1 hm4 ht) (thM m) (Nat.le_refl _)] at this
                rw [eW]
                exact cnt_cg Φe this
              · have eW : ∀ g, W g = 1 := fun g => if_neg q0
                have := cnt_sm Φd (f := F) (thM m) (fun g hg => hF g hg (by rw [eW]; decide))
                rw [sm9_cg (a := fun g' => W g' * F g') (b := F) (thM m) (fun l _ => by rw [eW, Nat.one_mul])]
                exact cnt_cg Φe this
            | succ f ihf =>
              intro g F w2 y2 hg hw2 hf2 hww hF
              have hgm : g < thM m := by omega
              have c4 : ∀ (x8 : Int32) (y0 : Int64) (M : Nat) (w3 : Nat → Nat) (y3 : ow_MS), y0 = Int64.ofNat (W g * M) → vR9 y3 w3 → fr (fun q => q = 41009) z y3 → (∀ b, b ∈ tos (P.take j) → w3 b = w b) → (W g ≠ 0 → cnt9 (Φ g) M) → Tt (fun K k => c_X0_countFrom vl K (cd0_X0_countFrom vl K (dd + 1)) k 4 (nI s) (nI q) (nI (thM m)) (nI j) 0 0 (nI g) x8 (Int64.ofNat (sm9 (fun g' => W g' * F g') g)) 41000 0 0 y0 (Int64.ofNat (sm9 (fun g' => W g' * F g') g)) y3) Q := by
                intro x8 y0 M w3 y3 hy0 a1 a2 a3 a4
                refine u_X0_countFrom_4 ?_; unfold cm_X0_countFrom_4
                rw [nI_1, hy0, ← Int64.ofNat_add]
                have := ihf (g + 1) (ud9 F g M) w3 y3 (by omega) a1 a2 a3 (fun g' hg' hW => ?_)
                · have e9 : sm9 (fun g' => W g' * ud9 F g M g') (g + 1) = sm9 (fun g' => W g' * F g') g + W g * M := by
                    show sm9 (fun g' => W g' * ud9 F g M g') g + W g * ud9 F g M g = _
                    rw [ud9_at, sm9_cg (b := fun g' => W g' * F g') g (fun l hl9 => by rw [ud9_ne (by omega)])]
                  rw [e9] at this
                  exact this
                · by_cases eg : g' = g
                  · rw [eg] at hW ⊢
                    rw [ud9_at]
                    exact a4 hW
                  · rw [ud9_ne eg]
                    exact hF g' (by omega) hW
              have c3 : ∀ (t0 : Int32), t0 = nI (W g) → Tt (fun K k => c_X0_countFrom vl K (cd0_X0_countFrom vl K (dd + 1)) k 3 (nI s) (nI q) (nI (thM m)) (nI j) 0 0 (nI g) 0 (Int64.ofNat (sm9 (fun g' => W g' * F g') g)) 41000 t0 0 0 0 y2) Q := by
                intro t0 ht0
                subst ht0
                have W24 : W g ≤ 24 := by
                  show (if q = 0 then csz (thM m) (thM m) g else 1) ≤ 24
                  have := csz_le (g := thM m) (l := g) (thM m)
                  split <;> omega
                have f3 : fr (fun q => q = 41009) z (usI y2 41009 t.2.1 (nI g)) := fr_I2 hf2 rfl
                have v3 : vR9 (usI y2 41009 t.2.1 (nI g)) (ud9 w2 t.2.1 g) := vR9_set (by omega) hw2
                have e3 : ∀ b, b ∈ tos (P.take j) → ud9 w2 t.2.1 g b = w b := fun b hb => (ud9_ne (fun e9 => hnew (by rw [← e9]; exact hb))).trans (hww b hb)
                have e4 : ∀ b, b ∈ tos (P.take (j + 1)) → ud9 w2 t.2.1 g b = ud9 w t.2.1 g b := fun b hb => by
                  rw [htk, tos_app] at hb
                  rcases hb with hb | hb
                  · rw [e3 b hb, (new hnew g).2.2.2 b hb]
                  · rw [hb, ud9_at, ud9_at]
                obtain ⟨-, p2, -, -, -⟩ := (sf y2 hf2).2 j t ht
                refine u_X0_countFrom_3 ?_; unfold cm_X0_countFrom_3
                refine w_crI ch_41012 rfl (show j < 36 by omega) p2 (w_ctI ch_41009 rfl (show t.2.1 < 18 by omega) (w_if (fun h9 => ?_) (fun h9 => ?_)))
                · have W0 : W g = 0 := nI_inj9 (a := W g) (b := 0) (by omega) (by omega) h9
                  refine c4 _ 0 0 (ud9 w2 t.2.1 g) _ ?_ v3 f3 e3 (fun h8 => absurd W0 h8)
                  rw [W0]
                  rfl
                · rw [nI_1, nI_1]
                  refine w_cs1 (ih (q + 1) (j + 1) dd (ud9 w2 t.2.1 g) _ (by omega) (by omega) (by omega) (by omega) (fun h9 => by omega) v3 (sf _ f3) (cf _ f3) (lf _ f3) (fun b hb => ?_) (fun i t' hi hi2 h0' => ?_)) ?_
                  · rw [e4 b hb]
                    exact (new hnew g).2.1 hgm b hb
                  · by_cases eij : i = j
                    · rw [eij, ht] at hi2
                      rw [← Option.some.inj hi2] at h0'
                      exact absurd h0 h0'
                    · obtain ⟨l1, l2⟩ := st_in hP hi2
                      exact eS_cg (e4 _ (tos_mono (by omega) l1)).symm (e4 _ (tos_mono (by omega) (l2 h0').1)).symm (e4 _ (tos_mono (by omega) (l2 h0').2)).symm ((new hnew g).2.2.1 i t' (by omega) hi2 h0')
                  · rintro u y3 ⟨⟨w4, a1, a2⟩, a3, M, a4, a5⟩
                    have a4 : u = Int64.ofNat M := a4
                    have a3 : fr (fun q => q = 41009) (usI y2 41009 t.2.1 (nI g)) y3 := a3
                    have a1 : vR9 y3 w4 := a1
                    refine c4 _ _ M w4 y3 ?_ a1 (fr_tr f3 a3) (fun b hb => (a2 b (by rw [htk, tos_app]; exact Or.inl hb)).trans (e3 b hb)) (fun _ => cnt_cg (fun L => and_congr Iff.rfl ⟨fun h8 b hb => (h8 b hb).trans (e4 b hb), fun h8 b hb => (h8 b hb).trans (e4 b hb).symm⟩) a5)
                    rw [a4, show (nI (W g)).toInt64 = Int64.ofNat (W g) from i64_24 ⟨W g, by omega⟩, Int64.ofNat_mul]
              refine u_X0_countFrom_2 ?_; unfold cm_X0_countFrom_2
              refine w_leF (by omega) hgm (w_eqN (b := 0) (by omega) (by omega) (fun q0 => w_crI ch_41008 rfl (show g < 24 by omega) (lf y2 hf2 g (by omega)) (c3 _ ?_)) (fun q0 => c3 _ ?_))
              · show _ = nI (if q = 0 then csz (thM m) (thM m) g else 1)
                rw [if_pos q0]
              · show _ = nI (if q = 0 then csz (thM m) (thM m) g else 1)
                rw [if_neg q0]
                rfl
          exact c2 (thM m) 0 (fun _ => 0) w y1 (by omega) hw hf (fun _ _ => rfl) (fun g' hg' => absurd hg' (Nat.not_lt_zero _))
        · -- a step that tells of others
          have tk : t.1 = 1 ∨ t.1 = 2 := hk.imp (fun h9 => h9.1) (fun h9 => h9.1)
          have hqn : q ≠ 0 := fun h9 => by
            have := hqj h9
            rw [this] at hby
            exact absurd hby List.not_mem_nil
          have lby := hP.2 _ (tos_take hby)
          have lfr := hP.2 _ (tos_take hfr)
          obtain ⟨b1, b2⟩ := hw t.2.2.1 (by omega)
          obtain ⟨b3, b4⟩ := hw t.2.2.2.1 (by omega)
          obtain ⟨b5, b6⟩ := hw t.2.1 (by omega)
          have hi : cjS t.2.2.2.2 (w t.2.2.1) (w t.2.2.2.1) < thM m := by
            have g1 := hwj _ hby
            have g2 := hwj _ hfr
            cases t.2.2.2.2
            · exact (ca9_m hm1 hm4 g1 g2).1
            · exact (ca9_m hm1 hm4 (ca9_m hm1 hm4 g1 g1).2 g2).1
          have xL : ∀ L, sP9 (thM m) n P L → xt9 (P.take j) w L → at9 L t.2.1 = cjS t.2.2.2.2 (w t.2.2.1) (w t.2.2.2.1) := fun L hL hxL => by
            have := hL.2.2 t (List.mem_of_getElem? ht) (by omega)
            unfold eS9 at this
            rw [hxL _ hby, hxL _ hfr] at this
            exact this
          have c5 : ∀ (o : Nat) (x5 : Int32), o = (if t.2.2.2.2 = true then ivC (w t.2.2.1) else w t.2.2.1) → Tt (fun K k => c_X0_countFrom vl K (cd0_X0_countFrom vl K (dd + 1)) k 5 (nI s) (nI q) (nI (thM m)) (nI j) x5 0 0 0 0 41000 (nI o) 24 0 0 y1) Q := by
            intro o x5 ho
            have ho24 : o < 24 := by
              rw [ho]
              split
              · exact (ca9 (h := w t.2.2.1) (o := w t.2.2.1) b2 b2).2.2.2.2
              · exact b2
            have ei : cjG o (w t.2.2.2.1) = cjS t.2.2.2.2 (w t.2.2.1) (w t.2.2.2.1) := by
              rw [ho]
              rfl
            have q6 := (cf y1 hf).1 o (w t.2.2.2.1) ho24 b4
            rw [ei] at q6
            refine u_X0_countFrom_5 ?_; unfold cm_X0_countFrom_5
            refine w_crI ch_41014 rfl (show j < 36 by omega) r4 (w_crI ch_41009 rfl (show t.2.2.2.1 < 18 by omega) b3 (w_crI ch_41006 (i := 24 * o + w t.2.2.2.1) (by rw [show (24 : Int32) * nI o = nI (24 * o) from pk_mul 24 o, nI_add]) (by omega) q6 (w_crI ch_41011 rfl (show j < 36 by omega) r1 ?_)))
            rcases hk with ⟨t1, hnew⟩ | ⟨t2, hold⟩
            · rw [t1]
              refine w_ifT rfl (w_crI ch_41012 rfl (show j < 36 by omega) r2 (w_ctI ch_41009 rfl (show t.2.1 < 18 by omega) ?_))
              obtain ⟨n1, n2, n3, n4⟩ := new hnew (cjS t.2.2.2.2 (w t.2.2.1) (w t.2.2.2.1))
              refine c6 _ _ (ud9 w t.2.1 (cjS t.2.2.2.2 (w t.2.2.1) (w t.2.2.2.1))) _ hqn (vR9_set (by omega) hw) (fr_I2 hf rfl) n1 (n2 hi) (fun i t' hi1 hi2 h0' => ?_) (fun L hL => (hx L hL).trans ⟨fun h9 b hb => ?_, fun h9 b hb => ?_⟩)
              · by_cases eij : i = j
                · rw [eij, ht] at hi2
                  rw [← Option.some.inj hi2]
                  unfold eS9
                  rw [ud9_at, n4 _ hby, n4 _ hfr]
                · exact n3 i t' (by omega) hi2 h0'
              · rw [htk, tos_app] at hb
                rcases hb with hb | hb
                · rw [n4 b hb]
                  exact h9 b hb
                · rw [hb, ud9_at]
                  exact xL L hL h9
              · rw [← n4 b hb]
                exact h9 b (by rw [htk, tos_app]; exact Or.inl hb)
            · rw [t2]
              refine w_ifF (by decide) (w_crI ch_41012 rfl (show j < 36 by omega) r2 (w_crI ch_41009 rfl (show t.2.1 < 18 by omega) b5 (w_eqN (by omega) (by omega) (fun h9 => ?_) (fun h9 => ?_))))
              · have tj : ∀ b, b ∈ tos (P.take (j + 1)) ↔ b ∈ tos (P.take j) := fun b => by
                  rw [htk, tos_app]
                  exact ⟨fun h8 => h8.elim id (fun h7 => by rw [h7]; exact hold), Or.inl⟩
                refine c6 _ _ w y1 hqn hw hf hvw (fun b hb => hwj b ((tj b).mp hb)) (fun i t' hi1 hi2 h0' => ?_) (fun L hL => (hx L hL).trans ⟨fun h8 b hb => h8 b ((tj b).mp hb), fun h8 b hb => h8 b ((tj b).mpr hb)⟩)
                by_cases eij : i = j
                · rw [eij, ht] at hi2
                  rw [← Option.some.inj hi2]
                  exact h9
                · exact hew i t' (by omega) hi2 h0'
              · refine w_some ⟨⟨w, hw, hvw⟩, hf, 0, rfl, cnt_0 (fun L hL => ?_)⟩
                have h8 := (hx L hL.1).mp hL.2
                exact h9 ((h8 _ hold).symm.trans (xL L hL.1 h8))
          refine w_ifF (show ¬ (nI t.1 = 0) from fun h9 => by have := nI_inj9 (a := t.1) (b := 0) (by omega) (by omega) h9; omega) ?_
          refine w_crI ch_41013 rfl (show j < 36 by omega) r3 (w_crI ch_41009 rfl (show t.2.2.1 < 18 by omega) b1 (w_crI ch_41015 rfl (show j < 36 by omega) r5 ?_))
          cases hb : t.2.2.2.2
          · refine w_ifT rfl (c5 _ _ ?_)
            rw [hb]
            rfl
          · refine w_ifF (by decide) (w_crI ch_41007 rfl b2 ((cf y1 hf).2 _ b2) (c5 _ _ ?_))
            rw [hb]
            rfl
    refine w_cdM ?_
    refine u_X0_countFrom_0 ?_; unfold cm_X0_countFrom_0
    exact w_leT (b := 18) (by omega) (by omega) (c1 (P.length - s) s v z (by omega) (Nat.le_refl _) hq0 hv fr_rf (fun _ _ => rfl) hvs hes (fun L _ => Iff.rfl))
end XMJ
end
section
/-! 99zzzzzzzzzzzzzzzd.xmpk -/
/-! maps: what the class answers -/
def mxQ (g : Nat) : Prop := 4001 ≤ g ∧ g ≤ 4011 ∨ 41001 ≤ g ∧ g ≤ 41002 ∨ 41008 ≤ g ∧ g ≤ 41016
section XMK
theorem at9_24 {g n : Nat} {L : List Nat} (hg : g ≤ 24) (h1 : L.length = n) (h : ∀ b, b < n → at9 L b < g) (b : Nat) : at9 L b < 24 := by
  rcases Nat.lt_or_ge b n with h9 | h9
  · have := h b h9
    omega
  · unfold at9
    rw [List.getElem?_eq_none (by omega)]
    decide
theorem sP_ar {g n c p : Nat} {S : ow_NP} {ng : Nat → Bool} {lab pr : Nat → Nat} {P : List sT9} {U : List Nat} (hg : g ≤ 24) (hI : pI9 c S ng lab pr p P U) (hU : ∀ x, x < c → pr (2 * x) = p → x ∈ U) (hT : ∀ w, w < 2 * c → pr w = p → lab w ∈ tos P) (L : List Nat) : sP9 g n P L ↔ ar9 g (fun x o i => cjS (ng x) o i) n c S (fun w => decide (pr w = p)) lab L := by
  have us : ∀ b, b ∈ tos P ↔ us9 c (fun w => decide (pr w = p)) lab b := fun b => by
    constructor
    · intro hb
      obtain ⟨w, w1, w2, w3⟩ := tos_part hI hb
      exact ⟨w, w1, decide_eq_true w2, w3⟩
    · rintro ⟨w, w1, w2, w3⟩
      rw [← w3]
      exact hT w w1 (of_decide_eq_true w2)
  constructor
  · rintro ⟨h1, h2, h3⟩
    have b24 := at9_24 hg h1 (fun b hb => (h2 b hb).1)
    refine ⟨h1, fun b hb => ⟨(h2 b hb).1, fun h9 => (h2 b hb).2 (fun h8 => h9 ((us b).mp h8))⟩, fun x hx hp => ?_⟩
    obtain ⟨-, -, t, t1, t2, t3⟩ := hI.2.1 x (hU x hx (of_decide_eq_true hp))
    exact (t3 _ b24).mp (h3 t t1 t2)
  · rintro ⟨h1, h2, h3⟩
    have b24 := at9_24 hg h1 (fun b hb => (h2 b hb).1)
    refine ⟨h1, fun b hb => ⟨(h2 b hb).1, fun h9 => (h2 b hb).2 (fun h8 => h9 ((us b).mpr h8))⟩, fun t t1 t2 => ?_⟩
    obtain ⟨x, x1, x2, x3⟩ := (hI.2.2.1 t t1).2 t2
    exact (x3 _ b24).mpr (h3 x x1 (decide_eq_true x2))
variable {vl : Nat → Nat} {y : ow_MS} {x x' : Int32} {St : plT}
theorem xc_countMaps {A : rn_L} {sg : Nat → Bool} {c m : Nat} {S : ow_NP} {G : Nat → Int32} (hJ : jnN A sg c S G) (hy : cAt y 4000 (c, cirs A, S, G)) (hm1 : 1 ≤ m) (hm4 : m ≤ 4) (hc7 : c ≤ 7) (hA4 : A.length ≤ 4) (hcj : cjT y) (hv9 : ∃ v, vR9 y v) : Te (fun K => ce_X0_countMaps vl K 41000 4000 (nI m) y) (fun r => (∃ N, r.1 = Int64.ofNat (N * thM m ^ cirs A) ∧ cnt9 (cl9 (thM m) (fun x o i => cjS (sg x) o i) c S (fun _ => true)) N) ∧ fr mxQ y r.2) := by
  let Q : Int64 × ow_MS → Prop := fun r => (∃ N, r.1 = Int64.ofNat (N * thM m ^ cirs A) ∧ cnt9 (cl9 (thM m) (fun x o i => cjS (sg x) o i) c S (fun _ => true)) N) ∧ fr mxQ y r.2
  obtain ⟨hA, hi, hv, hG⟩ := hJ
  have hc := hA.2.2.2.1
  have h6 := hA.2.2.2.2
  have nc := neC_cirs A
  have h24 := (thM_le m).2
  obtain ⟨q, q1, q2, q3, R, q4, q5⟩ := iso_q hi hv
  obtain ⟨v0, hv0⟩ := hv9
  have c1 : Tt (fun K k => c_X0_countMaps vl K k 1 (nI m) 0 0 0 41000 4000 (nI (thM m)) y) Q := by
    refine u_X0_countMaps_1 ?_; unfold cm_X0_countMaps_1
    refine w_cs0 (xc_markArcs (m := neC A) nH4 hy hv hc (by omega) q2 q3 q4 q5 (by omega)) ?_
    rintro y1 ⟨⟨a, n, hs, n1, n2, hA9⟩, f1⟩
    have hlb := arc_lb hv q2 q3 hs hA9
    obtain ⟨s1, s2, s3, s4, s5⟩ := hs
    have hy1 : cAt y1 4000 (c, cirs A, S, G) := cAt_fr f1 (fun g hg h9 => by unfold cP at hg; unfold arP at h9; omega) hy
    refine w_cs0 (tc_markParts nH4 hy1 (fun k hk => (hv k hk).1) hc) ?_
    rintro y2 ⟨g1, g2, f2⟩
    obtain ⟨m1, m2⟩ := np_parts_of (fun a ha => (hv a ha).1) hc (y1.2.1 (4000 + 6))
    have g2 : y2.1 4011 = nI (np_parts c S.1).2 := by
      rw [← m2]
      exact g2
    have g1 : ∀ w, w < 2 * c → y2.2.1 4006 w = (np_parts c S.1).1 w := fun w hw => by
      rw [← m1 w hw]
      exact g1 w
    obtain ⟨pi1, pi2, pi3, pi4⟩ := parts_I hv hc
    have pl : (np_parts c S.1).2 ≤ 2 * c := mp_out_le S.1 (2 * c) (fun _ => -1) (2 * c)
    generalize np_parts c S.1 = PT at g1 g2 pi1 pi2 pi3 pi4 pl
    obtain ⟨pr, hpr⟩ : ∃ pr : Nat → Nat, ∀ w, w < 2 * c → pr w < PT.2 ∧ PT.1 w = nI (pr w) := by
      refine Classical.axiomOfChoice (r := fun w r => w < 2 * c → r < PT.2 ∧ PT.1 w = nI r) (fun w => ?_)
      by_cases hw : w < 2 * c
      · obtain ⟨r, r1, r2⟩ := pi2 w hw
        exact ⟨r, fun _ => ⟨r1, r2⟩⟩
      · exact ⟨0, fun h9 => absurd h9 hw⟩
    have prE : ∀ w u, w < 2 * c → u < 2 * c → PT.1 w = PT.1 u → pr w = pr u := fun w u hw hu e => by
      obtain ⟨a1, a2⟩ := hpr w hw
      obtain ⟨b1, b2⟩ := hpr u hu
      exact nI_inj9 (by omega) (by omega) (a2.symm.trans (e.trans b2))
    have hd : ∀ w, w < 2 * c → pr (S.2 w) = pr w := fun w hw => by
      obtain ⟨-, b2, -, b4⟩ := hv w hw
      refine prE _ _ b2 hw ?_
      have := (pi1 _ b2).1
      rw [b4] at this
      exact this.symm
    have hd2 : ∀ x, x < c → pr (2 * x + 1) = pr (2 * x) := fun x hx => by
      refine prE _ _ (by omega) (by omega) ?_
      have := (pi1 (2 * x) (by omega)).2
      rw [mt_ev x] at this
      exact this
    have hy2 : cAt y2 4000 (c, cirs A, S, G) := cAt_fr f2 (fun g hg h9 => by unfold cP at hg; unfold cQ at h9; omega) hy1
    have f02 : fr (fun g => 4001 ≤ g ∧ g ≤ 4011 ∨ g = 41001 ∨ g = 41002) y y2 := fr_tr (fr_mono (fun g hg => by unfold arP at hg; omega) f1) (fr_mono (fun g hg => by unfold cQ at hg; omega) f2)
    have hcj2 : cjT y2 := ⟨fun o x ho hx => by rw [(f02 41006 (by omega)).2.1]; exact hcj.1 o x ho hx, fun o ho => by rw [(f02 41007 (by omega)).2.1]; exact hcj.2 o ho⟩
    refine w_cs0 (xc_findCl h24 hcj2) ?_
    rintro y3 ⟨hcl3, f3⟩
    have f03 : fr mxQ y y3 := fr_tr (fr_mono (fun g hg => by unfold mxQ; omega) f02) (fr_mono (fun g hg => by unfold mxQ; omega) f3)
    have hN3 : plN y3 c (cirs A) S G a (n + cirs A) := by
      refine plN_fr f3 (fun g hg => by unfold cP; omega) ⟨hy2, hv, hc, by omega, fun v hv2 => ?_, ?_⟩
      · rw [(f2 41001 (by unfold cQ; omega)).2.1]
        exact ⟨(s1 v hv2).1, by have := (s1 v hv2).2; omega⟩
      · rw [(f2 41002 (by unfold cQ; omega)).1]
        exact s5
    have hcj3 : cjT y3 := ⟨fun o x ho hx => by rw [(f3 41006 (by omega)).2.1]; exact hcj2.1 o x ho hx, fun o ho => by rw [(f3 41007 (by omega)).2.1]; exact hcj2.2 o ho⟩
    have hv3 : vR9 y3 v0 := fun b hb => by
      rw [(f3 41009 (by omega)).2.1, (f02 41009 (by omega)).2.1]
      exact hv0 b hb
    have hr3 : ∀ w, w < 2 * c → y3.2.1 4006 w = nI (pr w) := fun w hw => by
      rw [(f3 4006 (by omega)).2.1, g1 w hw]
      exact (hpr w hw).2
    have e3 : y3.1 4011 = nI PT.2 := (f3 4011 (by decide)).1.trans g2
    have hng : ∀ x, x < c → sg x = decide (G x ≤ 0) := fun x hx => by
      rw [hG x hx]
      cases sg x <;> decide
    have tg : (nI (thM m)).toInt64 = Int64.ofNat (thM m) := i64_24 ⟨thM m, by omega⟩
    have c3 : ∀ (d i : Nat) (f : Nat → Nat) (v : Nat → Nat) (z : ow_MS), i + d = PT.2 → vR9 z v → fr (fun g => 41009 ≤ g ∧ g ≤ 41016) y3 z → (∀ p, p < i → cnt9 (cl9 (thM m) (fun x o i => cjS (sg x) o i) c S (fun w => decide (pr w = p))) (f p)) → Tt (fun K k => c_X0_countMaps vl K k 3 (nI m) (nI (thM m)) (nI i) (Int64.ofNat (pd9 f i * thM m ^ cirs A)) 41000 4000 0 z) Q := by
      intro d
      induction d with
      | zero =>
        intro i f v z hi2 hz hf hF
        have ei : i = PT.2 := by omega
        rw [ei] at hF
        refine u_X0_countMaps_3 ?_; unfold cm_X0_countMaps_3
        refine w_rdF ((hf 4011 (by omega)).1.trans e3) (w_leT (by omega) (by omega) (w_some ⟨⟨pd9 f i, rfl, ?_⟩, fr_tr f03 (fr_mono (fun g hg => by unfold mxQ; omega) hf)⟩))
        rw [ei]
        exact cl_prod hv (thM_pos m) (fun w hw => ⟨(hpr w hw).1, hd w hw⟩) hd2 hF
      | succ d ih =>
        intro i f v z hi2 hz hf hF
        refine u_X0_countMaps_3 ?_; unfold cm_X0_countMaps_3
        refine w_rdF ((hf 4011 (by omega)).1.trans e3) (w_leF (by omega) (by omega) (w_cs0 (xc_planPart (ng := sg) (pr := pr) (p := i) (plN_fr hf (fun g hg => by unfold cP; omega) hN3) hng hd hd2 (fun w hw => ⟨by rw [(hf 4006 (by omega)).2.1]; exact hr3 w hw, by have := (hpr w hw).1; omega⟩) (by omega) hc7 (by omega) ?_) ?_))
        · obtain ⟨w, w1, w2⟩ := pi3 i (by omega)
          exact ⟨w, w1, nI_inj9 (by have := (hpr w w1).1; omega) (by omega) ((hpr w w1).2.symm.trans w2)⟩
        · rintro z1 ⟨k1, P, U, k2, k3, k4, k5, k6⟩
          have ok : okP9 n P := ⟨k4.2.2.2, fun b hb => by
            obtain ⟨w, w1, -, w3⟩ := tos_part k4 hb
            rw [← w3]
            exact (s1 w w1).2⟩
          have f31 : fr (fun g => 41009 ≤ g ∧ g ≤ 41016) y3 z1 := fr_tr hf (fr_mono (fun g hg => by unfold plR at hg; omega) k1)
          have hz1 : vR9 z1 v := fun b hb => by
            rw [(k1 41009 (by unfold plR; omega)).2.1]
            exact hz b hb
          have hcjz : cjT z1 := ⟨fun o x ho hx => by rw [(f31 41006 (by omega)).2.1]; exact hcj3.1 o x ho hx, fun o ho => by rw [(f31 41007 (by omega)).2.1]; exact hcj3.2 o ho⟩
          refine w_cs1 (xc_countF (n := n) hm1 hm4 ok (by omega) k3 19 0 0 20 v z1 (by omega) (by omega) (Nat.zero_le _) (Nat.zero_le _) (fun _ => rfl) hz1 k2 hcjz (fun l hl => ?_) (fun b hb => absurd hb List.not_mem_nil) (fun i t hi => absurd hi (Nat.not_lt_zero _))) ?_
          · rw [(f31 41008 (by omega)).2.1]
            exact hcl3 l hl
          · rintro u z2 ⟨⟨v', a1, -⟩, a2, M, a3, a4⟩
            have a3 : u = Int64.ofNat M := a3
            have a2 : fr (fun q => q = 41009) z1 z2 := a2
            have a1 : vR9 z2 v' := a1
            rw [nI_1, a3, ← Int64.ofNat_mul]
            have hM : cnt9 (cl9 (thM m) (fun x o i => cjS (sg x) o i) c S (fun w => decide (pr w = i))) M := by
              refine ar_cl hv ⟨fun w hw => by dsimp only; rw [hd w hw], fun x hx => by dsimp only; rw [hd2 x hx]⟩ hlb (thM_pos m) (cnt_cg (fun L => ?_) a4)
              refine Iff.trans ⟨fun h9 => h9.1, fun h9 => ⟨h9, fun b hb => absurd hb List.not_mem_nil⟩⟩ (sP_ar h24 k4 k5 k6 L)
            have := ih (i + 1) (ud9 f i M) v' z2 (by omega) a1 (fr_tr f31 (fr_mono (fun g hg => by omega) a2)) (fun p hp => ?_)
            · have e9 : pd9 (ud9 f i M) (i + 1) = pd9 f i * M := by
                show pd9 (ud9 f i M) i * ud9 f i M i = _
                rw [ud9_at, pd9_cg i (fun q hq => ud9_ne (by omega))]
              rw [e9, Nat.mul_right_comm] at this
              exact this
            · by_cases ep : p = i
              · rw [ep, ud9_at]
                exact hM
              · rw [ud9_ne ep]
                exact hF p (by omega)
    have c2 : ∀ (d i : Nat), i + d = cirs A → Tt (fun K k => c_X0_countMaps vl K k 2 (nI m) (nI (thM m)) (nI i) (Int64.ofNat (thM m ^ i)) 41000 4000 0 y3) Q := by
      intro d
      induction d with
      | zero =>
        intro i hi2
        have ei : i = cirs A := by omega
        subst ei
        have := c3 PT.2 0 (fun _ => 0) v0 y3 (by omega) hv3 fr_rf (fun p hp => absurd hp (Nat.not_lt_zero _))
        rw [show pd9 (fun _ => 0) 0 * thM m ^ cirs A = thM m ^ cirs A from Nat.one_mul _] at this
        refine u_X0_countMaps_2 ?_; unfold cm_X0_countMaps_2
        exact w_rdF (x := nI (cirs A)) hN3.1.2.1 (w_leT (by omega) (by omega) this)
      | succ d ih =>
        intro i hi2
        have := ih (i + 1) (by omega)
        rw [Nat.pow_succ, Int64.ofNat_mul] at this
        refine u_X0_countMaps_2 ?_; unfold cm_X0_countMaps_2
        rw [nI_1, tg]
        exact w_rdF (x := nI (cirs A)) hN3.1.2.1 (w_leF (by omega) (by omega) this)
    exact c2 (cirs A) 0 (by omega)
  refine e_X0_countMaps ?_
  refine u_X0_countMaps_0 ?_; unfold cm_X0_countMaps_0
  have mm : m = 1 ∨ m = 2 ∨ m = 3 ∨ m = 4 := by omega
  rcases mm with rfl | rfl | rfl | rfl
  · exact w_ifF (by decide) (w_ifF (by decide) c1)
  · exact w_ifF (by decide) (w_ifF (by decide) c1)
  · exact w_ifF (by decide) (w_ifT (by decide) c1)
  · exact w_ifT (by decide) c1
def mC9 (A : rn_L) (sg : Nat → Bool) (m : Nat) (v : Int32) : Prop := ∃ c S G N, jnN A sg c S G ∧ v = nI (N * thM m ^ cirs A) ∧ cnt9 (cl9 (thM m) (fun x o i => cjS (sg x) o i) c S (fun _ => true)) N
theorem xc_maps (hM : gM y) (hC : relC y St) (hS : okS St) (hcj : cjT y) (hp : mpC y) : Te (fun K => ce_X11_maps vl K 0 x x' y) (fun r => fr mxQ y r.2.2 ∧ ((r.1 = 1 ∧ ∀ d, d < 40 → x = nI d → St d = none) ∨ ∃ d A sg, d < 40 ∧ x = nI d ∧ St d = some (A, sg) ∧ (r.1 = 2 ∧ (x' < 1 ∨ ¬ x' ≤ 4) ∨ (¬ x' < 1 ∧ x' ≤ 4) ∧ (r.1 = 4 ∧ (14 < A.flatten.length ∨ 4 < A.length) ∨ r.1 = 0 ∧ A.flatten.length ≤ 14 ∧ A.length ≤ 4 ∧ ∀ m, 1 ≤ m → m ≤ 4 → x' = nI m → mC9 A sg m r.2.1)))) := by
  refine e_X11_maps ?_; unfold cm_X11_maps_0
  refine w_tc0 (xc_need hM.1.1 hC hS) ?_ ?_
  · rintro y1 ⟨h1, rfl⟩
    rcases h1 with h1 | ⟨-, d, A, sg, c, hd, rfl, hSt, hs, hA, hne, hpl⟩
    · exact absurd (show (0 : Nat) = 1 from h1.1) (by decide)
    · have hl := okF_len hA.1
      refine w_if (fun h9 => w_some ⟨fr_rf, Or.inr ⟨d, A, sg, hd, rfl, hSt, Or.inl ⟨rfl, Or.inl h9⟩⟩⟩) (fun h0 => w_if (fun h4 => ?_) (fun h9 => w_some ⟨fr_rf, Or.inr ⟨d, A, sg, hd, rfl, hSt, Or.inl ⟨rfl, Or.inr h9⟩⟩⟩))
      refine w_cs0 (tc_ld3 nH4 hM.1 hd hs hA) ?_
      rintro y2 ⟨g1, g2, S, G, g3, g4⟩
      have hc12 := hA.2.2.2.1
      have f2 : fr mxQ y1 y2 := fr_mono (fun g hg => by unfold cL at hg; unfold mxQ; omega) g2
      have hcj2 : cjT y2 := ⟨fun o x ho hx => by rw [(g2 41006 (by unfold cL; omega)).2.1]; exact hcj.1 o x ho hx, fun o ho => by rw [(g2 41007 (by unfold cL; omega)).2.1]; exact hcj.2 o ho⟩
      have hv2 : ∃ v, vR9 y2 v := by
        obtain ⟨v, hv⟩ : ∃ v : Nat → Nat, ∀ b, b < 18 → v b < 24 ∧ y1.2.1 41009 b = nI (v b) := by
          refine Classical.axiomOfChoice (r := fun b k => b < 18 → k < 24 ∧ y1.2.1 41009 b = nI k) (fun b => ?_)
          by_cases hb : b < 18
          · obtain ⟨k, k1, k2⟩ := hp.2.2 b hb
            exact ⟨k, fun _ => ⟨k1, k2⟩⟩
          · exact ⟨0, fun h9 => absurd h9 hb⟩
        refine ⟨v, fun b hb => ?_⟩
        rw [(g2 41009 (by unfold cL; omega)).2.1]
        exact ⟨(hv b hb).2, (hv b hb).1⟩
      refine w_rdF g3.1.1 (w_lt (a := 7) (by omega) (by omega) (fun h9 => w_some ⟨f2, Or.inr ⟨d, A, sg, hd, rfl, hSt, Or.inr ⟨⟨h0, h4⟩, Or.inl ⟨rfl, Or.inl (by omega)⟩⟩⟩⟩) (fun h7 => w_rdF g3.2.2.2.2.2 (w_le (b := 4) (by have := hA.2.2.2.2; omega) (by omega) (fun h44 => ?_) (fun h9 => w_some ⟨f2, Or.inr ⟨d, A, sg, hd, rfl, hSt, Or.inr ⟨⟨h0, h4⟩, Or.inl ⟨rfl, Or.inr h9⟩⟩⟩⟩))))
      obtain ⟨m, m31, rfl⟩ := nI_of (x := x') (fun h => h0 (by
        rw [Int32.lt_iff_toInt_lt] at h ⊢
        exact Int.lt_trans h (by decide)))
      have hm4 : m ≤ 4 := (nI_leI m31 (by omega)).mp h4
      have hm1 : 1 ≤ m := by
        rcases Nat.eq_zero_or_pos m with h9 | h9
        · exact absurd (show nI m < 1 by rw [h9]; decide) h0
        · exact h9
      refine w_cs1 (xc_countMaps g4 g3.1 hm1 hm4 (by omega) h44 hcj2 hv2) ?_
      rintro v y3 ⟨⟨N, e1, e2⟩, f3⟩
      have f3 : fr mxQ y2 y3 := f3
      have e1 : v = Int64.ofNat (N * thM m ^ cirs A) := e1
      refine w_some ⟨fr_tr f2 f3, Or.inr ⟨d, A, sg, hd, rfl, hSt, Or.inr ⟨⟨h0, h4⟩, Or.inr ⟨rfl, by omega, h44, fun m' k1 k2 k3 => ?_⟩⟩⟩⟩
      rw [← nI_inj9 (a := m) (b := m') (by omega) (by omega) k3]
      refine ⟨c, S, G, N, g4, ?_, e2⟩
      show v.toInt32 = _
      rw [e1, Int64.toInt32_ofNat']
      rfl
  · rintro a y1 ha ⟨h1, rfl⟩
    rcases h1 with h1 | h1
    · exact w_some ⟨fr_rf, Or.inl ⟨h1.1, h1.2⟩⟩
    · exact absurd h1.1 ha
end XMK
end
section
/-! 99zzzzzzzzzzzzzzze.xmpl -/
/-! maps: both sides answer the same -/
section XML
def gBS (m : Nat) : Bool := (List.range (thM m)).all (fun y => (List.range (thM m)).any (fun x => decide (bjM m x = y)))
theorem bs_c : ∀ m : Fin 5, 1 ≤ m.val → gBS m.val = true := by decide +kernel
theorem bs_n {m y : Nat} (h1 : 1 ≤ m) (h4 : m ≤ 4) (hy : y < thM m) : ∃ x, x < thM m ∧ bjM m x = y := by
  have k := List.all_eq_true.mp (bs_c ⟨m, by omega⟩ h1) y (List.mem_range.mpr hy)
  obtain ⟨x, x1, x2⟩ := List.any_eq_true.mp k
  exact ⟨x, List.mem_range.mp x1, of_decide_eq_true x2⟩
/-- the numbers of the class's permutations for those of the reference -/
theorem cl_bj {m c N : Nat} {S : ow_NP} {sg : Nat → Bool} (hv : vn c S) (h1 : 1 ≤ m) (h4 : m ≤ 4) (h : cnt9 (cl9 (thM m) (fun x o i => opM m (sg x) o i) c S (fun _ => true)) N) : cnt9 (cl9 (thM m) (fun x o i => cjS (sg x) o i) c S (fun _ => true)) N := by
  have op : ∀ (s : Bool) (o i : Nat), o < thM m → i < thM m → cjS s (bjM m o) (bjM m i) = bjM m (opM m s o i) := fun s o i ho hi => by
    obtain ⟨-, b2, b3, -⟩ := bt_n h1 h4 ho hi
    cases s
    · exact b2
    · exact b3
  obtain ⟨k, hk⟩ : ∃ k : Nat → Nat, ∀ y, y < thM m → k y < thM m ∧ bjM m (k y) = y := by
    refine Classical.axiomOfChoice (r := fun y x => y < thM m → x < thM m ∧ bjM m x = y) (fun y => ?_)
    by_cases hy : y < thM m
    · obtain ⟨x, x1, x2⟩ := bs_n h1 h4 hy
      exact ⟨x, fun _ => ⟨x1, x2⟩⟩
    · exact ⟨0, fun h9 => absurd h9 hy⟩
  have sur : ∀ H, cl9 (thM m) (fun x o i => cjS (sg x) o i) c S (fun _ => true) H → cl9 (thM m) (fun x o i => opM m (sg x) o i) c S (fun _ => true) (tb9 (2 * c) (fun w => k (at9 H w))) ∧ tb9 (2 * c) (fun w => bjM m (at9 (tb9 (2 * c) (fun w => k (at9 H w))) w)) = H := by
    intro H hH
    have w1 : ∀ w, w < 2 * c → at9 (tb9 (2 * c) (fun w => k (at9 H w))) w < thM m ∧ ((fun _ : Nat => true) w = false → at9 (tb9 (2 * c) (fun w => k (at9 H w))) w = 0) := fun w hw => by
      rw [tb9_at hw]
      exact ⟨(hk _ (hH.2.1 w hw).1).1, fun h9 => by cases h9⟩
    have w2 : ∀ x, x < c → (fun _ : Nat => true) (2 * x) = true → at9 (tb9 (2 * c) (fun w => k (at9 H w))) (2 * x) = at9 (tb9 (2 * c) (fun w => k (at9 H w))) (S.2 (2 * x)) ∧ at9 (tb9 (2 * c) (fun w => k (at9 H w))) (2 * x + 1) = opM m (sg x) (at9 (tb9 (2 * c) (fun w => k (at9 H w))) (2 * x)) (at9 (tb9 (2 * c) (fun w => k (at9 H w))) (S.2 (2 * x + 1))) := fun x hx _ => by
      have s0 := (hv (2 * x) (by omega)).2.1
      have s1 := (hv (2 * x + 1) (by omega)).2.1
      obtain ⟨e1, e2⟩ := hH.2.2 x hx rfl
      have q0 := hk _ (hH.2.1 (2 * x) (by omega)).1
      have q1 := hk _ (hH.2.1 (2 * x + 1) (by omega)).1
      have q2 := hk _ (hH.2.1 _ s1).1
      rw [tb9_at (show 2 * x < 2 * c by omega), tb9_at s0, tb9_at (show 2 * x + 1 < 2 * c by omega), tb9_at s1]
      refine ⟨by rw [e1], ?_⟩
      have ol := (ib_n h1 h4 q0.1 q2.1 (sg x)).2
      refine (bt_n h1 h4 q1.1 ol).2.2.2.mp ?_
      have := op (sg x) _ _ q0.1 q2.1
      rw [q0.2, q2.2] at this
      rw [q1.2, ← this]
      exact e2
    refine ⟨⟨tb9_len, w1, w2⟩, at9_ext tb9_len hH.1 (fun w hw => ?_)⟩
    rw [tb9_at hw, tb9_at hw]
    exact (hk _ (hH.2.1 w hw).1).2
  refine cnt_bij (fun L => tb9 (2 * c) (fun w => bjM m (at9 L w))) (fun L hL => ?_) (fun L M hL hM e => ?_) (fun H hH => ⟨_, sur H hH⟩) h
  · have w1 : ∀ w, w < 2 * c → at9 (tb9 (2 * c) (fun w => bjM m (at9 L w))) w < thM m ∧ ((fun _ : Nat => true) w = false → at9 (tb9 (2 * c) (fun w => bjM m (at9 L w))) w = 0) := fun w hw => by
      rw [tb9_at hw]
      have q := (hL.2.1 w hw).1
      exact ⟨(bt_n h1 h4 q q).1, fun h9 => by cases h9⟩
    have w2 : ∀ x, x < c → (fun _ : Nat => true) (2 * x) = true → at9 (tb9 (2 * c) (fun w => bjM m (at9 L w))) (2 * x) = at9 (tb9 (2 * c) (fun w => bjM m (at9 L w))) (S.2 (2 * x)) ∧ at9 (tb9 (2 * c) (fun w => bjM m (at9 L w))) (2 * x + 1) = cjS (sg x) (at9 (tb9 (2 * c) (fun w => bjM m (at9 L w))) (2 * x)) (at9 (tb9 (2 * c) (fun w => bjM m (at9 L w))) (S.2 (2 * x + 1))) := fun x hx _ => by
      have s0 := (hv (2 * x) (by omega)).2.1
      have s1 := (hv (2 * x + 1) (by omega)).2.1
      obtain ⟨e1, e2⟩ := hL.2.2 x hx rfl
      rw [tb9_at (show 2 * x < 2 * c by omega), tb9_at s0, tb9_at (show 2 * x + 1 < 2 * c by omega), tb9_at s1]
      refine ⟨by rw [e1], ?_⟩
      rw [e2]
      exact (op (sg x) _ _ (hL.2.1 _ (by omega)).1 (hL.2.1 _ s1).1).symm
    exact ⟨tb9_len, w1, w2⟩
  · refine at9_ext hL.1 hM.1 (fun w hw => ?_)
    have e4 : at9 (tb9 (2 * c) (fun w => bjM m (at9 L w))) w = at9 (tb9 (2 * c) (fun w => bjM m (at9 M w))) w := congrArg (fun H => at9 H w) e
    rw [tb9_at hw, tb9_at hw] at e4
    exact (bt_n h1 h4 (hL.2.1 w hw).1 (hM.2.1 w hw).1).2.2.2.mp e4
theorem mA_mC {A : rn_L} {sg : Nat → Bool} {m : Nat} {v v' : Int32} (h1 : 1 ≤ m) (h4 : m ≤ 4) (h : mA9 A sg m v) (h' : mC9 A sg m v') : v = v' := by
  obtain ⟨c, S, G, N, hJ, e, hN⟩ := h'
  obtain ⟨hA, hi, hv, hG⟩ := hJ
  obtain ⟨N', hN', e'⟩ := mA_cl hi hv h
  rw [e, e', cnt_uni (cl_bj hv h1 h4 hN') hN]
variable {X : (Nat → Nat → Int32) → Prop} {z y : ow_MS} {vl : Nat → Nat} {x x' : Int32}
theorem c_maps (hX : ∀ W, X W → XM W) (h : rel3 X z y) (hp : mpC y) (hst : stP y) (hz : epA z) (hy : cjT y) : Te (fun K => qe_X13_maps K x x' z) (fun rr => Te (fun K => ce_X11_maps vl K 0 x x' y) (fun rc => (rel3 X rr.2 rc.2.2 ∧ ansI [(1, 1), (2, 2), (3, 4)] rr rc) ∧ mpC rc.2.2 ∧ stP rc.2.2 ∧ fr mxQ y rc.2.2)) := by
  obtain ⟨⟨St, k⟩, hM, h2⟩ := id h
  refine te_two (te_and (te_fo (tp_maps (d := x) (k := x') hX k.1) (fun K => ff_X13_maps)) (xq_maps k.1 k.2.2.1 hz)) (te_and (tc_maps (x := x) (x' := x') hM hp hst) (xc_maps hM k.2.2.2.1 k.2.2.2.2 hy hp)) (fun rr rc ⟨⟨hgI, fR⟩, hr⟩ ⟨⟨hG, hp2, hs2, _⟩, hf, hc⟩ => ?_)
  have hC : relC rc.2.2 St := relC_fr hf (fun q hq h9 => by unfold cW at hq; unfold mxQ at h9; omega) k.2.2.2.1
  have h2' : rel2 rr.2 rc.2.2 := by
    obtain ⟨k1, k2, k3, ⟨Ns, q1, q2, q3⟩, Ms, q4, q5, q6⟩ := h2
    exact ⟨relT_k fR hf (by decide) (by unfold mxQ; omega) k1, relB_k fR hf (by decide) (by unfold mxQ; omega) k2, brC_fr hf (by unfold mxQ; omega) k3, ⟨Ns, rlR_k fR (by decide) q1, rlC_k hf (fun q hq => by unfold cV at hq; unfold mxQ; omega) q2, q3⟩, Ms, rlR_k fR (by decide) q4, rlC_k hf (fun q hq => by unfold cV at hq; unfold mxQ; omega) q5, q6⟩
  have fin : ansI [(1, 1), (2, 2), (3, 4)] rr rc → ((rel3 X rr.2 rc.2.2 ∧ ansI [(1, 1), (2, 2), (3, 4)] rr rc) ∧ mpC rc.2.2 ∧ stP rc.2.2 ∧ fr mxQ y rc.2.2) := fun ha => ⟨⟨⟨⟨St, hgI, hG.1, relR_fr fR (by decide) k.2.2.1, hC, k.2.2.2.2⟩, hG, h2'⟩, ha⟩, hp2, hs2, hf⟩
  rcases hr with ⟨r1, r2⟩ | ⟨e, A, sg, he, rfl, hSt, hr⟩
  · rcases hc with ⟨c1, -⟩ | ⟨d, A, sg, hd, hx, hSt, -⟩
    · exact fin (Or.inr ⟨1, 1, by simp, r1, c1⟩)
    · rw [r2 d hd hx] at hSt
      cases hSt
  · rcases hc with ⟨-, c2⟩ | ⟨d, A', sg', hd, hx, hSt', hc⟩
    · rw [c2 e he rfl] at hSt
      cases hSt
    · have ed := nI_inj9 (a := e) (b := d) (by omega) (by omega) hx
      subst ed
      rw [hSt] at hSt'
      cases hSt'
      rcases hr with ⟨r1, r2⟩ | ⟨⟨r1, r2⟩, hr⟩
      · rcases hc with ⟨c1, -⟩ | ⟨⟨c1, c2⟩, -⟩
        · exact fin (Or.inr ⟨2, 2, by simp, r1, c1⟩)
        · exact absurd r2 (fun h9 => h9.elim c1 (fun h8 => h8 c2))
      · rcases hc with ⟨-, c1⟩ | ⟨-, hc⟩
        · exact absurd c1 (fun h9 => h9.elim r1 (fun h8 => h8 r2))
        · rcases hr with ⟨a1, a2⟩ | ⟨a1, a2, a3, a4⟩
          · rcases hc with ⟨b1, -⟩ | ⟨-, b2, b3, -⟩
            · exact fin (Or.inr ⟨3, 4, by simp, a1, b1⟩)
            · omega
          · rcases hc with ⟨-, b2⟩ | ⟨b1, -, -, b4⟩
            · omega
            · obtain ⟨m, m31, em⟩ := nI_of (x := x') (fun h9 => r1 (by
                rw [Int32.lt_iff_toInt_lt] at h9 ⊢
                exact Int.lt_trans h9 (by decide)))
              rw [em] at r1 r2
              have hm4 : m ≤ 4 := (nI_leI m31 (by omega)).mp r2
              have hm1 : 1 ≤ m := by
                rcases Nat.eq_zero_or_pos m with h9 | h9
                · exact absurd (show nI m < 1 by rw [h9]; decide) r1
                · exact h9
              exact fin (Or.inl ⟨a1, b1, mA_mC hm1 hm4 (a4 m hm1 hm4 em) (b4 m hm1 hm4 em)⟩)
end XML
end
section
/-! 99zzzzzzzzzzzzzzzf.xst9 -/
/-! maps is a step of the law; what is left of the whole: eight cases -/
section XSE
variable {vl : Nat → Nat} {y : ow_MS}
theorem CI_mx {y1 : ow_MS} (hf : fr mxQ y y1) (h4 : mpC y1) (h5 : stP y1) (h : CI vl y) : CI vl y1 := by
  obtain ⟨i1, ⟨C, c1, c2, c3⟩, i3, -, -, i6, i7, i8⟩ := h
  have no : ∀ g, 4012 ≤ g ∧ g ≤ 41000 ∨ 41017 ≤ g → ¬ mxQ g := fun g hg h9 => by unfold mxQ at h9; omega
  refine ⟨knC_fr hf (fun g hg h9 => by unfold mxQ at hg; omega) i1, ⟨C, slC_fr hf (fun q hq => no q (by unfold cW at hq; omega)) c1, c2, c3.imp id (fun ⟨A, sg, c, e, hT⟩ => ⟨A, sg, c, e, jnT_fr hf ⟨no _ (by omega), no _ (by omega), no _ (by omega)⟩ hT⟩)⟩, bnC_fr hf (fun m hm => no _ (by omega)) i3, h4, h5, fun m hm => ?_, fun i k hi hk => ?_, i8⟩
  · rw [(hf 43005 (no _ (by omega))).2.1]
    exact i6 m hm
  · rw [(hf (45001 + i) (no _ (by omega))).2.1]
    exact i7 i k hi hk
variable {Pc Pr : ow_MS → Prop}
theorem s3_maps (hc : keepP ciX Pc) (hk : ∀ y, Pc y → cjT y) (hp : ∀ y y1, fr mxQ y y1 → Pc y → Pc y1) (hz : ∀ z, Pr z → epA z) (hq : ∀ z z1, fr (pf [1, 58, 59, 60, 61, 62, 63, 77, 78, 79, 80] []) z z1 → Pr z → Pr z1) : stpX Pc Pr lst_maps := by
  intro S x1 x2 x3 x4 x5 h pc pr
  have hci := h.1.2.1
  have hc1 : Te (fun K => qe_X13_maps K x1 x2 S.2.2) (fun rr => Te (fun K => ce_X11_maps S.1 K 0 x1 x2 S.2.1) (fun rc => (REL (S.1, rc.2.2, rr.2) ∧ ansI [(1, 1), (2, 2), (3, 4)] rr rc) ∧ NM rc.2.2 ∧ Pc rc.2.2 ∧ Pr rr.2)) := w_monoE (te_fo (c_maps (vl := S.1) (x := x1) (x' := x2) (fun _ h9 => XR_M h9) h.1.1 hci.2.2.2.1 hci.2.2.2.2.1 (hz _ pr) (hk _ pc)) (fun K => ff_X13_maps)) (fun rr ⟨hr, fR⟩ => w_monoE hr (fun rc ⟨⟨q1, q2⟩, q3, q4, q5⟩ => ⟨⟨⟨q1, CI_mx q5 q3 q4 hci, jnR_fr fR (by decide) (by decide) h.1.2.2⟩, q2⟩, NM_fr q5 (fun g hg h9 => by unfold mxQ at hg; omega) h.2, hp _ _ q5 pc, hq _ _ fR pr⟩))
  have hs0 : Te (lsV S.1 (fun K => ce_X11_maps S.1 K 0 x1 x2 S.2.1) (fun k z => if k = 1 then some (1, z) else if k = 2 then some (2, z) else if k = 4 then some (3, z) else none) (fun K => qe_X13_maps K x1 x2 S.2.2)) (fun S1 => REL S1 ∧ dPhi S.1 ≤ dPhi S1.1) := by
    refine st_int (w_monoE hc1 (fun rr hr => w_monoE hr (fun rc hb => hb.1))) (fun j k hm => ?_)
    simp only [List.mem_cons, List.not_mem_nil, or_false, Prod.mk.injEq] at hm
    rcases hm with ⟨rfl, rfl⟩ | ⟨rfl, rfl⟩ | ⟨rfl, rfl⟩
    · exact ⟨by decide, by decide, by decide, fun _ => rfl⟩
    · exact ⟨by decide, by decide, by decide, fun _ => rfl⟩
    · exact ⟨by decide, by decide, by decide, fun _ => rfl⟩
  have hmp : ∀ (k : Nat) (z : ow_MS) (r : Int32 × ow_MS), ((fun k z => if k = 1 then some (1, z) else if k = 2 then some (2, z) else if k = 4 then some (3, z) else none) : Nat → ow_MS → Option (Int32 × ow_MS)) k z = some r → r.2 = z := (fun k z r hr => by
    have hr : (if k = 1 then some (1, z) else if k = 2 then some (2, z) else if k = 4 then some (3, z) else none) = some r := hr
    by_cases c0 : k = 1
    · rw [if_pos c0] at hr
      cases hr
      rfl
    by_cases c1 : k = 2
    · rw [if_neg c0, if_pos c1] at hr
      cases hr
      rfl
    by_cases c2 : k = 4
    · rw [if_neg c0, if_neg c1, if_pos c2] at hr
      cases hr
      rfl
    rw [if_neg c0, if_neg c1, if_neg c2] at hr
    cases hr)
  have hs : Te (lsV S.1 (fun K => ce_X11_maps S.1 K 0 x1 x2 S.2.1) (fun k z => if k = 1 then some (1, z) else if k = 2 then some (2, z) else if k = 4 then some (3, z) else none) (fun K => qe_X13_maps K x1 x2 S.2.2)) (fun S1 => REL2 S1 ∧ dPhi S.1 ≤ dPhi S1.1) := w_monoE (lsV_nm hs0 (w_monoE (te_in2 hc1) (fun rc ⟨_, hb⟩ => hb.2.1)) hmp) (fun S1 ⟨⟨q1, q2⟩, q3⟩ => ⟨⟨q1, q3⟩, q2⟩)
  exact lsV_pp hs (w_monoE (te_in2 hc1) (fun rc ⟨_, hb⟩ => hb.2.2.1)) (w_monoE (te_out hc1) (fun rr ⟨_, hb⟩ => hb.2.2.2)) (fun y v hy => hc (fun g => g = 52001) y _ (fr_J rfl) (fun g hg h9 => by unfold ciX at h9; omega) hy) hmp
theorem cjT_fr {P : Nat → Prop} {y y1 : ow_MS} (hf : fr P y y1) (h6 : ¬ P 41006) (h7 : ¬ P 41007) (h : cjT y) : cjT y1 := ⟨fun o x ho hx => by rw [(hf 41006 h6).2.1]; exact h.1 o x ho hx, fun o ho => by rw [(hf 41007 h7).2.1]; exact h.2 o ho⟩
theorem cj_init {z8 z0 z1 : ow_MS} {b : Nat} (hb : ∀ K, b ≤ K → ce_X0i_b0 K 41000 53001 zeroS = some z0) : cjT (Zc z8 z0 z1) := by
  obtain ⟨r, ⟨b1, hb1⟩, hE⟩ := ti_b0E (z := zeroS)
  have er : r = z0 := Option.some.inj ((hb1 (b + b1) (by omega)).symm.trans (hb (b + b1) (by omega)))
  subst er
  exact ⟨fun o x ho hx => hE.1 o x ho hx, fun o ho => hE.2 o ho⟩
theorem pf_n8 {L : List Nat} {g : Nat} (h : pf L [] g) (hL : L.all (fun a => decide (a < 73 ∨ 76 < a)) = true) (h1 : 73 ≤ g) (h2 : g ≤ 76) : False := by
  rcases h with h | h | h
  · have := of_decide_eq_true (List.all_eq_true.mp hL g h)
    omega
  · exact absurd h List.not_mem_nil
  · omega
variable {Qc Qr : ow_MS → Prop}
end XSE
end
section
/-! 99zzzzzzzzzzzzzzzg.xga1 -/
/-! braids: lists of simple ones as a monoid with common multiples and divisors -/
section XG1
variable {n : Nat}
theorem eqT_pr (h2 : 2 ≤ n) (h5 : n ≤ 5) {P X Y : List Nat} (hP : okT n P) (h : eqT n X Y) : eqT n (P ++ X) (P ++ Y) := fun V hV => eqT_pre h2 h5 V P X Y hV hP h
theorem eqT_ap (h2 : 2 ≤ n) (h5 : n ≤ 5) : ∀ (B : List Nat) {T F : List Nat}, okT n B → okT n T → okT n F → eqT n T F → eqT n (T ++ B) (F ++ B)
  | [], T, F, _, _, _, h => by rw [List.append_nil, List.append_nil]; exact h
  | b :: B, T, F, hB, hT, hF, h => by
    obtain ⟨hb, hB⟩ := okT_c.mp hB
    have hb1 : okT n [b] := okT_c.mpr ⟨hb, okT_n⟩
    have := eqT_ap h2 h5 B hB (okT_a.mpr ⟨hT, hb1⟩) (okT_a.mpr ⟨hF, hb1⟩) (eqT_app h2 h5 hb hT hF h)
    rw [List.append_assoc, List.append_assoc] at this
    exact this
theorem eqT_2 (h2 : 2 ≤ n) (h5 : n ≤ 5) {X Y : List Nat} {v t : Nat} (hX : okT n X) (hY : okT n Y) (hv : v < gNN n) (ht : t < gNN n) : eqT n (X ++ v :: ddG n v t :: Y) (X ++ t :: ddG n t v :: Y) := by
  obtain ⟨e1, e2⟩ := d_pa h2 h5 hv ht
  obtain ⟨s, es⟩ : ∃ s, muG n v (ddG n v t) = s + 1 := ⟨muG n v (ddG n v t) - 1, by omega⟩
  have k1 := eqT_swp h2 h5 (b := ddG n v t) (b' := 0) hX hY hv (dd_lt h2 h5 hv ht) nn_0 es (mu_r0 h2 h5)
  have k2 := eqT_swp h2 h5 (b := ddG n t v) (b' := 0) hX hY ht (dd_lt h2 h5 ht hv) nn_0 (e1.symm.trans es) (mu_r0 h2 h5)
  exact eqT_tr k1 (eqT_sy k2)
/-- one simple one and a list: their common multiple -/
theorem r1_eq (h2 : 2 ≤ n) (h5 : n ≤ 5) : ∀ (T : List Nat) {v : Nat}, v < gNN n → okT n T → eqT n (v :: (r1G n v T).2) (T ++ [(r1G n v T).1])
  | [], v, _, _ => eqT_rf _
  | t :: T, v, hv, h => by
    obtain ⟨ht, hT⟩ := okT_c.mp h
    have hd := dd_lt h2 h5 ht hv
    have ih := r1_eq h2 h5 T hd hT
    obtain ⟨a1, a2, -⟩ := r1_ok h2 h5 T hd hT
    show eqT n (v :: ddG n v t :: (r1G n (ddG n t v) T).2) (t :: T ++ [(r1G n (ddG n t v) T).1])
    exact eqT_tr (eqT_2 (X := []) h2 h5 okT_n a2 hv ht) (eqT_pr (P := [t]) h2 h5 (okT_c.mpr ⟨ht, okT_n⟩) ih)
theorem eqT_c1 (h2 : 2 ≤ n) (h5 : n ≤ 5) {T F : List Nat} {v : Nat} (hv : v < gNN n) (hT : okT n T) (hF : okT n F) (h : eqT n (v :: T) (v :: F)) : eqT n T F := by
  have e := (eqT_1 h hv).2
  have k : ∀ T, okT n T → (r1G n v (v :: T)).2 = 0 :: T := fun T hT => by
    show ddG n v v :: (r1G n (ddG n v v) T).2 = _
    rw [dd_s h2 h5 hv, r1_0 h2 h5 T hT]
  rw [k T hT, k F hF] at e
  exact eqT_tr (eqT_sy (eqT_id (X := []) h2 h5 okT_n hT)) (eqT_tr e (eqT_id (X := []) h2 h5 okT_n hF))
theorem eqT_cl (h2 : 2 ≤ n) (h5 : n ≤ 5) : ∀ (V : List Nat) {T F : List Nat}, okT n V → okT n T → okT n F → eqT n (V ++ T) (V ++ F) → eqT n T F
  | [], _, _, _, _, _, h => h
  | v :: V, T, F, hV, hT, hF, h => by
    obtain ⟨hv, hV⟩ := okT_c.mp hV
    exact eqT_cl h2 h5 V hV hT hF (eqT_c1 h2 h5 hv (okT_a.mpr ⟨hV, hT⟩) (okT_a.mpr ⟨hV, hF⟩) h)
def szT (n : Nat) : List Nat → Nat
  | [] => 0
  | t :: T => szG n t + szT n T
theorem szT_a : ∀ (X Y : List Nat), szT n (X ++ Y) = szT n X + szT n Y
  | [], Y => (Nat.zero_add _).symm
  | x :: X, Y => by
    show szG n x + szT n (X ++ Y) = szG n x + szT n X + szT n Y
    rw [szT_a X Y, Nat.add_assoc]
theorem szT_r1 (h2 : 2 ≤ n) (h5 : n ≤ 5) : ∀ (T : List Nat) {v : Nat}, v < gNN n → okT n T → szT n T + szG n (r1G n v T).1 = szG n v + szT n (r1G n v T).2
  | [], v, _, _ => by
    show 0 + szG n v = szG n v + 0
    omega
  | t :: T, v, hv, h => by
    obtain ⟨ht, hT⟩ := okT_c.mp h
    have ih := szT_r1 h2 h5 T (dd_lt h2 h5 ht hv) hT
    have e := (f_fou h2 h5 hv ht).2.1
    show szG n t + szT n T + szG n (r1G n (ddG n t v) T).1 = szG n v + (szG n (ddG n v t) + szT n (r1G n (ddG n t v) T).2)
    omega
theorem szT_z (h2 : 2 ≤ n) (h5 : n ≤ 5) : ∀ (T : List Nat), (∀ t, t ∈ T → t = 0) → szT n T = 0
  | [], _ => rfl
  | t :: T, h => by
    show szG n t + szT n T = 0
    rw [h t List.mem_cons_self, sz_0 h2 h5, szT_z h2 h5 T (fun s hs => h s (List.mem_cons_of_mem _ hs))]
theorem z_szT (h2 : 2 ≤ n) (h5 : n ≤ 5) : ∀ (T : List Nat), okT n T → szT n T = 0 → eqT n T []
  | [], _, _ => eqT_rf _
  | t :: T, h, e => by
    obtain ⟨ht, hT⟩ := okT_c.mp h
    have e : szG n t + szT n T = 0 := e
    rw [sz_z h2 h5 ht (by omega)]
    exact eqT_tr (eqT_id (X := []) h2 h5 okT_n hT) (z_szT h2 h5 T hT (by omega))
theorem szT_eq (h2 : 2 ≤ n) (h5 : n ≤ 5) : ∀ (F : List Nat) {T : List Nat}, okT n F → okT n T → eqT n T F → szT n T = szT n F
  | [], T, _, hT, h => by
    have := eq_nil h2 h5 T hT (fun v hv => (eqT_1 h hv).1)
    exact szT_z h2 h5 T this
  | f :: F, T, hF, hT, h => by
    obtain ⟨k1, k2⟩ := hd_1 h2 h5 hF h
    obtain ⟨hf, hF'⟩ := okT_c.mp hF
    obtain ⟨-, a2, -⟩ := r1_ok h2 h5 T hf hT
    have e := szT_r1 h2 h5 T hf hT
    rw [k1, sz_0 h2 h5, szT_eq h2 h5 F hF' a2 k2] at e
    exact e
/-- left divisors -/
def dvT (n : Nat) (A B : List Nat) : Prop := ∃ C, okT n C ∧ eqT n B (A ++ C)
theorem dvT_rf (A : List Nat) : dvT n A A := ⟨[], okT_n, by rw [List.append_nil]; exact eqT_rf _⟩
theorem dvT_tr (h2 : 2 ≤ n) (h5 : n ≤ 5) {A B E : List Nat} (hA : okT n A) (hB : okT n B) (h : dvT n A B) (h' : dvT n B E) : dvT n A E := by
  obtain ⟨C, c1, c2⟩ := h
  obtain ⟨C', d1, d2⟩ := h'
  refine ⟨C ++ C', okT_a.mpr ⟨c1, d1⟩, eqT_tr d2 ?_⟩
  rw [← List.append_assoc]
  exact eqT_ap h2 h5 C' d1 hB (okT_a.mpr ⟨hA, c1⟩) c2
theorem dvT_eq {A B B' : List Nat} (h : dvT n A B) (e : eqT n B' B) : dvT n A B' := by
  obtain ⟨C, c1, c2⟩ := h
  exact ⟨C, c1, eqT_tr e c2⟩
theorem dvT_el (h2 : 2 ≤ n) (h5 : n ≤ 5) {A A' B : List Nat} (hA : okT n A) (hA' : okT n A') (h : dvT n A B) (e : eqT n A' A) : dvT n A' B := by
  obtain ⟨C, c1, c2⟩ := h
  exact ⟨C, c1, eqT_tr c2 (eqT_sy (eqT_ap h2 h5 C c1 hA' hA e))⟩
/-- a simple one divides where nothing is left of it -/
theorem dv_r1 (h2 : 2 ≤ n) (h5 : n ≤ 5) {v : Nat} {T : List Nat} (hv : v < gNN n) (hT : okT n T) : dvT n [v] T ↔ (r1G n v T).1 = 0 := by
  constructor
  · rintro ⟨C, c1, c2⟩
    exact (hd_1 h2 h5 (okT_c.mpr ⟨hv, c1⟩) c2).1
  · intro e
    have k := r1_eq h2 h5 T hv hT
    rw [e] at k
    obtain ⟨-, a2, -⟩ := r1_ok h2 h5 T hv hT
    have k2 : eqT n (T ++ [0]) T := by
      have := eqT_id (X := T) (Y := []) h2 h5 hT okT_n
      rw [List.append_nil] at this
      exact this
    exact ⟨_, a2, eqT_sy (eqT_tr k k2)⟩
/-- least common multiples -/
theorem lcm_ex (h2 : 2 ≤ n) (h5 : n ≤ 5) : ∀ (V T : List Nat), okT n V → okT n T → ∃ U, okT n U ∧ dvT n V U ∧ dvT n T U ∧ ∀ A, okT n A → dvT n V A → dvT n T A → dvT n U A
  | [], T, _, hT => ⟨T, hT, ⟨T, hT, eqT_rf _⟩, dvT_rf T, fun A _ _ h => h⟩
  | v :: V, T, hV, hT => by
    obtain ⟨hv, hV⟩ := okT_c.mp hV
    obtain ⟨a1, a2, -⟩ := r1_ok h2 h5 T hv hT
    have ke := r1_eq h2 h5 T hv hT
    obtain ⟨U, u1, ⟨C, c1, c2⟩, u3, u4⟩ := lcm_ex h2 h5 V (r1G n v T).2 hV a2
    have hv1 : okT n [v] := okT_c.mpr ⟨hv, okT_n⟩
    have ha1 : okT n [(r1G n v T).1] := okT_c.mpr ⟨a1, okT_n⟩
    refine ⟨v :: U, okT_c.mpr ⟨hv, u1⟩, ⟨C, c1, eqT_pr (P := [v]) h2 h5 hv1 c2⟩, ?_, fun A hA ⟨C1, p1, p2⟩ ⟨C2, q1, q2⟩ => ?_⟩
    · obtain ⟨B, b1, b2⟩ := u3
      refine ⟨[(r1G n v T).1] ++ B, okT_a.mpr ⟨ha1, b1⟩, eqT_tr (eqT_pr (P := [v]) h2 h5 hv1 b2) ?_⟩
      have k := eqT_ap h2 h5 B b1 (okT_c.mpr ⟨hv, a2⟩) (okT_a.mpr ⟨hT, ha1⟩) ke
      rw [List.append_assoc T] at k
      exact k
    · have p2 : eqT n A (v :: (V ++ C1)) := p2
      obtain ⟨k1, -⟩ := hd_1 h2 h5 (okT_c.mpr ⟨hv, okT_a.mpr ⟨hV, p1⟩⟩) p2
      have k1' : (r1G n v (T ++ C2)).1 = 0 := by
        rw [← (eqT_1 q2 hv).1]
        exact k1
      rw [r1_app] at k1'
      obtain ⟨C3, w1, w2⟩ := (dv_r1 h2 h5 a1 q1).mpr k1'
      have e1 : eqT n A (v :: ((r1G n v T).2 ++ C3)) := by
        refine eqT_tr q2 (eqT_tr (eqT_pr h2 h5 hT w2) ?_)
        rw [← List.append_assoc]
        exact eqT_sy (eqT_ap h2 h5 C3 w1 (okT_c.mpr ⟨hv, a2⟩) (okT_a.mpr ⟨hT, ha1⟩) ke)
      have e2 : eqT n (V ++ C1) ((r1G n v T).2 ++ C3) := eqT_c1 h2 h5 hv (okT_a.mpr ⟨hV, p1⟩) (okT_a.mpr ⟨a2, w1⟩) (eqT_tr (eqT_sy p2) e1)
      obtain ⟨C4, x1, x2⟩ := u4 (V ++ C1) (okT_a.mpr ⟨hV, p1⟩) ⟨C1, p1, eqT_rf _⟩ ⟨C3, w1, e2⟩
      exact ⟨C4, x1, eqT_tr p2 (eqT_pr (P := [v]) h2 h5 hv1 x2)⟩
theorem szT_dv (h2 : 2 ≤ n) (h5 : n ≤ 5) {A B : List Nat} (hA : okT n A) (hB : okT n B) (h : dvT n A B) : szT n A ≤ szT n B ∧ (szT n B ≤ szT n A → eqT n B A) := by
  obtain ⟨C, c1, c2⟩ := h
  have e := szT_eq h2 h5 (A ++ C) (okT_a.mpr ⟨hA, c1⟩) hB c2
  rw [szT_a] at e
  refine ⟨by omega, fun h9 => ?_⟩
  have := eqT_pr h2 h5 hA (z_szT h2 h5 C c1 (by omega))
  rw [List.append_nil] at this
  exact eqT_tr c2 this
/-- greatest common divisors -/
theorem gcd_ex (h2 : 2 ≤ n) (h5 : n ≤ 5) {A B : List Nat} (hA : okT n A) (hB : okT n B) : ∃ C, okT n C ∧ dvT n C A ∧ dvT n C B ∧ ∀ E, okT n E → dvT n E A → dvT n E B → dvT n E C := by
  have key : ∀ (d : Nat) (C : List Nat), okT n C → dvT n C A → dvT n C B → szT n A ≤ szT n C + d → ∃ C, okT n C ∧ dvT n C A ∧ dvT n C B ∧ ∀ E, okT n E → dvT n E A → dvT n E B → dvT n E C := by
    intro d
    induction d with
    | zero =>
      intro C c1 c2 c3 hd
      refine ⟨C, c1, c2, c3, fun E e1 e2 _ => dvT_eq e2 ?_⟩
      exact eqT_sy ((szT_dv h2 h5 c1 hA c2).2 (by omega))
    | succ d ih =>
      intro C c1 c2 c3 hd
      by_cases g : ∀ E, okT n E → dvT n E A → dvT n E B → dvT n E C
      · exact ⟨C, c1, c2, c3, g⟩
      · obtain ⟨E, hE⟩ : ∃ E, ¬ (okT n E → dvT n E A → dvT n E B → dvT n E C) := Classical.byContradiction (fun h9 => g (fun E => Classical.byContradiction (fun h8 => h9 ⟨E, h8⟩)))
        have e1 : okT n E := Classical.byContradiction (fun h9 => hE (fun h8 => absurd h8 h9))
        have e2 : dvT n E A := Classical.byContradiction (fun h9 => hE (fun _ h8 => absurd h8 h9))
        have e3 : dvT n E B := Classical.byContradiction (fun h9 => hE (fun _ _ h8 => absurd h8 h9))
        have e4 : ¬ dvT n E C := fun h9 => hE (fun _ _ _ => h9)
        obtain ⟨U, u1, u2, u3, u4⟩ := lcm_ex h2 h5 C E c1 e1
        refine ih U u1 (u4 A hA c2 e2) (u4 B hB c3 e3) ?_
        obtain ⟨s1, s2⟩ := szT_dv h2 h5 c1 u1 u2
        by_cases q : szT n U ≤ szT n C
        · exact absurd (dvT_eq u3 (eqT_sy (s2 q))) e4
        · omega
  exact key (szT n A) [] okT_n ⟨A, hA, eqT_rf _⟩ ⟨B, hB, eqT_rf _⟩ (by omega)
def gTA (n a : Nat) : Bool := decide (ddG n (ddG n a (gNN n - 1)) (gNN n - 1) = ovG n a) && decide (muG n (ahG n a) a = gNN n - 1 + 1)
theorem ta_2 : ∀ k : Fin 2, gTA 2 k.val = true := by decide +kernel
theorem ta_3 : ∀ k : Fin 6, gTA 3 k.val = true := by decide +kernel
theorem ta_4 : ∀ k : Fin 24, gTA 4 k.val = true := by decide +kernel
theorem ta_5 : ∀ k : Fin 120, gTA 5 k.val = true := by decide +kernel
theorem ta_n (h2 : 2 ≤ n) (h5 : n ≤ 5) {a : Nat} (ha : a < gNN n) : ddG n (ddG n a (gNN n - 1)) (gNN n - 1) = ovG n a ∧ muG n (ahG n a) a = gNN n - 1 + 1 := by
  have k : gTA n a = true := by
    have : n = 2 ∨ n = 3 ∨ n = 4 ∨ n = 5 := by omega
    rcases this with rfl | rfl | rfl | rfl
    · exact ta_2 ⟨a, ha⟩
    · exact ta_3 ⟨a, ha⟩
    · exact ta_4 ⟨a, ha⟩
    · exact ta_5 ⟨a, ha⟩
  unfold gTA at k
  rw [Bool.and_eq_true] at k
  exact ⟨of_decide_eq_true k.1, of_decide_eq_true k.2⟩
/-- a delta goes through -/
theorem D_1 (h2 : 2 ≤ n) (h5 : n ≤ 5) {X Y : List Nat} {a : Nat} (hX : okT n X) (hY : okT n Y) (ha : a < gNN n) : eqT n (X ++ a :: (gNN n - 1) :: Y) (X ++ (gNN n - 1) :: ovG n a :: Y) := by
  have hx := dd_lt h2 h5 ha (dl_lt (n := n))
  have e1 := dd_mu h2 h5 ha dl_lt (d_pk h2 h5 ha).2.2.2.2
  have e2 := dd_mu h2 h5 hx dl_lt (d_pk h2 h5 hx).2.2.2.2
  rw [(ta_n h2 h5 ha).1] at e2
  exact eqT_swp h2 h5 hX hY ha hx (ov_lt h2 h5 ha) e1 e2
theorem D_thr (h2 : 2 ≤ n) (h5 : n ≤ 5) : ∀ (T : List Nat), okT n T → eqT n (T ++ [gNN n - 1]) ((gNN n - 1) :: T.map (ovG n))
  | [], _ => eqT_rf _
  | t :: T, h => by
    obtain ⟨ht, hT⟩ := okT_c.mp h
    have k1 := eqT_pr (P := [t]) h2 h5 (okT_c.mpr ⟨ht, okT_n⟩) (D_thr h2 h5 T hT)
    exact eqT_tr k1 (D_1 (X := []) h2 h5 okT_n (okT_ov h2 h5 hT) ht)
end XG1
end
section
/-! 99zzzzzzzzzzzzzzzh.xga2 -/
/-! braids: the group -/
def ovp (n : Nat) (k : Int) (T : List Nat) : List Nat := if k % 2 = 0 then T else T.map (ovG n)
def rq (n : Nat) (a b : Int × List Nat) : Prop := ∃ i j : Nat, a.1 - (i : Int) = b.1 - (j : Int) ∧ eqT n (List.replicate i (gNN n - 1) ++ a.2) (List.replicate j (gNN n - 1) ++ b.2)
def mR (n : Nat) (a b : Int × List Nat) : Int × List Nat := (a.1 + b.1, ovp n b.1 a.2 ++ b.2)
section XG2
variable {n : Nat}
theorem ov_ov (h2 : 2 ≤ n) (h5 : n ≤ 5) {T : List Nat} (h : okT n T) : (T.map (ovG n)).map (ovG n) = T := by
  rw [List.map_map]
  conv => rhs; rw [← List.map_id T]
  exact List.map_congr_left (fun v hv => (d_pk h2 h5 (h v hv)).2.2.1)
theorem ovp_ok (h2 : 2 ≤ n) (h5 : n ≤ 5) {k : Int} {T : List Nat} (h : okT n T) : okT n (ovp n k T) := by
  unfold ovp
  split
  · exact h
  · exact okT_ov h2 h5 h
theorem ovp_ov (h2 : 2 ≤ n) (h5 : n ≤ 5) {k l : Int} {T : List Nat} (h : okT n T) : ovp n k (ovp n l T) = ovp n (k + l) T := by
  unfold ovp
  by_cases a : k % 2 = 0
  · by_cases b : l % 2 = 0
    · rw [if_pos a, if_pos b, if_pos (by omega)]
    · rw [if_pos a, if_neg b, if_neg (by omega)]
  · by_cases b : l % 2 = 0
    · rw [if_neg a, if_pos b, if_neg (by omega)]
    · rw [if_neg a, if_neg b, if_pos (by omega), ov_ov h2 h5 h]
theorem ovp_app {k : Int} {S T : List Nat} : ovp n k (S ++ T) = ovp n k S ++ ovp n k T := by
  unfold ovp
  split
  · rfl
  · exact List.map_append
theorem ovp_D (h2 : 2 ≤ n) (h5 : n ≤ 5) {k : Int} {i : Nat} : ovp n k (List.replicate i (gNN n - 1)) = List.replicate i (gNN n - 1) := by
  unfold ovp
  split
  · rfl
  · rw [List.map_replicate, ov_D h2 h5]
theorem ovp_0 {T : List Nat} : ovp n 0 T = T := if_pos rfl
theorem ovp_nil {k : Int} : ovp n k [] = [] := by
  unfold ovp
  split <;> rfl
theorem eqT_ovp (h2 : 2 ≤ n) (h5 : n ≤ 5) {k : Int} {T F : List Nat} (hT : okT n T) (hF : okT n F) (h : eqT n T F) : eqT n (ovp n k T) (ovp n k F) := by
  unfold ovp
  split
  · exact h
  · exact eqT_ov h2 h5 hT hF h
theorem D_pw (h2 : 2 ≤ n) (h5 : n ≤ 5) : ∀ (i : Nat) {T : List Nat}, okT n T → eqT n (T ++ List.replicate i (gNN n - 1)) (List.replicate i (gNN n - 1) ++ ovp n i T)
  | 0, T, h => by
    show eqT n (T ++ []) ([] ++ ovp n (0 : Int) T)
    rw [List.append_nil, ovp_0]
    exact eqT_rf _
  | i + 1, T, h => by
    have hD : okT n [gNN n - 1] := okT_c.mpr ⟨dl_lt, okT_n⟩
    have ih := D_pw h2 h5 i (okT_ov h2 h5 h)
    have e : ovp n (i : Int) (T.map (ovG n)) = ovp n ((i + 1 : Nat) : Int) T := by
      have : T.map (ovG n) = ovp n 1 T := (if_neg (by decide)).symm
      rw [this, ovp_ov h2 h5 h]
      rfl
    rw [e] at ih
    have k1 := eqT_ap h2 h5 (List.replicate i (gNN n - 1)) rp_ok (okT_a.mpr ⟨h, hD⟩) (okT_c.mpr ⟨dl_lt, okT_ov h2 h5 h⟩) (D_thr h2 h5 T h)
    rw [List.append_assoc] at k1
    exact eqT_tr k1 (eqT_pr (P := [gNN n - 1]) h2 h5 hD ih)
theorem rp_add (i j : Nat) : List.replicate (i + j) (gNN n - 1) = List.replicate i (gNN n - 1) ++ List.replicate j (gNN n - 1) := (List.replicate_append_replicate).symm
theorem rq_rf (a : Int × List Nat) : rq n a a := ⟨0, 0, rfl, eqT_rf _⟩
theorem rq_sy {a b : Int × List Nat} (h : rq n a b) : rq n b a := by
  obtain ⟨i, j, e, h⟩ := h
  exact ⟨j, i, e.symm, eqT_sy h⟩
theorem rq_tr (h2 : 2 ≤ n) (h5 : n ≤ 5) {a b c : Int × List Nat} (h : rq n a b) (h' : rq n b c) : rq n a c := by
  obtain ⟨i, j, e, h⟩ := h
  obtain ⟨i', j', e', h'⟩ := h'
  refine ⟨i' + i, j + j', by omega, ?_⟩
  have k1 := eqT_pr (P := List.replicate i' (gNN n - 1)) h2 h5 rp_ok h
  have k2 := eqT_pr (P := List.replicate j (gNN n - 1)) h2 h5 rp_ok h'
  rw [← List.append_assoc, ← List.append_assoc, ← rp_add, ← rp_add] at k1 k2
  rw [Nat.add_comm i' j] at k1
  exact eqT_tr k1 k2
theorem mR_ok (h2 : 2 ≤ n) (h5 : n ≤ 5) {a b : Int × List Nat} (ha : okT n a.2) (hb : okT n b.2) : okT n (mR n a b).2 := okT_a.mpr ⟨ovp_ok h2 h5 ha, hb⟩
theorem mR_l (h2 : 2 ≤ n) (h5 : n ≤ 5) {a a' b : Int × List Nat} (ha : okT n a.2) (ha' : okT n a'.2) (hb : okT n b.2) (h : rq n a a') : rq n (mR n a b) (mR n a' b) := by
  obtain ⟨i, j, e, h⟩ := h
  refine ⟨i, j, ?_, ?_⟩
  · show a.1 + b.1 - (i : Int) = a'.1 + b.1 - (j : Int)
    omega
  · have k := eqT_ovp (k := b.1) h2 h5 (okT_a.mpr ⟨rp_ok, ha⟩) (okT_a.mpr ⟨rp_ok, ha'⟩) h
    rw [ovp_app, ovp_app, ovp_D h2 h5, ovp_D h2 h5] at k
    have k2 := eqT_ap h2 h5 b.2 hb (okT_a.mpr ⟨rp_ok, ovp_ok h2 h5 ha⟩) (okT_a.mpr ⟨rp_ok, ovp_ok h2 h5 ha'⟩) k
    rw [List.append_assoc, List.append_assoc] at k2
    exact k2
theorem mR_r (h2 : 2 ≤ n) (h5 : n ≤ 5) {a b b' : Int × List Nat} (ha : okT n a.2) (hb : okT n b.2) (hb' : okT n b'.2) (h : rq n b b') : rq n (mR n a b) (mR n a b') := by
  obtain ⟨i, j, e, h⟩ := h
  refine ⟨i, j, ?_, ?_⟩
  · show a.1 + b.1 - (i : Int) = a.1 + b'.1 - (j : Int)
    omega
  · have mv : ∀ (b : Int × List Nat) (i : Nat), okT n b.2 → eqT n (List.replicate i (gNN n - 1) ++ (mR n a b).2) (ovp n (b.1 - i) a.2 ++ (List.replicate i (gNN n - 1) ++ b.2)) := fun b i hb => by
      have ho := ovp_ok (k := b.1 - i) h2 h5 ha
      have k := D_pw h2 h5 i ho
      rw [ovp_ov h2 h5 ha, show (i : Int) + (b.1 - i) = b.1 by omega] at k
      have k2 := eqT_ap h2 h5 b.2 hb (okT_a.mpr ⟨ho, rp_ok⟩) (okT_a.mpr ⟨rp_ok, ovp_ok h2 h5 ha⟩) k
      rw [List.append_assoc, List.append_assoc] at k2
      exact eqT_sy k2
    refine eqT_tr (mv b i hb) (eqT_tr ?_ (eqT_sy (mv b' j hb')))
    rw [e]
    exact eqT_pr h2 h5 (ovp_ok h2 h5 ha) h
theorem mR_as (h2 : 2 ≤ n) (h5 : n ≤ 5) {a b c : Int × List Nat} (ha : okT n a.2) : mR n (mR n a b) c = mR n a (mR n b c) := by
  unfold mR
  rw [ovp_app, ovp_ov h2 h5 ha, List.append_assoc, Int.add_assoc, Int.add_comm c.1 b.1]
end XG2
abbrev N5 : Type := {n : Nat // 2 ≤ n ∧ n ≤ 5}
abbrev Rw5 (m : N5) : Type := {e : Int × List Nat // okT m.1 e.2}
def Gn (m : N5) : Type := Quot (fun a b : Rw5 m => rq m.1 a.1 b.1)
def gq (m : N5) (a : Rw5 m) : Gn m := Quot.mk _ a
theorem gq_so {m : N5} {a b : Rw5 m} (h : rq m.1 a.1 b.1) : gq m a = gq m b := Quot.sound h
theorem gq_ex {m : N5} {a b : Rw5 m} (h : gq m a = gq m b) : rq m.1 a.1 b.1 := by
  let p : Gn m → Prop := Quot.lift (fun b : Rw5 m => rq m.1 a.1 b.1) (fun b c h => propext ⟨fun h1 => rq_tr m.2.1 m.2.2 h1 h, fun h1 => rq_tr m.2.1 m.2.2 h1 (rq_sy h)⟩)
  have h1 : p (gq m a) := rq_rf _
  rw [h] at h1
  exact h1
def gmR {m : N5} (a b : Rw5 m) : Rw5 m := ⟨mR m.1 a.1 b.1, mR_ok m.2.1 m.2.2 a.2 b.2⟩
def gm {m : N5} (a b : Gn m) : Gn m := Quot.lift (fun x : Rw5 m => Quot.lift (fun y : Rw5 m => gq m (gmR x y)) (fun y y' h => gq_so (mR_r m.2.1 m.2.2 x.2 y.2 y'.2 h)) b) (fun x x' h => Quot.ind (β := fun b => Quot.lift (fun y : Rw5 m => gq m (gmR x y)) (fun y y' h => gq_so (mR_r m.2.1 m.2.2 x.2 y.2 y'.2 h)) b = Quot.lift (fun y : Rw5 m => gq m (gmR x' y)) (fun y y' h => gq_so (mR_r m.2.1 m.2.2 x'.2 y.2 y'.2 h)) b) (fun y => gq_so (mR_l m.2.1 m.2.2 x.2 x'.2 y.2 h)) b) a
theorem gm_q {m : N5} (a b : Rw5 m) : gm (gq m a) (gq m b) = gq m (gmR a b) := rfl
theorem g_rep {m : N5} (g : Gn m) : ∃ a, g = gq m a := Quot.ind (β := fun g => ∃ a, g = gq m a) (fun a => ⟨a, rfl⟩) g
/-- a power of delta; a list -/
def gD (m : N5) (k : Int) : Gn m := gq m ⟨(k, []), okT_n⟩
def gL (m : N5) (T : List Nat) (h : okT m.1 T) : Gn m := gq m ⟨(0, T), h⟩
def g1 (m : N5) : Gn m := gD m 0
section XG3
variable {m : N5}
theorem gm_as (a b c : Gn m) : gm (gm a b) c = gm a (gm b c) := by
  obtain ⟨a, rfl⟩ := g_rep a
  obtain ⟨b, rfl⟩ := g_rep b
  obtain ⟨c, rfl⟩ := g_rep c
  rw [gm_q, gm_q, gm_q, gm_q]
  exact congrArg (gq m) (Subtype.ext (mR_as m.2.1 m.2.2 a.2))
theorem g1_l (a : Gn m) : gm (g1 m) a = a := by
  obtain ⟨a, rfl⟩ := g_rep a
  show gq m (gmR _ a) = _
  refine congrArg (gq m) (Subtype.ext ?_)
  show ((0 : Int) + a.1.1, ovp m.1 a.1.1 [] ++ a.1.2) = a.1
  rw [ovp_nil, Int.zero_add]
  rfl
theorem g1_r (a : Gn m) : gm a (g1 m) = a := by
  obtain ⟨a, rfl⟩ := g_rep a
  show gq m (gmR a _) = _
  refine congrArg (gq m) (Subtype.ext ?_)
  show (a.1.1 + (0 : Int), ovp m.1 0 a.1.2 ++ []) = a.1
  rw [ovp_0, Int.add_zero, List.append_nil]
theorem gD_m (k l : Int) : gm (gD m k) (gD m l) = gD m (k + l) := by
  show gq m (gmR _ _) = _
  refine congrArg (gq m) (Subtype.ext ?_)
  show (k + l, ovp m.1 l [] ++ []) = (k + l, [])
  rw [ovp_nil]
  rfl
theorem gL_m {S T : List Nat} (hS : okT m.1 S) (hT : okT m.1 T) : gm (gL m S hS) (gL m T hT) = gL m (S ++ T) (okT_a.mpr ⟨hS, hT⟩) := by
  show gq m (gmR _ _) = _
  refine congrArg (gq m) (Subtype.ext ?_)
  show ((0 : Int) + 0, ovp m.1 0 S ++ T) = (0, S ++ T)
  rw [ovp_0]
  rfl
theorem g_eq (a : Rw5 m) : gq m a = gm (gD m a.1.1) (gL m a.1.2 a.2) := by
  show _ = gq m (gmR _ _)
  refine congrArg (gq m) (Subtype.ext ?_)
  show a.1 = (a.1.1 + 0, ovp m.1 0 [] ++ a.1.2)
  rw [ovp_0, Int.add_zero]
  rfl
theorem gL_D (k : Int) {T : List Nat} (hT : okT m.1 T) : gm (gL m T hT) (gD m k) = gm (gD m k) (gL m (ovp m.1 k T) (ovp_ok m.2.1 m.2.2 hT)) := by
  show gq m (gmR _ _) = gq m (gmR _ _)
  refine congrArg (gq m) (Subtype.ext ?_)
  show ((0 : Int) + k, ovp m.1 k T ++ []) = (k + 0, ovp m.1 0 [] ++ ovp m.1 k T)
  rw [List.append_nil, ovp_0, Int.zero_add, Int.add_zero]
  rfl
theorem gL_eq {S T : List Nat} {hS : okT m.1 S} {hT : okT m.1 T} (h : eqT m.1 S T) : gL m S hS = gL m T hT := gq_so ⟨0, 0, rfl, h⟩
theorem gL_ex {S T : List Nat} {hS : okT m.1 S} {hT : okT m.1 T} (h : gL m S hS = gL m T hT) : eqT m.1 S T := by
  obtain ⟨i, j, e, k⟩ := gq_ex h
  have e : (0 : Int) - i = 0 - j := e
  have e9 : i = j := by omega
  subst e9
  exact eqT_cl m.2.1 m.2.2 _ rp_ok hS hT k
theorem gL_nil {h : okT m.1 []} : gL m [] h = g1 m := rfl
theorem gL_rp (j : Nat) {h : okT m.1 (List.replicate j (gNN m.1 - 1))} : gL m (List.replicate j (gNN m.1 - 1)) h = gD m (j : Int) := by
  refine gq_so ⟨0, j, ?_, ?_⟩
  · show (0 : Int) - (0 : Nat) = (j : Int) - (j : Int)
    omega
  · show eqT m.1 ([] ++ List.replicate j (gNN m.1 - 1)) (List.replicate j (gNN m.1 - 1) ++ [])
    rw [List.append_nil, List.nil_append]
    exact eqT_rf _
/-- inverses -/
def inv9 (a : Gn m) : Prop := ∃ b, gm b a = g1 m ∧ gm a b = g1 m
theorem inv_m {a b : Gn m} (ha : inv9 a) (hb : inv9 b) : inv9 (gm a b) := by
  obtain ⟨x, x1, x2⟩ := ha
  obtain ⟨y, y1, y2⟩ := hb
  refine ⟨gm y x, ?_, ?_⟩
  · rw [gm_as, ← gm_as x a b, x1, g1_l, y1]
  · rw [gm_as, ← gm_as b y x, y2, g1_l, x2]
theorem inv_D (k : Int) : inv9 (gD m k) := ⟨gD m (-k), by rw [gD_m, Int.add_left_neg]; rfl, by rw [gD_m, Int.add_right_neg]; rfl⟩
theorem D_t {a b : Nat} (ha : a < gNN m.1) (hb : b < gNN m.1) (e : muG m.1 a b = gNN m.1 - 1 + 1) {h : okT m.1 [a, b]} : gL m [a, b] h = gD m 1 := by
  have h2 := m.2.1
  have h5 := m.2.2
  have k := eqT_swp (X := []) (Y := []) h2 h5 okT_n okT_n ha hb nn_0 e (mu_r0 h2 h5)
  have k2 := eqT_id (X := [gNN m.1 - 1]) (Y := []) h2 h5 (okT_c.mpr ⟨dl_lt, okT_n⟩) okT_n
  have k3 : eqT m.1 [a, b] (List.replicate 1 (gNN m.1 - 1)) := eqT_tr k k2
  rw [gL_eq (hT := rp_ok) k3]
  exact gL_rp 1
theorem inv_1 {t : Nat} (ht : t < gNN m.1) {h : okT m.1 [t]} : inv9 (gL m [t] h) := by
  have h2 := m.2.1
  have h5 := m.2.2
  have a1 := (f_one h2 h5 ht).2.1
  have e1 := (ta_n h2 h5 ht).2
  have hA : okT m.1 [ahG m.1 t] := okT_c.mpr ⟨a1, okT_n⟩
  have x1 := dd_lt h2 h5 ht (dl_lt (n := m.1))
  have e2 := dd_mu h2 h5 ht dl_lt (d_pk h2 h5 ht).2.2.2.2
  have hX : okT m.1 [ddG m.1 t (gNN m.1 - 1)] := okT_c.mpr ⟨x1, okT_n⟩
  have k1 : gm (gL m [ahG m.1 t] hA) (gL m [t] h) = gD m 1 := by
    rw [gL_m]
    exact D_t a1 ht e1
  have k2 : gm (gL m [t] h) (gL m [ddG m.1 t (gNN m.1 - 1)] hX) = gD m 1 := by
    rw [gL_m]
    exact D_t ht x1 e2
  have l : gm (gm (gD m (-1)) (gL m [ahG m.1 t] hA)) (gL m [t] h) = g1 m := by
    rw [gm_as, k1, gD_m]
    rfl
  have r : gm (gL m [t] h) (gm (gL m [ddG m.1 t (gNN m.1 - 1)] hX) (gD m (-1))) = g1 m := by
    rw [← gm_as, k2, gD_m]
    rfl
  have e : gm (gD m (-1)) (gL m [ahG m.1 t] hA) = gm (gL m [ddG m.1 t (gNN m.1 - 1)] hX) (gD m (-1)) := by
    have := gm_as (gm (gD m (-1)) (gL m [ahG m.1 t] hA)) (gL m [t] h) (gm (gL m [ddG m.1 t (gNN m.1 - 1)] hX) (gD m (-1)))
    rw [l, r, g1_l, g1_r] at this
    exact this.symm
  exact ⟨_, l, by rw [e]; exact r⟩
theorem inv_L : ∀ (T : List Nat) (h : okT m.1 T), inv9 (gL m T h)
  | [], _ => inv_D 0
  | t :: T, h => by
    obtain ⟨ht, hT⟩ := okT_c.mp h
    have := inv_m (inv_1 ht (h := okT_c.mpr ⟨ht, okT_n⟩)) (inv_L T hT)
    rw [gL_m] at this
    exact this
theorem inv_all (a : Gn m) : inv9 a := by
  obtain ⟨a, rfl⟩ := g_rep a
  rw [g_eq]
  exact inv_m (inv_D _) (inv_L _ _)
noncomputable def gi (a : Gn m) : Gn m := Classical.choose (inv_all a)
theorem gi_l (a : Gn m) : gm (gi a) a = g1 m := (Classical.choose_spec (inv_all a)).1
theorem gi_r (a : Gn m) : gm a (gi a) = g1 m := (Classical.choose_spec (inv_all a)).2
theorem gi_cl (a b : Gn m) : gm (gi a) (gm a b) = b := by rw [← gm_as, gi_l, g1_l]
theorem gi_cr (a b : Gn m) : gm a (gm (gi a) b) = b := by rw [← gm_as, gi_r, g1_l]
theorem gi_un {a b : Gn m} (h : gm a b = g1 m) : b = gi a := by
  have := gi_cl a b
  rw [h, g1_r] at this
  exact this.symm
theorem gi_m (a b : Gn m) : gi (gm a b) = gm (gi b) (gi a) := (gi_un (by rw [gm_as, gi_cr, gi_r])).symm
theorem gi_i (a : Gn m) : gi (gi a) = a := (gi_un (gi_l a)).symm
theorem gi_1 : gi (g1 m) = g1 m := (gi_un (g1_l _)).symm
theorem gi_D (k : Int) : gi (gD m k) = gD m (-k) := (gi_un (by rw [gD_m, Int.add_right_neg]; rfl)).symm
end XG3
end
section
/-! 99zzzzzzzzzzzzzzzi.xga3 -/
/-! braids: order, length, meets -/
section XG4
variable {m : N5}
def gpo (a : Gn m) : Prop := ∃ T h, a = gL m T h
def gle (a b : Gn m) : Prop := gpo (gm (gi a) b)
def isM (a b c : Gn m) : Prop := gle c a ∧ gle c b ∧ ∀ z, gle z a → gle z b → gle z c
def szD (m : N5) : Nat := szG m.1 (gNN m.1 - 1)
theorem szT_rp (n : Nat) : ∀ i, szT n (List.replicate i (gNN n - 1)) = i * szG n (gNN n - 1)
  | 0 => (Nat.zero_mul _).symm
  | i + 1 => by
    show szG n (gNN n - 1) + szT n (List.replicate i (gNN n - 1)) = _
    rw [szT_rp n i, Nat.succ_mul, Nat.add_comm]
theorem szT_ov {n : Nat} (h2 : 2 ≤ n) (h5 : n ≤ 5) : ∀ (T : List Nat), okT n T → szT n (T.map (ovG n)) = szT n T
  | [], _ => rfl
  | t :: T, h => by
    obtain ⟨ht, hT⟩ := okT_c.mp h
    show szG n (ovG n t) + szT n (T.map (ovG n)) = szG n t + szT n T
    rw [(f_one h2 h5 ht).2.2.2.1, szT_ov h2 h5 T hT]
def lnR (m : N5) (a : Rw5 m) : Int := a.1.1 * (szD m : Int) + (szT m.1 a.1.2 : Int)
theorem lnR_so {a b : Rw5 m} (h : rq m.1 a.1 b.1) : lnR m a = lnR m b := by
  obtain ⟨i, j, e, h⟩ := h
  have k := szT_eq m.2.1 m.2.2 _ (okT_a.mpr ⟨rp_ok, b.2⟩) (okT_a.mpr ⟨rp_ok, a.2⟩) h
  rw [szT_a, szT_a, szT_rp, szT_rp] at k
  have k' : (i : Int) * (szD m : Int) + (szT m.1 a.1.2 : Int) = (j : Int) * (szD m : Int) + (szT m.1 b.1.2 : Int) := by
    have := congrArg (fun x : Nat => (x : Int)) k
    rw [← Int.natCast_mul, ← Int.natCast_mul, ← Int.natCast_add, ← Int.natCast_add]
    exact this
  unfold lnR
  have ea : a.1.1 = b.1.1 + ((i : Int) - j) := by omega
  rw [ea, Int.add_mul, Int.sub_mul]
  omega
def glen (a : Gn m) : Int := Quot.lift (fun x : Rw5 m => lnR m x) (fun _ _ h => lnR_so h) a
theorem glen_q (a : Rw5 m) : glen (gq m a) = lnR m a := rfl
theorem glen_m (a b : Gn m) : glen (gm a b) = glen a + glen b := by
  obtain ⟨a, rfl⟩ := g_rep a
  obtain ⟨b, rfl⟩ := g_rep b
  rw [gm_q, glen_q, glen_q, glen_q]
  show (a.1.1 + b.1.1) * (szD m : Int) + ((szT m.1 (ovp m.1 b.1.1 a.1.2 ++ b.1.2) : Nat) : Int) = (a.1.1 * (szD m : Int) + (szT m.1 a.1.2 : Int)) + (b.1.1 * (szD m : Int) + (szT m.1 b.1.2 : Int))
  have e : szT m.1 (ovp m.1 b.1.1 a.1.2) = szT m.1 a.1.2 := by
    unfold ovp
    split
    · rfl
    · exact szT_ov m.2.1 m.2.2 _ a.2
  rw [szT_a, e, Int.add_mul, Int.natCast_add]
  omega
theorem glen_L {T : List Nat} {h : okT m.1 T} : glen (gL m T h) = (szT m.1 T : Int) := by
  show (0 : Int) * (szD m : Int) + (szT m.1 T : Int) = _
  rw [Int.zero_mul, Int.zero_add]
theorem glen_D {k : Int} : glen (gD m k) = k * (szD m : Int) := by
  show k * (szD m : Int) + ((0 : Nat) : Int) = _
  exact Int.add_zero _
theorem glen_1 : glen (g1 m) = 0 := by
  rw [g1, glen_D, Int.zero_mul]
theorem glen_i (a : Gn m) : glen (gi a) = - glen a := by
  have := glen_m (gi a) a
  rw [gi_l, glen_1] at this
  omega
theorem gp_L {T : List Nat} {h : okT m.1 T} : gpo (gL m T h) := ⟨T, h, rfl⟩
theorem gp_1 : gpo (g1 m) := ⟨[], okT_n, rfl⟩
theorem gp_m {a b : Gn m} (ha : gpo a) (hb : gpo b) : gpo (gm a b) := by
  obtain ⟨S, hS, rfl⟩ := ha
  obtain ⟨T, hT, rfl⟩ := hb
  rw [gL_m]
  exact gp_L
theorem gp_0 {a : Gn m} (h : gpo a) : 0 ≤ glen a := by
  obtain ⟨S, hS, rfl⟩ := h
  rw [glen_L]
  omega
theorem gp_z {a : Gn m} (h : gpo a) (e : glen a = 0) : a = g1 m := by
  obtain ⟨S, hS, rfl⟩ := h
  rw [glen_L] at e
  rw [← gL_nil (h := okT_n)]
  exact gL_eq (z_szT m.2.1 m.2.2 S hS (by omega))
theorem gp_D (j : Nat) : gpo (gD m (j : Int)) := ⟨_, rp_ok, (gL_rp j).symm⟩
theorem gp_cj {a : Gn m} (k : Int) (h : gpo a) : gpo (gm (gi (gD m k)) (gm a (gD m k))) := by
  obtain ⟨S, hS, rfl⟩ := h
  rw [gL_D, gi_cl]
  exact gp_L
theorem gp_ci {a : Gn m} (k : Int) (h : gpo a) : gpo (gm (gD m k) (gm a (gi (gD m k)))) := by
  have := gp_cj (-k) h
  rw [← gi_D, gi_i] at this
  exact this
theorem gle_1 {a : Gn m} : gle (g1 m) a ↔ gpo a := by
  unfold gle
  rw [gi_1, g1_l]
theorem gle_rf (a : Gn m) : gle a a := by
  unfold gle
  rw [gi_l]
  exact gp_1
theorem gle_tr {a b c : Gn m} (h : gle a b) (h' : gle b c) : gle a c := by
  have := gp_m h h'
  rw [gm_as, gi_cr] at this
  exact this
theorem gle_l (c : Gn m) {a b : Gn m} : gle (gm c a) (gm c b) ↔ gle a b := by
  unfold gle
  rw [gi_m, gm_as, gi_cl]
theorem gle_s (c : Gn m) {a b : Gn m} : gle (gm c a) b ↔ gle a (gm (gi c) b) := by
  unfold gle
  rw [gi_m, gm_as]
theorem gle_rD (k : Int) {a b : Gn m} (h : gle a b) : gle (gm a (gD m k)) (gm b (gD m k)) := by
  have := gp_cj k h
  rw [gm_as] at this
  unfold gle
  rw [gi_m, gm_as]
  exact this
theorem gle_ri (k : Int) {a b : Gn m} (h : gle a b) : gle (gm a (gi (gD m k))) (gm b (gi (gD m k))) := by
  rw [gi_D]
  exact gle_rD (-k) h
theorem gle_ln {a b : Gn m} (h : gle a b) : glen a ≤ glen b ∧ (glen b ≤ glen a → a = b) := by
  have h1 := gp_0 h
  rw [glen_m, glen_i] at h1
  refine ⟨by omega, fun h9 => ?_⟩
  have := gp_z h (by rw [glen_m, glen_i]; omega)
  have e := gi_cr a b
  rw [this, g1_r] at e
  exact e
theorem gle_as {a b : Gn m} (h : gle a b) (h' : gle b a) : a = b := (gle_ln h).2 (gle_ln h').1
theorem gle_p {a b : Gn m} (ha : gpo a) : gle b (gm b a) := by
  unfold gle
  rw [gi_cl]
  exact ha
/-- lists divide as they do -/
theorem gle_L {S T : List Nat} {hS : okT m.1 S} {hT : okT m.1 T} : gle (gL m S hS) (gL m T hT) ↔ dvT m.1 S T := by
  constructor
  · rintro ⟨C, hC, e⟩
    have e2 := gi_cr (gL m S hS) (gL m T hT)
    rw [e, gL_m] at e2
    exact ⟨C, hC, eqT_sy (gL_ex e2)⟩
  · rintro ⟨C, hC, e⟩
    refine ⟨C, hC, ?_⟩
    rw [gL_eq (hT := okT_a.mpr ⟨hS, hC⟩) e, ← gL_m hS hC, gi_cl]
theorem g_up (a : Gn m) : ∃ j : Nat, ∀ i : Nat, j ≤ i → gpo (gm (gD m (i : Int)) a) := by
  obtain ⟨a, rfl⟩ := g_rep a
  refine ⟨(-a.1.1).toNat, fun i hi => ?_⟩
  rw [g_eq, ← gm_as, gD_m]
  obtain ⟨j, hj⟩ : ∃ j : Nat, (i : Int) + a.1.1 = (j : Int) := ⟨((i : Int) + a.1.1).toNat, by omega⟩
  rw [hj]
  exact gp_m (gp_D j) gp_L
theorem gmeet (a b : Gn m) : ∃ c, isM a b c := by
  obtain ⟨ja, hja⟩ := g_up a
  obtain ⟨jb, hjb⟩ := g_up b
  obtain ⟨A, hA, eA⟩ := hja (ja + jb) (by omega)
  obtain ⟨B, hB, eB⟩ := hjb (ja + jb) (by omega)
  obtain ⟨C, hC, c1, c2, c3⟩ := gcd_ex m.2.1 m.2.2 hA hB
  refine ⟨gm (gi (gD m ((ja + jb : Nat) : Int))) (gL m C hC), ?_, ?_, fun z h1 h2 => ?_⟩
  · rw [← gle_l (gD m ((ja + jb : Nat) : Int)), gi_cr, eA]
    exact gle_L.mpr c1
  · rw [← gle_l (gD m ((ja + jb : Nat) : Int)), gi_cr, eB]
    exact gle_L.mpr c2
  · obtain ⟨jz, hjz⟩ := g_up z
    obtain ⟨Z, hZ, eZ⟩ := hjz (jz + (ja + jb)) (by omega)
    have eD : gD m ((jz + (ja + jb) : Nat) : Int) = gm (gD m (jz : Int)) (gD m ((ja + jb : Nat) : Int)) := by
      rw [gD_m]
      congr 1
    have hR : okT m.1 (List.replicate jz (gNN m.1 - 1)) := rp_ok
    have mv : ∀ {x : Gn m} {X : List Nat} {hX : okT m.1 X}, gm (gD m ((ja + jb : Nat) : Int)) x = gL m X hX → gle z x → dvT m.1 Z (List.replicate jz (gNN m.1 - 1) ++ X) := by
      intro x X hX e h
      have := (gle_l (gD m ((jz + (ja + jb) : Nat) : Int))).mpr h
      rw [eZ, eD, gm_as, e, ← gL_rp (h := hR) jz, gL_m] at this
      exact gle_L.mp this
    obtain ⟨C', hC', d1, d2, d3⟩ := gcd_ex m.2.1 m.2.2 (okT_a.mpr ⟨hR, hA⟩) (okT_a.mpr ⟨hR, hB⟩)
    have z1 := d3 Z hZ (mv eA h1) (mv eB h2)
    obtain ⟨E, hE, e1⟩ := d3 _ hR ⟨A, hA, eqT_rf _⟩ ⟨B, hB, eqT_rf _⟩
    have cn : ∀ {X : List Nat}, okT m.1 X → dvT m.1 C' (List.replicate jz (gNN m.1 - 1) ++ X) → dvT m.1 E X := by
      rintro X hX ⟨F, hF, e2⟩
      have e3 := eqT_tr e2 (eqT_ap m.2.1 m.2.2 F hF hC' (okT_a.mpr ⟨hR, hE⟩) e1)
      rw [List.append_assoc] at e3
      exact ⟨F, hF, eqT_cl m.2.1 m.2.2 _ hR hX (okT_a.mpr ⟨hE, hF⟩) e3⟩
    obtain ⟨F, hF, e4⟩ := c3 E hE (cn hA d1) (cn hB d2)
    have z2 : dvT m.1 Z (List.replicate jz (gNN m.1 - 1) ++ C) := by
      refine dvT_tr m.2.1 m.2.2 hZ hC' z1 ⟨F, hF, ?_⟩
      have k1 := eqT_pr m.2.1 m.2.2 hR e4
      have k2 := eqT_ap m.2.1 m.2.2 F hF hC' (okT_a.mpr ⟨hR, hE⟩) e1
      rw [List.append_assoc] at k2
      exact eqT_tr k1 (eqT_sy k2)
    rw [← gle_l (gD m ((jz + (ja + jb) : Nat) : Int)), eZ, eD, gm_as, gi_cr, ← gL_rp (h := hR) jz, gL_m]
    exact gle_L.mpr z2
theorem isM_un {a b c c' : Gn m} (h : isM a b c) (h' : isM a b c') : c = c' := gle_as (h'.2.2 c h.1 h.2.1) (h.2.2 c' h'.1 h'.2.1)
/-- what is positive and not 1 begins with a simple one -/
theorem gp_hd {a : Gn m} (h : gpo a) : a = g1 m ∨ ∃ t h1, t ≠ 0 ∧ t < gNN m.1 ∧ gle (gL m [t] h1) a := by
  obtain ⟨T, hT, rfl⟩ := h
  induction T with
  | nil => exact Or.inl rfl
  | cons t T ih =>
    obtain ⟨ht, hT'⟩ := okT_c.mp hT
    by_cases e : t = 0
    · subst e
      have e2 : gL m (0 :: T) hT = gL m T hT' := gL_eq (eqT_id (X := []) m.2.1 m.2.2 okT_n hT')
      rw [e2]
      exact ih hT'
    · exact Or.inr ⟨t, okT_c.mpr ⟨ht, okT_n⟩, e, ht, gle_L.mpr ⟨T, hT', eqT_rf _⟩⟩
theorem gle_tD {t : Nat} (ht : t < gNN m.1) {h : okT m.1 [t]} : gle (gL m [t] h) (gD m 1) := by
  have h2 := m.2.1
  have h5 := m.2.2
  have x1 := dd_lt h2 h5 ht (dl_lt (n := m.1))
  have e2 := dd_mu h2 h5 ht dl_lt (d_pk h2 h5 ht).2.2.2.2
  have hX : okT m.1 [ddG m.1 t (gNN m.1 - 1)] := okT_c.mpr ⟨x1, okT_n⟩
  rw [← D_t ht x1 e2 (h := okT_c.mpr ⟨ht, hX⟩)]
  exact gle_L.mpr ⟨_, hX, eqT_rf _⟩
theorem gp_D1 {a e : Gn m} (h : gpo a) (he : isM a (gD m 1) e) (h0 : glen e = 0) : a = g1 m := by
  rcases gp_hd h with h9 | ⟨t, h1, t0, ht, h9⟩
  · exact h9
  · exfalso
    have k := he.2.2 _ h9 (gle_tD ht)
    have k1 := (gle_ln k).1
    rw [glen_L, h0] at k1
    have k2 : szT m.1 [t] = szG m.1 t + 0 := rfl
    exact t0 (sz_z m.2.1 m.2.2 ht (by omega))
end XG4
end
section
/-! 99zzzzzzzzzzzzzzzj.xga4 -/
/-! braids: cyclings that raise; summit sets hang together -/
section XG5
variable {m : N5}
def rsd (k : Int) (a : Gn m) : Prop := gle (gD m (k + 1)) a
def mnP (k : Int) (a d : Gn m) : Prop := gpo d ∧ rsd k (gm d (gm a (gi d))) ∧ ∀ f, gpo f → rsd k (gm f (gm a (gi f))) → glen d ≤ glen f
theorem D_k1 (k : Int) : gD m (k + 1) = gm (gD m k) (gD m 1) := (gD_m k 1).symm
theorem D_cm (k l : Int) : gm (gD m k) (gD m l) = gm (gD m l) (gD m k) := by
  rw [gD_m, gD_m, Int.add_comm]
theorem D_c1 (k l : Int) : gm (gi (gD m k)) (gm (gD m l) (gD m k)) = gD m l := by
  rw [D_cm l k, gi_cl]
theorem rsd_cj {k j : Int} {a : Gn m} (h : rsd k a) : rsd k (gm (gi (gD m j)) (gm a (gD m j))) := by
  have := gp_cj j h
  unfold rsd gle
  rw [gm_as] at this
  rw [gi_D, gi_D, ← gm_as, gD_m, Int.add_comm, ← gD_m, gm_as]
  rw [gi_D, gi_D] at this
  exact this
theorem rsd_ci {k j : Int} {a : Gn m} (h : rsd k a) : rsd k (gm (gD m j) (gm a (gi (gD m j)))) := by
  have := rsd_cj (j := -j) h
  rw [gi_D, Int.neg_neg, ← gi_D] at this
  exact this
/-- what is raised: delta times a positive one -/
theorem rsd_q {k : Int} {a : Gn m} (h : rsd k a) : ∃ q, gpo q ∧ a = gm (gD m k) (gm (gD m 1) q) := by
  refine ⟨gm (gi (gD m (k + 1))) a, h, ?_⟩
  rw [← gm_as, ← D_k1, gi_cr]
theorem low_i {k : Int} {a i : Gn m} (hl : gle (gD m k) a) (hi : isM (gm a (gi (gD m k))) (gD m 1) i) : gpo i ∧ gpo (gm (gD m 1) (gi i)) ∧ glen i ≤ glen (gD m 1) := by
  have p1 : gpo (gm a (gi (gD m k))) := by
    have := gp_ci k hl
    rw [gm_as, gi_cr] at this
    exact this
  have pi : gpo i := gle_1.mp (hi.2.2 _ (gle_1.mpr p1) (gle_1.mpr (gp_D 1)))
  refine ⟨pi, ?_, (gle_ln hi.2.1).1⟩
  have := gp_ci 1 hi.2.1
  rw [gm_as, gi_r, g1_r] at this
  exact this
theorem low_c {k : Int} {a i : Gn m} (hl : gle (gD m k) a) (hi : isM (gm a (gi (gD m k))) (gD m 1) i) : gle (gD m k) (gm (gi i) (gm a i)) := by
  have w := gp_cj k hi.1
  have := gp_m w (low_i hl hi).1
  unfold gle
  simp only [gm_as, gi_m, gi_i, gi_cl, gi_cr, gi_l, gi_r, g1_l, g1_r] at this ⊢
  exact this
theorem bkl_st {k : Int} {a d i : Gn m} (hl : gle (gD m k) a) (hd : mnP k a d) (hi : isM (gm a (gi (gD m k))) (gD m 1) i) : mnP k (gm (gi i) (gm a i)) (gm (gi (gD m 1)) (gm d i)) ∧ ∀ e e', isM d (gD m 1) e → isM (gm (gi (gD m 1)) (gm d i)) (gD m 1) e' → glen e = 0 ∨ glen e' < glen e := by
  obtain ⟨d1, d2, d3⟩ := hd
  obtain ⟨i1, i2, i3⟩ := low_i hl hi
  obtain ⟨q, q1, q2⟩ := rsd_q d2
  have eQ : gm d a = gm (gD m k) (gm (gD m 1) (gm q d)) := by
    have := congrArg (fun x => gm x d) q2
    simp only [gm_as, gi_l, g1_r] at this
    exact this
  have cmE : gm (gD m k) (gD m 1) = gm (gD m 1) (gD m k) := D_cm k 1
  -- the new one is positive
  have g1' : gle (gD m 1) (gm d i) := by
    rw [← gi_i d, ← gle_s (gi d)]
    refine hi.2.2 _ ?_ ?_
    · rw [gle_s (gi d), gi_i, ← gm_as d a, eQ]
      unfold gle
      have := gp_ci k (gp_m q1 d1)
      rw [← gm_as (gD m k), cmE]
      simp only [gm_as, gi_cl] at this ⊢
      exact this
    · rw [gle_s (gi d), gi_i]
      exact gp_cj 1 d1
  have p'' : gpo (gm (gi (gD m 1)) (gm d i)) := g1'
  have r'' : rsd k (gm (gm (gi (gD m 1)) (gm d i)) (gm (gm (gi i) (gm a i)) (gi (gm (gi (gD m 1)) (gm d i))))) := by
    have := rsd_cj (j := 1) d2
    simp only [gm_as, gi_m, gi_i, gi_cl, gi_cr] at this ⊢
    exact this
  have ln'' : glen (gm (gi (gD m 1)) (gm d i)) = glen d + glen i - glen (gD m 1) := by
    rw [glen_m, glen_m, glen_i]
    omega
  refine ⟨⟨p'', r'', fun f f1 f2 => ?_⟩, fun e e' he he' => ?_⟩
  · have pf : gpo (gm (gD m 1) (gm f (gi i))) := by
      have := gp_m (gp_ci 1 f1) i2
      simp only [gm_as, gi_cl] at this
      exact this
    have rf : rsd k (gm (gm (gD m 1) (gm f (gi i))) (gm a (gi (gm (gD m 1) (gm f (gi i)))))) := by
      have := rsd_ci (j := 1) f2
      simp only [gm_as, gi_m, gi_i, gi_cl, gi_cr] at this ⊢
      exact this
    have := d3 _ pf rf
    rw [glen_m, glen_m, glen_i] at this
    rw [ln'']
    omega
  · have pe : gpo e := gle_1.mp (he.2.2 _ (gle_1.mpr d1) (gle_1.mpr (gp_D 1)))
    obtain ⟨u, hu⟩ : ∃ u, u = gm (gi e) (gD m 1) := ⟨_, rfl⟩
    have pu : gpo u := by rw [hu]; exact he.2.1
    have ee : gi e = gm u (gi (gD m 1)) := by
      rw [hu, gm_as, gi_r, g1_r]
    -- the braid between
    have hlow : gle (gD m k) (gm (gi e) (gm (gm d (gm a (gi d))) e)) := by
      rw [q2, ee]
      unfold gle
      have := gp_m (gp_cj k pu) (gp_m q1 pe)
      have c9 : gm (gi (gD m 1)) (gm (gD m k) (gm (gD m 1) (gm q e))) = gm (gD m k) (gm q e) := by
        rw [← gm_as (gD m k), cmE, gm_as, gi_cl]
      simp only [gm_as] at this ⊢
      rw [c9]
      exact this
    obtain ⟨ie, hie⟩ := gmeet (gm (gm (gi e) (gm (gm d (gm a (gi d))) e)) (gi (gD m k))) (gD m 1)
    obtain ⟨j1, j2, j3⟩ := low_i hlow hie
    have b0 : gle (gm (gD m 1) e') (gm d i) := by
      rw [gle_s]
      exact he'.1
    have b1 : gle (gm (gD m 1) e') (gm (gD m 1) (gD m 1)) := (gle_l _).mpr he'.2.1
    have key : gle (gm (gD m 1) e') (gm e ie) := by
      rw [← gi_i e, ← gle_s (gi e)]
      refine hie.2.2 _ ?_ ?_
      · rw [gm_as (gi e), gle_l (gi e)]
        -- below Q e D^-k
        have s1 : gle (gm (gi (gm d (gm a (gi d)))) (gm (gm (gD m 1) e') (gD m k))) e := by
          refine he.2.2 _ ?_ ?_
          · rw [gle_s, gi_i]
            have b2 : gle (gm (gD m 1) e') (gm d (gm a (gi (gD m k)))) := gle_tr b0 ((gle_l d).mpr hi.1)
            have := gle_rD k b2
            simp only [gm_as, gi_l, g1_r] at this ⊢
            exact this
          · rw [gle_s, gi_i]
            have b2 : gle (gD m 1) (gm (gm d (gm a (gi d))) (gi (gD m k))) := by
              rw [q2]
              unfold gle
              have := gp_ci k q1
              rw [← gm_as (gD m k), cmE]
              simp only [gm_as, gi_cl] at this ⊢
              exact this
            have b3 := gle_tr b1 (gle_rD 1 b2)
            have := gle_rD k b3
            have c9 : gm (gi (gD m k)) (gm (gD m 1) (gD m k)) = gD m 1 := D_c1 k 1
            simp only [gm_as] at this ⊢
            rw [c9] at this
            exact this
        rw [gle_s, gi_i] at s1
        have := gle_ri k s1
        simp only [gm_as, gi_r, g1_r] at this ⊢
        exact this
      · rw [gle_s (gi e), gi_i]
        have s1 : gle (gm (gm (gD m 1) e') (gi (gD m 1))) e := by
          refine he.2.2 _ ?_ ?_
          · have b2 : gle (gm (gD m 1) e') (gm d (gD m 1)) := gle_tr b0 ((gle_l d).mpr hi.2.1)
            have := gle_ri 1 b2
            simp only [gm_as, gi_r, g1_r] at this ⊢
            exact this
          · have := gle_ri 1 b1
            simp only [gm_as, gi_r, g1_r] at this ⊢
            exact this
        have := gle_rD 1 s1
        simp only [gm_as, gi_l, g1_r] at this ⊢
        exact this
    have kl := (gle_ln key).1
    rw [glen_m, glen_m] at kl
    by_cases h9 : glen e' < glen e
    · exact Or.inr h9
    · refine Or.inl ?_
      have e9 : ie = gD m 1 := (gle_ln hie.2.1).2 (by omega)
      have rE : rsd k (gm (gi e) (gm (gm d (gm a (gi d))) e)) := by
        have h1 := hie.1
        rw [e9] at h1
        have := gle_rD k h1
        rw [gm_as, gi_l, g1_r, D_cm 1 k, ← D_k1] at this
        exact this
      have pf : gpo (gm (gi e) d) := he.1
      have rf : rsd k (gm (gm (gi e) d) (gm a (gi (gm (gi e) d)))) := by
        simp only [gm_as, gi_m, gi_i] at rE ⊢
        exact rE
      have := d3 _ pf rf
      rw [glen_m, glen_i] at this
      have := gp_0 pe
      omega
/-- at most as many cyclings as delta has letters raise what can be raised -/
theorem bkl {k : Int} {s i : Nat → Gn m} (hl : gle (gD m k) (s 0)) (hi : ∀ j, isM (gm (s j) (gi (gD m k))) (gD m 1) (i j)) (hs : ∀ j, s (j + 1) = gm (gi (i j)) (gm (s j) (i j))) {x : Gn m} (hx : rsd k (gm (gi x) (gm (s 0) x))) : ∃ N, N ≤ szD m ∧ rsd k (s N) := by
  have low : ∀ j, gle (gD m k) (s j) := by
    intro j
    induction j with
    | zero => exact hl
    | succ j ih =>
      rw [hs j]
      exact low_c ih (hi j)
  have key : ∀ (L j : Nat) (d e : Gn m), mnP k (s j) d → isM d (gD m 1) e → glen e ≤ (L : Int) → ∃ N, N ≤ j + L ∧ rsd k (s N) := by
    intro L
    induction L with
    | zero =>
      intro j d e hd he hL
      have pe : gpo e := gle_1.mp (he.2.2 _ (gle_1.mpr hd.1) (gle_1.mpr (gp_D 1)))
      have := gp_0 pe
      have ed := gp_D1 hd.1 he (by omega)
      have h2 := hd.2.1
      rw [ed, gi_1, g1_l, g1_r] at h2
      exact ⟨j, by omega, h2⟩
    | succ L ih =>
      intro j d e hd he hL
      obtain ⟨e', he'⟩ := gmeet (gm (gi (gD m 1)) (gm d (i j))) (gD m 1)
      obtain ⟨k1, k2⟩ := bkl_st (low j) hd (hi j)
      rcases k2 e e' he he' with h9 | h9
      · have ed := gp_D1 hd.1 he h9
        have h2 := hd.2.1
        rw [ed, gi_1, g1_l, g1_r] at h2
        exact ⟨j, by omega, h2⟩
      · rw [← hs j] at k1
        obtain ⟨N, n1, n2⟩ := ih (j + 1) _ e' k1 he' (by omega)
        exact ⟨N, by omega, n2⟩
  -- a shortest one
  obtain ⟨j, hj⟩ := g_up (gi x)
  have p0 := hj j (Nat.le_refl _)
  have r0 : rsd k (gm (gm (gD m (j : Int)) (gi x)) (gm (s 0) (gi (gm (gD m (j : Int)) (gi x))))) := by
    have := rsd_ci (j := (j : Int)) hx
    simp only [gm_as, gi_m, gi_i] at this ⊢
    exact this
  obtain ⟨L, ⟨d, d1, d2, d3⟩, hmin⟩ := pk_least (fun L : Nat => ∃ d : Gn m, gpo d ∧ rsd k (gm d (gm (s 0) (gi d))) ∧ glen d = (L : Int)) ⟨(glen (gm (gD m (j : Int)) (gi x))).toNat, _, p0, r0, by have := gp_0 p0; omega⟩
  have hd : mnP k (s 0) d := ⟨d1, d2, fun f f1 f2 => by
    have f0 := gp_0 f1
    rcases Int.lt_or_le (glen f) (glen d) with h9 | h9
    · exact absurd ⟨f, f1, f2, by omega⟩ (hmin (glen f).toNat (by omega))
    · exact h9⟩
  obtain ⟨e, he⟩ := gmeet d (gD m 1)
  have le := (gle_ln he.2.1).1
  rw [glen_D, Int.one_mul] at le
  obtain ⟨N, n1, n2⟩ := key (szD m) 0 d e hd he le
  exact ⟨N, by omega, n2⟩
/-- between two of a summit set: a simple one that stays in it -/
theorem sss_st {k s : Int} {a x e : Gn m} (l1 : gle (gD m k) a) (u1 : gle a (gD m s)) (l2 : gle (gD m k) (gm (gi x) (gm a x))) (u2 : gle (gm (gi x) (gm a x)) (gD m s)) (he : isM x (gD m 1) e) : gle (gD m k) (gm (gi e) (gm a e)) ∧ gle (gm (gi e) (gm a e)) (gD m s) := by
  constructor
  · rw [← gle_s]
    have s1 : gle (gm (gi a) (gm e (gD m k))) e := by
      refine he.2.2 _ ?_ ?_
      · rw [gle_s, gi_i]
        rw [← gle_s] at l2
        exact gle_tr (gle_rD k he.1) l2
      · rw [gle_s, gi_i]
        refine gle_tr (gle_rD k he.2.1) ?_
        rw [D_cm 1 k]
        exact gle_rD 1 l1
    rw [gle_s, gi_i] at s1
    exact s1
  · rw [gle_s, gi_i]
    have s1 : gle (gm (gm a e) (gi (gD m s))) e := by
      refine he.2.2 _ ?_ ?_
      · rw [gle_s, gi_i] at u2
        have := gle_ri s (gle_tr ((gle_l a).mpr he.1) u2)
        rw [gm_as x, gi_r, g1_r] at this
        exact this
      · have h1 := gle_tr ((gle_l a).mpr he.2.1) (gle_rD 1 u1)
        rw [D_cm s 1] at h1
        have := gle_ri s h1
        rw [gm_as (gD m 1), gi_r, g1_r] at this
        exact this
    have := gle_rD s s1
    rw [gm_as (gm a e), gi_l, g1_r] at this
    exact this
end XG5
end
section
/-! 99zzzzzzzzzzzzzzzk.xga5 -/
/-! braids: forms in the group: inf, sup, the first and the last factor -/
section XG6
variable {m : N5}
theorem dv_1 {n : Nat} (h2 : 2 ≤ n) (h5 : n ≤ 5) {t x : Nat} (ht : t < gNN n) (hx : x < gNN n) : dvT n [t] [x] ↔ ddG n x t = 0 := dv_r1 h2 h5 ht (okT_c.mpr ⟨hx, okT_n⟩)
/-- what divides a simple one is simple -/
theorem dv_s {n : Nat} (h2 : 2 ≤ n) (h5 : n ≤ 5) : ∀ (T : List Nat) {x : Nat}, okT n T → x < gNN n → dvT n T [x] → ∃ t, t < gNN n ∧ eqT n T [t] ∧ ddG n x t = 0
  | [], x, _, hx, _ => ⟨0, nn_0, eqT_sy (eqT_id (X := []) (Y := []) h2 h5 okT_n okT_n), dd_0r h2 h5 hx⟩
  | t :: T, x, hT, hx, ⟨C, c1, c2⟩ => by
    obtain ⟨ht, hT'⟩ := okT_c.mp hT
    have c2 : eqT n [x] (t :: (T ++ C)) := c2
    have hC : okT n (T ++ C) := okT_a.mpr ⟨hT', c1⟩
    have k1 : ddG n x t = 0 := (hd_1 h2 h5 (okT_c.mpr ⟨ht, hC⟩) c2).1
    have hy := dd_lt h2 h5 ht hx
    have e1 := dd_mu h2 h5 ht hx k1
    have k2 : eqT n [x] [t, ddG n t x] := eqT_sy (eqT_tr (eqT_swp (X := []) (Y := []) h2 h5 okT_n okT_n ht hy nn_0 e1 (mu_r0 h2 h5)) (eqT_id (X := [x]) (Y := []) h2 h5 (okT_c.mpr ⟨hx, okT_n⟩) okT_n))
    have k3 : eqT n [ddG n t x] (T ++ C) := eqT_c1 h2 h5 ht (okT_c.mpr ⟨hy, okT_n⟩) hC (eqT_tr (eqT_sy k2) c2)
    obtain ⟨s, s1, s2, s3⟩ := dv_s h2 h5 T hT' hy ⟨C, c1, k3⟩
    have e2 := dd_mu h2 h5 s1 hy s3
    obtain ⟨w, w1⟩ : ∃ w, muG n t s = w + 1 := ⟨muG n t s - 1, by
      have := mu_sub h2 h5 ht hy s1 (by rw [e1]; omega) s3
      omega⟩
    have hw := (mu_lt h2 h5 ht w1).1
    refine ⟨w, hw, ?_, ?_⟩
    · have a1 : eqT n (t :: T) [t, s] := eqT_pr (P := [t]) h2 h5 (okT_c.mpr ⟨ht, okT_n⟩) s2
      have a2 : eqT n [t, s] [w] := eqT_tr (eqT_swp (X := []) (Y := []) h2 h5 okT_n okT_n ht s1 nn_0 w1 (mu_r0 h2 h5)) (eqT_id (X := [w]) (Y := []) h2 h5 (okT_c.mpr ⟨hw, okT_n⟩) okT_n)
      exact eqT_tr a1 a2
    · refine (dv_1 h2 h5 hw hx).mp ?_
      have a2 : eqT n [w] [t, s] := eqT_sy (eqT_tr (eqT_swp (X := []) (Y := []) h2 h5 okT_n okT_n ht s1 nn_0 w1 (mu_r0 h2 h5)) (eqT_id (X := [w]) (Y := []) h2 h5 (okT_c.mpr ⟨hw, okT_n⟩) okT_n))
      have hts : okT n [t, s] := okT_c.mpr ⟨ht, okT_c.mpr ⟨s1, okT_n⟩⟩
      refine dvT_el h2 h5 hts (okT_c.mpr ⟨hw, okT_n⟩) ?_ a2
      obtain ⟨C', d1, d2⟩ := (dv_1 h2 h5 s1 hy).mpr s3
      exact ⟨C', d1, eqT_tr k2 (eqT_pr (P := [t]) h2 h5 (okT_c.mpr ⟨ht, okT_n⟩) d2)⟩
theorem gp_smp {c : Gn m} (h : gpo c) (hD : gle c (gD m 1)) : ∃ t h, t < gNN m.1 ∧ c = gL m [t] h := by
  obtain ⟨T, hT, rfl⟩ := h
  have hR : okT m.1 (List.replicate 1 (gNN m.1 - 1)) := rp_ok
  have e1 : gD m 1 = gL m (List.replicate 1 (gNN m.1 - 1)) hR := (gL_rp 1).symm
  rw [e1] at hD
  obtain ⟨t, t1, t2, -⟩ := dv_s m.2.1 m.2.2 T hT dl_lt (gle_L.mp hD)
  exact ⟨t, okT_c.mpr ⟨t1, okT_n⟩, t1, gL_eq t2⟩
/-- the first factor -/
theorem fst_M {f : Nat} {F : List Nat} {hf : okT m.1 [f]} {hF : okT m.1 (f :: F)} (hw : wtL m.1 (f :: F)) : isM (gL m (f :: F) hF) (gD m 1) (gL m [f] hf) := by
  have hfl := (okT_c.mp hF).1
  obtain ⟨c, hc⟩ := gmeet (gL m (f :: F) hF) (gD m 1)
  have l1 : gle (gL m [f] hf) (gL m (f :: F) hF) := gle_L.mpr ⟨F, (okT_c.mp hF).2, eqT_rf _⟩
  have p1 := hc.2.2 _ l1 (gle_tD hfl)
  have pc : gpo c := gle_1.mp (hc.2.2 _ (gle_1.mpr gp_L) (gle_1.mpr (gp_D 1)))
  obtain ⟨t, h1, t1, rfl⟩ := gp_smp pc hc.2.1
  have k := (dv_r1 m.2.1 m.2.2 t1 hF).mp (gle_L.mp hc.1)
  have k2 := lw_div m.2.1 m.2.2 F hF hw t1 k
  have p2 : gle (gL m [t] h1) (gL m [f] hf) := gle_L.mpr ((dv_1 m.2.1 m.2.2 t1 hfl).mpr k2)
  rw [gle_as p1 p2]
  exact hc
theorem sz_D1 : 1 ≤ szD m := (f_fiv m.2.1 m.2.2 (a := 0) (by have := m.2.1; omega)).2.2.2.2.1
theorem dl_0 : gNN m.1 - 1 ≠ 0 := fun e => by
  have := sz_D1 (m := m)
  unfold szD at this
  rw [e, sz_0 m.2.1 m.2.2] at this
  omega
theorem nf_c {n f : Nat} {F : List Nat} (h : nfL n (f :: F)) : nfL n F := ⟨(okT_c.mp h.1).2, wtL_t h.2.1, fun g hg => h.2.2 g (List.mem_cons_of_mem _ hg)⟩
/-- no delta in front of a form -/
theorem nf_inf {F : List Nat} {hF : okT m.1 F} (h : nfL m.1 F) : ¬ gle (gD m 1) (gL m F hF) := by
  intro h9
  cases F with
  | nil =>
    have := (gle_ln h9).1
    rw [glen_D, glen_L, Int.one_mul] at this
    have h0 : szT m.1 [] = 0 := rfl
    have := sz_D1 (m := m)
    omega
  | cons f F =>
    obtain ⟨hf, hF'⟩ := okT_c.mp hF
    have k := (fst_M (hf := okT_c.mpr ⟨hf, okT_n⟩) (hF := hF) h.2.1).2.2 _ h9 (gle_rf _)
    have e := gle_as k (gle_tD hf)
    have hR : okT m.1 (List.replicate 1 (gNN m.1 - 1)) := rp_ok
    have e1 : gD m 1 = gL m (List.replicate 1 (gNN m.1 - 1)) hR := (gL_rp 1).symm
    rw [e1] at e
    have e2 : eqT m.1 [gNN m.1 - 1] [f] := gL_ex e
    have d1 := (dv_1 m.2.1 m.2.2 dl_lt hf).mp ⟨[], okT_n, eqT_sy e2⟩
    exact (h.2.2 f List.mem_cons_self).2 (dv_as m.2.1 m.2.2 hf dl_lt (d_pk m.2.1 m.2.2 hf).2.2.2.2 d1)
theorem gL_c {t : Nat} {T : List Nat} {h : okT m.1 (t :: T)} (h1 : okT m.1 [t]) (h2 : okT m.1 T) : gL m (t :: T) h = gm (gL m [t] h1) (gL m T h2) := (gL_m h1 h2).symm
theorem gle_sm {i j : Int} (h : i ≤ j) : gle (gD m i) (gD m j) := by
  unfold gle
  rw [gi_D, gD_m]
  obtain ⟨d, hd⟩ : ∃ d : Nat, -i + j = (d : Int) := ⟨(-i + j).toNat, by omega⟩
  rw [hd]
  exact gp_D d
/-- so many factors, so many deltas -/
theorem sup_le : ∀ (T : List Nat) {h : okT m.1 T}, gle (gL m T h) (gD m (T.length : Int))
  | [], h => gle_rf _
  | t :: T, h => by
    obtain ⟨ht, hT⟩ := okT_c.mp h
    have h1 : okT m.1 [t] := okT_c.mpr ⟨ht, okT_n⟩
    rw [gL_c h1 hT]
    have k1 := (gle_l (gL m [t] h1)).mpr (sup_le T (h := hT))
    have k2 := gle_rD (T.length : Int) (gle_tD ht (h := h1))
    rw [D_cm, gD_m] at k2
    exact gle_tr k1 k2
theorem nf_sup : ∀ (F : List Nat) {h : okT m.1 F} (l : Nat), nfL m.1 F → gle (gL m F h) (gD m (l : Int)) → F.length ≤ l
  | [], _, l, _, _ => Nat.zero_le _
  | f :: F, h, 0, hn, hl => by
    exfalso
    have hf := (okT_c.mp h).1
    have := (gle_ln hl).1
    rw [glen_L, glen_D, Int.natCast_zero, Int.zero_mul] at this
    have e : szT m.1 (f :: F) = szG m.1 f + szT m.1 F := rfl
    exact (hn.2.2 f List.mem_cons_self).1 (sz_z m.2.1 m.2.2 hf (by omega))
  | f :: F, h, l + 1, hn, hl => by
    obtain ⟨hf, hF⟩ := okT_c.mp h
    have h1 : okT m.1 [f] := okT_c.mpr ⟨hf, okT_n⟩
    have hM := fst_M (hf := h1) (hF := h) hn.2.1
    have k : gle (gm (gL m (f :: F) h) (gi (gD m (l : Int)))) (gL m [f] h1) := by
      refine hM.2.2 _ ?_ ?_
      · unfold gle
        rw [gi_m, gi_i, gm_as, gi_l, g1_r]
        exact gp_D l
      · have e : gD m ((l + 1 : Nat) : Int) = gm (gD m 1) (gD m (l : Int)) := by
          rw [gD_m]
          congr 1
          omega
        have := gle_ri (l : Int) hl
        rw [e, gm_as (gD m 1), gi_r, g1_r] at this
        exact this
    have k2 := gle_rD (l : Int) k
    rw [gm_as (gL m (f :: F) h), gi_l, g1_r, gL_c h1 hF, gle_l] at k2
    have := nf_sup F l (nf_c hn) k2
    show F.length + 1 ≤ l + 1
    omega
/-- the last factor: what the inverse begins with -/
theorem lst_M {a : Nat} {F : List Nat} {hF : okT m.1 (F ++ [a])} (ha1 : okT m.1 [a]) (hn : nfL m.1 (F ++ [a])) : isM (gm (gi (gL m (F ++ [a]) hF)) (gD m ((F.length + 1 : Nat) : Int))) (gD m 1) (gm (gi (gL m [a] ha1)) (gD m 1)) := by
  obtain ⟨hF0, -⟩ := okT_a.mp hF
  have ha := (okT_c.mp ha1).1
  have eF : gL m (F ++ [a]) hF = gm (gL m F hF0) (gL m [a] ha1) := (gL_m hF0 ha1).symm
  have eD : gD m ((F.length + 1 : Nat) : Int) = gm (gD m (F.length : Int)) (gD m 1) := by
    rw [gD_m]
    congr 1
  have b1 : gle (gm (gi (gL m [a] ha1)) (gD m 1)) (gD m 1) := by
    unfold gle
    rw [gi_m, gi_i, gm_as]
    exact gp_cj 1 gp_L
  have b2 : gle (gm (gi (gL m [a] ha1)) (gD m 1)) (gm (gi (gL m (F ++ [a]) hF)) (gD m ((F.length + 1 : Nat) : Int))) := by
    unfold gle
    rw [eF, eD]
    have := gp_cj 1 (sup_le F (h := hF0))
    simp only [gm_as, gi_m, gi_i, gi_cr] at this ⊢
    exact this
  obtain ⟨c, hc⟩ := gmeet (gm (gi (gL m (F ++ [a]) hF)) (gD m ((F.length + 1 : Nat) : Int))) (gD m 1)
  have k1 := hc.2.2 _ b2 b1
  -- u: what c has more
  obtain ⟨u, hu⟩ : ∃ u, u = gm (gi (gm (gi (gL m [a] ha1)) (gD m 1))) c := ⟨_, rfl⟩
  have pu : gpo u := by rw [hu]; exact k1
  have ec : c = gm (gi (gL m [a] ha1)) (gm (gD m 1) u) := by
    rw [hu]
    simp only [gm_as, gi_m, gi_i, gi_cr, gi_cl]
  have pv : gpo (gm (gD m 1) (gm u (gi (gD m 1)))) := gp_ci 1 pu
  have va : gle (gm (gD m 1) (gm u (gi (gD m 1)))) (gL m [a] ha1) := by
    have := hc.2.1
    rw [ec, gle_s, gi_i] at this
    have := gle_ri 1 this
    simp only [gm_as, gi_r, g1_r] at this ⊢
    exact this
  have vF : gle (gm (gL m F hF0) (gm (gD m 1) (gm u (gi (gD m 1))))) (gD m (F.length : Int)) := by
    have := hc.1
    rw [eF, eD, ec, ← gle_s] at this
    have := gle_ri 1 this
    simp only [gm_as, gi_r, g1_r, gi_cr] at this ⊢
    exact this
  obtain ⟨t, h1, t1, et⟩ := gp_smp pv (gle_tr va (gle_tD ha))
  rw [et] at va vF
  have dt := (dv_1 m.2.1 m.2.2 t1 ha).mp (gle_L.mp va)
  have t0 : t = 0 := by
    refine Classical.byContradiction (fun hne => ?_)
    have hta : okT m.1 (F ++ [t]) := okT_a.mpr ⟨hF0, h1⟩
    have hn2 : nfL m.1 (F ++ [t]) := by
      refine ⟨hta, fun i g g' e1 e2 => ?_, fun g hg => ?_⟩
      · have l2 := (List.getElem?_eq_some_iff.mp e2).1
        rw [List.length_append, List.length_singleton] at l2
        rw [List.getElem?_append_left (by omega)] at e1
        by_cases c9 : i + 1 < F.length
        · rw [List.getElem?_append_left c9] at e2
          exact hn.2.1 i g g' (by rw [List.getElem?_append_left (by omega)]; exact e1) (by rw [List.getElem?_append_left c9]; exact e2)
        · rw [List.getElem?_append_right (by omega), show i + 1 - F.length = 0 by omega] at e2
          have e3 : t = g' := Option.some.inj e2
          rw [← e3]
          intro x hx m1 m2
          refine hn.2.1 i g a (by rw [List.getElem?_append_left (by omega)]; exact e1) (by rw [List.getElem?_append_right (by omega), show i + 1 - F.length = 0 by omega]; rfl) x hx m1 (dv_tr m.2.1 m.2.2 (lett m.2.1 m.2.2 hx) t1 ha m2 dt)
      · rcases List.mem_append.mp hg with h9 | h9
        · exact hn.2.2 g (List.mem_append_left _ h9)
        · rw [List.mem_singleton.mp h9]
          refine ⟨hne, fun e9 => ?_⟩
          rw [e9] at dt
          exact (hn.2.2 a (List.mem_append_right _ List.mem_cons_self)).2 (dv_as m.2.1 m.2.2 ha dl_lt (d_pk m.2.1 m.2.2 ha).2.2.2.2 dt)
    rw [gL_m hF0 h1] at vF
    have := nf_sup _ F.length hn2 vF
    rw [List.length_append, List.length_singleton] at this
    omega
  have e1 : gm (gD m 1) (gm u (gi (gD m 1))) = g1 m := by
    rw [et, ← gL_nil (h := okT_n)]
    subst t0
    exact gL_eq (eqT_id (X := []) (Y := []) m.2.1 m.2.2 okT_n okT_n)
  have u1 : u = g1 m := by
    refine gp_z pu ?_
    have := congrArg glen e1
    rw [glen_m, glen_m, glen_i, glen_1] at this
    omega
  rw [ec, u1, g1_r] at hc
  exact hc
/-- every list has a form -/
theorem nf_ex0 : ∀ (d : Nat) {T : List Nat} (hT : okT m.1 T), szT m.1 T ≤ d → ¬ gle (gD m 1) (gL m T hT) → ∃ F, nfL m.1 F ∧ eqT m.1 T F
  | d, T, hT, hd, hD => by
    have h2 := m.2.1
    have h5 := m.2.2
    obtain ⟨c, hc⟩ := gmeet (gL m T hT) (gD m 1)
    have pc : gpo c := gle_1.mp (hc.2.2 _ (gle_1.mpr gp_L) (gle_1.mpr (gp_D 1)))
    obtain ⟨t, h1, t1, rfl⟩ := gp_smp pc hc.2.1
    by_cases t0 : t = 0
    · have e0 : glen (gL m [t] h1) = 0 := by
        rw [glen_L, t0]
        have : szT m.1 [0] = szG m.1 0 + 0 := rfl
        rw [this, sz_0 h2 h5]
        rfl
      have := gp_D1 gp_L hc e0
      exact ⟨[], ⟨okT_n, fun i g g' h9 => (by simp at h9), fun g hg => absurd hg List.not_mem_nil⟩, gL_ex this⟩
    · obtain ⟨T', hT', e⟩ := gle_L.mp hc.1
      have es := szT_eq h2 h5 _ (okT_a.mpr ⟨h1, hT'⟩) hT e
      rw [szT_a] at es
      have es2 : szT m.1 [t] = szG m.1 t + 0 := rfl
      have tp : szG m.1 t ≠ 0 := fun h9 => t0 (sz_z h2 h5 t1 h9)
      have eT : gL m T hT = gm (gL m [t] h1) (gL m T' hT') := by
        rw [gL_m]
        exact gL_eq e
      have hD' : ¬ gle (gD m 1) (gL m T' hT') := fun h9 => hD (by
        rw [eT]
        have k1 := (gle_l (gL m [t] h1)).mpr h9
        refine gle_tr ?_ k1
        rw [gL_D]
        exact gle_p gp_L)
      cases d with
      | zero => omega
      | succ d =>
        obtain ⟨F, hF, eF⟩ := nf_ex0 d hT' (by omega) hD'
        have eTF : eqT m.1 T (t :: F) := eqT_tr e (eqT_pr (P := [t]) h2 h5 h1 eF)
        have tD : t ≠ gNN m.1 - 1 := fun e9 => hD (by
          have e1 : gD m 1 = gL m [t] h1 := by
            subst e9
            exact (gL_rp (m := m) 1).symm
          rw [e1]
          exact hc.1)
        refine ⟨t :: F, ⟨okT_c.mpr ⟨t1, hF.1⟩, fun i g g' e1 e2 => ?_, fun g hg => ?_⟩, eTF⟩
        · cases i with
          | zero =>
            have e1 : t = g := Option.some.inj e1
            subst e1
            intro x hx m1 m2
            have hl := lett h2 h5 hx
            have hg' := hF.1 g' (List.mem_of_getElem? e2)
            obtain ⟨F', rfl⟩ : ∃ F', F = g' :: F' := by
              cases F with
              | nil => simp at e2
              | cons a F' =>
                have : a = g' := Option.some.inj e2
                exact ⟨F', by rw [this]⟩
            obtain ⟨w, w1⟩ : ∃ w, moG m.1 t x = w + 1 := ⟨moG m.1 t x - 1, by omega⟩
            have w2 : muG m.1 t (moG m.1 0 x - 1) = w + 1 := by rw [mu_let h2 h5 hx, w1]
            have hw := (mu_lt h2 h5 t1 w2).1
            have hw1 : okT m.1 [w] := okT_c.mpr ⟨hw, okT_n⟩
            -- t x divides T
            have dx : dvT m.1 [moG m.1 0 x - 1] (g' :: F') := by
              obtain ⟨C, c1, c2⟩ := (dv_1 h2 h5 hl hg').mpr m2
              have hF'' := (okT_c.mp hF.1).2
              exact ⟨C ++ F', okT_a.mpr ⟨c1, hF''⟩, eqT_ap h2 h5 F' hF'' (okT_c.mpr ⟨hg', okT_n⟩) (okT_c.mpr ⟨hl, c1⟩) c2⟩
            obtain ⟨C, c1, c2⟩ := dx
            have dw : dvT m.1 [w] T := by
              refine ⟨C, c1, eqT_tr eTF (eqT_tr (eqT_pr (P := [t]) h2 h5 h1 c2) ?_)⟩
              have a1 : eqT m.1 [t, moG m.1 0 x - 1] [w] := eqT_tr (eqT_swp (X := []) (Y := []) h2 h5 okT_n okT_n t1 hl nn_0 w2 (mu_r0 h2 h5)) (eqT_id (X := [w]) (Y := []) h2 h5 hw1 okT_n)
              exact eqT_ap h2 h5 C c1 (okT_c.mpr ⟨t1, okT_c.mpr ⟨hl, okT_n⟩⟩) hw1 a1
            have kw : gle (gL m [w] hw1) (gL m [t] h1) := hc.2.2 _ (gle_L.mpr dw) (gle_tD hw)
            have := (gle_ln kw).1
            rw [glen_L, glen_L] at this
            have z1 : szT m.1 [w] = szG m.1 w + 0 := rfl
            have z2 := (mu_lt h2 h5 t1 w2).2
            rw [sz_let h2 h5 hx] at z2
            omega
          | succ i => exact hF.2.1 i g g' e1 e2
        · rcases List.mem_cons.mp hg with h9 | h9
          · rw [h9]
            exact ⟨t0, tD⟩
          · exact hF.2.2 g h9
theorem nf_ex {T : List Nat} (hT : okT m.1 T) : ∃ j F, nfL m.1 F ∧ eqT m.1 T (List.replicate j (gNN m.1 - 1) ++ F) := by
  have key : ∀ (d : Nat) {T : List Nat} (hT : okT m.1 T), szT m.1 T ≤ d → ∃ j F, nfL m.1 F ∧ eqT m.1 T (List.replicate j (gNN m.1 - 1) ++ F) := by
    intro d
    induction d with
    | zero =>
      intro T hT hd
      obtain ⟨F, f1, f2⟩ := nf_ex0 0 hT hd (fun h9 => by
        have := (gle_ln h9).1
        rw [glen_D, glen_L, Int.one_mul] at this
        have := sz_D1 (m := m)
        omega)
      exact ⟨0, F, f1, f2⟩
    | succ d ih =>
      intro T hT hd
      by_cases hD : gle (gD m 1) (gL m T hT)
      · have hR : okT m.1 [gNN m.1 - 1] := okT_c.mpr ⟨dl_lt, okT_n⟩
        have e1 : gD m 1 = gL m [gNN m.1 - 1] hR := (gL_rp (m := m) 1).symm
        rw [e1] at hD
        obtain ⟨C, c1, c2⟩ := gle_L.mp hD
        have es := szT_eq m.2.1 m.2.2 _ (okT_a.mpr ⟨hR, c1⟩) hT c2
        rw [szT_a] at es
        have es2 : szT m.1 [gNN m.1 - 1] = szG m.1 (gNN m.1 - 1) + 0 := rfl
        have := sz_D1 (m := m)
        unfold szD at this
        obtain ⟨j, F, f1, f2⟩ := ih c1 (by omega)
        exact ⟨j + 1, F, f1, eqT_tr c2 (eqT_pr (P := [gNN m.1 - 1]) m.2.1 m.2.2 hR f2)⟩
      · obtain ⟨F, f1, f2⟩ := nf_ex0 (d + 1) hT hd hD
        exact ⟨0, F, f1, f2⟩
  exact key _ hT (Nat.le_refl _)
end XG6
end
