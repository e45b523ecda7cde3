/-! summands of the reference: the first phase -/
section XTB
variable {X : (Nat → Nat → Int32) → Prop} {z : ow_MS} {St : plT} {x : Int32} {T : ow_NT} {A : rn_L} {sg : Nat → Bool} {f : Nat → Nat}
theorem xq_sumN (h : gI X z) (hR : relR z St) (h0 : ∀ d, d < 40 → x = nI d → St d = none) : Te (fun K => qe_X13_summands K x z) (rFl X z 1) := by
  have h1 := gI_1 (c := 0) h
  have hR1 := relR_1 (c := 0) hR
  refine e_X13_summands ?_
  refine u_X13_summands_0 ?_; unfold qm_X13_summands_0
  refine w_wrF (w_hasX hR1 (fun _ => w_ifT rfl (w_failX (k := 1) h1 fr_1)) (fun d A sg hd hx hSt hv hne => ?_))
  rw [h0 d hd hx] at hSt
  cases hSt
theorem xq_sum {d : Nat} (hR : relR z St) (hd : d < 40) (hSt : St d = some (A, sg)) (hi : isoN A sg f T) (hv : vn T.1 T.2.2.1) : Te (fun K => qe_X13_summands K (nI d) z) (smE T) := by
  have hR1 := relR_1 (c := 0) hR
  refine e_X13_summands ?_
  refine u_X13_summands_0 ?_; unfold qm_X13_summands_0
  refine w_wrF (w_hasX hR1 (fun h0 => ?_) (fun d' A' sg' hd' hx hSt' hvr hne => w_ifF (by decide) ?_))
  · rw [h0 d hd rfl] at hSt
    cases hSt
  have ed := nI_inj9 (a := d) (b := d') (by omega) (by omega) hx
  subst ed
  rw [hSt] at hSt'
  cases hSt'
  have hT12 := hi.2.2.1
  refine w_cs0 (to_open pn2 hd hvr) (fun z2 ⟨o1, f1⟩ => w_cs0 (tn_split pn2 (by have := o1.len; omega) (by have := o1.2.2.2; omega) (wkF_ok o1.wk) o1.1) (fun z3 ⟨f3, P, hpt⟩ => ?_))
  have o3 : oNet z3 2000 A sg := oNet_fr f3 (fun g hg => by rcases hg with hg | hg <;> omega) o1
  have e1 : z3.1 1 = 0 := by
    rw [(f3 1 (fun hg => by rcases hg with hg | hg <;> omega)).1, (f1 1 (by omega)).1]
    exact po_usF_at
  have hl := o3.len
  have hC := o3.2.2.2
  have hdk := wkF_ok o3.wk
  obtain ⟨m, hk, hmz⟩ := mk_of (by omega) hpt
  have hP := hpt.2.1
  let K1 : ow_MS → Prop := fun y => fr (fun g => 2 ≤ g ∧ g ≤ 9 ∨ g = 37 ∨ g = 38 ∨ 3001 ≤ g ∧ g ≤ 3013) z3 y
  have oK : ∀ {y : ow_MS}, K1 y → oNet y 2000 A sg := fun hf => oNet_fr hf (fun g hg => by omega) o3
  have ph1 : ∀ (k p : Nat) (L : List ptT) (y : ow_MS), p + k = P → K1 y → wRx y L → prtP T A f m p L → Tt (fun K i => q_X13_summands K i 1 (nI d) (nI L.length) (nI p) 0 0 0 0 0 y) (smE T) := by
    intro k
    induction k with
    | zero =>
      intro p L y hp hf hw hD
      have hpP : p = P := by omega
      rw [hpP] at hD
      have e13 : y.1 2013 = nI P := by rw [(hf 2013 (by omega)).1]; exact hpt.1
      refine u_X13_summands_1 ?_; unfold qm_X13_summands_1
      refine w_rdF e13 (w_leT (by omega) (by omega) (w_wrF ?_))
      refine xp_sum2 hT12 24 L [] _ _ (by rw [List.length_nil]; omega) ⟨?_, wRx_eq (y := y) L (fun i _ => rfl) hw, ⟨[], ⟨Nat.zero_le _, po_usF_at, fun k A sg hk => by rw [List.getElem?_nil] at hk; cases hk⟩, List.Pairwise.nil, List.Perm.nil⟩, fun d hd => absurd hd List.not_mem_nil, 0, T.2.2.1, hv, rfl, ?_⟩
      · have := (hf 1 (by omega)).1
        exact rf_ot (by omega) (this.trans e1)
      · rw [List.append_nil]
        exact ini_end hi hk hD
    | succ k ih =>
      intro p L y hp hf hw hD
      have e13 : y.1 2013 = nI P := by rw [(hf 2013 (by omega)).1]; exact hpt.1
      have hLl := prt_len hD.1 hD.2.2.2
      have l2 : ∀ (dd v : Nat) (x4 : Int32) (y : ow_MS), v + dd = A.flatten.length → K1 y → wRx y L → (∀ v', v' < v → y.2.1 38 v' = bZ (decide (m (rn_c A v') = p))) → ((x4 = 0 ∧ ∀ v', v' < v → m (rn_c A v') ≠ p) ∨ x4 = 1 ∧ ∃ v', v' < v ∧ m (rn_c A v') = p) → Tt (fun K i => q_X13_summands K i 2 (nI d) (nI L.length) (nI p) x4 (nI v) 0 0 0 y) (smE T) := by
        intro dd
        induction dd with
        | zero =>
          intro v x4 y hv9 hf hw hr hx
          have hvV : v = A.flatten.length := by omega
          rw [hvV] at hr hx ⊢
          have c4 : ∀ (x4 : Int32) (L2 : List ptT) (y2 : ow_MS), K1 y2 → wRx y2 L2 → prtP T A f m (p + 1) L2 → Tt (fun K i => q_X13_summands K i 4 (nI d) (nI L2.length) (nI p) x4 (nI A.flatten.length) 0 0 0 y2) (smE T) := by
            intro x4 L2 y2 hf2 hw2 hs2
            refine u_X13_summands_4 ?_; unfold qm_X13_summands_4
            rw [nI_1]
            exact ih (p + 1) L2 y2 (by omega) hf2 hw2 hs2
          refine u_X13_summands_2 ?_; unfold qm_X13_summands_2
          refine w_rdF (oK hf).1.V (w_leT (by omega) (Nat.le_refl _) ?_)
          rcases hx with ⟨hx, hno⟩ | ⟨hx, v0, hv0, hm0⟩
          · subst hx
            exact w_ifT rfl (c4 0 L y hf hw (ini_no hD hno))
          · subst hx
            have hclo : ∀ v', v' < A.flatten.length → y.2.1 38 v' = bZ true → y.2.1 38 (mtf A v') = bZ true := by
              intro v' hv' h9
              have hml := mtf_lt hdk hv'
              rw [hr _ hv'] at h9
              have hmp : m (rn_c A v') = p := by
                by_cases h8 : m (rn_c A v') = p
                · exact h8
                · rw [decide_eq_false h8] at h9
                  exact absurd h9 (by decide)
              rw [hr _ hml, ← hk.2.1 _ _ ⟨v', mtf A v', mtf_mt hdk hv', rfl, rfl⟩, hmp, decide_eq_true rfl]
            rw [nI_1]
            refine w_ifF (by decide) (w_cs0 (xp_waits (b := true) pn2 (by omega) (by omega) (oK hf) hclo) (fun y5 ⟨⟨m5, P5, k5, r5⟩, f5, i5⟩ => ?_))
            have ew : wfW A (fun v => decide (y.2.1 38 v = bZ true)) A.length = wfW A (fun v => decide (m (rn_c A v) = p)) A.length := wfW_cg (fun v hv9 => by
              show decide (y.2.1 38 v = bZ true) = decide (m (rn_c A v) = p)
              rw [hr v hv9]
              cases decide (m (rn_c A v) = p) <;> decide) _
            rw [ew] at k5 r5
            obtain ⟨d5, q1, q2⟩ := ini_s hi hv hk hC hD hv0 hm0 k5
            rw [q1] at r5
            have w5 := q2.1 d5 List.mem_cons_self
            exact c4 1 (d5 :: L) y5 (fr_tr hf (fr_mono (fun g hg => by omega) f5)) ⟨⟨r5, w5.2.2.2⟩, wRx_eq L (fun i hi => i5 i (by omega)) hw⟩ q2
        | succ dd ihd =>
          intro v x4 y hv9 hf hw hr hx
          have hvl : v < A.flatten.length := by omega
          have hcl := (rn_c_in A v hvl).1
          have e12 : y.2.1 2012 (rn_c A v) = nI (m (rn_c A v)) := by
            rw [(hf 2012 (by omega)).2.1]
            exact hmz _ hcl
          have hmP := hk.1 _ hcl
          have c3 : ∀ (b : Bool), decide (m (rn_c A v) = p) = b → Tt (fun K i => q_X13_summands K i 3 (nI d) (nI L.length) (nI p) x4 (nI v) 0 (bZ b) (nI v) y) (smE T) := by
            intro b hb
            refine u_X13_summands_3 ?_; unfold qm_X13_summands_3
            rw [nI_1]
            refine w_wrZ ml38 rfl (by omega) (w_rdI ml38 rfl (by omega) (x := bZ b) (by rw [po_usI_at]; cases b <;> rfl) ?_)
            have f9 : fr (fun g => g = 38) y (usI y 38 v (vp_nar .boolean (bZ b))) := fr_I rfl
            refine ihd (v + 1) (x4 ||| bZ b) _ (by omega) (fr_tr hf (fr_mono (fun g hg => by omega) f9)) (wRx_eq L (fun i _ => by rw [(f9 37 (by omega)).2.1]) hw) (fun v' hv' => ?_) ?_
            · by_cases hvv : v' = v
              · rw [hvv, po_usI_at, hb]
                cases b <;> rfl
              · rw [po_usI_ne hvv]
                exact hr v' (by omega)
            · rcases hx with ⟨e0, hall⟩ | ⟨e0, v0, hv0, hm0⟩
              · subst e0
                cases b with
                | true => exact Or.inr ⟨by decide, v, by omega, of_decide_eq_true hb⟩
                | false =>
                  refine Or.inl ⟨by decide, fun v' hv' => ?_⟩
                  by_cases hvv : v' = v
                  · rw [hvv]; exact of_decide_eq_false hb
                  · exact hall v' (by omega)
              · subst e0
                exact Or.inr ⟨by cases b <;> decide, v0, by omega, hm0⟩
          refine u_X13_summands_2 ?_; unfold qm_X13_summands_2
          exact w_rdF (oK hf).1.V (w_leF (by omega) (by omega) (w_rdI (pl8 pn2) rfl (by omega) (lk_c (oK hf).1 hvl) (w_rdI (pl12 pn2) rfl (by omega) e12 (w_eqN (by omega) (by omega) (fun h9 => c3 true (decide_eq_true h9)) (fun h9 => c3 false (decide_eq_false h9))))))
      refine u_X13_summands_1 ?_; unfold qm_X13_summands_1
      exact w_rdF e13 (w_leF (by omega) (by omega) (l2 A.flatten.length 0 0 y (by omega) hf hw (fun v' hv' => by omega) (Or.inl ⟨rfl, fun v' hv' => by omega⟩)))
  exact ph1 P 0 [] z3 (by omega) fr_rf trivial ini_0
end XTB
