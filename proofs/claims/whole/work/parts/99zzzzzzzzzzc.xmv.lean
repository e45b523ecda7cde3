/-! both sides: moved, summand (given that the lists are related) -/
/-- the rows of a list of diagrams: rows h, order h', their number at n -/
def rlR (h h' n m : Nat) (z : ow_MS) (Ms : List (rn_L × (Nat → Bool))) : Prop := Ms.length ≤ m ∧ z.1 n = nI Ms.length ∧ ∀ (k : Nat) A sg, Ms[k]? = some (A, sg) → ∃ j, j < Ms.length ∧ z.2.1 h' k = nI j ∧ A ≠ [] ∧ vRow z h (32 * j) A sg
def rlC (g p : Nat) (y : ow_MS) (Ms : List (rn_L × (Nat → Bool))) : Prop := ∃ Cs os, tbO y g p Cs os ∧ os.length = Ms.length ∧ ∀ (k : Nat) A sg, Ms[k]? = some (A, sg) → atC Cs os k = clC sg A
def okM (Ms : List (rn_L × (Nat → Bool))) : Prop := ∀ (k : Nat) A sg, Ms[k]? = some (A, sg) → A ≠ [] ∧ plnA A sg ∧ ∃ c, okL A c
section XMV
variable {X : (Nat → Nat → Int32) → Prop} {z : ow_MS} {St : plT}
theorem xr_keepRow {h o la d : Nat} {A : rn_L} {sg : Nat → Bool} (hI : gI X z) (hR : relR z St) (hlf : lstF St d) (hh : h ≠ 12) (hla : (mX.2 h).2.1 = la) (ha : la < 2 ^ 30) (ho : o + 32 ≤ la) (hM : vRow z h o A sg) (hne : A ≠ []) : Te (fun K => qe_X13_keepRow K h (nI o) z) (fun r => gI X r.2 ∧ r.1 = nI d ∧ fr (fun g => g = 12) z r.2 ∧ relR r.2 (upP St d (some (A, sg)))) := by
  let Q : Int32 × ow_MS → Prop := fun r => gI X r.2 ∧ r.1 = nI d ∧ fr (fun g => g = 12) z r.2 ∧ relR r.2 (upP St d (some (A, sg)))
  obtain ⟨r, hr, h1, h2⟩ := xr_free (z := z) hR
  have hd := hlf.1
  have e : r.1 = nI d := by
    rcases h2 with ⟨-, h3⟩ | ⟨d', h3, h4⟩
    · exact absurd hlf.2.1 (h3 d hd)
    · rw [h3, lst_uni2 h4 hlf]
  obtain ⟨hv, h5⟩ := hM
  have hl := hv.1
  have key : ∀ (j k : Nat) (z1 : ow_MS), k + j = (tk sg A).length + 1 → fr (fun g => g = 12) z z1 → (∀ i, i < k → z1.2.1 12 (32 * d + i) = z.2.1 h (o + i)) → (∀ i, i < 32 * d ∨ 32 * d + 32 ≤ i → z1.2.1 12 i = z.2.1 12 i) → Tt (fun K i => q_X13_keepRow K i 1 (nI o) (nI d) (nI k) h z1) Q := by
    intro j
    induction j with
    | zero =>
      intro k z1 hk hf hc hi
      have e0 : z1.2.1 h o = nI (tk sg A).length := by rw [(hf h hh).2.1]; exact hv.2.2.1
      have hrow : vRow z1 12 (32 * d) A sg := ⟨⟨hl, hv.2.1, ?_, fun i t hi9 => ?_⟩, h5⟩
      · refine u_X13_keepRow_1 ?_; unfold qm_X13_keepRow_1
        exact w_rdI hla rfl (by omega) e0 (w_ltT (by omega) (by omega) (w_some ⟨gI_rows hf (fun g hg => Or.inl hg) (gRows_put ⟨A, sg, hrow⟩ hi hI.2.1) hI, rfl, hf, relR_put hR hd hne hrow hi⟩))
      · have := hc 0 (by omega)
        rw [Nat.add_zero, Nat.add_zero] at this
        rw [this]
        exact hv.2.2.1
      · have := (List.getElem?_eq_some_iff.mp hi9).1
        rw [hc (i + 1) (by omega)]
        exact hv.2.2.2 i t hi9
    | succ j ih =>
      intro k z1 hk hf hc hi
      have e0 : z1.2.1 h o = nI (tk sg A).length := by rw [(hf h hh).2.1]; exact hv.2.2.1
      refine u_X13_keepRow_1 ?_; unfold qm_X13_keepRow_1
      rw [nI_add, show (32 : Int32) * nI d = nI (32 * d) from pk_mul 32 d, nI_add, nI_1]
      refine w_rdI hla rfl (by omega) e0 (w_ltF (by omega) (by omega) (w_rdI hla rfl (by omega) (by rw [(hf h hh).2.1]) (w_wrI ml12 rfl (by omega) ?_)))
      refine ih (k + 1) _ (by omega) (fr_I2 hf rfl) (fun i hi9 => ?_) (fun i hi9 => rd_ne (by omega) (hi i hi9))
      by_cases hik : i = k
      · rw [hik, po_usI_at]
      · exact rd_ne (by omega) (hc i (by omega))
  refine e_X13_keepRow ?_
  refine u_X13_keepRow_0 ?_; unfold qm_X13_keepRow_0
  refine w_cs1 (R := fun r => r = (nI d, z)) ⟨r, hr, Prod.ext e h1⟩ (fun a z1 e9 => ?_)
  cases e9
  exact key ((tk sg A).length + 1) 0 z (by omega) fr_rf (fun i hi => by omega) (fun i _ => rfl)
theorem xq_moved {k : Int32} {Ms : List (rn_L × (Nat → Bool))} (h : gI X z) (hR : relR z St) (hM : rlR 20 21 22 2700 z Ms) : Te (fun K => qe_X13_moved K k z) (fun r => (rFl X z 1 r ∧ ¬ in9 k Ms.length ∨ ∃ j A sg, Ms[j]? = some (A, sg) ∧ k = nI j ∧ (rFl X z 2 r ∧ allF St ∨ ∃ e, lstF St e ∧ r.1 = nI e ∧ gI X r.2 ∧ r.2.1 1 = 0 ∧ fr rPk z r.2 ∧ relR r.2 (upP St e (some (A, sg)))))) := by
  let Q : Int32 × ow_MS → Prop := fun r => (rFl X z 1 r ∧ ¬ in9 k Ms.length ∨ ∃ j A sg, Ms[j]? = some (A, sg) ∧ k = nI j ∧ (rFl X z 2 r ∧ allF St ∨ ∃ e, lstF St e ∧ r.1 = nI e ∧ gI X r.2 ∧ r.2.1 1 = 0 ∧ fr rPk z r.2 ∧ relR r.2 (upP St e (some (A, sg)))))
  have h1 := gI_1 (c := 0) h
  have hR1 := relR_1 (c := 0) hR
  obtain ⟨hm, hM1, hM2⟩ := hM
  have c1 : ¬ in9 k Ms.length → Tt (fun K i => q_X13_moved K i 1 k (usF z 1 0)) Q := by
    intro hno
    refine u_X13_moved_1 ?_; unfold qm_X13_moved_1
    exact w_mono (w_failX (k := 1) h1 fr_1) (fun r hr => Or.inl ⟨hr, hno⟩)
  have hk9 := in9_iff (x := k) (n := Ms.length) (by omega)
  have l2 : (usF z 1 0).1 22 = nI Ms.length := (usF_n9 (by decide)).trans hM1
  refine e_X13_moved ?_
  refine u_X13_moved_0 ?_; unfold qm_X13_moved_0
  refine w_wrF (w_if (fun h9 => c1 (fun h8 => (hk9.mp h8).1 h9)) (fun h0 => w_rdF l2 (w_if (fun h9 => ?_) (fun h9 => c1 (fun h8 => h9 (hk9.mp h8).2)))))
  obtain ⟨j, hj, rfl⟩ := hk9.mpr ⟨h0, h9⟩
  obtain ⟨C, hC⟩ : ∃ C, Ms[j]? = some C := ⟨_, List.getElem?_eq_getElem hj⟩
  obtain ⟨A, sg⟩ := C
  obtain ⟨i, i1, i2, i3, i4⟩ := hM2 j A sg hC
  have i4 : vRow (usF z 1 0) 20 (32 * i) A sg := i4
  refine w_freeX hR1 (fun h0 => w_ifT rfl (w_mono (w_failX (k := 2) h1 fr_1) (fun r hr => Or.inr ⟨j, A, sg, hC, rfl, Or.inl ⟨hr, h0⟩⟩))) (fun f hlf => w_ifF (rn_neg1 (by have := hlf.1; omega)) (w_rdI ml21 rfl (by omega) i2 ?_))
  rw [show (32 : Int32) * nI i = nI (32 * i) from pk_mul 32 i]
  refine w_cs1 (xr_keepRow h1 hR1 hlf (by omega) ml20 (by omega) (by omega) i4 i3) (fun a z1 ⟨q1, q2, q3, q4⟩ => w_some (Or.inr ⟨j, A, sg, hC, rfl, Or.inr ⟨f, hlf, q2, q1, ?_, fr_tr (fr_F (Or.inl rfl)) (fr_mono (fun g hg => Or.inr (Or.inl hg)) q3), q4⟩⟩))
  show z1.1 1 = 0
  rw [(q3 1 (by omega)).1]
  exact po_usF_at
theorem xq_summand {k : Int32} {Ms : List (rn_L × (Nat → Bool))} (h : gI X z) (hR : relR z St) (hM : rlR 35 39 36 16 z Ms) : Te (fun K => qe_X13_summand K k z) (fun r => (rFl X z 1 r ∧ ¬ in9 k Ms.length ∨ ∃ j A sg, Ms[j]? = some (A, sg) ∧ k = nI j ∧ (rFl X z 2 r ∧ allF St ∨ ∃ e, lstF St e ∧ r.1 = nI e ∧ gI X r.2 ∧ r.2.1 1 = 0 ∧ fr rPk z r.2 ∧ relR r.2 (upP St e (some (A, sg)))))) := by
  let Q : Int32 × ow_MS → Prop := fun r => (rFl X z 1 r ∧ ¬ in9 k Ms.length ∨ ∃ j A sg, Ms[j]? = some (A, sg) ∧ k = nI j ∧ (rFl X z 2 r ∧ allF St ∨ ∃ e, lstF St e ∧ r.1 = nI e ∧ gI X r.2 ∧ r.2.1 1 = 0 ∧ fr rPk z r.2 ∧ relR r.2 (upP St e (some (A, sg)))))
  have h1 := gI_1 (c := 0) h
  have hR1 := relR_1 (c := 0) hR
  obtain ⟨hm, hM1, hM2⟩ := hM
  have c1 : ¬ in9 k Ms.length → Tt (fun K i => q_X13_summand K i 1 k (usF z 1 0)) Q := by
    intro hno
    refine u_X13_summand_1 ?_; unfold qm_X13_summand_1
    exact w_mono (w_failX (k := 1) h1 fr_1) (fun r hr => Or.inl ⟨hr, hno⟩)
  have hk9 := in9_iff (x := k) (n := Ms.length) (by omega)
  have l2 : (usF z 1 0).1 36 = nI Ms.length := (usF_n9 (by decide)).trans hM1
  refine e_X13_summand ?_
  refine u_X13_summand_0 ?_; unfold qm_X13_summand_0
  refine w_wrF (w_if (fun h9 => c1 (fun h8 => (hk9.mp h8).1 h9)) (fun h0 => w_rdF l2 (w_if (fun h9 => ?_) (fun h9 => c1 (fun h8 => h9 (hk9.mp h8).2)))))
  obtain ⟨j, hj, rfl⟩ := hk9.mpr ⟨h0, h9⟩
  obtain ⟨C, hC⟩ : ∃ C, Ms[j]? = some C := ⟨_, List.getElem?_eq_getElem hj⟩
  obtain ⟨A, sg⟩ := C
  obtain ⟨i, i1, i2, i3, i4⟩ := hM2 j A sg hC
  have i4 : vRow (usF z 1 0) 35 (32 * i) A sg := i4
  refine w_freeX hR1 (fun h0 => w_ifT rfl (w_mono (w_failX (k := 2) h1 fr_1) (fun r hr => Or.inr ⟨j, A, sg, hC, rfl, Or.inl ⟨hr, h0⟩⟩))) (fun f hlf => w_ifF (rn_neg1 (by have := hlf.1; omega)) (w_rdI ml39 rfl (by omega) i2 ?_))
  rw [show (32 : Int32) * nI i = nI (32 * i) from pk_mul 32 i]
  refine w_cs1 (xr_keepRow h1 hR1 hlf (by omega) ml35 (by omega) (by omega) i4 i3) (fun a z1 ⟨q1, q2, q3, q4⟩ => w_some (Or.inr ⟨j, A, sg, hC, rfl, Or.inr ⟨f, hlf, q2, q1, ?_, fr_tr (fr_F (Or.inl rfl)) (fr_mono (fun g hg => Or.inr (Or.inl hg)) q3), q4⟩⟩))
  show z1.1 1 = 0
  rw [(q3 1 (by omega)).1]
  exact po_usF_at
end XMV
section XMC
variable {vl : Nat → Nat} {y : ow_MS} {St : plT} {x : Int32}
theorem xc_copyOut {g p : Nat} {Ms : List (rn_L × (Nat → Bool))} (hg : tH g p) (hg2 : g = 2000 ∨ g = 3000) (hM : rlC g p y Ms) (hO : okM Ms) (hN : gM y) (hC : relC y St) (hS : okS St) : Te (fun K => ce_X11_copyOut vl K 0 g x y) (fun r => gM r.2.2 ∧ (r.1 = 1 ∧ r.2.2 = y ∧ ¬ in9 x Ms.length ∨ ∃ j A sg, Ms[j]? = some (A, sg) ∧ x = nI j ∧ (r.1 = 3 ∧ r.2.2 = y ∧ allF St ∨ r.1 = 0 ∧ ∃ e, lstF St e ∧ r.2.1 = nI e ∧ fr (cW 1000) y r.2.2 ∧ relC r.2.2 (upP St e (some (A, sg)))))) := by
  have hp := tH_p hg
  obtain ⟨Cs, os, hT, hos, hat⟩ := hM
  have hl := hT.2.2.2.1
  have hx9 := in9_iff (x := x) (n := Ms.length) (by omega)
  have hc5 := hT.1.1
  rw [hos] at hc5
  refine e_X11_copyOut ?_; unfold cm_X11_copyOut_0
  refine w_if (fun h9 => w_some ⟨hN, Or.inl ⟨rfl, rfl, fun h8 => (hx9.mp h8).1 h9⟩⟩) (fun e0 => w_rdF hc5 (w_if (fun h9 => ?_) (fun h9 => w_some ⟨hN, Or.inl ⟨rfl, rfl, fun h8 => h9 (hx9.mp h8).2⟩⟩)))
  obtain ⟨k, hk, rfl⟩ := hx9.mpr ⟨e0, h9⟩
  obtain ⟨C, hC0⟩ : ∃ C, Ms[k]? = some C := ⟨_, List.getElem?_eq_getElem hk⟩
  obtain ⟨A, sg⟩ := C
  have eat := hat k A sg hC0
  obtain ⟨o1, o2, c, o3⟩ := hO k A sg hC0
  refine w_tc1 (xc_free hN.1.1 hC hS) ?_ ?_
  · rintro v y2 ⟨h2, rfl⟩
    rcases h2 with h2 | ⟨-, e, rfl, hlf⟩
    · exact absurd (show (0 : Nat) = 3 from h2.1) (by decide)
    · obtain ⟨s, s1, s2, s3, s4⟩ := tab_at hT.1 (show k < os.length by omega)
      have hCl : Cs.length = os.length := hT.1.2.1
      refine w_crI (tH_4 hg) rfl (show k < p by omega) s2 (w_cs0 (tc_write ch_1000 hg (by omega) hlf.1 (show s < p by omega) s3 s4 hT.2.2.2.2) ?_)
      rintro y4 ⟨w1, w2, w3, w4⟩
      rw [eat] at w1
      exact w_some ⟨⟨gN_put hN.1 ⟨A, sg, c, o3, rfl⟩ w1 w2 w3 w4, tbs_fr w4 (fun g hg => by unfold cW at hg; omega) hN.2⟩, Or.inr ⟨k, A, sg, hC0, rfl, Or.inr ⟨rfl, e, hlf, rfl, w4, relC_put hN.1.1 hC hS w1 w2⟩⟩⟩
  · rintro a v y2 ha ⟨h2, rfl⟩
    rcases h2 with h2 | h2
    · exact w_some ⟨hN, Or.inr ⟨k, A, sg, hC0, rfl, Or.inl ⟨h2.1, rfl, h2.2⟩⟩⟩
    · exact absurd h2.1 ha
end XMC
