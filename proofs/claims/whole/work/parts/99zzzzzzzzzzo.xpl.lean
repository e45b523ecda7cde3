/-! the reference's isPlane, exactly: faces counted on both sides -/
def wkF3 (A : rn_L) (sg : Nat → Bool) (Lb : Nat → Nat) (f : Nat) (M : Nat → Int32) : Prop := wkF2 A sg f M ∧ ∀ f', f' < f → (∃ s, s < 2 * A.flatten.length ∧ M s = nI f') ∧ ∀ s s', s < 2 * A.flatten.length → s' < 2 * A.flatten.length → M s = nI f' → M s' = nI f' → Lb s = Lb s'
theorem xr_walk {n : Nat} {z : ow_MS} {A : rn_L} {sg : Nat → Bool} {Lb : Nat → Nat} (hn : mw_net n) (hlen : A.flatten.length ≤ 40) (hd : rn_ok A.flatten) (hL : rn_lk z n A) (hG : rn_sg z n A.flatten sg) (hLb : ∀ s, s < 2 * A.flatten.length → Lb (phi A sg s) = Lb s) : Te (fun K => qe_X12_walk K n z) (fun z1 => fr (frW n) z z1 ∧ ∃ F, rn_fc z1 n A.flatten.length F ∧ wkF3 A sg Lb F (z1.2.1 (n + 14))) := by
  have frK : ∀ {y y1 : ow_MS}, fr (frW n) y y1 → rn_lk y n A → rn_lk y1 n A := fun hf h => fr_lk hf (fun g hg => by rcases hg with hg | hg | hg <;> omega) h
  have frS : ∀ {y y1 : ow_MS}, fr (frW n) y y1 → rn_sg y n A.flatten sg → rn_sg y1 n A.flatten sg := fun hf h p hp => by
    rw [(hf (n + 6) (by omega)).2.1]
    exact h p hp
  let Q : ow_MS → Prop := fun z1 => fr (frW n) z z1 ∧ ∃ F, rn_fc z1 n A.flatten.length F ∧ wkF3 A sg Lb F (z1.2.1 (n + 14))
  obtain ⟨V, hV⟩ : ∃ V, A.flatten.length = V := ⟨_, rfl⟩
  have V40 : V ≤ 40 := by omega
  have turn : ∀ (k0 a : Nat) (z1 : ow_MS), fr (frW n) z z1 → a < 2 * V → Tt (fun K k => q_X12_walk K k 3 (nI k0) (nI (phi A sg a)) 0 0 0 0 n 0 z1) Q → Tt (fun K k => q_X12_walk K k 4 (nI k0) (nI a) 0 0 0 0 n (nI (hdv A a)) z1) Q := by
    intro k0 a z1 hf ha hout
    have hL1 := frK hf hL
    have hv2 : hdv A a < A.flatten.length := hdv_lt (by omega)
    obtain ⟨v, hv⟩ : ∃ v, v = hdv A a := ⟨_, rfl⟩
    rw [← hv] at hv2 ⊢
    have hp := vAt_of hv2
    obtain ⟨hx, hu⟩ := hd.1.2 v _ hp
    obtain ⟨e4, e5⟩ := lk_cu hL1 hv2
    have hwl := mtf_lt hd hv2
    have e7 := lk_m hd hL1 hv2
    have e10 := lk_p hL1 hwl
    have hpv := rn_pv_lt (A := A) hwl
    have e6 : z1.2.1 (n + 6) (crs A v) = if sg (crs A v) then -1 else 1 := frS hf hG _ (List.mem_of_getElem? hp)
    have c9 : ∀ (x4 : Int32), Tt (fun K k => q_X12_walk K k 9 (nI k0) (nI a) (nI v) x4 0 0 n (nI (wyv A sg a)) z1) Q := by
      intro x4
      have hw2 := wyv_lt (A := A) (sg := sg) (s := a)
      refine u_X12_walk_9 ?_; unfold qm_X12_walk_9
      refine w_rdI (pl7 hn) rfl (by omega) e7 (w_eqN (b := 0) (by omega) (by omega) (fun h9 => ?_) (fun h9 => w_rdI (pl10 hn) rfl (by omega) e10 ?_))
      · refine u_X12_walk_10 ?_; unfold qm_X12_walk_10
        rw [rn_mul2]
        unfold phi at hout
        rw [if_pos h9, ← hv] at hout
        exact hout
      · refine u_X12_walk_10 ?_; unfold qm_X12_walk_10
        rw [rn_mul2, nI_1]
        unfold phi at hout
        rw [if_neg h9, ← hv] at hout
        exact hout
    have c8 : ∀ (b : Bool), smv A sg v = b → Tt (fun K k => q_X12_walk K k 8 (nI k0) (nI a) (nI v) 0 0 0 n (bZ b) z1) Q := by
      intro b hb
      have hwy : wyv A sg a = if b then a % 2 else 1 - a % 2 := by
        unfold wyv
        rw [← hv, hb]
      have h9 := c9 (bZ b)
      rw [hwy] at h9
      refine u_X12_walk_8 ?_; unfold qm_X12_walk_8
      rw [rn_and1 (by omega)]
      cases b with
      | false =>
        refine w_ifT rfl ?_
        rw [show (1 : Int32) - nI (a % 2) = nI (1 - a % 2) from pk_sub (a := 1) (by omega)]
        exact h9
      | true => exact w_ifF (by decide) h9
    have c6 : smv A sg v = true → Tt (fun K k => q_X12_walk K k 6 (nI k0) (nI a) (nI v) 0 0 0 n 0 z1) Q := by
      intro hb
      refine u_X12_walk_6 ?_; unfold qm_X12_walk_6
      exact c8 true hb
    have c7 : smv A sg v = false → Tt (fun K k => q_X12_walk K k 7 (nI k0) (nI a) (nI v) 0 0 0 n 0 z1) Q := by
      intro hb
      refine u_X12_walk_7 ?_; unfold qm_X12_walk_7
      exact c8 false hb
    have hu9 : uns A v < 2 := hu
    have c5 : ¬ (uns A v = 0 ∧ sg (crs A v) = false) → Tt (fun K k => q_X12_walk K k 5 (nI k0) (nI a) (nI v) 0 0 0 n 0 z1) Q := by
      intro hno
      refine u_X12_walk_5 ?_; unfold qm_X12_walk_5
      refine w_rdI (pl5 hn) rfl (by omega) e5 (w_eqN (b := 1) (by omega) (by omega) (fun h9 => w_rdI (pl4 hn) rfl (by omega) e4 (w_rdI (pl6 hn) rfl hx e6 ?_)) (fun h9 => c7 ?_))
      · cases hs : sg (crs A v) with
        | true =>
          refine w_ifF (by decide) (c6 ?_)
          unfold smv
          rw [hs, decide_eq_true h9, Bool.and_self, Bool.or_true]
        | false =>
          refine w_ifT (by decide) (c7 ?_)
          unfold smv
          rw [hs, decide_eq_false (by omega)]
          simp
      · have h0 : uns A v = 0 := by omega
        have hs : sg (crs A v) = true := by
          cases hs : sg (crs A v) with
          | true => rfl
          | false => exact absurd ⟨h0, hs⟩ hno
        unfold smv
        rw [hs, decide_eq_false h9]
        simp
    refine u_X12_walk_4 ?_; unfold qm_X12_walk_4
    refine w_rdI (pl5 hn) rfl (by omega) e5 (w_eqN (b := 0) (by omega) (by omega) (fun h9 => w_rdI (pl4 hn) rfl (by omega) e4 (w_rdI (pl6 hn) rfl hx e6 ?_)) (fun h9 => c5 (fun h8 => h9 h8.1)))
    cases hs : sg (crs A v) with
    | true => exact w_ifF (by decide) (c5 (fun h8 => by rw [hs] at h8; exact absurd h8.2 (by decide)))
    | false =>
      refine w_ifT (by decide) (c6 ?_)
      unfold smv
      rw [hs, decide_eq_true h9]
      rfl
  have inn : ∀ (k0 f : Nat), f < 80 → k0 < 2 * V → ∀ (u t : Nat) (z1 : ow_MS), rn_cU (z1.2.1 (n + 14)) (2 * V) ≤ u → fr (frW n) z z1 → z1.1 (n + 16) = nI f → wkI V f (z1.2.1 (n + 14)) (z1.2.1 (n + 15)) → wkF3 A sg Lb f (z1.2.1 (n + 14)) → itf (phi A sg) t k0 < 2 * V → (∀ s, s < 2 * V → (z1.2.1 (n + 14) s = nI f ↔ ∃ i, i < t ∧ s = itf (phi A sg) i k0)) → (∀ i j, i < j → j < t → itf (phi A sg) i k0 ≠ itf (phi A sg) j k0) → (t = 0 → z1.2.1 (n + 14) k0 = -1) → (∀ z2, fr (frW n) z z2 → z2.1 (n + 16) = nI (f + 1) → wkI V f (z2.2.1 (n + 14)) (z2.2.1 (n + 15)) → wkF3 A sg Lb (f + 1) (z2.2.1 (n + 14)) → z2.2.1 (n + 14) k0 ≠ -1 → (∀ s, z1.2.1 (n + 14) s ≠ -1 → z2.2.1 (n + 14) s ≠ -1) → Tt (fun K k => q_X12_walk K k 11 (nI k0) 0 0 0 0 0 n 0 z2) Q) → Tt (fun K k => q_X12_walk K k 3 (nI k0) (nI (itf (phi A sg) t k0)) 0 0 0 0 n 0 z1) Q := by
    intro k0 f hf80 hk0 u
    -- the end of a face
    have endf : ∀ (t : Nat) (z1 : ow_MS), wkI V f (z1.2.1 (n + 14)) (z1.2.1 (n + 15)) → wkF3 A sg Lb f (z1.2.1 (n + 14)) → itf (phi A sg) t k0 < 2 * V → (∀ s, s < 2 * V → (z1.2.1 (n + 14) s = nI f ↔ ∃ i, i < t ∧ s = itf (phi A sg) i k0)) → (∀ i j, i < j → j < t → itf (phi A sg) i k0 ≠ itf (phi A sg) j k0) → (t = 0 → z1.2.1 (n + 14) k0 = -1) → z1.2.1 (n + 14) (itf (phi A sg) t k0) ≠ -1 → wkF3 A sg Lb (f + 1) (z1.2.1 (n + 14)) ∧ z1.2.1 (n + 14) k0 ≠ -1 := by
      intro t z1 hI hW hat hmk hdi ht0 hM
      have itlt : ∀ i, itf (phi A sg) i k0 < 2 * V := by
        intro i
        induction i with
        | zero => exact hk0
        | succ i ih =>
          have := phi_lt (sg := sg) hd (s := itf (phi A sg) i k0) (by omega)
          show phi A sg (itf (phi A sg) i k0) < _
          omega
      have htp : 0 < t := by
        rcases Nat.eq_zero_or_pos t with e | e
        · exfalso
          have := ht0 e
          rw [e] at hM
          exact hM this
        · exact e
      obtain ⟨t1, rfl⟩ : ∃ t1, t = t1 + 1 := ⟨t - 1, by omega⟩
      have hlast : z1.2.1 (n + 14) (itf (phi A sg) t1 k0) = nI f := (hmk _ (itlt t1)).mpr ⟨t1, by omega, rfl⟩
      have hk : itf (phi A sg) (t1 + 1) k0 = k0 := by
        rcases hI.1 _ hat with h9 | ⟨f', h9, h8⟩
        · exact absurd h9 hM
        · by_cases hff : f' = f
          · rw [hff] at h8
            obtain ⟨i, hi, e⟩ := (hmk _ hat).mp h8
            rcases Nat.eq_zero_or_pos i with e0 | e0
            · rw [e0] at e
              exact e
            · obtain ⟨i1, rfl⟩ : ∃ i1, i = i1 + 1 := ⟨i - 1, by omega⟩
              have e : phi A sg (itf (phi A sg) t1 k0) = phi A sg (itf (phi A sg) i1 k0) := e
              have e9 := phi_inj hd (by have := itlt t1; omega) (by have := itlt i1; omega) e
              exact absurd e9.symm (hdi i1 t1 (by omega) (by omega))
          · have h7 : z1.2.1 (n + 14) (phi A sg (itf (phi A sg) t1 k0)) = nI f' := h8
            have h6 := (hW.1 f' (by omega) _ (by have := itlt t1; omega)).mpr h7
            rw [hlast] at h6
            have := (nI_eq (by omega) (by omega)).mp h6
            omega
      have itL : ∀ i, Lb (itf (phi A sg) i k0) = Lb k0 := by
        intro i
        induction i with
        | zero => rfl
        | succ i ih =>
          have h9 := hLb (itf (phi A sg) i k0) (by have := itlt i; omega)
          exact h9.trans ih
      have hk0f : z1.2.1 (n + 14) k0 = nI f := (hmk k0 hk0).mpr ⟨0, by omega, rfl⟩
      refine ⟨⟨fun f' hf' s hs => ?_, fun f' hf' => ?_⟩, ?_⟩
      · by_cases hff : f' = f
        · subst hff
          have hs' : s < 2 * V := by omega
          have hph := phi_lt (sg := sg) hd hs
          rw [hmk s hs', hmk _ (by omega)]
          constructor
          · rintro ⟨i, hi, e⟩
            by_cases hil : i = t1
            · refine ⟨0, by omega, ?_⟩
              rw [e, hil]
              exact hk
            · exact ⟨i + 1, by omega, by rw [e]; rfl⟩
          · rintro ⟨i, hi, e⟩
            rcases Nat.eq_zero_or_pos i with e0 | e0
            · refine ⟨t1, by omega, phi_inj (sg := sg) hd hs (by have := itlt t1; omega) ?_⟩
              rw [e, e0]
              exact hk.symm
            · obtain ⟨i1, rfl⟩ : ∃ i1, i = i1 + 1 := ⟨i - 1, by omega⟩
              exact ⟨i1, by omega, phi_inj hd hs (by have := itlt i1; omega) e⟩
        · exact hW.1 f' (by omega) s hs
      · by_cases hff : f' = f
        · subst hff
          refine ⟨⟨k0, by omega, hk0f⟩, fun s s' hs hs' e e' => ?_⟩
          obtain ⟨i, -, e1⟩ := (hmk s (by omega)).mp e
          obtain ⟨j, -, e2⟩ := (hmk s' (by omega)).mp e'
          rw [e1, e2, itL, itL]
        · exact hW.2 f' (by omega)
      · have : z1.2.1 (n + 14) k0 = nI f := (hmk k0 hk0).mpr ⟨0, by omega, rfl⟩
        rw [this]
        exact rn_neg1 (by omega)
    induction u with
    | zero =>
      intro t z1 hu hf h16 hI hW hat hmk hdi ht0 hout
      refine u_X12_walk_3 ?_; unfold qm_X12_walk_3
      refine w_rdI (pl14 hn) rfl (by omega) rfl (w_if (fun hM => ?_) (fun hM => w_rdF h16 (w_wrF ?_)))
      · have := rn_cU_upd (M := z1.2.1 (n + 14)) (x := 0) hM (by decide) (2 * V) hat
        omega
      · rw [nI_1]
        obtain ⟨g1, g2⟩ := endf t z1 hI hW hat hmk hdi ht0 hM
        exact hout _ (fr_F2 hf (Or.inr (Or.inr rfl))) po_usF_at hI g1 g2 (fun s hs => hs)
    | succ u ih =>
      intro t z1 hu hf h16 hI hW hat hmk hdi ht0 hout
      obtain ⟨a, haE⟩ : ∃ a, a = itf (phi A sg) t k0 := ⟨_, rfl⟩
      have ha : a < 2 * V := by rw [haE]; exact hat
      refine u_X12_walk_3 ?_; unfold qm_X12_walk_3
      refine w_rdI (pl14 hn) rfl (by omega) rfl (w_if (fun hM => ?_) (fun hM => w_rdF h16 (w_wrF ?_)))
      · rw [← haE] at hM ⊢
        have hne : nI f ≠ -1 := rn_neg1 (by omega)
        have cu := rn_cU_upd (M := z1.2.1 (n + 14)) (x := nI f) hM hne (2 * V) ha
        have hf2 : fr (frW n) z (usI (usI z1 (n + 14) a (nI f)) (n + 15) f (z1.2.1 (n + 15) f + 1)) := fr_I2 (fr_I2 hf (Or.inl rfl)) (Or.inr (Or.inl rfl))
        have r14 : (usI (usI z1 (n + 14) a (nI f)) (n + 15) f (z1.2.1 (n + 15) f + 1)).2.1 (n + 14) = upd (z1.2.1 (n + 14)) a (nI f) := by
          rw [po_usI_ot (by omega), po_usI_row]
        have r15 : (usI (usI z1 (n + 14) a (nI f)) (n + 15) f (z1.2.1 (n + 15) f + 1)).2.1 (n + 15) = upd (z1.2.1 (n + 15)) f (z1.2.1 (n + 15) f + 1) := by
          rw [po_usI_row, po_usI_ot (by omega)]
        have hna : ∀ i, i < t → itf (phi A sg) i k0 ≠ a := by
          intro i hi e
          have : z1.2.1 (n + 14) a = nI f := (hmk a ha).mpr ⟨i, hi, e.symm⟩
          rw [hM] at this
          exact hne this.symm
        have hphl := phi_lt (sg := sg) hd (s := a) (by omega)
        have go4 : Tt (fun K k => q_X12_walk K k 4 (nI k0) (nI a) 0 0 0 0 n (nI (hdv A a)) (usI (usI z1 (n + 14) a (nI f)) (n + 15) f (z1.2.1 (n + 15) f + 1))) Q := by
          refine turn k0 a _ hf2 ha ?_
          have step := ih (t + 1) (usI (usI z1 (n + 14) a (nI f)) (n + 15) f (z1.2.1 (n + 15) f + 1)) (by rw [r14]; omega) hf2 h16 (by rw [r14, r15]; exact wkI_st (by omega) ha hM hI) (by
            rw [r14]
            refine ⟨?_, fun f' hf' => ?_⟩
            rotate_left
            · have ne1 : nI f ≠ nI f' := fun e => by have := (nI_eq (by omega) (by omega)).mp e; omega
              have un : ∀ s, upd (z1.2.1 (n + 14)) a (nI f) s = nI f' → z1.2.1 (n + 14) s = nI f' := fun s e => by
                by_cases hsa : s = a
                · rw [hsa, pk_us] at e
                  exact absurd e ne1
                · rw [pk_un hsa] at e
                  exact e
              obtain ⟨⟨s0, s1, s2⟩, h9⟩ := hW.2 f' hf'
              refine ⟨⟨s0, s1, ?_⟩, fun s s' hs hs' e e' => h9 s s' hs hs' (un s e) (un s' e')⟩
              rw [pk_un (fun e => by
                rw [e, hM] at s2
                exact rn_neg1 (v := f') (by omega) s2.symm)]
              exact s2
            intro f' hf' s hs
            have ne1 : nI f ≠ nI f' := fun e => by have := (nI_eq (by omega) (by omega)).mp e; omega
            by_cases hsa : s = a
            · rw [hsa, pk_us]
              have hMa : z1.2.1 (n + 14) a ≠ nI f' := by rw [hM]; exact fun e => rn_neg1 (v := f') (by omega) e.symm
              have hp2 : z1.2.1 (n + 14) (phi A sg a) ≠ nI f' := fun e => hMa ((hW.1 f' hf' a (by omega)).mpr e)
              by_cases hpa : phi A sg a = a
              · rw [hpa, pk_us]
              · rw [pk_un hpa]
                exact ⟨fun e => absurd e ne1, fun e => absurd e hp2⟩
            · rw [pk_un hsa]
              by_cases hpa : phi A sg s = a
              · rw [hpa, pk_us]
                have hMa : z1.2.1 (n + 14) a ≠ nI f' := by rw [hM]; exact fun e => rn_neg1 (v := f') (by omega) e.symm
                have h3 := hW.1 f' hf' s hs
                rw [hpa] at h3
                exact ⟨fun e => absurd (h3.mp e) hMa, fun e => absurd e ne1⟩
              · rw [pk_un hpa]
                exact hW.1 f' hf' s hs) (by
            show phi A sg (itf (phi A sg) t k0) < 2 * V
            rw [← haE]
            omega) (by
            rw [r14]
            intro s hs
            by_cases hsa : s = a
            · rw [hsa, pk_us]
              exact ⟨fun _ => ⟨t, by omega, haE⟩, fun _ => rfl⟩
            · rw [pk_un hsa, hmk s hs]
              constructor
              · rintro ⟨i, hi, e⟩
                exact ⟨i, by omega, e⟩
              · rintro ⟨i, hi, e⟩
                by_cases hit : i = t
                · rw [hit, ← haE] at e
                  exact absurd e hsa
                · exact ⟨i, by omega, e⟩) (by
            intro i j hij hj
            by_cases hjt : j = t
            · rw [hjt, ← haE]
              exact hna i (by omega)
            · exact hdi i j hij (by omega)) (fun e => by omega) (fun z2 g1 g2 g3 g4 g5 g6 => by
            rw [r14] at g6
            refine hout z2 g1 g2 g3 g4 g5 (fun s hs => ?_)
            by_cases hsa : s = a
            · exact g6 s (by rw [hsa, pk_us]; exact hne)
            · exact g6 s (by rw [pk_un hsa]; exact hs))
          have e1 : itf (phi A sg) (t + 1) k0 = phi A sg a := by
            rw [haE]
            rfl
          rw [e1] at step
          exact step
        have e9 := ((frK hf2 hL).2.1 (a / 2) (by omega)).2.1
        refine w_rdF h16 (w_wrI (pl14 hn) rfl (by omega) (w_rdF h16 (w_rdI (pl15 hn) rfl hf80 (rd_ot (by omega) rfl) (w_wrI (pl15 hn) rfl hf80 ?_))))
        rw [rn_shr1 (by omega), rn_and1 (by omega)]
        refine w_eqN (b := 0) (by omega) (by omega) (fun h9 => w_rdI (pl9 hn) rfl (by omega) e9 ?_) (fun h9 => ?_)
        · unfold hdv at go4
          rw [if_pos h9] at go4
          exact go4
        · unfold hdv at go4
          rw [if_neg h9] at go4
          exact go4
      · rw [nI_1]
        obtain ⟨g1, g2⟩ := endf t z1 hI hW hat hmk hdi ht0 hM
        exact hout _ (fr_F2 hf (Or.inr (Or.inr rfl))) po_usF_at hI g1 g2 (fun s hs => hs)
  have out : ∀ (d c f : Nat) (z1 : ow_MS), c + d = 2 * V → f ≤ c → fr (frW n) z z1 → z1.1 (n + 16) = nI f → wkO V f (z1.2.1 (n + 14)) (z1.2.1 (n + 15)) → wkF3 A sg Lb f (z1.2.1 (n + 14)) → (∀ s, s < c → z1.2.1 (n + 14) s ≠ -1) → Tt (fun K k => q_X12_walk K k 2 (nI c) 0 0 0 0 0 n 0 z1) Q := by
    intro d
    induction d with
    | zero =>
      intro c f z1 hc hfc hf h16 hO hW hm
      refine u_X12_walk_2 ?_; unfold qm_X12_walk_2
      refine w_rdF (frK hf hL).V ?_
      rw [rn_mul2]
      refine w_leT (by omega) (by omega) (w_some ⟨hf, f, ⟨h16, by omega, fun s hs => ?_, ?_⟩, hW⟩)
      · rw [hV] at hs
        exact (hO.1 s hs).resolve_left (hm s (by omega))
      · rw [hV]
        exact hO.2
    | succ d ih =>
      intro c f z1 hc hfc hf h16 hO hW hm
      refine u_X12_walk_2 ?_; unfold qm_X12_walk_2
      refine w_rdF (frK hf hL).V ?_
      rw [rn_mul2]
      refine w_leF (by omega) (by omega) (w_rdI (pl14 hn) rfl (by omega) rfl (w_if (fun c1 => w_rdF h16 (w_wrI (pl15 hn) rfl (by omega) ?_)) (fun c1 => ?_)))
      · have r14 : (usI z1 (n + 15) f 0).2.1 (n + 14) = z1.2.1 (n + 14) := po_usI_ot (by omega)
        refine inn c f (by omega) (by omega) _ 0 _ (Nat.le_refl _) (fr_I2 hf (Or.inr (Or.inl rfl))) h16 (by rw [r14, po_usI_row]; exact wkI_0 (by omega) hO) (by rw [r14]; exact hW) (show c < 2 * V by omega) (by
          rw [r14]
          intro s hs
          constructor
          · intro e
            rcases hO.1 s hs with h9 | ⟨f', h9, h8⟩
            · rw [e] at h9
              exact absurd h9 (rn_neg1 (by omega))
            · rw [e] at h8
              have := (nI_eq (by omega) (by omega)).mp h8
              omega
          · rintro ⟨i, hi, -⟩
            omega) (fun i j _ hj => by omega) (fun _ => by rw [r14]; exact c1) (fun z2 g1 g2 g3 g4 g5 g6 => ?_)
        refine u_X12_walk_11 ?_; unfold qm_X12_walk_11
        rw [nI_1]
        rw [r14] at g6
        refine ih (c + 1) (f + 1) z2 (by omega) (by omega) g1 g2 g3 g4 (fun s hs => ?_)
        by_cases hsc : s = c
        · rw [hsc]; exact g5
        · exact g6 s (hm s (by omega))
      · refine u_X12_walk_11 ?_; unfold qm_X12_walk_11
        rw [nI_1]
        refine ih (c + 1) f z1 (by omega) (by omega) hf h16 hO hW (fun s hs => ?_)
        by_cases hsc : s = c
        · rw [hsc]; exact c1
        · exact hm s (by omega)
  have zer : ∀ (d c : Nat) (z1 : ow_MS), c + d = 2 * V → fr (frW n) z z1 → (∀ s, s < c → z1.2.1 (n + 14) s = -1) → Tt (fun K k => q_X12_walk K k 1 (nI c) 0 0 0 0 0 n 0 z1) Q := by
    intro d
    induction d with
    | zero =>
      intro c z1 hc hf hm
      refine u_X12_walk_1 ?_; unfold qm_X12_walk_1
      refine w_rdF (frK hf hL).V ?_
      rw [rn_mul2]
      exact w_leT (by omega) (by omega) (w_wrF (out (2 * V) 0 0 _ (by omega) (Nat.le_refl _) (fr_F2 hf (Or.inr (Or.inr rfl))) po_usF_at ⟨fun s hs => Or.inl (hm s (by omega)), fun f hf9 => by omega⟩ ⟨fun f hf9 => by omega, fun f hf9 => by omega⟩ (fun s hs => by omega)))
    | succ d ih =>
      intro c z1 hc hf hm
      refine u_X12_walk_1 ?_; unfold qm_X12_walk_1
      refine w_rdF (frK hf hL).V ?_
      rw [rn_mul2]
      refine w_leF (by omega) (by omega) (w_wrI (pl14 hn) rfl (by omega) ?_)
      rw [nI_1]
      refine ih (c + 1) _ (by omega) (fr_I2 hf (Or.inl rfl)) (fun s hs => ?_)
      by_cases hsc : s = c
      · rw [hsc]; exact po_usI_at
      · exact rd_ne hsc (hm s (by omega))
  refine e_X12_walk ?_
  refine u_X12_walk_0 ?_; unfold qm_X12_walk_0
  exact zer (2 * V) 0 z (by omega) fr_rf (fun s hs => by omega)
