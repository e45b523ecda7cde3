section
/-! 99zzzzzzzzzzo.xpl -/
/-! the reference's isPlane, exactly: faces counted on both sides -/
def wkF3 (A : rn_L) (sg : Nat → Bool) (Lb : Nat → Nat) (f : Nat) (M : Nat → Int32) : Prop := wkF2 A sg f M ∧ ∀ f', f' < f → (∃ s, s < 2 * A.flatten.length ∧ M s = nI f') ∧ ∀ s s', s < 2 * A.flatten.length → s' < 2 * A.flatten.length → M s = nI f' → M s' = nI f' → Lb s = Lb s'
theorem xr_walk {n : Nat} {z : ow_MS} {A : rn_L} {sg : Nat → Bool} {Lb : Nat → Nat} (hn : mw_net n) (hlen : A.flatten.length ≤ 40) (hd : rn_ok A.flatten) (hL : rn_lk z n A) (hG : rn_sg z n A.flatten sg) (hLb : ∀ s, s < 2 * A.flatten.length → Lb (phi A sg s) = Lb s) : Te (fun K => qe_X12_walk K n z) (fun z1 => fr (frW n) z z1 ∧ ∃ F, rn_fc z1 n A.flatten.length F ∧ wkF3 A sg Lb F (z1.2.1 (n + 14))) := by
  have frK : ∀ {y y1 : ow_MS}, fr (frW n) y y1 → rn_lk y n A → rn_lk y1 n A := fun hf h => fr_lk hf (fun g hg => by rcases hg with hg | hg | hg <;> omega) h
  have frS : ∀ {y y1 : ow_MS}, fr (frW n) y y1 → rn_sg y n A.flatten sg → rn_sg y1 n A.flatten sg := fun hf h p hp => by
    rw [(hf (n + 6) (by omega)).2.1]
    exact h p hp
  let Q : ow_MS → Prop := fun z1 => fr (frW n) z z1 ∧ ∃ F, rn_fc z1 n A.flatten.length F ∧ wkF3 A sg Lb F (z1.2.1 (n + 14))
  obtain ⟨V, hV⟩ : ∃ V, A.flatten.length = V := ⟨_, rfl⟩
  have V40 : V ≤ 40 := by omega
  have turn : ∀ (k0 a : Nat) (z1 : ow_MS), fr (frW n) z z1 → a < 2 * V → Tt (fun K k => q_X12_walk K k 3 (nI k0) (nI (phi A sg a)) 0 0 0 0 n 0 z1) Q → Tt (fun K k => q_X12_walk K k 4 (nI k0) (nI a) 0 0 0 0 n (nI (hdv A a)) z1) Q := by
    intro k0 a z1 hf ha hout
    have hL1 := frK hf hL
    have hv2 : hdv A a < A.flatten.length := hdv_lt (by omega)
    obtain ⟨v, hv⟩ : ∃ v, v = hdv A a := ⟨_, rfl⟩
    rw [← hv] at hv2 ⊢
    have hp := vAt_of hv2
    obtain ⟨hx, hu⟩ := hd.1.2 v _ hp
    obtain ⟨e4, e5⟩ := lk_cu hL1 hv2
    have hwl := mtf_lt hd hv2
    have e7 := lk_m hd hL1 hv2
    have e10 := lk_p hL1 hwl
    have hpv := rn_pv_lt (A := A) hwl
    have e6 : z1.2.1 (n + 6) (crs A v) = if sg (crs A v) then -1 else 1 := frS hf hG _ (List.mem_of_getElem? hp)
    have c9 : ∀ (x4 : Int32), Tt (fun K k => q_X12_walk K k 9 (nI k0) (nI a) (nI v) x4 0 0 n (nI (wyv A sg a)) z1) Q := by
      intro x4
      have hw2 := wyv_lt (A := A) (sg := sg) (s := a)
      refine u_X12_walk_9 ?_; unfold qm_X12_walk_9
      refine w_rdI (pl7 hn) rfl (by omega) e7 (w_eqN (b := 0) (by omega) (by omega) (fun h9 => ?_) (fun h9 => w_rdI (pl10 hn) rfl (by omega) e10 ?_))
      · refine u_X12_walk_10 ?_; unfold qm_X12_walk_10
        rw [rn_mul2]
        unfold phi at hout
        rw [if_pos h9, ← hv] at hout
        exact hout
      · refine u_X12_walk_10 ?_; unfold qm_X12_walk_10
        rw [rn_mul2, nI_1]
        unfold phi at hout
        rw [if_neg h9, ← hv] at hout
        exact hout
    have c8 : ∀ (b : Bool), smv A sg v = b → Tt (fun K k => q_X12_walk K k 8 (nI k0) (nI a) (nI v) 0 0 0 n (bZ b) z1) Q := by
      intro b hb
      have hwy : wyv A sg a = if b then a % 2 else 1 - a % 2 := by
        unfold wyv
        rw [← hv, hb]
      have h9 := c9 (bZ b)
      rw [hwy] at h9
      refine u_X12_walk_8 ?_; unfold qm_X12_walk_8
      rw [rn_and1 (by omega)]
      cases b with
      | false =>
        refine w_ifT rfl ?_
        rw [show (1 : Int32) - nI (a % 2) = nI (1 - a % 2) from pk_sub (a := 1) (by omega)]
        exact h9
      | true => exact w_ifF (by decide) h9
    have c6 : smv A sg v = true → Tt (fun K k => q_X12_walk K k 6 (nI k0) (nI a) (nI v) 0 0 0 n 0 z1) Q := by
      intro hb
      refine u_X12_walk_6 ?_; unfold qm_X12_walk_6
      exact c8 true hb
    have c7 : smv A sg v = false → Tt (fun K k => q_X12_walk K k 7 (nI k0) (nI a) (nI v) 0 0 0 n 0 z1) Q := by
      intro hb
      refine u_X12_walk_7 ?_; unfold qm_X12_walk_7
      exact c8 false hb
    have hu9 : uns A v < 2 := hu
    have c5 : ¬ (uns A v = 0 ∧ sg (crs A v) = false) → Tt (fun K k => q_X12_walk K k 5 (nI k0) (nI a) (nI v) 0 0 0 n 0 z1) Q := by
      intro hno
      refine u_X12_walk_5 ?_; unfold qm_X12_walk_5
      refine w_rdI (pl5 hn) rfl (by omega) e5 (w_eqN (b := 1) (by omega) (by omega) (fun h9 => w_rdI (pl4 hn) rfl (by omega) e4 (w_rdI (pl6 hn) rfl hx e6 ?_)) (fun h9 => c7 ?_))
      · cases hs : sg (crs A v) with
        | true =>
          refine w_ifF (by decide) (c6 ?_)
          unfold smv
          rw [hs, decide_eq_true h9, Bool.and_self, Bool.or_true]
        | false =>
          refine w_ifT (by decide) (c7 ?_)
          unfold smv
          rw [hs, decide_eq_false (by omega)]
          simp
      · have h0 : uns A v = 0 := by omega
        have hs : sg (crs A v) = true := by
          cases hs : sg (crs A v) with
          | true => rfl
          | false => exact absurd ⟨h0, hs⟩ hno
        unfold smv
        rw [hs, decide_eq_false h9]
        simp
    refine u_X12_walk_4 ?_; unfold qm_X12_walk_4
    refine w_rdI (pl5 hn) rfl (by omega) e5 (w_eqN (b := 0) (by omega) (by omega) (fun h9 => w_rdI (pl4 hn) rfl (by omega) e4 (w_rdI (pl6 hn) rfl hx e6 ?_)) (fun h9 => c5 (fun h8 => h9 h8.1)))
    cases hs : sg (crs A v) with
    | true => exact w_ifF (by decide) (c5 (fun h8 => by rw [hs] at h8; exact absurd h8.2 (by decide)))
    | false =>
      refine w_ifT (by decide) (c6 ?_)
      unfold smv
      rw [hs, decide_eq_true h9]
      rfl
  have inn : ∀ (k0 f : Nat), f < 80 → k0 < 2 * V → ∀ (u t : Nat) (z1 : ow_MS), rn_cU (z1.2.1 (n + 14)) (2 * V) ≤ u → fr (frW n) z z1 → z1.1 (n + 16) = nI f → wkI V f (z1.2.1 (n + 14)) (z1.2.1 (n + 15)) → wkF3 A sg Lb f (z1.2.1 (n + 14)) → itf (phi A sg) t k0 < 2 * V → (∀ s, s < 2 * V → (z1.2.1 (n + 14) s = nI f ↔ ∃ i, i < t ∧ s = itf (phi A sg) i k0)) → (∀ i j, i < j → j < t → itf (phi A sg) i k0 ≠ itf (phi A sg) j k0) → (t = 0 → z1.2.1 (n + 14) k0 = -1) → (∀ z2, fr (frW n) z z2 → z2.1 (n + 16) = nI (f + 1) → wkI V f (z2.2.1 (n + 14)) (z2.2.1 (n + 15)) → wkF3 A sg Lb (f + 1) (z2.2.1 (n + 14)) → z2.2.1 (n + 14) k0 ≠ -1 → (∀ s, z1.2.1 (n + 14) s ≠ -1 → z2.2.1 (n + 14) s ≠ -1) → Tt (fun K k => q_X12_walk K k 11 (nI k0) 0 0 0 0 0 n 0 z2) Q) → Tt (fun K k => q_X12_walk K k 3 (nI k0) (nI (itf (phi A sg) t k0)) 0 0 0 0 n 0 z1) Q := by
    intro k0 f hf80 hk0 u
    -- the end of a face
    have endf : ∀ (t : Nat) (z1 : ow_MS), wkI V f (z1.2.1 (n + 14)) (z1.2.1 (n + 15)) → wkF3 A sg Lb f (z1.2.1 (n + 14)) → itf (phi A sg) t k0 < 2 * V → (∀ s, s < 2 * V → (z1.2.1 (n + 14) s = nI f ↔ ∃ i, i < t ∧ s = itf (phi A sg) i k0)) → (∀ i j, i < j → j < t → itf (phi A sg) i k0 ≠ itf (phi A sg) j k0) → (t = 0 → z1.2.1 (n + 14) k0 = -1) → z1.2.1 (n + 14) (itf (phi A sg) t k0) ≠ -1 → wkF3 A sg Lb (f + 1) (z1.2.1 (n + 14)) ∧ z1.2.1 (n + 14) k0 ≠ -1 := by
      intro t z1 hI hW hat hmk hdi ht0 hM
      have itlt : ∀ i, itf (phi A sg) i k0 < 2 * V := by
        intro i
        induction i with
        | zero => exact hk0
        | succ i ih =>
          have := phi_lt (sg := sg) hd (s := itf (phi A sg) i k0) (by omega)
          show phi A sg (itf (phi A sg) i k0) < _
          omega
      have htp : 0 < t := by
        rcases Nat.eq_zero_or_pos t with e | e
        · exfalso
          have := ht0 e
          rw [e] at hM
          exact hM this
        · exact e
      obtain ⟨t1, rfl⟩ : ∃ t1, t = t1 + 1 := ⟨t - 1, by omega⟩
      have hlast : z1.2.1 (n + 14) (itf (phi A sg) t1 k0) = nI f := (hmk _ (itlt t1)).mpr ⟨t1, by omega, rfl⟩
      have hk : itf (phi A sg) (t1 + 1) k0 = k0 := by
        rcases hI.1 _ hat with h9 | ⟨f', h9, h8⟩
        · exact absurd h9 hM
        · by_cases hff : f' = f
          · rw [hff] at h8
            obtain ⟨i, hi, e⟩ := (hmk _ hat).mp h8
            rcases Nat.eq_zero_or_pos i with e0 | e0
            · rw [e0] at e
              exact e
            · obtain ⟨i1, rfl⟩ : ∃ i1, i = i1 + 1 := ⟨i - 1, by omega⟩
              have e : phi A sg (itf (phi A sg) t1 k0) = phi A sg (itf (phi A sg) i1 k0) := e
              have e9 := phi_inj hd (by have := itlt t1; omega) (by have := itlt i1; omega) e
              exact absurd e9.symm (hdi i1 t1 (by omega) (by omega))
          · have h7 : z1.2.1 (n + 14) (phi A sg (itf (phi A sg) t1 k0)) = nI f' := h8
            have h6 := (hW.1 f' (by omega) _ (by have := itlt t1; omega)).mpr h7
            rw [hlast] at h6
            have := (nI_eq (by omega) (by omega)).mp h6
            omega
      have itL : ∀ i, Lb (itf (phi A sg) i k0) = Lb k0 := by
        intro i
        induction i with
        | zero => rfl
        | succ i ih =>
          have h9 := hLb (itf (phi A sg) i k0) (by have := itlt i; omega)
          exact h9.trans ih
      have hk0f : z1.2.1 (n + 14) k0 = nI f := (hmk k0 hk0).mpr ⟨0, by omega, rfl⟩
      refine ⟨⟨fun f' hf' s hs => ?_, fun f' hf' => ?_⟩, ?_⟩
      · by_cases hff : f' = f
        · subst hff
          have hs' : s < 2 * V := by omega
          have hph := phi_lt (sg := sg) hd hs
          rw [hmk s hs', hmk _ (by omega)]
          constructor
          · rintro ⟨i, hi, e⟩
            by_cases hil : i = t1
            · refine ⟨0, by omega, ?_⟩
              rw [e, hil]
              exact hk
            · exact ⟨i + 1, by omega, by rw [e]; rfl⟩
          · rintro ⟨i, hi, e⟩
            rcases Nat.eq_zero_or_pos i with e0 | e0
            · refine ⟨t1, by omega, phi_inj (sg := sg) hd hs (by have := itlt t1; omega) ?_⟩
              rw [e, e0]
              exact hk.symm
            · obtain ⟨i1, rfl⟩ : ∃ i1, i = i1 + 1 := ⟨i - 1, by omega⟩
              exact ⟨i1, by omega, phi_inj hd hs (by have := itlt i1; omega) e⟩
        · exact hW.1 f' (by omega) s hs
      · by_cases hff : f' = f
        · subst hff
          refine ⟨⟨k0, by omega, hk0f⟩, fun s s' hs hs' e e' => ?_⟩
          obtain ⟨i, -, e1⟩ := (hmk s (by omega)).mp e
          obtain ⟨j, -, e2⟩ := (hmk s' (by omega)).mp e'
          rw [e1, e2, itL, itL]
        · exact hW.2 f' (by omega)
      · have : z1.2.1 (n + 14) k0 = nI f := (hmk k0 hk0).mpr ⟨0, by omega, rfl⟩
        rw [this]
        exact rn_neg1 (by omega)
    induction u with
    | zero =>
      intro t z1 hu hf h16 hI hW hat hmk hdi ht0 hout
      refine u_X12_walk_3 ?_; unfold qm_X12_walk_3
      refine w_rdI (pl14 hn) rfl (by omega) rfl (w_if (fun hM => ?_) (fun hM => w_rdF h16 (w_wrF ?_)))
      · have := rn_cU_upd (M := z1.2.1 (n + 14)) (x := 0) hM (by decide) (2 * V) hat
        omega
      · rw [nI_1]
        obtain ⟨g1, g2⟩ := endf t z1 hI hW hat hmk hdi ht0 hM
        exact hout _ (fr_F2 hf (Or.inr (Or.inr rfl))) po_usF_at hI g1 g2 (fun s hs => hs)
    | succ u ih =>
      intro t z1 hu hf h16 hI hW hat hmk hdi ht0 hout
      obtain ⟨a, haE⟩ : ∃ a, a = itf (phi A sg) t k0 := ⟨_, rfl⟩
      have ha : a < 2 * V := by rw [haE]; exact hat
      refine u_X12_walk_3 ?_; unfold qm_X12_walk_3
      refine w_rdI (pl14 hn) rfl (by omega) rfl (w_if (fun hM => ?_) (fun hM => w_rdF h16 (w_wrF ?_)))
      · rw [← haE] at hM ⊢
        have hne : nI f ≠ -1 := rn_neg1 (by omega)
        have cu := rn_cU_upd (M := z1.2.1 (n + 14)) (x := nI f) hM hne (2 * V) ha
        have hf2 : fr (frW n) z (usI (usI z1 (n + 14) a (nI f)) (n + 15) f (z1.2.1 (n + 15) f + 1)) := fr_I2 (fr_I2 hf (Or.inl rfl)) (Or.inr (Or.inl rfl))
        have r14 : (usI (usI z1 (n + 14) a (nI f)) (n + 15) f (z1.2.1 (n + 15) f + 1)).2.1 (n + 14) = upd (z1.2.1 (n + 14)) a (nI f) := by
          rw [po_usI_ot (by omega), po_usI_row]
        have r15 : (usI (usI z1 (n + 14) a (nI f)) (n + 15) f (z1.2.1 (n + 15) f + 1)).2.1 (n + 15) = upd (z1.2.1 (n + 15)) f (z1.2.1 (n + 15) f + 1) := by
          rw [po_usI_row, po_usI_ot (by omega)]
        have hna : ∀ i, i < t → itf (phi A sg) i k0 ≠ a := by
          intro i hi e
          have : z1.2.1 (n + 14) a = nI f := (hmk a ha).mpr ⟨i, hi, e.symm⟩
          rw [hM] at this
          exact hne this.symm
        have hphl := phi_lt (sg := sg) hd (s := a) (by omega)
        have go4 : Tt (fun K k => q_X12_walk K k 4 (nI k0) (nI a) 0 0 0 0 n (nI (hdv A a)) (usI (usI z1 (n + 14) a (nI f)) (n + 15) f (z1.2.1 (n + 15) f + 1))) Q := by
          refine turn k0 a _ hf2 ha ?_
          have step := ih (t + 1) (usI (usI z1 (n + 14) a (nI f)) (n + 15) f (z1.2.1 (n + 15) f + 1)) (by rw [r14]; omega) hf2 h16 (by rw [r14, r15]; exact wkI_st (by omega) ha hM hI) (by
            rw [r14]
            refine ⟨?_, fun f' hf' => ?_⟩
            rotate_left
            · have ne1 : nI f ≠ nI f' := fun e => by have := (nI_eq (by omega) (by omega)).mp e; omega
              have un : ∀ s, upd (z1.2.1 (n + 14)) a (nI f) s = nI f' → z1.2.1 (n + 14) s = nI f' := fun s e => by
                by_cases hsa : s = a
                · rw [hsa, pk_us] at e
                  exact absurd e ne1
                · rw [pk_un hsa] at e
                  exact e
              obtain ⟨⟨s0, s1, s2⟩, h9⟩ := hW.2 f' hf'
              refine ⟨⟨s0, s1, ?_⟩, fun s s' hs hs' e e' => h9 s s' hs hs' (un s e) (un s' e')⟩
              rw [pk_un (fun e => by
                rw [e, hM] at s2
                exact rn_neg1 (v := f') (by omega) s2.symm)]
              exact s2
            intro f' hf' s hs
            have ne1 : nI f ≠ nI f' := fun e => by have := (nI_eq (by omega) (by omega)).mp e; omega
            by_cases hsa : s = a
            · rw [hsa, pk_us]
              have hMa : z1.2.1 (n + 14) a ≠ nI f' := by rw [hM]; exact fun e => rn_neg1 (v := f') (by omega) e.symm
              have hp2 : z1.2.1 (n + 14) (phi A sg a) ≠ nI f' := fun e => hMa ((hW.1 f' hf' a (by omega)).mpr e)
              by_cases hpa : phi A sg a = a
              · rw [hpa, pk_us]
              · rw [pk_un hpa]
                exact ⟨fun e => absurd e ne1, fun e => absurd e hp2⟩
            · rw [pk_un hsa]
              by_cases hpa : phi A sg s = a
              · rw [hpa, pk_us]
                have hMa : z1.2.1 (n + 14) a ≠ nI f' := by rw [hM]; exact fun e => rn_neg1 (v := f') (by omega) e.symm
                have h3 := hW.1 f' hf' s hs
                rw [hpa] at h3
                exact ⟨fun e => absurd (h3.mp e) hMa, fun e => absurd e ne1⟩
              · rw [pk_un hpa]
                exact hW.1 f' hf' s hs) (by
            show phi A sg (itf (phi A sg) t k0) < 2 * V
            rw [← haE]
            omega) (by
            rw [r14]
            intro s hs
            by_cases hsa : s = a
            · rw [hsa, pk_us]
              exact ⟨fun _ => ⟨t, by omega, haE⟩, fun _ => rfl⟩
            · rw [pk_un hsa, hmk s hs]
              constructor
              · rintro ⟨i, hi, e⟩
                exact ⟨i, by omega, e⟩
              · rintro ⟨i, hi, e⟩
                by_cases hit : i = t
                · rw [hit, ← haE] at e
                  exact absurd e hsa
                · exact ⟨i, by omega, e⟩) (by
            intro i j hij hj
            by_cases hjt : j = t
            · rw [hjt, ← haE]
              exact hna i (by omega)
            · exact hdi i j hij (by omega)) (fun e => by omega) (fun z2 g1 g2 g3 g4 g5 g6 => by
            rw [r14] at g6
            refine hout z2 g1 g2 g3 g4 g5 (fun s hs => ?_)
            by_cases hsa : s = a
            · exact g6 s (by rw [hsa, pk_us]; exact hne)
            · exact g6 s (by rw [pk_un hsa]; exact hs))
          have e1 : itf (phi A sg) (t + 1) k0 = phi A sg a := by
            rw [haE]
            rfl
          rw [e1] at step
          exact step
        have e9 := ((frK hf2 hL).2.1 (a / 2) (by omega)).2.1
        refine w_rdF h16 (w_wrI (pl14 hn) rfl (by omega) (w_rdF h16 (w_rdI (pl15 hn) rfl hf80 (rd_ot (by omega) rfl) (w_wrI (pl15 hn) rfl hf80 ?_))))
        rw [rn_shr1 (by omega), rn_and1 (by omega)]
        refine w_eqN (b := 0) (by omega) (by omega) (fun h9 => w_rdI (pl9 hn) rfl (by omega) e9 ?_) (fun h9 => ?_)
        · unfold hdv at go4
          rw [if_pos h9] at go4
          exact go4
        · unfold hdv at go4
          rw [if_neg h9] at go4
          exact go4
      · rw [nI_1]
        obtain ⟨g1, g2⟩ := endf t z1 hI hW hat hmk hdi ht0 hM
        exact hout _ (fr_F2 hf (Or.inr (Or.inr rfl))) po_usF_at hI g1 g2 (fun s hs => hs)
  have out : ∀ (d c f : Nat) (z1 : ow_MS), c + d = 2 * V → f ≤ c → fr (frW n) z z1 → z1.1 (n + 16) = nI f → wkO V f (z1.2.1 (n + 14)) (z1.2.1 (n + 15)) → wkF3 A sg Lb f (z1.2.1 (n + 14)) → (∀ s, s < c → z1.2.1 (n + 14) s ≠ -1) → Tt (fun K k => q_X12_walk K k 2 (nI c) 0 0 0 0 0 n 0 z1) Q := by
    intro d
    induction d with
    | zero =>
      intro c f z1 hc hfc hf h16 hO hW hm
      refine u_X12_walk_2 ?_; unfold qm_X12_walk_2
      refine w_rdF (frK hf hL).V ?_
      rw [rn_mul2]
      refine w_leT (by omega) (by omega) (w_some ⟨hf, f, ⟨h16, by omega, fun s hs => ?_, ?_⟩, hW⟩)
      · rw [hV] at hs
        exact (hO.1 s hs).resolve_left (hm s (by omega))
      · rw [hV]
        exact hO.2
    | succ d ih =>
      intro c f z1 hc hfc hf h16 hO hW hm
      refine u_X12_walk_2 ?_; unfold qm_X12_walk_2
      refine w_rdF (frK hf hL).V ?_
      rw [rn_mul2]
      refine w_leF (by omega) (by omega) (w_rdI (pl14 hn) rfl (by omega) rfl (w_if (fun c1 => w_rdF h16 (w_wrI (pl15 hn) rfl (by omega) ?_)) (fun c1 => ?_)))
      · have r14 : (usI z1 (n + 15) f 0).2.1 (n + 14) = z1.2.1 (n + 14) := po_usI_ot (by omega)
        refine inn c f (by omega) (by omega) _ 0 _ (Nat.le_refl _) (fr_I2 hf (Or.inr (Or.inl rfl))) h16 (by rw [r14, po_usI_row]; exact wkI_0 (by omega) hO) (by rw [r14]; exact hW) (show c < 2 * V by omega) (by
          rw [r14]
          intro s hs
          constructor
          · intro e
            rcases hO.1 s hs with h9 | ⟨f', h9, h8⟩
            · rw [e] at h9
              exact absurd h9 (rn_neg1 (by omega))
            · rw [e] at h8
              have := (nI_eq (by omega) (by omega)).mp h8
              omega
          · rintro ⟨i, hi, -⟩
            omega) (fun i j _ hj => by omega) (fun _ => by rw [r14]; exact c1) (fun z2 g1 g2 g3 g4 g5 g6 => ?_)
        refine u_X12_walk_11 ?_; unfold qm_X12_walk_11
        rw [nI_1]
        rw [r14] at g6
        refine ih (c + 1) (f + 1) z2 (by omega) (by omega) g1 g2 g3 g4 (fun s hs => ?_)
        by_cases hsc : s = c
        · rw [hsc]; exact g5
        · exact g6 s (hm s (by omega))
      · refine u_X12_walk_11 ?_; unfold qm_X12_walk_11
        rw [nI_1]
        refine ih (c + 1) f z1 (by omega) (by omega) hf h16 hO hW (fun s hs => ?_)
        by_cases hsc : s = c
        · rw [hsc]; exact c1
        · exact hm s (by omega)
  have zer : ∀ (d c : Nat) (z1 : ow_MS), c + d = 2 * V → fr (frW n) z z1 → (∀ s, s < c → z1.2.1 (n + 14) s = -1) → Tt (fun K k => q_X12_walk K k 1 (nI c) 0 0 0 0 0 n 0 z1) Q := by
    intro d
    induction d with
    | zero =>
      intro c z1 hc hf hm
      refine u_X12_walk_1 ?_; unfold qm_X12_walk_1
      refine w_rdF (frK hf hL).V ?_
      rw [rn_mul2]
      exact w_leT (by omega) (by omega) (w_wrF (out (2 * V) 0 0 _ (by omega) (Nat.le_refl _) (fr_F2 hf (Or.inr (Or.inr rfl))) po_usF_at ⟨fun s hs => Or.inl (hm s (by omega)), fun f hf9 => by omega⟩ ⟨fun f hf9 => by omega, fun f hf9 => by omega⟩ (fun s hs => by omega)))
    | succ d ih =>
      intro c z1 hc hf hm
      refine u_X12_walk_1 ?_; unfold qm_X12_walk_1
      refine w_rdF (frK hf hL).V ?_
      rw [rn_mul2]
      refine w_leF (by omega) (by omega) (w_wrI (pl14 hn) rfl (by omega) ?_)
      rw [nI_1]
      refine ih (c + 1) _ (by omega) (fr_I2 hf (Or.inl rfl)) (fun s hs => ?_)
      by_cases hsc : s = c
      · rw [hsc]; exact po_usI_at
      · exact rd_ne hsc (hm s (by omega))
  refine e_X12_walk ?_
  refine u_X12_walk_0 ?_; unfold qm_X12_walk_0
  exact zer (2 * V) 0 z (by omega) fr_rf (fun s hs => by omega)
end
section
/-! 99zzzzzzzzzzp.xpl2 -/
/-! the reference's isPlane is the class's -/
section XP0
variable {A : rn_L} {sg : Nat → Bool} {f : Nat → Nat} {T : ow_NT} {m : Nat → Nat} {P : Nat}
theorem parts_cnt0 (hi : isoN A sg f T) (hv : vn T.1 T.2.2.1) (hk : mk A m P) : ((List.range P).filter (fun p => !(pvl A m p A.flatten.length).isEmpty)).length = (np_parts T.1 T.2.2.1.1).2 := by
  have hc := hi.2.2.1
  obtain ⟨p1, p2, p3, p4⟩ := parts_I hv hc
  let F := (np_parts T.1 T.2.2.1.1).1
  let n := (np_parts T.1 T.2.2.1.1).2
  have hex : ∀ r, r < n → ∃ v, v < A.flatten.length ∧ F (lbv A f v) = nI r := by
    intro r hr
    obtain ⟨k, k1, k2⟩ := p3 r hr
    obtain ⟨v, v1, v2⟩ := lbv_sur hi k1
    exact ⟨v, v1, by rw [v2]; exact k2⟩
  let vr : Nat → Nat := fun r => if h : ∃ v, v < A.flatten.length ∧ F (lbv A f v) = nI r then Classical.choose h else 0
  have hvr : ∀ r, r < n → vr r < A.flatten.length ∧ F (lbv A f (vr r)) = nI r := by
    intro r hr
    have h := hex r hr
    have e : vr r = Classical.choose h := dif_pos h
    rw [e]
    exact Classical.choose_spec h
  have hn31 : n < 2 ^ 31 := by
    have : n ≤ 2 * T.1 := p4
    omega
  have pm : ((List.range n).map (fun r => m (rn_c A (vr r)))).Perm ((List.range P).filter (fun p => !(pvl A m p A.flatten.length).isEmpty)) := by
    refine (List.perm_ext_iff_of_nodup (nodup_map List.nodup_range (fun a b ha hb e => ?_)) (nodup_filter List.nodup_range)).mpr (fun p => ?_)
    · have ha := List.mem_range.mp ha
      have hb := List.mem_range.mp hb
      have h1 := (part_iff hi hv hk (hvr a ha).1 (hvr b hb).1).mpr e
      have h2 : nI a = nI b := by
        rw [← (hvr a ha).2, ← (hvr b hb).2]
        exact h1
      exact nI_inj9 (by omega) (by omega) h2
    · rw [List.mem_map, List.mem_filter, List.mem_range, Bool.not_eq_true', List.isEmpty_eq_false_iff]
      constructor
      · rintro ⟨r, r1, r2⟩
        have hr := hvr r (List.mem_range.mp r1)
        refine ⟨by rw [← r2]; exact hk.1 _ (rn_c_in A _ hr.1).1, ?_⟩
        exact List.ne_nil_of_mem (pvl_m.mpr ⟨hr.1, r2⟩)
      · rintro ⟨q1, q2⟩
        obtain ⟨v, hv9⟩ := List.exists_mem_of_ne_nil _ q2
        have hv1 := pvl_m.mp hv9
        obtain ⟨r, r1, r2⟩ := p2 _ (lbv_lt hi hv1.1)
        refine ⟨r, List.mem_range.mpr r1, ?_⟩
        rw [← hv1.2]
        refine (part_iff hi hv hk (hvr r r1).1 hv1.1).mp ?_
        exact (hvr r r1).2.trans r2.symm
  have h1 := pm.length_eq
  rw [List.length_map, List.length_range] at h1
  exact h1.symm
/-- the dart of a side -/
def dtS (A : rn_L) (f : Nat → Nat) (s : Nat) : Nat := if s % 2 = 0 then 2 * lbv A f (s / 2) else 2 * lbv A f (rn_nx A (s / 2)) + 1
theorem dtS_lt (hi : isoN A sg f T) {s : Nat} (hs : s < 2 * A.flatten.length) : dtS A f s < 4 * T.1 := by
  have h1 := lbv_lt hi (show s / 2 < A.flatten.length by omega)
  have h2 := lbv_lt hi (rn_nx_lt (A := A) (show s / 2 < A.flatten.length by omega))
  unfold dtS
  split <;> omega
theorem dtS_sur (hi : isoN A sg f T) {d : Nat} (hd : d < 4 * T.1) : ∃ s, s < 2 * A.flatten.length ∧ dtS A f s = d := by
  obtain ⟨v, v1, v2⟩ := lbv_sur hi (show d / 2 < 2 * T.1 by omega)
  by_cases e : d % 2 = 0
  · refine ⟨2 * v, by omega, ?_⟩
    unfold dtS
    rw [if_pos (by omega), show 2 * v / 2 = v by omega, v2]
    omega
  · have h1 := rn_pv_lt (A := A) v1
    refine ⟨2 * rn_pv A v + 1, by omega, ?_⟩
    unfold dtS
    rw [if_neg (by omega), show (2 * rn_pv A v + 1) / 2 = rn_pv A v by omega, nx_pv v1, v2]
    omega
theorem smv_b (hi : isoN A sg f T) (hp : pm1 T) {v : Nat} (hv : v < A.flatten.length) : stG T.2.2.2 (lbv A f v) = smv A sg v := by
  obtain ⟨h1, h2⟩ := lbv_hf hi hv
  have h3 := hi.2.2.2.2.2.2.1 v hv
  have hx := hi.2.2.2.1 v hv
  have hu : uns A v < 2 := (hi.1.2 _ (vAt_mem hv)).2.1
  unfold stG smv
  rw [h1, h2]
  have h4 : decide (0 < T.2.2.2 (f (crs A v))) = !sg (crs A v) := by
    rcases hp _ hx with e | e
    · rw [e] at h3 ⊢
      have : sg (crs A v) = false := by
        cases h9 : sg (crs A v) with
        | false => rfl
        | true => exact absurd (h3.mpr h9) (by decide)
      rw [this]
      rfl
    · rw [e] at h3 ⊢
      rw [h3.mp (by decide)]
      rfl
  rw [h4]
  rcases (show uns A v = 0 ∨ uns A v = 1 by omega) with e | e <;> rw [e] <;> cases sg (crs A v) <;> rfl
theorem dtS_ph (hi : isoN A sg f T) (hvn : vn T.1 T.2.2.1) (hp : pm1 T) {s : Nat} (hs : s < 2 * A.flatten.length) : pn_ph T.2.2.1 (stG T.2.2.2) (dtS A f s) = dtS A f (phi A sg s) := by
  have hv : s / 2 < A.flatten.length := by omega
  have hn := rn_nx_lt (A := A) hv
  have hh := hdv_lt (A := A) hs
  obtain ⟨m1, -, m2, -⟩ := lbv_mt hi hh
  have hb := smv_b hi hp hh
  have nx : T.2.2.1.1 (lbv A f (s / 2)) = lbv A f (rn_nx A (s / 2)) := hi.2.2.2.2.2.1 _ hv
  have hpv := nx_pv (A := A) m1
  unfold pn_ph pn_al
  by_cases e : s % 2 = 0
  · have ed : dtS A f s = 2 * lbv A f (s / 2) := if_pos e
    have eh : hdv A s = rn_nx A (s / 2) := if_pos e
    rw [ed, if_pos (by omega), show 2 * lbv A f (s / 2) / 2 = lbv A f (s / 2) by omega, nx, ← eh]
    unfold pn_rt
    rw [show (2 * lbv A f (hdv A s) + 1) / 2 = lbv A f (hdv A s) by omega, show (2 * lbv A f (hdv A s) + 1) % 2 = 1 by omega, hb, ← m2]
    unfold phi wyv
    rw [e]
    cases smv A sg (hdv A s)
    · rw [if_neg (by decide), if_neg (by decide)]
      unfold dtS
      rw [if_neg (by omega), show (2 * rn_pv A (mtf A (hdv A s)) + 1) / 2 = rn_pv A (mtf A (hdv A s)) by omega, hpv]
    · rw [if_pos (by decide), if_pos (by decide)]
      unfold dtS
      rw [if_pos (by omega), show 2 * mtf A (hdv A s) / 2 = mtf A (hdv A s) by omega]
  · have ed : dtS A f s = 2 * lbv A f (rn_nx A (s / 2)) + 1 := if_neg e
    have eh : hdv A s = s / 2 := if_neg e
    have pv : T.2.2.1.2 (lbv A f (rn_nx A (s / 2))) = lbv A f (s / 2) := by
      rw [← nx]
      exact (hvn _ (lbv_lt hi hv)).2.2.1
    rw [ed, if_neg (by omega), show (2 * lbv A f (rn_nx A (s / 2)) + 1) / 2 = lbv A f (rn_nx A (s / 2)) by omega, pv, ← eh]
    unfold pn_rt
    rw [show 2 * lbv A f (hdv A s) / 2 = lbv A f (hdv A s) by omega, show 2 * lbv A f (hdv A s) % 2 = 0 by omega, hb, ← m2]
    unfold phi wyv
    rw [show s % 2 = 1 by omega]
    cases smv A sg (hdv A s)
    · rw [if_pos (by decide), if_pos (by decide)]
      unfold dtS
      rw [if_pos (by omega), show 2 * mtf A (hdv A s) / 2 = mtf A (hdv A s) by omega]
    · rw [if_neg (by decide), if_neg (by decide)]
      unfold dtS
      rw [if_neg (by omega), show (2 * rn_pv A (mtf A (hdv A s)) + 1) / 2 = rn_pv A (mtf A (hdv A s)) by omega, hpv]
theorem faces_F (hi : isoN A sg f T) (hvn : vn T.1 T.2.2.1) (hp : pm1 T) : ∃ Lb : Nat → Nat, (∀ s, s < 2 * A.flatten.length → Lb (phi A sg s) = Lb s) ∧ ∀ F M, F ≤ 2 * A.flatten.length → (∀ s, s < 2 * A.flatten.length → ∃ f', f' < F ∧ M s = nI f') → wkF3 A sg Lb F M → F = (np_faces T.1 T.2.2.1 T.2.2.2).2 := by
  have hc := hi.2.2.1
  have hlen := hi.2.1
  have hok := wkF_ok hi.1
  obtain ⟨g, X, g1, g2, g3, g4⟩ := faces_ge (G := T.2.2.2) hvn hc
  refine ⟨fun s => g (dtS A f s), fun s hs => ?_, fun F M hF hM hW => ?_⟩
  · show g (dtS A f (phi A sg s)) = g (dtS A f s)
    rw [← dtS_ph hi hvn hp hs]
    exact g1 _ (dtS_lt hi hs)
  · -- the label of a side
    have hl : ∀ s, ∃ k, s < 2 * A.flatten.length → k < F ∧ M s = nI k := fun s => by
      by_cases h : s < 2 * A.flatten.length
      · obtain ⟨k, k1, k2⟩ := hM s h
        exact ⟨k, fun _ => ⟨k1, k2⟩⟩
      · exact ⟨0, fun h9 => absurd h9 h⟩
    let ln : Nat → Nat := fun s => Classical.choose (hl s)
    have ln1 : ∀ s, s < 2 * A.flatten.length → ln s < F ∧ M s = nI (ln s) := fun s hs => Classical.choose_spec (hl s) hs
    -- the side of a dart
    have hd : ∀ d, ∃ s, d < 4 * T.1 → s < 2 * A.flatten.length ∧ dtS A f s = d := fun d => by
      by_cases h : d < 4 * T.1
      · obtain ⟨s, s1, s2⟩ := dtS_sur hi h
        exact ⟨s, fun _ => ⟨s1, s2⟩⟩
      · exact ⟨0, fun h9 => absurd h9 h⟩
    let sd : Nat → Nat := fun d => Classical.choose (hd d)
    have sd1 : ∀ d, d < 4 * T.1 → sd d < 2 * A.flatten.length ∧ dtS A f (sd d) = d := fun d h => Classical.choose_spec (hd d) h
    have dinj : ∀ s t, s < 2 * A.flatten.length → t < 2 * A.flatten.length → dtS A f s = dtS A f t → s = t := by
      intro s t hs ht e
      unfold dtS at e
      by_cases e1 : s % 2 = 0
      · by_cases e2 : t % 2 = 0
        · rw [if_pos e1, if_pos e2] at e
          have := lbv_inj hi (show s / 2 < A.flatten.length by omega) (show t / 2 < A.flatten.length by omega) (by omega)
          omega
        · rw [if_pos e1, if_neg e2] at e
          omega
      · by_cases e2 : t % 2 = 0
        · rw [if_neg e1, if_pos e2] at e
          omega
        · rw [if_neg e1, if_neg e2] at e
          have h1 := lbv_inj hi (rn_nx_lt (A := A) (show s / 2 < A.flatten.length by omega)) (rn_nx_lt (A := A) (show t / 2 < A.flatten.length by omega)) (by omega)
          have h2 := congrArg (rn_pv A) h1
          rw [pv_nx (by omega), pv_nx (by omega)] at h2
          omega
    refine Nat.le_antisymm ?_ ?_
    · refine faces_le hvn hc ?_
      have hx : ∀ k, ∃ s, k < F → s < 2 * A.flatten.length ∧ M s = nI k := fun k => by
        by_cases h : k < F
        · obtain ⟨⟨s, s1, s2⟩, -⟩ := hW.2 k h
          exact ⟨s, fun _ => ⟨s1, s2⟩⟩
        · exact ⟨0, fun h9 => absurd h9 h⟩
      let sf : Nat → Nat := fun k => Classical.choose (hx k)
      have sf1 : ∀ k, k < F → sf k < 2 * A.flatten.length ∧ M (sf k) = nI k := fun k h => Classical.choose_spec (hx k) h
      refine ⟨fun d => ln (sd d), (List.range F).map (fun k => dtS A f (sf k)), fun d hd9 => ?_, fun x hx9 => ?_, ?_, by rw [List.length_map, List.length_range]; exact Nat.le_refl _⟩
      · obtain ⟨a1, a2⟩ := sd1 d hd9
        have e1 : pn_ph T.2.2.1 (stG T.2.2.2) d = dtS A f (phi A sg (sd d)) := by
          rw [← dtS_ph hi hvn hp a1, a2]
        have hphl := phi_lt (sg := sg) hok a1
        have e2 : sd (pn_ph T.2.2.1 (stG T.2.2.2) d) = phi A sg (sd d) := by
          have h9 := sd1 (pn_ph T.2.2.1 (stG T.2.2.2) d) (by rw [e1]; exact dtS_lt hi hphl)
          exact dinj _ _ h9.1 hphl (h9.2.trans e1)
        show ln (sd (pn_ph T.2.2.1 (stG T.2.2.2) d)) = ln (sd d)
        rw [e2]
        have h1 := ln1 _ a1
        have h2 := ln1 _ hphl
        have h3 := (hW.1 (ln (sd d)) h1.1 (sd d) a1).mp h1.2
        rw [h2.2] at h3
        exact nI_inj9 (by omega) (by omega) h3
      · obtain ⟨k, hk, rfl⟩ := List.mem_map.mp hx9
        exact dtS_lt hi (sf1 k (List.mem_range.mp hk)).1
      · unfold pm_dv
        rw [List.map_map]
        refine nodup_map List.nodup_range (fun a b ha hb e => ?_)
        have ha := List.mem_range.mp ha
        have hb := List.mem_range.mp hb
        have key : ∀ k, k < F → ln (sd (dtS A f (sf k))) = k := fun k hk => by
          obtain ⟨s1, s2⟩ := sf1 k hk
          have h9 := sd1 (dtS A f (sf k)) (dtS_lt hi s1)
          rw [dinj _ _ h9.1 s1 h9.2]
          have h1 := ln1 _ s1
          rw [s2] at h1
          exact (nI_inj9 (by omega) (by omega) h1.2).symm
        have e : ln (sd (dtS A f (sf a))) = ln (sd (dtS A f (sf b))) := e
        rw [key a ha, key b hb] at e
        exact e
    · have nd : (X.map (fun x => ln (sd x))).Nodup := nodup_map (pm_nd g3) (fun x y hx hy e => by
        obtain ⟨a1, a2⟩ := sd1 x (g2 x hx)
        obtain ⟨b1, b2⟩ := sd1 y (g2 y hy)
        have e : ln (sd x) = ln (sd y) := e
        have h1 := ln1 _ a1
        have h2 := ln1 _ b1
        rw [← e] at h2
        have h3 := (hW.2 _ h1.1).2 (sd x) (sd y) a1 b1 h1.2 h2.2
        have h3 : g (dtS A f (sd x)) = g (dtS A f (sd y)) := h3
        rw [a2, b2] at h3
        exact pm_inj g3 x y hx hy h3)
      have := nodup_le _ (List.range F) nd (fun a ha => by
        obtain ⟨x, hx, rfl⟩ := List.mem_map.mp ha
        exact List.mem_range.mpr (ln1 _ (sd1 x (g2 x hx)).1).1)
      rw [List.length_map, List.length_range] at this
      omega
end XP0
theorem xr_plane {n : Nat} {z : ow_MS} {A : rn_L} {sg : Nat → Bool} {f : Nat → Nat} {T : ow_NT} (hn : mw_net n) (hcn : A.length ≤ 39) (hi : isoN A sg f T) (hvn : vn T.1 T.2.2.1) (hp1 : pm1 T) (hL : rn_lk z n A) (hG : rn_sg z n A.flatten sg) : Te (fun K => qe_X12_isPlane K n z) (fun r => r.1 = (if nt_plane T = true then 1 else 0) ∧ fr (fun g => n + 12 ≤ g ∧ g ≤ n + 16) z r.2 ∧ rn_lk r.2 n A) := by
  have hd := wkF_ok hi.1
  have hc := hi.2.2.1
  have hV := hi.2.1
  have hlen : A.flatten.length ≤ 40 := by omega
  obtain ⟨Lb, hLb, hFx⟩ := faces_F hi hvn hp1
  let Q : Int32 × ow_MS → Prop := fun r => r.1 = (if nt_plane T = true then 1 else 0) ∧ fr (fun g => n + 12 ≤ g ∧ g ≤ n + 16) z r.2 ∧ rn_lk r.2 n A
  refine e_X12_isPlane ?_
  refine u_X12_isPlane_0 ?_; unfold qm_X12_isPlane_0
  refine w_cs0 (tn_split hn hlen hcn hd hL) (fun z1 ⟨f1, P, g1⟩ => w_cs0 (xr_walk hn hlen hd (fr_lk f1 (fun g hg => by rcases hg with hg | hg <;> omega) hL) (fun p hp => by rw [(f1 (n + 6) (by intro h9; rcases h9 with h9 | h9 <;> omega)).2.1]; exact hG p hp) hLb) (fun z2 ⟨f2, F, g2, g3⟩ => ?_))
  have hL1 := fr_lk f1 (fun g hg => by rcases hg with hg | hg <;> omega) hL
  have hL2 := fr_lk f2 (fun g hg => by rcases hg with hg | hg | hg <;> omega) hL1
  obtain ⟨m, hm1, hm2⟩ := mk_of hcn g1
  have hPl := g1.2.1
  have e12 := (f2 (n + 12) (by omega)).2.1
  have hM2 : ∀ c, c < A.length → z2.2.1 (n + 12) c = nI (m c) := fun c hc9 => by rw [e12]; exact hm2 c hc9
  have hP2 : z2.1 (n + 13) = nI P := by rw [(f2 (n + 13) (by omega)).1]; exact g1.1
  have hF2 : z2.1 (n + 16) = nI F := g2.1
  have eF := hFx F _ g2.2.1 g2.2.2.1 g3
  have hF80 : F ≤ 80 := by have := g2.2.1; omega
  have ec := parts_cnt0 hi hvn hm1
  rw [← cntB_fl] at ec
  have hcl : ∀ p, p ≤ P → cntB (fun p => !(pvl A m p A.flatten.length).isEmpty) p ≤ 39 := fun p hp => by
    have := cntB_le (fun p => !(pvl A m p A.flatten.length).isEmpty) p
    omega
  have post : fr (fun g => n + 12 ≤ g ∧ g ≤ n + 16) z z2 := fr_tr (fr_mono (fun g hg => by rcases hg with hg | hg <;> omega) f1) (fr_mono (fun g hg => by rcases hg with hg | hg | hg <;> omega) f2)
  have inn : ∀ (p x1 : Nat), p < P → Tt (fun K k => q_X12_isPlane K k 1 (nI (x1 + if (pvl A m p A.flatten.length).isEmpty = true then 0 else 2)) (nI (p + 1)) 0 0 n 0 0 z2) Q → ∀ (d c : Nat) (b : Bool), c + d = A.length → (b = true ↔ ∃ c', c' < c ∧ m c' = p ∧ rn_b A c' ≠ rn_b A (c' + 1)) → Tt (fun K k => q_X12_isPlane K k 2 (nI x1) (nI p) (bZ b) (nI c) n 0 0 z2) Q := by
    intro p x1 hpP hout d
    induction d with
    | zero =>
      intro c b hc hb
      have hce : c = A.length := by omega
      have hbb : b = !(pvl A m p A.flatten.length).isEmpty := by
        cases hbe : b with
        | true =>
          obtain ⟨c', c1, c2, c3⟩ := hb.mp hbe
          have hs := rn_b_mono A c'
          have hle := rn_b_le A (c' + 1)
          have hv : rn_b A c' < A.flatten.length := by omega
          have hcc : rn_c A (rn_b A c') = c' := rn_c_of A _ _ (Nat.le_refl _) (by omega)
          have : rn_b A c' ∈ pvl A m p A.flatten.length := pvl_m.mpr ⟨hv, by rw [hcc]; exact c2⟩
          cases h9 : pvl A m p A.flatten.length with
          | nil => rw [h9] at this; cases this
          | cons x L => rfl
        | false =>
          cases h9 : pvl A m p A.flatten.length with
          | nil => rfl
          | cons x L =>
            exfalso
            have hx : x ∈ pvl A m p A.flatten.length := by rw [h9]; exact List.mem_cons_self
            obtain ⟨x1, x2⟩ := pvl_m.mp hx
            obtain ⟨q1, q2, q3⟩ := rn_c_in A x x1
            rw [hb.mpr ⟨rn_c A x, by omega, x2, by omega⟩] at hbe
            cases hbe
      refine u_X12_isPlane_2 ?_; unfold qm_X12_isPlane_2
      refine w_rdF hL2.1.2.1 (w_leT (by omega) (by omega) ?_)
      cases he : (pvl A m p A.flatten.length).isEmpty with
      | true =>
        rw [he] at hbb hout
        have hbb : b = false := hbb
        rw [hbb]
        refine w_ifT rfl ?_
        refine u_X12_isPlane_5 ?_; unfold qm_X12_isPlane_5
        rw [nI_1]
        have hout : Tt (fun K k => q_X12_isPlane K k 1 (nI (x1 + 0)) (nI (p + 1)) 0 0 n 0 0 z2) Q := hout
        rw [← nI_add] at hout
        exact hout
      | false =>
        rw [he] at hbb hout
        have hbb : b = true := hbb
        rw [hbb]
        refine w_ifF (by decide) ?_
        refine u_X12_isPlane_5 ?_; unfold qm_X12_isPlane_5
        rw [nI_1]
        have hout : Tt (fun K k => q_X12_isPlane K k 1 (nI (x1 + 2)) (nI (p + 1)) 0 0 n 0 0 z2) Q := hout
        rw [← nI_add] at hout
        exact hout
    | succ d ih =>
      intro c b hc hb
      have hcA : c < A.length := by omega
      have hmc := hm1.1 c hcA
      have same : ¬ (m c = p ∧ rn_b A c ≠ rn_b A (c + 1)) → (b = true ↔ ∃ c', c' < c + 1 ∧ m c' = p ∧ rn_b A c' ≠ rn_b A (c' + 1)) := fun hno => by
        rw [hb]
        constructor
        · rintro ⟨c', c1, c2⟩
          exact ⟨c', by omega, c2⟩
        · rintro ⟨c', c1, c2⟩
          by_cases ecc : c' = c
          · rw [ecc] at c2
            exact absurd c2 hno
          · exact ⟨c', by omega, c2⟩
      have or0 : bZ b ||| 0 = bZ b := by cases b <;> decide
      have or1 : bZ b ||| 1 = bZ true := by cases b <;> decide
      have c3 : ¬ (m c = p ∧ rn_b A c ≠ rn_b A (c + 1)) → Tt (fun K k => q_X12_isPlane K k 3 (nI x1) (nI p) (bZ b) (nI c) n (bZ b) 0 z2) Q := fun hno => by
        refine u_X12_isPlane_3 ?_; unfold qm_X12_isPlane_3
        refine u_X12_isPlane_4 ?_; unfold qm_X12_isPlane_4
        rw [nI_1, or0]
        exact ih (c + 1) b (by omega) (same hno)
      refine u_X12_isPlane_2 ?_; unfold qm_X12_isPlane_2
      refine w_rdF hL2.1.2.1 (w_leF (by omega) (by omega) (w_rdI (pl12 hn) rfl (by omega) (hM2 c hcA) (w_eqN (by omega) (by omega) (fun hmp => w_cs1 (tn_circle hn hlen hcn hcA hL2.1) (fun a z9 h9 => ?_)) (fun hmp => c3 (fun h9 => hmp h9.1)))))
      cases h9
      by_cases hcir : rn_b A c = rn_b A (c + 1)
      · rw [if_pos hcir]
        exact w_ifF (by decide) (c3 (fun h9 => h9.2 hcir))
      · rw [if_neg hcir]
        refine w_ifT rfl ?_
        refine u_X12_isPlane_4 ?_; unfold qm_X12_isPlane_4
        rw [nI_1, or1]
        exact ih (c + 1) true (by omega) ⟨fun _ => ⟨c, by omega, hmp, hcir⟩, fun _ => rfl⟩
  have out : ∀ (d p : Nat), p + d = P → Tt (fun K k => q_X12_isPlane K k 1 (nI (T.1 + 2 * cntB (fun p => !(pvl A m p A.flatten.length).isEmpty) p)) (nI p) 0 0 n 0 0 z2) Q := by
    intro d
    induction d with
    | zero =>
      intro p hp
      have hpe : p = P := by omega
      have hcp := hcl P (Nat.le_refl _)
      rw [hpe]
      have e9 : nt_plane T = decide (F = T.1 + 2 * cntB (fun p => !(pvl A m p A.flatten.length).isEmpty) P) := by
        unfold nt_plane
        rw [← eF, ec]
      refine u_X12_isPlane_1 ?_; unfold qm_X12_isPlane_1
      refine w_rdF hP2 (w_leT (by omega) (by omega) (w_rdF hF2 (w_eqN (by omega) (by omega) (fun h9 => w_okZ (Or.inr rfl) (w_some ⟨?_, post, hL2⟩)) (fun h9 => w_okZ (Or.inl rfl) (w_some ⟨?_, post, hL2⟩)))))
      · rw [e9, decide_eq_true h9]
        rfl
      · rw [e9, decide_eq_false h9]
        rfl
    | succ d ih =>
      intro p hp
      have h1 := ih (p + 1) (by omega)
      refine u_X12_isPlane_1 ?_; unfold qm_X12_isPlane_1
      refine w_rdF hP2 (w_leF (by omega) (by omega) (inn p _ (by omega) ?_ A.length 0 false (by omega) ⟨fun h9 => (by cases h9), fun ⟨c', c1, _⟩ => by omega⟩))
      have e9 : T.1 + 2 * cntB (fun p => !(pvl A m p A.flatten.length).isEmpty) p + (if (pvl A m p A.flatten.length).isEmpty = true then 0 else 2) = T.1 + 2 * cntB (fun p => !(pvl A m p A.flatten.length).isEmpty) (p + 1) := by
        show _ = T.1 + 2 * (cntB (fun p => !(pvl A m p A.flatten.length).isEmpty) p + (if (!(pvl A m p A.flatten.length).isEmpty) = true then 1 else 0))
        cases (pvl A m p A.flatten.length).isEmpty
        · show _ + 2 = T.1 + 2 * (_ + 1)
          omega
        · show _ + 0 = T.1 + 2 * (_ + 0)
          omega
      rw [e9]
      exact h1
  refine w_rdF hL2.V (w_nzI (by decide) ?_)
  rw [show nI A.flatten.length / 2 = nI T.1 from by rw [show nI A.flatten.length / 2 = nI (A.flatten.length / 2) from pk_div (d := 2) (by omega) (by omega) (by omega), show A.flatten.length / 2 = T.1 by omega]]
  exact out P 0 (by omega)
end
section
/-! 99zzzzzzzzzzq.xrd -/
/-! a text read: what it says -/
abbrev rtN := List (Int32 × Int32 × Nat)
abbrev rtO := Nat ⊕ (rtN × rn_L)
def pSg (bt : Nat → Int32) (t i j : Nat) (x : Int32) : Nat ⊕ (Nat × Int32 × Int32 × Nat) := if j = t then .inl t else if bt j = 43 ∨ bt j = 45 then .inr (if bt i = 117 then 1 else 0, x, if bt j = 43 then 1 else -1, j + 1) else .inl j
/-- a visit that begins at i -/
def pV (bt : Nat → Int32) (t i : Nat) : Nat ⊕ (Nat × Int32 × Int32 × Nat) :=
  if bt i = 111 ∨ bt i = 117 then
    if i + 1 = t then .inl t
    else if bt (i + 1) < 49 then .inl (i + 1)
    else if bt (i + 1) ≤ 57 then
      if i + 2 < t ∧ ¬ bt (i + 2) < 48 ∧ ¬ 57 < bt (i + 2) then pSg bt t i (i + 3) (10 * (bt (i + 1) - 48) + bt (i + 2) - 48) else pSg bt t i (i + 2) (bt (i + 1) - 48)
    else .inl (i + 1)
  else .inl i
def nix (nm : rtN) (x : Int32) : Option Nat := nm.findIdx? (fun e => decide (e.1 = x))
def rdC (go : Nat → rtN → rn_L → List vT → rtO) (nm : rtN) (A : rn_L) (B : List vT) (i u : Nat) (x s : Int32) (j : Nat) : rtO := match nix nm x with
  | none => if nm.length = 12 then .inl i else go j (nm ++ [(x, s, i)]) A (B ++ [(nm.length, u)])
  | some k => if (k, u) ∈ A.flatten ++ B ∨ (nm.getD k (0, 0, 0)).2.1 ≠ s then .inl i else go j nm A (B ++ [(k, u)])
def rdF9 (bt : Nat → Int32) (t : Nat) : Nat → Nat → rtN → rn_L → List vT → rtO
  | 0, i, _, _, _ => .inl i
  | n + 1, i, nm, A, B => if t ≤ i then .inr (nm, A ++ [B]) else if bt i = 59 then (if A.length + 1 = 6 then .inl i else rdF9 bt t n (i + 1) nm (A ++ [B]) []) else match pV bt t i with
    | .inl j => .inl j
    | .inr (u, x, s, j) => rdC (rdF9 bt t n) nm A B i u x s j
/-- what holds of what was read -/
def rtP (t : Nat) (nm : rtN) (F : List vT) : Prop := nm.length ≤ 12 ∧ F.Nodup ∧ (∀ p : vT, p ∈ F → p.1 < nm.length ∧ p.2 < 2) ∧ ∀ e, e ∈ nm → s1 e.2.1 ∧ e.2.2 < t
theorem nix_some {nm : rtN} {x : Int32} {k : Nat} : nix nm x = some k ↔ k < nm.length ∧ (nm.getD k (0, 0, 0)).1 = x ∧ ∀ j, j < k → (nm.getD j (0, 0, 0)).1 ≠ x := by
  unfold nix
  rw [List.findIdx?_eq_some_iff_getElem]
  constructor
  · rintro ⟨h, h1, h2⟩
    refine ⟨h, ?_, fun j hj => ?_⟩
    · rw [List.getD_eq_getElem?_getD, List.getElem?_eq_getElem h]
      exact of_decide_eq_true h1
    · rw [List.getD_eq_getElem?_getD, List.getElem?_eq_getElem (show j < nm.length by omega)]
      have := h2 j hj
      intro e
      exact this (decide_eq_true e)
  · rintro ⟨h, h1, h2⟩
    rw [List.getD_eq_getElem?_getD, List.getElem?_eq_getElem h] at h1
    refine ⟨h, decide_eq_true h1, fun j hj => ?_⟩
    have := h2 j hj
    rw [List.getD_eq_getElem?_getD, List.getElem?_eq_getElem (show j < nm.length by omega)] at this
    exact fun h9 => this (of_decide_eq_true h9)
theorem nix_none {nm : rtN} {x : Int32} : nix nm x = none ↔ ∀ j, j < nm.length → (nm.getD j (0, 0, 0)).1 ≠ x := by
  unfold nix
  rw [List.findIdx?_eq_none_iff]
  constructor
  · intro h j hj e
    rw [List.getD_eq_getElem?_getD, List.getElem?_eq_getElem hj] at e
    have := h _ (List.getElem_mem hj)
    have e : nm[j].1 = x := e
    rw [decide_eq_true e] at this
    cases this
  · intro h e he
    obtain ⟨j, hj, rfl⟩ := List.getElem_of_mem he
    have := h j hj
    rw [List.getD_eq_getElem?_getD, List.getElem?_eq_getElem hj] at this
    exact decide_eq_false this
/-- the answers of a reader: R what was read, c whether the net is plane -/
def lonK (nm : rtN) (F : List vT) (k : Nat) : Prop := k < nm.length ∧ ¬ ((k, 0) ∈ F ∧ (k, 1) ∈ F)
def lonA (nm : rtN) (F : List vT) (a : Nat) : Prop := (∃ k, lonK nm F k ∧ (nm.getD k (0, 0, 0)).2.2 = a) ∧ ∀ k, lonK nm F k → a ≤ (nm.getD k (0, 0, 0)).2.2
def sgN (nm : rtN) (x : Nat) : Bool := decide ((nm.getD x (0, 0, 0)).2.1 = -1)
theorem getD_of {nm : rtN} {k : Nat} {e : Int32 × Int32 × Nat} (h : nm[k]? = some e) : nm.getD k (0, 0, 0) = e := by
  rw [List.getD_eq_getElem?_getD, h]
  rfl
theorem rtP_okF {t : Nat} {nm : rtN} {F : List vT} (h : rtP t nm F) (hall : ∀ k, ¬ lonK nm F k) : okF F nm.length := by
  refine ⟨h.2.1, fun p => ⟨fun hp => h.2.2.1 p hp, fun ⟨h1, h2⟩ => ?_⟩⟩
  have h3 : (p.1, 0) ∈ F ∧ (p.1, 1) ∈ F := Classical.byContradiction (fun h9 => hall p.1 ⟨h1, h9⟩)
  have : p.2 = 0 ∨ p.2 = 1 := by omega
  rcases this with e | e
  · have := h3.1
    rw [← e] at this
    exact this
  · have := h3.2
    rw [← e] at this
    exact this
theorem te_all {O α : Type} {f : Nat → Option O} {Q : O → Prop} {H : α → Prop} {R : α → O → Prop} (h1 : Te f Q) (h2 : ∀ a, H a → Te f (R a)) : Te f (fun r => Q r ∧ ∀ a, H a → R a r) := by
  obtain ⟨r, ⟨b, hb⟩, hq⟩ := h1
  refine ⟨r, ⟨b, hb⟩, hq, fun a ha => ?_⟩
  obtain ⟨r', ⟨b', hb'⟩, hr⟩ := h2 a ha
  have e1 := hb (b + b') (by omega)
  have e2 := hb' (b + b') (by omega)
  rw [e1] at e2
  cases e2
  exact hr
/-! the reference reads so -/
theorem xm_byteAt {z : ow_MS} {i t : Nat} (hi : i < 1000) (ht : t ≤ 400) (h11 : z.1 11 = nI t) : Te (fun K => qe_X13_byteAt K (nI i) z) (fun r => r = (if t ≤ i then -1 else z.2.1 10 i, z)) := by
  refine e_X13_byteAt ?_; unfold qm_X13_byteAt_0
  exact w_rdF h11 (w_le (by omega) (by omega) (fun h9 => w_some (by rw [if_pos h9])) (fun h9 => w_rdI ml10 rfl (by omega) rfl (w_some (by rw [if_neg (by omega)]))))
def rD2 (z : ow_MS) (nm : rtN) (A : rn_L) (B : List vT) : Prop := rn_At z 3000 A B ∧ ∀ k e, nm[k]? = some e → z.2.1 16 k = e.1 ∧ z.2.1 17 k = e.2.1 ∧ z.2.1 18 k = nI e.2.2 ∧ z.2.1 19 k = nI (hb (A.flatten ++ B) k) ∧ ∀ u, (k, u) ∈ A.flatten ++ B → z.2.1 3006 k = e.2.1
/-- how the reference answers -/
def rdQ (t : Nat) (R : rtO) (r : Int32 × ow_MS) : Prop := match R with
  | .inl j => r.1 = nI j ∧ j ≤ t
  | .inr (nm, A) => rtP t nm A.flatten ∧ A.length ≤ 6 ∧ A ≠ [] ∧ ((∃ a, a < t ∧ lonA nm A.flatten a ∧ r.1 = nI a) ∨ (∀ k, ¬ lonK nm A.flatten k) ∧ rn_At r.2 3000 A [] ∧ rn_sg r.2 3000 A.flatten (sgN nm) ∧ ∀ a : (Nat → Nat) × ow_NT, (isoN A (sgN nm) a.1 a.2 ∧ vn a.2.1 a.2.2.2.1 ∧ pm1 a.2) → r.1 = if nt_plane a.2 = true then -1 else nI t)
theorem xr_read {z : ow_MS} {bt : Nat → Int32} {t : Nat} {R : rtO} (ht : t ≤ 400) (h11 : z.1 11 = nI t) (hbt : ∀ k, k < t → z.2.1 10 k = bt k) (hR : rdF9 bt t (t + 1) 0 [] [] [] = R) : Te (fun K => qe_X13_read K z) (fun r => fr frV z r.2 ∧ rdQ t R r) := by
  let Q : Int32 × ow_MS → Prop := fun r => fr frV z r.2 ∧ rdQ t R r
  have t11 : ∀ {y : ow_MS}, fr frV z y → y.1 11 = nI t := fun hf => by rw [(hf 11 (by unfold frV; omega)).1]; exact h11
  have tbt : ∀ {y : ow_MS}, fr frV z y → ∀ k, k < t → y.2.1 10 k = bt k := fun hf k hk => by rw [(hf 10 (by unfold frV; omega)).2.1]; exact hbt k hk
  have bAt : ∀ {y : ow_MS} {i : Nat}, fr frV z y → i < 1000 → Te (fun K => qe_X13_byteAt K (nI i) y) (fun r => r = (if t ≤ i then -1 else bt i, y)) := fun {y i} hf hi => w_monoE (xm_byteAt hi ht (t11 hf)) (fun r e => by
    rw [e]
    by_cases h9 : t ≤ i
    · rw [if_pos h9, if_pos h9]
    · rw [if_neg h9, if_neg h9, tbt hf i (by omega)])
  have ret : ∀ (a : Nat) (y : ow_MS), a ≤ t → fr frV z y → R = .inl a → Q (nI a, y) := fun a y ha hf e => ⟨hf, by
    rw [e]
    exact ⟨rfl, ha⟩⟩
  have l10 : ∀ (x2 : Int32) (A1 : rn_L) (nm : rtN), A1.length ≤ 6 → A1 ≠ [] → rtP t nm A1.flatten → R = .inr (nm, A1) → ∀ (k j l : Nat) (y : ow_MS), j + k = nm.length → fr frV z y → rD2 y nm A1 [] → (l = t + 1 ∧ (∀ i, i < j → hb A1.flatten i = 3) ∨ l < t ∧ (∃ i, i < j ∧ lonK nm A1.flatten i ∧ (nm.getD i (0, 0, 0)).2.2 = l) ∧ ∀ i, i < j → lonK nm A1.flatten i → l ≤ (nm.getD i (0, 0, 0)).2.2) → Tt (fun K i => q_X13_read K i 10 (nI nm.length) x2 (nI l) (nI j) 0 0 0 0 0 y) Q := by
    intro x2 A1 nm hA6 hAne hP hRe k
    have hN12 := hP.1
    have lon3 : ∀ i, i < nm.length → (hb A1.flatten i = 3 ↔ ¬ lonK nm A1.flatten i) := fun i hi => by
      constructor
      · intro h9 h8
        exact h8.2 (hb_3 h9)
      · intro h9
        have h3 : (i, 0) ∈ A1.flatten ∧ (i, 1) ∈ A1.flatten := Classical.byContradiction (fun h8 => h9 ⟨hi, h8⟩)
        unfold hb
        rw [if_pos h3.1, if_pos h3.2]
    induction k with
    | zero =>
      intro j l y hj hf hD hl
      obtain ⟨r1, r2⟩ := hD
      rw [List.append_nil] at r2
      refine u_X13_read_10 ?_; unfold qm_X13_read_10
      refine w_leT (by omega) (by omega) (w_rdF (t11 hf) (w_lt (by omega) (by omega) (fun h9 => ?_) (fun h9 => w_some ⟨hf, ?_⟩)))
      · have hall : ∀ i, ¬ lonK nm A1.flatten i := fun i hi => by
          rcases hl with ⟨-, hl⟩ | hl
          · exact (lon3 i hi.1).mp (hl i (by have := hi.1; omega)) hi
          · omega
        have ok := rtP_okF hP hall
        have wk : wkF A1.flatten := okF_wk (by omega) ok
        have hlen := okF_len ok
        have sgY : rn_sg y 3000 A1.flatten (sgN nm) := fun p hp => by
          have hk := (hP.2.2.1 p hp).1
          obtain ⟨q1, q2, q3, q4, q5⟩ := r2 p.1 _ (List.getElem?_eq_getElem hk)
          have e9 := q5 p.2 hp
          show y.2.1 3006 p.1 = _
          rw [e9]
          unfold sgN
          rw [getD_of (List.getElem?_eq_getElem hk)]
          rcases (hP.2.2.2 _ (List.getElem_mem hk)).1 with e | e <;> rw [e] <;> rfl
        refine w_cs0 (tn_link pn3 (by omega) (by omega) (wkF_ok wk).1 r1) (fun y1 ⟨g1, g2, g3⟩ => ?_)
        have sg1 : rn_sg y1 3000 A1.flatten (sgN nm) := fun p hp => by
          rw [(g1 3006 (fun h8 => by have := h8.1; omega)).2.1]
          exact sgY p hp
        have pln := te_all (α := (Nat → Nat) × ow_NT) (H := fun a => isoN A1 (sgN nm) a.1 a.2 ∧ vn a.2.1 a.2.2.2.1 ∧ pm1 a.2) (R := fun a r => r.1 = if nt_plane a.2 = true then 1 else 0) (tn_plane pn3 (by omega) (by omega) (wkF_ok wk) ⟨g2, g3⟩) (fun a ha => w_monoE (xr_plane pn3 (by omega) ha.1 ha.2.1 ha.2.2 ⟨g2, g3⟩ sg1) (fun r hr => hr.1))
        refine w_cs1 pln (fun a y2 ⟨⟨k1, k2, k3, _, _⟩, k4⟩ => ?_)
        have k2 : fr (fun g => 3000 + 12 ≤ g ∧ g ≤ 3000 + 16) y1 y2 := k2
        have k3 : rn_lk y2 3000 A1 := k3
        have k1 : a = 0 ∨ a = 1 := k1
        have k4 : ∀ (c : (Nat → Nat) × ow_NT), isoN A1 (sgN nm) c.1 c.2 ∧ vn c.2.1 c.2.2.2.1 ∧ pm1 c.2 → a = if nt_plane c.2 = true then 1 else 0 := k4
        have hf2 : fr frV z y2 := fr_tr hf (fr_tr (fr_mono (fun g hg => Or.inr (by have := hg.1; have := hg.2; omega)) g1) (fr_mono (fun g hg => Or.inr (by omega)) k2))
        have sg2 : rn_sg y2 3000 A1.flatten (sgN nm) := fun p hp => by
          rw [(k2 3006 (by omega)).2.1]
          exact sg1 p hp
        have fin : ∀ x : Int32, (∀ c : (Nat → Nat) × ow_NT, isoN A1 (sgN nm) c.1 c.2 ∧ vn c.2.1 c.2.2.2.1 ∧ pm1 c.2 → x = if nt_plane c.2 = true then -1 else nI t) → Q (x, y2) := fun x hx => ⟨hf2, by
          rw [hRe]
          exact ⟨hP, hA6, hAne, Or.inr ⟨hall, k3.1, sg2, hx⟩⟩⟩
        refine w_if (fun h0 => w_rdF (t11 hf2) (w_some (fin _ (fun c hc => ?_)))) (fun h0 => w_some (fin _ (fun c hc => ?_)))
        · have := k4 c hc
          rw [h0] at this
          cases e9 : nt_plane c.2 with
          | false => rfl
          | true =>
            rw [e9] at this
            exact absurd this (by decide)
        · have := k4 c hc
          cases e9 : nt_plane c.2 with
          | true => rfl
          | false =>
            rw [e9] at this
            exact absurd this h0
      · rcases hl with ⟨e, -⟩ | ⟨e, ⟨i, i1, i2, i3⟩, h8⟩
        · omega
        · show rdQ t R (nI l, y)
          rw [hRe]
          exact ⟨hP, hA6, hAne, Or.inl ⟨l, e, ⟨⟨i, i2, i3⟩, fun k hk => h8 k (by have := hk.1; omega) hk⟩, rfl⟩⟩
    | succ k ih =>
      intro j l y hj hf hD hl
      have hjN : j < nm.length := by omega
      obtain ⟨q1, q2, q3, q4, q5⟩ := hD.2 j _ (List.getElem?_eq_getElem hjN)
      rw [List.append_nil] at q4
      have hat : nm[j].2.2 < t := (hP.2.2.2 _ (List.getElem_mem hjN)).2
      have eat : (nm.getD j (0, 0, 0)).2.2 = nm[j].2.2 := by rw [getD_of (List.getElem?_eq_getElem hjN)]
      have hbl := hb_lt (F := A1.flatten) (k := j)
      refine u_X13_read_10 ?_; unfold qm_X13_read_10
      refine w_leF (by omega) (by omega) (w_rdI ml19 rfl (by omega) q4 (w_eqN (b := 3) (by omega) (by omega) (fun h9 => ?_) (fun h9 => w_rdI ml18 rfl (by omega) q3 ?_)))
      · refine u_X13_read_11 ?_; unfold qm_X13_read_11
        rw [nI_1]
        have hno := (lon3 j hjN).mp h9
        refine ih (j + 1) l y (by omega) hf hD (hl.imp (fun ⟨e1, e2⟩ => ⟨e1, fun i hi => ?_⟩) (fun ⟨e1, ⟨i, i1, i2⟩, e2⟩ => ⟨e1, ⟨i, by omega, i2⟩, fun i hi h8 => ?_⟩))
        · by_cases hij : i = j
          · rw [hij]; exact h9
          · exact e2 i (by omega)
        · by_cases hij : i = j
          · rw [hij] at h8
            exact absurd h8 hno
          · exact e2 i (by omega) h8
      · have hlo : lonK nm A1.flatten j := Classical.byContradiction (fun h8 => h9 ((lon3 j hjN).mpr h8))
        have up : ∀ i, i < j + 1 → lonK nm A1.flatten i → (i = j ∨ i < j) := fun i hi _ => by omega
        by_cases hal : nm[j].2.2 < l
        · rw [if_pos (nI_lt hal (by omega))]
          refine u_X13_read_11 ?_; unfold qm_X13_read_11
          rw [nI_1]
          refine ih (j + 1) nm[j].2.2 y (by omega) hf hD (Or.inr ⟨hat, ⟨j, by omega, hlo, eat⟩, fun i hi h8 => ?_⟩)
          by_cases hij : i = j
          · rw [hij, eat]
            exact Nat.le_refl _
          · rcases hl with ⟨-, hl⟩ | ⟨-, -, hl⟩
            · exact absurd h8 ((lon3 i h8.1).mp (hl i (by omega)))
            · have := hl i (by omega) h8
              omega
        · rw [if_neg (nI_nlt (by omega) (by omega))]
          refine u_X13_read_11 ?_; unfold qm_X13_read_11
          rw [nI_1]
          rcases hl with ⟨hl, -⟩ | ⟨hl0, ⟨i0, i1, i2⟩, hl⟩
          · omega
          · refine ih (j + 1) l y (by omega) hf hD (Or.inr ⟨hl0, ⟨i0, by omega, i2⟩, fun i hi h8 => ?_⟩)
            by_cases hij : i = j
            · rw [hij, eat]
              omega
            · exact hl i (by omega) h8
  have main : ∀ (u i n : Nat) (nm : rtN) (A1 : rn_L) (B1 : List vT) (y : ow_MS), i + u = t → t + 1 ≤ i + n → A1.length ≤ 5 → fr frV z y → rD2 y nm A1 B1 → rtP t nm (A1.flatten ++ B1) → rdF9 bt t n i nm A1 B1 = R → Tt (fun K k => q_X13_read K k 1 (nI nm.length) (nI i) 0 0 0 0 0 0 0 y) Q := by
    intro u
    induction u using Nat.strongRecOn with
    | ind u ih =>
      intro i n nm A1 B1 y hi hn hA5 hf hD hP hRe
      have hlen := rd_len hP.2.1 hP.2.2.1
      have hN12 := hP.1
      obtain ⟨n, rfl⟩ : ∃ n', n = n' + 1 := ⟨n - 1, by omega⟩
      have hRe : (if t ≤ i then Sum.inr (nm, A1 ++ [B1]) else if bt i = 59 then (if A1.length + 1 = 6 then Sum.inl i else rdF9 bt t n (i + 1) nm (A1 ++ [B1]) []) else match pV bt t i with
        | .inl j => Sum.inl j
        | .inr (u, x, s, j) => rdC (rdF9 bt t n) nm A1 B1 i u x s j) = R := hRe
      have eFl : (A1 ++ [B1]).flatten = A1.flatten ++ B1 := by rw [List.flatten_append]; simp
      have endR : ∀ {y2 : ow_MS}, rn_At y2 3000 (A1 ++ [B1]) [] → fr (fun g => g = 3000 + 2 ∨ g = 3000 + 3) y y2 → rD2 y2 nm (A1 ++ [B1]) [] := by
        intro y2 h1 h2
        unfold rD2
        rw [List.append_nil, eFl, (h2 16 (by omega)).2.1, (h2 19 (by omega)).2.1, (h2 17 (by omega)).2.1, (h2 18 (by omega)).2.1, (h2 3006 (by omega)).2.1]
        exact ⟨h1, hD.2⟩
      refine u_X13_read_1 ?_; unfold qm_X13_read_1
      refine w_rdF (t11 hf) (w_le (by omega) (by omega) (fun hti => w_cs0 (tn_end pn3 hD.1 (by omega)) (fun y2 ⟨g1, g2⟩ => ?_)) (fun hit => ?_))
      · have hf2 : fr frV z y2 := fr_tr hf (fr_mono (fun g hg => Or.inr (by omega)) g2)
        rw [if_pos hti] at hRe
        refine w_rdF (t11 hf2) ?_
        rw [nI_1]
        exact l10 _ (A1 ++ [B1]) nm (by rw [List.length_append]; show A1.length + 1 ≤ 6; omega) (by simp) (by rw [eFl]; exact hP) hRe.symm nm.length 0 (t + 1) y2 (by omega) hf2 (endR g1 g2) (Or.inl ⟨rfl, fun i hi => by omega⟩)
      · rw [if_neg (by omega)] at hRe
        refine w_rdI ml10 rfl (by omega) (tbt hf i hit) (w_if (fun h59 => w_cs0 (tn_end pn3 hD.1 (by omega)) (fun y2 ⟨g1, g2⟩ => ?_)) (fun h59 => ?_))
        · have hf2 : fr frV z y2 := fr_tr hf (fr_mono (fun g hg => Or.inr (by omega)) g2)
          rw [if_pos h59] at hRe
          have e2 := g1.2.1
          rw [List.length_append] at e2
          have e2 : y2.1 (3000 + 2) = nI (A1.length + 1) := e2
          refine w_rdF e2 (w_eqN (b := 6) (by omega) (by omega) (fun h6 => ?_) (fun h6 => ?_))
          · rw [if_pos h6] at hRe
            exact w_some (ret i y2 (by omega) hf2 hRe.symm)
          · rw [if_neg h6] at hRe
            rw [nI_1]
            exact ih (t - (i + 1)) (by omega) (i + 1) n nm (A1 ++ [B1]) [] y2 (by omega) (by omega) (by rw [List.length_append]; show A1.length + 1 ≤ 5; omega) hf2 (endR g1 g2) (by rw [List.append_nil, eFl]; exact hP) hRe
        · rw [if_neg h59] at hRe
          have l9 : ∀ (nm2 : rtN) (i2 k u9 : Nat) (x3 x5 x6 : Int32) (y2 : ow_MS), i < i2 → i2 ≤ t → u9 < 2 → k < nm2.length → fr frV z y2 → rD2 y2 nm2 A1 B1 → rtP t nm2 (A1.flatten ++ B1) → (if (k, u9) ∈ A1.flatten ++ B1 ∨ (nm2.getD k (0, 0, 0)).2.1 ≠ x6 then Sum.inl i else rdF9 bt t n i2 nm2 A1 (B1 ++ [(k, u9)])) = R → Tt (fun K k9 => q_X13_read K k9 9 (nI nm2.length) (nI i2) x3 (nI i) x5 x6 (nI u9) (nI k) 0 y2) Q := by
            intro nm2 i2 k u9 x3 x5 x6 y2 hi2 hit2 hu9 hkN hf2 hD2 hP2 hR9
            have hget := List.getElem?_eq_getElem hkN
            obtain ⟨q1, q2, q3, q4, q5⟩ := hD2.2 k _ hget
            have r42 := hP2.1
            have hlen2 := rd_len hP2.2.1 hP2.2.2.1
            rw [getD_of hget] at hR9
            refine u_X13_read_9 ?_; unfold qm_X13_read_9
            refine w_rdI ml19 rfl (by omega) q4 (w_if (fun hand => w_rdI ml17 rfl (by omega) q2 (w_if (fun hsg => w_rdI ml19 rfl (by omega) q4 (w_wrI ml19 rfl (by omega) (w_wrI (pl6 pn3) rfl (by omega) ?_))) (fun hsg => w_some (ret i y2 (by omega) hf2 ?_)))) (fun hand => w_some (ret i y2 (by omega) hf2 ?_)))
            · have hnot := (hb_and hu9).mp hand
              rw [if_neg (fun h9 => h9.elim hnot (fun h8 => h8 hsg))] at hR9
              rw [hb_or hu9 hnot]
              obtain ⟨y3, hy3⟩ : ∃ y3, y3 = usI (usI y2 19 k (nI (hb (A1.flatten ++ B1 ++ [(k, u9)]) k))) 3006 k x6 := ⟨_, rfl⟩
              have f3 : fr (fun g => g = 19 ∨ g = 3006) y2 y3 := by rw [hy3]; exact fr_I2 (fr_I (Or.inl rfl)) (Or.inr rfl)
              rw [← hy3]
              refine w_cs0 (tn_add pn3 (fr_At f3 (fun g hg => by omega) hD2.1) (by omega)) (fun y4 ⟨g1, g2⟩ => ?_)
              have hf4 : fr frV z y4 := fr_tr hf2 (fr_tr (fr_mono (fun g hg => by unfold frV; omega) f3) (fr_mono (fun g hg => Or.inr (by omega)) g2))
              have e : A1.flatten ++ (B1 ++ [(k, u9)]) = A1.flatten ++ B1 ++ [(k, u9)] := (List.append_assoc _ _ _).symm
              refine ih (t - i2) (by omega) i2 n nm2 A1 (B1 ++ [(k, u9)]) y4 (by omega) (by omega) hA5 hf4 ?_ ?_ hR9
              · unfold rD2
                rw [e, (g2 16 (by omega)).2.1, (g2 19 (by omega)).2.1, (g2 17 (by omega)).2.1, (g2 18 (by omega)).2.1, (g2 3006 (by omega)).2.1]
                refine ⟨g1, fun j ej hj => ?_⟩
                obtain ⟨j1, j2, j3, j4, j5⟩ := hD2.2 j ej hj
                rw [hy3]
                by_cases hjk : j = k
                · subst hjk
                  rw [hget] at hj
                  cases hj
                  refine ⟨rd_ot (by decide) (rd_ot (by decide) j1), rd_ot (by decide) (rd_ot (by decide) j2), rd_ot (by decide) (rd_ot (by decide) j3), rd_ot (by decide) po_usI_at, fun u8 _ => ?_⟩
                  rw [po_usI_at]
                  exact hsg.symm
                · refine ⟨rd_ot (by decide) (rd_ot (by decide) j1), rd_ot (by decide) (rd_ot (by decide) j2), rd_ot (by decide) (rd_ot (by decide) j3), rd_ot (by decide) (rd_ne hjk (by rw [hb_ot hjk]; exact j4)), fun u8 hu8 => ?_⟩
                  rw [po_usI_ne hjk, po_usI_ot (by decide)]
                  refine j5 u8 ?_
                  rw [List.mem_append, List.mem_singleton] at hu8
                  exact hu8.resolve_right (fun h8 => hjk (Prod.mk.inj h8).1)
              · rw [e]
                refine ⟨r42, ?_, fun p hp => ?_, hP2.2.2.2⟩
                · rw [List.nodup_append]
                  refine ⟨hP2.2.1, by simp, fun a ha b hb9 e9 => hnot ?_⟩
                  have : b = (k, u9) := by simpa using hb9
                  rw [← this, ← e9]
                  exact ha
                · rw [List.mem_append, List.mem_singleton] at hp
                  rcases hp with hp | hp
                  · exact hP2.2.2.1 p hp
                  · rw [hp]
                    exact ⟨hkN, hu9⟩
            · rw [if_pos (Or.inr hsg)] at hR9
              exact hR9.symm
            · rw [if_pos (Or.inl (Classical.byContradiction (fun h9 => hand ((hb_and hu9).mpr h9))))] at hR9
              exact hR9.symm
          have l8 : ∀ (i2 k u9 : Nat) (x3 x5 x6 : Int32), i < i2 → i2 ≤ t → u9 < 2 → k ≤ nm.length → s1 x6 → (∀ j, j < k → (nm.getD j (0, 0, 0)).1 ≠ x5) → (k < nm.length → (nm.getD k (0, 0, 0)).1 = x5) → rdC (rdF9 bt t n) nm A1 B1 i u9 x5 x6 i2 = R → Tt (fun K k9 => q_X13_read K k9 8 (nI nm.length) (nI i2) x3 (nI i) x5 x6 (nI u9) (nI k) 0 y) Q := by
            intro i2 k u9 x3 x5 x6 hi2 hit2 hu9 hkN hs6 hbf hat hRC
            unfold rdC at hRC
            refine u_X13_read_8 ?_; unfold qm_X13_read_8
            refine w_eqN (by omega) (by omega) (fun hke => ?_) (fun hke => ?_)
            · subst hke
              rw [nix_none.mpr hbf] at hRC
              have hRC : (if nm.length = 12 then Sum.inl i else rdF9 bt t n i2 (nm ++ [(x5, x6, i)]) A1 (B1 ++ [(nm.length, u9)])) = R := hRC
              refine w_eqN (b := 12) (by omega) (by omega) (fun h12 => w_some (ret i y (by omega) hf ?_)) (fun h12 => w_wrI ml16 rfl (by omega) (w_wrI ml17 rfl (by omega) (w_wrI ml18 rfl (by omega) (w_wrI ml19 rfl (by omega) ?_))))
              · rw [if_pos h12] at hRC
                exact hRC.symm
              · rw [if_neg h12] at hRC
                rw [nI_1]
                have hno : ∀ u8, (nm.length, u8) ∉ A1.flatten ++ B1 := fun u8 h8 => by
                  have := (hP.2.2.1 _ h8).1
                  have : nm.length < nm.length := this
                  omega
                have h0 : hb (A1.flatten ++ B1) nm.length = 0 := by
                  unfold hb
                  rw [if_neg (hno 0), if_neg (hno 1)]
                have f3 : fr (fun g => 16 ≤ g ∧ g ≤ 19) y (usI (usI (usI (usI y 16 nm.length x5) 17 nm.length x6) 18 nm.length (nI i)) 19 nm.length 0) := fr_I2 (fr_I2 (fr_I2 (fr_I (by decide)) (by decide)) (by decide)) (by decide)
                have eg : (nm ++ [(x5, x6, i)]).getD nm.length (0, 0, 0) = (x5, x6, i) := getD_of (by rw [List.getElem?_append_right (Nat.le_refl _), Nat.sub_self]; rfl)
                have key := l9 (nm ++ [(x5, x6, i)]) i2 nm.length u9 x3 x5 x6 (usI (usI (usI (usI y 16 nm.length x5) 17 nm.length x6) 18 nm.length (nI i)) 19 nm.length 0) hi2 hit2 hu9 (by rw [List.length_append]; show nm.length < nm.length + 1; omega) (fr_tr hf (fr_mono (fun g hg => Or.inl hg) f3)) ⟨fr_At f3 (fun g hg => by omega) hD.1, fun j ej hj => ?_⟩ ⟨by rw [List.length_append]; show nm.length + 1 ≤ 12; omega, hP.2.1, fun p hp => ⟨by rw [List.length_append]; have := (hP.2.2.1 p hp).1; omega, (hP.2.2.1 p hp).2⟩, fun e he => ?_⟩ ?_
                · rw [List.length_append] at key
                  exact key
                · by_cases hjk : j = nm.length
                  · subst hjk
                    rw [List.getElem?_append_right (Nat.le_refl _), Nat.sub_self] at hj
                    cases hj
                    refine ⟨rd_ot (by decide) (rd_ot (by decide) (rd_ot (by decide) po_usI_at)), rd_ot (by decide) (rd_ot (by decide) po_usI_at), rd_ot (by decide) po_usI_at, ?_, fun u8 h8 => absurd h8 (hno u8)⟩
                    rw [h0]
                    exact po_usI_at
                  · have hjl : j < nm.length := by
                      have := (List.getElem?_eq_some_iff.mp hj).1
                      rw [List.length_append] at this
                      have this : j < nm.length + 1 := this
                      omega
                    rw [List.getElem?_append_left hjl] at hj
                    obtain ⟨j1, j2, j3, j4, j5⟩ := hD.2 j ej hj
                    refine ⟨rd_ot (by decide) (rd_ot (by decide) (rd_ot (by decide) (rd_ne hjk j1))), rd_ot (by decide) (rd_ot (by decide) (rd_ne hjk (rd_ot (by decide) j2))), rd_ot (by decide) (rd_ne hjk (rd_ot (by decide) (rd_ot (by decide) j3))), rd_ne hjk (rd_ot (by decide) (rd_ot (by decide) (rd_ot (by decide) j4))), fun u8 h8 => ?_⟩
                    rw [(f3 3006 (by omega)).2.1]
                    exact j5 u8 h8
                · rcases List.mem_append.mp he with h9 | h9
                  · exact hP.2.2.2 e h9
                  · rw [List.mem_singleton.mp h9]
                    exact ⟨hs6, hit⟩
                · rw [eg, if_neg (fun h9 => h9.elim (hno u9) (fun h8 => h8 rfl))]
                  exact hRC
            · have hkl : k < nm.length := by omega
              rw [nix_some.mpr ⟨hkl, hat hkl, hbf⟩] at hRC
              exact l9 nm i2 k u9 x3 x5 x6 y hi2 hit2 hu9 hkl hf hD hP hRC
          have l7 : ∀ (i2 u9 : Nat) (x3 x5 x6 : Int32), i < i2 → i2 ≤ t → u9 < 2 → s1 x6 → rdC (rdF9 bt t n) nm A1 B1 i u9 x5 x6 i2 = R → ∀ (d k : Nat), k + d = nm.length → (∀ j, j < k → (nm.getD j (0, 0, 0)).1 ≠ x5) → Tt (fun K k9 => q_X13_read K k9 7 (nI nm.length) (nI i2) x3 (nI i) x5 x6 (nI u9) (nI k) 0 y) Q := by
            intro i2 u9 x3 x5 x6 hi2 hit2 hu9 hs6 hRC d
            induction d with
            | zero =>
              intro k hk hbf
              refine u_X13_read_7 ?_; unfold qm_X13_read_7
              exact w_leT (by omega) (by omega) (l8 i2 k u9 x3 x5 x6 hi2 hit2 hu9 (by omega) hs6 hbf (fun h9 => by omega) hRC)
            | succ d ihd =>
              intro k hk hbf
              have hkl : k < nm.length := by omega
              have hget := List.getElem?_eq_getElem hkl
              obtain ⟨q1, -⟩ := hD.2 k _ hget
              refine u_X13_read_7 ?_; unfold qm_X13_read_7
              rw [nI_1]
              refine w_leF (by omega) (by omega) (w_rdI ml16 rfl (by omega) q1 (w_if (fun h9 => l8 i2 k u9 x3 x5 x6 hi2 hit2 hu9 (by omega) hs6 hbf (fun _ => by rw [getD_of hget]; exact h9) hRC) (fun h9 => ihd (k + 1) (by omega) (fun j hj => ?_))))
              by_cases hjk : j = k
              · rw [hjk, getD_of hget]
                exact h9
              · exact hbf j (by omega)
          have l3 : ∀ (i2 : Nat) (x5 : Int32), i < i2 → i2 ≤ t → (match pSg bt t i i2 x5 with
              | .inl j => Sum.inl j
              | .inr (u, x, s, j) => rdC (rdF9 bt t n) nm A1 B1 i u x s j) = R → Tt (fun K k9 => q_X13_read K k9 3 (nI nm.length) (nI i2) (bt i) (nI i) x5 0 0 0 0 y) Q := by
            intro i2 x5 hi2 hit2 hRC
            unfold pSg at hRC
            have l4 : i2 < t → (bt i2 = 43 ∨ bt i2 = 45) → rdC (rdF9 bt t n) nm A1 B1 i (if bt i = 117 then 1 else 0) x5 (if bt i2 = 43 then 1 else -1) (i2 + 1) = R → Tt (fun K k9 => q_X13_read K k9 4 (nI nm.length) (nI i2) (bt i) (nI i) x5 0 0 0 0 y) Q := by
              intro hlt hs hRC
              have l5 : ∀ t0 : Int32, s1 t0 → rdC (rdF9 bt t n) nm A1 B1 i (if bt i = 117 then 1 else 0) x5 t0 (i2 + 1) = R → Tt (fun K k9 => q_X13_read K k9 5 (nI nm.length) (nI i2) (bt i) (nI i) x5 0 0 0 t0 y) Q := by
                intro t0 h0 hRC
                refine u_X13_read_5 ?_; unfold qm_X13_read_5
                rw [nI_1]
                refine w_if (fun h7 => ?_) (fun h7 => ?_)
                · rw [if_pos h7] at hRC
                  refine u_X13_read_6 ?_; unfold qm_X13_read_6
                  exact l7 (i2 + 1) 1 _ x5 t0 (by omega) (by omega) (by omega) h0 hRC nm.length 0 (by omega) (fun j hj => by omega)
                · rw [if_neg h7] at hRC
                  refine u_X13_read_6 ?_; unfold qm_X13_read_6
                  exact l7 (i2 + 1) 0 _ x5 t0 (by omega) (by omega) (by omega) h0 hRC nm.length 0 (by omega) (fun j hj => by omega)
              refine u_X13_read_4 ?_; unfold qm_X13_read_4
              refine w_cs1 (bAt hf (by omega)) (fun a y9 e => ?_)
              cases e
              rw [if_neg (by omega)]
              refine w_if (fun h9 => ?_) (fun h9 => ?_)
              · rw [if_pos h9] at hRC
                exact l5 1 (Or.inl rfl) hRC
              · rw [if_neg h9] at hRC
                exact l5 (-1) (Or.inr rfl) hRC
            refine u_X13_read_3 ?_; unfold qm_X13_read_3
            refine w_rdF (t11 hf) (w_eqN (by omega) (by omega) (fun h9 => ?_) (fun hne => w_cs1 (bAt hf (by omega)) (fun a y9 e => ?_)))
            · rw [if_pos h9] at hRC
              exact w_rdF (t11 hf) (w_some (ret t y (by omega) hf hRC.symm))
            · cases e
              rw [if_neg hne] at hRC
              rw [if_neg (by omega)]
              refine w_if (fun h9 => ?_) (fun h9 => w_cs1 (bAt hf (by omega)) (fun a y9 e => ?_))
              · rw [if_pos (Or.inl h9)] at hRC
                exact l4 (by omega) (Or.inl h9) hRC
              · cases e
                rw [if_neg (by omega)]
                refine w_if (fun h8 => ?_) (fun h8 => ?_)
                · rw [if_pos (Or.inr h8)] at hRC
                  exact l4 (by omega) (Or.inr h8) hRC
                · rw [if_neg (fun h7 => h7.elim h9 h8)] at hRC
                  exact w_some (ret i2 _ (by omega) hf hRC.symm)
          have l2 : (bt i = 111 ∨ bt i = 117) → Tt (fun K k => q_X13_read K k 2 (nI nm.length) (nI i) (bt i) 0 0 0 0 0 0 y) Q := by
            intro hou
            unfold pV at hRe
            rw [if_pos hou] at hRe
            refine u_X13_read_2 ?_; unfold qm_X13_read_2
            rw [nI_1, nI_1, nI_1]
            refine w_rdF (t11 hf) (w_eqN (by omega) (by omega) (fun h9 => ?_) (fun hne => w_cs1 (bAt hf (by omega)) (fun a1 y1 e1 => ?_)))
            · rw [if_pos h9] at hRe
              exact w_rdF (t11 hf) (w_some (ret t y (by omega) hf hRe.symm))
            · cases e1
              rw [if_neg hne] at hRe
              rw [if_neg (by omega)]
              refine w_if (fun h9 => ?_) (fun h9 => w_cs1 (bAt hf (by omega)) (fun a2 y2 e2 => ?_))
              · rw [if_pos h9] at hRe
                exact w_some (ret (i + 1) _ (by omega) hf hRe.symm)
              · cases e2
                rw [if_neg h9] at hRe
                rw [if_neg (by omega)]
                refine w_if (fun h8 => w_cs1 (bAt hf (by omega)) (fun a3 y3 e3 => w_cs1 (bAt (i := i + 1 + 1) (y := y3) (by cases e3; exact hf) (by omega)) (fun a4 y4 e4 => ?_))) (fun h8 => ?_)
                · cases e3
                  cases e4
                  rw [if_pos h8] at hRe
                  rw [if_neg (show ¬ t ≤ i + 1 by omega)]
                  by_cases h2 : t ≤ i + 1 + 1
                  · rw [if_pos h2]
                    rw [if_neg (fun h7 => by omega)] at hRe
                    exact w_ifT (by decide) (l3 (i + 1 + 1) _ (by omega) (by omega) hRe)
                  · rw [if_neg h2]
                    refine w_if (fun h7 => ?_) (fun h7 => w_cs1 (bAt hf (by omega)) (fun a5 y5 e5 => ?_))
                    · rw [if_neg (fun h6 => h6.2.1 h7)] at hRe
                      exact l3 (i + 1 + 1) _ (by omega) (by omega) hRe
                    · cases e5
                      rw [if_neg h2]
                      refine w_if (fun h6 => ?_) (fun h6 => w_cs1 (bAt hf (by omega)) (fun a6 y6 e6 => ?_))
                      · rw [if_neg (fun h5 => h5.2.2 h6)] at hRe
                        exact l3 (i + 1 + 1) _ (by omega) (by omega) hRe
                      · cases e6
                        rw [if_neg h2]
                        rw [if_pos ⟨by omega, h7, h6⟩] at hRe
                        exact l3 (i + 1 + 1 + 1) _ (by omega) (by omega) hRe
                · rw [if_neg h8] at hRe
                  exact w_some (ret (i + 1) _ (by omega) hf hRe.symm)
          refine w_if (fun h9 => l2 (Or.inl h9)) (fun h9 => w_if (fun h8 => l2 (Or.inr h8)) (fun h8 => ?_))
          unfold pV at hRe
          rw [if_neg (fun h7 => h7.elim h9 h8)] at hRe
          exact w_some (ret i y (by omega) hf hRe.symm)
  refine e_X13_read ?_
  refine u_X13_read_0 ?_; unfold qm_X13_read_0
  refine w_cs0 (tn_clear pn3) (fun y ⟨g1, g2⟩ => main t 0 (t + 1) [] [] [] y (by omega) (by omega) (Nat.zero_le _) (fr_mono (fun g hg => Or.inr (by omega)) g2) ⟨g1, fun k e he => by rw [List.getElem?_nil] at he; cases he⟩ ⟨Nat.zero_le _, List.nodup_nil, fun p hp => (by cases hp), fun e he => (by cases he)⟩ hR)
end
