section
/-! 99zzzzzzzzzzo.xpl -/
/-! the reference's isPlane, exactly: faces counted on both sides -/
def wkF3 (A : rn_L) (sg : Nat → Bool) (Lb : Nat → Nat) (f : Nat) (M : Nat → Int32) : Prop := wkF2 A sg f M ∧ ∀ f', f' < f → (∃ s, s < 2 * A.flatten.length ∧ M s = nI f') ∧ ∀ s s', s < 2 * A.flatten.length → s' < 2 * A.flatten.length → M s = nI f' → M s' = nI f' → Lb s = Lb s'
theorem xr_walk {n : Nat} {z : ow_MS} {A : rn_L} {sg : Nat → Bool} {Lb : Nat → Nat} (hn : mw_net n) (hlen : A.flatten.length ≤ 40) (hd : rn_ok A.flatten) (hL : rn_lk z n A) (hG : rn_sg z n A.flatten sg) (hLb : ∀ s, s < 2 * A.flatten.length → Lb (phi A sg s) = Lb s) : Te (fun K => qe_X12_walk K n z) (fun z1 => fr (frW n) z z1 ∧ ∃ F, rn_fc z1 n A.flatten.length F ∧ wkF3 A sg Lb F (z1.2.1 (n + 14))) := by
  have frK : ∀ {y y1 : ow_MS}, fr (frW n) y y1 → rn_lk y n A → rn_lk y1 n A := fun hf h => fr_lk hf (fun g hg => by rcases hg with hg | hg | hg <;> omega) h
  have frS : ∀ {y y1 : ow_MS}, fr (frW n) y y1 → rn_sg y n A.flatten sg → rn_sg y1 n A.flatten sg := fun hf h p hp => by
    rw [(hf (n + 6) (by omega)).2.1]
    exact h p hp
  let Q : ow_MS → Prop := fun z1 => fr (frW n) z z1 ∧ ∃ F, rn_fc z1 n A.flatten.length F ∧ wkF3 A sg Lb F (z1.2.1 (n + 14))
  obtain ⟨V, hV⟩ : ∃ V, A.flatten.length = V := ⟨_, rfl⟩
  have V40 : V ≤ 40 := by omega
  have turn : ∀ (k0 a : Nat) (z1 : ow_MS), fr (frW n) z z1 → a < 2 * V → Tt (fun K k => q_X12_walk K k 3 (nI k0) (nI (phi A sg a)) 0 0 0 0 n 0 z1) Q → Tt (fun K k => q_X12_walk K k 4 (nI k0) (nI a) 0 0 0 0 n (nI (hdv A a)) z1) Q := by
    intro k0 a z1 hf ha hout
    have hL1 := frK hf hL
    have hv2 : hdv A a < A.flatten.length := hdv_lt (by omega)
    obtain ⟨v, hv⟩ : ∃ v, v = hdv A a := ⟨_, rfl⟩
    rw [← hv] at hv2 ⊢
    have hp := vAt_of hv2
    obtain ⟨hx, hu⟩ := hd.1.2 v _ hp
    obtain ⟨e4, e5⟩ := lk_cu hL1 hv2
    have hwl := mtf_lt hd hv2
    have e7 := lk_m hd hL1 hv2
    have e10 := lk_p hL1 hwl
    have hpv := rn_pv_lt (A := A) hwl
    have e6 : z1.2.1 (n + 6) (crs A v) = if sg (crs A v) then -1 else 1 := frS hf hG _ (List.mem_of_getElem? hp)
    have c9 : ∀ (x4 : Int32), Tt (fun K k => q_X12_walk K k 9 (nI k0) (nI a) (nI v) x4 0 0 n (nI (wyv A sg a)) z1) Q := by
      intro x4
      have hw2 := wyv_lt (A := A) (sg := sg) (s := a)
      refine u_X12_walk_9 ?_; unfold qm_X12_walk_9
      refine w_rdI (pl7 hn) rfl (by omega) e7 (w_eqN (b := 0) (by omega) (by omega) (fun h9 => ?_) (fun h9 => w_rdI (pl10 hn) rfl (by omega) e10 ?_))
      · refine u_X12_walk_10 ?_; unfold qm_X12_walk_10
        rw [rn_mul2]
        unfold phi at hout
        rw [if_pos h9, ← hv] at hout
        exact hout
      · refine u_X12_walk_10 ?_; unfold qm_X12_walk_10
        rw [rn_mul2, nI_1]
        unfold phi at hout
        rw [if_neg h9, ← hv] at hout
        exact hout
    have c8 : ∀ (b : Bool), smv A sg v = b → Tt (fun K k => q_X12_walk K k 8 (nI k0) (nI a) (nI v) 0 0 0 n (bZ b) z1) Q := by
      intro b hb
      have hwy : wyv A sg a = if b then a % 2 else 1 - a % 2 := by
        unfold wyv
        rw [← hv, hb]
      have h9 := c9 (bZ b)
      rw [hwy] at h9
      refine u_X12_walk_8 ?_; unfold qm_X12_walk_8
      rw [rn_and1 (by omega)]
      cases b with
      | false =>
        refine w_ifT rfl ?_
        rw [show (1 : Int32) - nI (a % 2) = nI (1 - a % 2) from pk_sub (a := 1) (by omega)]
        exact h9
      | true => exact w_ifF (by decide) h9
    have c6 : smv A sg v = true → Tt (fun K k => q_X12_walk K k 6 (nI k0) (nI a) (nI v) 0 0 0 n 0 z1) Q := by
      intro hb
      refine u_X12_walk_6 ?_; unfold qm_X12_walk_6
      exact c8 true hb
    have c7 : smv A sg v = false → Tt (fun K k => q_X12_walk K k 7 (nI k0) (nI a) (nI v) 0 0 0 n 0 z1) Q := by
      intro hb
      refine u_X12_walk_7 ?_; unfold qm_X12_walk_7
      exact c8 false hb
    have hu9 : uns A v < 2 := hu
    have c5 : ¬ (uns A v = 0 ∧ sg (crs A v) = false) → Tt (fun K k => q_X12_walk K k 5 (nI k0) (nI a) (nI v) 0 0 0 n 0 z1) Q := by
      intro hno
      refine u_X12_walk_5 ?_; unfold qm_X12_walk_5
      refine w_rdI (pl5 hn) rfl (by omega) e5 (w_eqN (b := 1) (by omega) (by omega) (fun h9 => w_rdI (pl4 hn) rfl (by omega) e4 (w_rdI (pl6 hn) rfl hx e6 ?_)) (fun h9 => c7 ?_))
      · cases hs : sg (crs A v) with
        | true =>
          refine w_ifF (by decide) (c6 ?_)
          unfold smv
          rw [hs, decide_eq_true h9, Bool.and_self, Bool.or_true]
        | false =>
          refine w_ifT (by decide) (c7 ?_)
          unfold smv
          rw [hs, decide_eq_false (by omega)]
          simp
      · have h0 : uns A v = 0 := by omega
        have hs : sg (crs A v) = true := by
          cases hs : sg (crs A v) with
          | true => rfl
          | false => exact absurd ⟨h0, hs⟩ hno
        unfold smv
        rw [hs, decide_eq_false h9]
        simp
    refine u_X12_walk_4 ?_; unfold qm_X12_walk_4
    refine w_rdI (pl5 hn) rfl (by omega) e5 (w_eqN (b := 0) (by omega) (by omega) (fun h9 => w_rdI (pl4 hn) rfl (by omega) e4 (w_rdI (pl6 hn) rfl hx e6 ?_)) (fun h9 => c5 (fun h8 => h9 h8.1)))
    cases hs : sg (crs A v) with
    | true => exact w_ifF (by decide) (c5 (fun h8 => by rw [hs] at h8; exact absurd h8.2 (by decide)))
    | false =>
      refine w_ifT (by decide) (c6 ?_)
      unfold smv
      rw [hs, decide_eq_true h9]
      rfl
  have inn : ∀ (k0 f : Nat), f < 80 → k0 < 2 * V → ∀ (u t : Nat) (z1 : ow_MS), rn_cU (z1.2.1 (n + 14)) (2 * V) ≤ u → fr (frW n) z z1 → z1.1 (n + 16) = nI f → wkI V f (z1.2.1 (n + 14)) (z1.2.1 (n + 15)) → wkF3 A sg Lb f (z1.2.1 (n + 14)) → itf (phi A sg) t k0 < 2 * V → (∀ s, s < 2 * V → (z1.2.1 (n + 14) s = nI f ↔ ∃ i, i < t ∧ s = itf (phi A sg) i k0)) → (∀ i j, i < j → j < t → itf (phi A sg) i k0 ≠ itf (phi A sg) j k0) → (t = 0 → z1.2.1 (n + 14) k0 = -1) → (∀ z2, fr (frW n) z z2 → z2.1 (n + 16) = nI (f + 1) → wkI V f (z2.2.1 (n + 14)) (z2.2.1 (n + 15)) → wkF3 A sg Lb (f + 1) (z2.2.1 (n + 14)) → z2.2.1 (n + 14) k0 ≠ -1 → (∀ s, z1.2.1 (n + 14) s ≠ -1 → z2.2.1 (n + 14) s ≠ -1) → Tt (fun K k => q_X12_walk K k 11 (nI k0) 0 0 0 0 0 n 0 z2) Q) → Tt (fun K k => q_X12_walk K k 3 (nI k0) (nI (itf (phi A sg) t k0)) 0 0 0 0 n 0 z1) Q := by
    intro k0 f hf80 hk0 u
    -- the end of a face
    have endf : ∀ (t : Nat) (z1 : ow_MS), wkI V f (z1.2.1 (n + 14)) (z1.2.1 (n + 15)) → wkF3 A sg Lb f (z1.2.1 (n + 14)) → itf (phi A sg) t k0 < 2 * V → (∀ s, s < 2 * V → (z1.2.1 (n + 14) s = nI f ↔ ∃ i, i < t ∧ s = itf (phi A sg) i k0)) → (∀ i j, i < j → j < t → itf (phi A sg) i k0 ≠ itf (phi A sg) j k0) → (t = 0 → z1.2.1 (n + 14) k0 = -1) → z1.2.1 (n + 14) (itf (phi A sg) t k0) ≠ -1 → wkF3 A sg Lb (f + 1) (z1.2.1 (n + 14)) ∧ z1.2.1 (n + 14) k0 ≠ -1 := by
      intro t z1 hI hW hat hmk hdi ht0 hM
      have itlt : ∀ i, itf (phi A sg) i k0 < 2 * V := by
        intro i
        induction i with
        | zero => exact hk0
        | succ i ih =>
          have := phi_lt (sg := sg) hd (s := itf (phi A sg) i k0) (by omega)
          show phi A sg (itf (phi A sg) i k0) < _
          omega
      have htp : 0 < t := by
        rcases Nat.eq_zero_or_pos t with e | e
        · exfalso
          have := ht0 e
          rw [e] at hM
          exact hM this
        · exact e
      obtain ⟨t1, rfl⟩ : ∃ t1, t = t1 + 1 := ⟨t - 1, by omega⟩
      have hlast : z1.2.1 (n + 14) (itf (phi A sg) t1 k0) = nI f := (hmk _ (itlt t1)).mpr ⟨t1, by omega, rfl⟩
      have hk : itf (phi A sg) (t1 + 1) k0 = k0 := by
        rcases hI.1 _ hat with h9 | ⟨f', h9, h8⟩
        · exact absurd h9 hM
        · by_cases hff : f' = f
          · rw [hff] at h8
            obtain ⟨i, hi, e⟩ := (hmk _ hat).mp h8
            rcases Nat.eq_zero_or_pos i with e0 | e0
            · rw [e0] at e
              exact e
            · obtain ⟨i1, rfl⟩ : ∃ i1, i = i1 + 1 := ⟨i - 1, by omega⟩
              have e : phi A sg (itf (phi A sg) t1 k0) = phi A sg (itf (phi A sg) i1 k0) := e
              have e9 := phi_inj hd (by have := itlt t1; omega) (by have := itlt i1; omega) e
              exact absurd e9.symm (hdi i1 t1 (by omega) (by omega))
          · have h7 : z1.2.1 (n + 14) (phi A sg (itf (phi A sg) t1 k0)) = nI f' := h8
            have h6 := (hW.1 f' (by omega) _ (by have := itlt t1; omega)).mpr h7
            rw [hlast] at h6
            have := (nI_eq (by omega) (by omega)).mp h6
            omega
      have itL : ∀ i, Lb (itf (phi A sg) i k0) = Lb k0 := by
        intro i
        induction i with
        | zero => rfl
        | succ i ih =>
          have h9 := hLb (itf (phi A sg) i k0) (by have := itlt i; omega)
          exact h9.trans ih
      have hk0f : z1.2.1 (n + 14) k0 = nI f := (hmk k0 hk0).mpr ⟨0, by omega, rfl⟩
      refine ⟨⟨fun f' hf' s hs => ?_, fun f' hf' => ?_⟩, ?_⟩
      · by_cases hff : f' = f
        · subst hff
          have hs' : s < 2 * V := by omega
          have hph := phi_lt (sg := sg) hd hs
          rw [hmk s hs', hmk _ (by omega)]
          constructor
          · rintro ⟨i, hi, e⟩
            by_cases hil : i = t1
            · refine ⟨0, by omega, ?_⟩
              rw [e, hil]
              exact hk
            · exact ⟨i + 1, by omega, by rw [e]; rfl⟩
          · rintro ⟨i, hi, e⟩
            rcases Nat.eq_zero_or_pos i with e0 | e0
            · refine ⟨t1, by omega, phi_inj (sg := sg) hd hs (by have := itlt t1; omega) ?_⟩
              rw [e, e0]
              exact hk.symm
            · obtain ⟨i1, rfl⟩ : ∃ i1, i = i1 + 1 := ⟨i - 1, by omega⟩
              exact ⟨i1, by omega, phi_inj hd hs (by have := itlt i1; omega) e⟩
        · exact hW.1 f' (by omega) s hs
      · by_cases hff : f' = f
        · subst hff
          refine ⟨⟨k0, by omega, hk0f⟩, fun s s' hs hs' e e' => ?_⟩
          obtain ⟨i, -, e1⟩ := (hmk s (by omega)).mp e
          obtain ⟨j, -, e2⟩ := (hmk s' (by omega)).mp e'
          rw [e1, e2, itL, itL]
        · exact hW.2 f' (by omega)
      · have : z1.2.1 (n + 14) k0 = nI f := (hmk k0 hk0).mpr ⟨0, by omega, rfl⟩
        rw [this]
        exact rn_neg1 (by omega)
    induction u with
    | zero =>
      intro t z1 hu hf h16 hI hW hat hmk hdi ht0 hout
      refine u_X12_walk_3 ?_; unfold qm_X12_walk_3
      refine w_rdI (pl14 hn) rfl (by omega) rfl (w_if (fun hM => ?_) (fun hM => w_rdF h16 (w_wrF ?_)))
      · have := rn_cU_upd (M := z1.2.1 (n + 14)) (x := 0) hM (by decide) (2 * V) hat
        omega
      · rw [nI_1]
        obtain ⟨g1, g2⟩ := endf t z1 hI hW hat hmk hdi ht0 hM
        exact hout _ (fr_F2 hf (Or.inr (Or.inr rfl))) po_usF_at hI g1 g2 (fun s hs => hs)
    | succ u ih =>
      intro t z1 hu hf h16 hI hW hat hmk hdi ht0 hout
      obtain ⟨a, haE⟩ : ∃ a, a = itf (phi A sg) t k0 := ⟨_, rfl⟩
      have ha : a < 2 * V := by rw [haE]; exact hat
      refine u_X12_walk_3 ?_; unfold qm_X12_walk_3
      refine w_rdI (pl14 hn) rfl (by omega) rfl (w_if (fun hM => ?_) (fun hM => w_rdF h16 (w_wrF ?_)))
      · rw [← haE] at hM ⊢
        have hne : nI f ≠ -1 := rn_neg1 (by omega)
        have cu := rn_cU_upd (M := z1.2.1 (n + 14)) (x := nI f) hM hne (2 * V) ha
        have hf2 : fr (frW n) z (usI (usI z1 (n + 14) a (nI f)) (n + 15) f (z1.2.1 (n + 15) f + 1)) := fr_I2 (fr_I2 hf (Or.inl rfl)) (Or.inr (Or.inl rfl))
        have r14 : (usI (usI z1 (n + 14) a (nI f)) (n + 15) f (z1.2.1 (n + 15) f + 1)).2.1 (n + 14) = upd (z1.2.1 (n + 14)) a (nI f) := by
          rw [po_usI_ot (by omega), po_usI_row]
        have r15 : (usI (usI z1 (n + 14) a (nI f)) (n + 15) f (z1.2.1 (n + 15) f + 1)).2.1 (n + 15) = upd (z1.2.1 (n + 15)) f (z1.2.1 (n + 15) f + 1) := by
          rw [po_usI_row, po_usI_ot (by omega)]
        have hna : ∀ i, i < t → itf (phi A sg) i k0 ≠ a := by
          intro i hi e
          have : z1.2.1 (n + 14) a = nI f := (hmk a ha).mpr ⟨i, hi, e.symm⟩
          rw [hM] at this
          exact hne this.symm
        have hphl := phi_lt (sg := sg) hd (s := a) (by omega)
        have go4 : Tt (fun K k => q_X12_walk K k 4 (nI k0) (nI a) 0 0 0 0 n (nI (hdv A a)) (usI (usI z1 (n + 14) a (nI f)) (n + 15) f (z1.2.1 (n + 15) f + 1))) Q := by
          refine turn k0 a _ hf2 ha ?_
          have step := ih (t + 1) (usI (usI z1 (n + 14) a (nI f)) (n + 15) f (z1.2.1 (n + 15) f + 1)) (by rw [r14]; omega) hf2 h16 (by rw [r14, r15]; exact wkI_st (by omega) ha hM hI) (by
            rw [r14]
            refine ⟨?_, fun f' hf' => ?_⟩
            rotate_left
            · have ne1 : nI f ≠ nI f' := fun e => by have := (nI_eq (by omega) (by omega)).mp e; omega
              have un : ∀ s, upd (z1.2.1 (n + 14)) a (nI f) s = nI f' → z1.2.1 (n + 14) s = nI f' := fun s e => by
                by_cases hsa : s = a
                · rw [hsa, pk_us] at e
                  exact absurd e ne1
                · rw [pk_un hsa] at e
                  exact e
              obtain ⟨⟨s0, s1, s2⟩, h9⟩ := hW.2 f' hf'
              refine ⟨⟨s0, s1, ?_⟩, fun s s' hs hs' e e' => h9 s s' hs hs' (un s e) (un s' e')⟩
              rw [pk_un (fun e => by
                rw [e, hM] at s2
                exact rn_neg1 (v := f') (by omega) s2.symm)]
              exact s2
            intro f' hf' s hs
            have ne1 : nI f ≠ nI f' := fun e => by have := (nI_eq (by omega) (by omega)).mp e; omega
            by_cases hsa : s = a
            · rw [hsa, pk_us]
              have hMa : z1.2.1 (n + 14) a ≠ nI f' := by rw [hM]; exact fun e => rn_neg1 (v := f') (by omega) e.symm
              have hp2 : z1.2.1 (n + 14) (phi A sg a) ≠ nI f' := fun e => hMa ((hW.1 f' hf' a (by omega)).mpr e)
              by_cases hpa : phi A sg a = a
              · rw [hpa, pk_us]
              · rw [pk_un hpa]
                exact ⟨fun e => absurd e ne1, fun e => absurd e hp2⟩
            · rw [pk_un hsa]
              by_cases hpa : phi A sg s = a
              · rw [hpa, pk_us]
                have hMa : z1.2.1 (n + 14) a ≠ nI f' := by rw [hM]; exact fun e => rn_neg1 (v := f') (by omega) e.symm
                have h3 := hW.1 f' hf' s hs
                rw [hpa] at h3
                exact ⟨fun e => absurd (h3.mp e) hMa, fun e => absurd e ne1⟩
              · rw [pk_un hpa]
                exact hW.1 f' hf' s hs) (by
            show phi A sg (itf (phi A sg) t k0) < 2 * V
            rw [← haE]
            omega) (by
            rw [r14]
            intro s hs
            by_cases hsa : s = a
            · rw [hsa, pk_us]
              exact ⟨fun _ => ⟨t, by omega, haE⟩, fun _ => rfl⟩
            · rw [pk_un hsa, hmk s hs]
              constructor
              · rintro ⟨i, hi, e⟩
                exact ⟨i, by omega, e⟩
              · rintro ⟨i, hi, e⟩
                by_cases hit : i = t
                · rw [hit, ← haE] at e
                  exact absurd e hsa
                · exact ⟨i, by omega, e⟩) (by
            intro i j hij hj
            by_cases hjt : j = t
            · rw [hjt, ← haE]
              exact hna i (by omega)
            · exact hdi i j hij (by omega)) (fun e => by omega) (fun z2 g1 g2 g3 g4 g5 g6 => by
            rw [r14] at g6
            refine hout z2 g1 g2 g3 g4 g5 (fun s hs => ?_)
            by_cases hsa : s = a
            · exact g6 s (by rw [hsa, pk_us]; exact hne)
            · exact g6 s (by rw [pk_un hsa]; exact hs))
          have e1 : itf (phi A sg) (t + 1) k0 = phi A sg a := by
            rw [haE]
            rfl
          rw [e1] at step
          exact step
        have e9 := ((frK hf2 hL).2.1 (a / 2) (by omega)).2.1
        refine w_rdF h16 (w_wrI (pl14 hn) rfl (by omega) (w_rdF h16 (w_rdI (pl15 hn) rfl hf80 (rd_ot (by omega) rfl) (w_wrI (pl15 hn) rfl hf80 ?_))))
        rw [rn_shr1 (by omega), rn_and1 (by omega)]
        refine w_eqN (b := 0) (by omega) (by omega) (fun h9 => w_rdI (pl9 hn) rfl (by omega) e9 ?_) (fun h9 => ?_)
        · unfold hdv at go4
          rw [if_pos h9] at go4
          exact go4
        · unfold hdv at go4
          rw [if_neg h9] at go4
          exact go4
      · rw [nI_1]
        obtain ⟨g1, g2⟩ := endf t z1 hI hW hat hmk hdi ht0 hM
        exact hout _ (fr_F2 hf (Or.inr (Or.inr rfl))) po_usF_at hI g1 g2 (fun s hs => hs)
  have out : ∀ (d c f : Nat) (z1 : ow_MS), c + d = 2 * V → f ≤ c → fr (frW n) z z1 → z1.1 (n + 16) = nI f → wkO V f (z1.2.1 (n + 14)) (z1.2.1 (n + 15)) → wkF3 A sg Lb f (z1.2.1 (n + 14)) → (∀ s, s < c → z1.2.1 (n + 14) s ≠ -1) → Tt (fun K k => q_X12_walk K k 2 (nI c) 0 0 0 0 0 n 0 z1) Q := by
    intro d
    induction d with
    | zero =>
      intro c f z1 hc hfc hf h16 hO hW hm
      refine u_X12_walk_2 ?_; unfold qm_X12_walk_2
      refine w_rdF (frK hf hL).V ?_
      rw [rn_mul2]
      refine w_leT (by omega) (by omega) (w_some ⟨hf, f, ⟨h16, by omega, fun s hs => ?_, ?_⟩, hW⟩)
      · rw [hV] at hs
        exact (hO.1 s hs).resolve_left (hm s (by omega))
      · rw [hV]
        exact hO.2
    | succ d ih =>
      intro c f z1 hc hfc hf h16 hO hW hm
      refine u_X12_walk_2 ?_; unfold qm_X12_walk_2
      refine w_rdF (frK hf hL).V ?_
      rw [rn_mul2]
      refine w_leF (by omega) (by omega) (w_rdI (pl14 hn) rfl (by omega) rfl (w_if (fun c1 => w_rdF h16 (w_wrI (pl15 hn) rfl (by omega) ?_)) (fun c1 => ?_)))
      · have r14 : (usI z1 (n + 15) f 0).2.1 (n + 14) = z1.2.1 (n + 14) := po_usI_ot (by omega)
        refine inn c f (by omega) (by omega) _ 0 _ (Nat.le_refl _) (fr_I2 hf (Or.inr (Or.inl rfl))) h16 (by rw [r14, po_usI_row]; exact wkI_0 (by omega) hO) (by rw [r14]; exact hW) (show c < 2 * V by omega) (by
          rw [r14]
          intro s hs
          constructor
          · intro e
            rcases hO.1 s hs with h9 | ⟨f', h9, h8⟩
            · rw [e] at h9
              exact absurd h9 (rn_neg1 (by omega))
            · rw [e] at h8
              have := (nI_eq (by omega) (by omega)).mp h8
              omega
          · rintro ⟨i, hi, -⟩
            omega) (fun i j _ hj => by omega) (fun _ => by rw [r14]; exact c1) (fun z2 g1 g2 g3 g4 g5 g6 => ?_)
        refine u_X12_walk_11 ?_; unfold qm_X12_walk_11
        rw [nI_1]
        rw [r14] at g6
        refine ih (c + 1) (f + 1) z2 (by omega) (by omega) g1 g2 g3 g4 (fun s hs => ?_)
        by_cases hsc : s = c
        · rw [hsc]; exact g5
        · exact g6 s (hm s (by omega))
      · refine u_X12_walk_11 ?_; unfold qm_X12_walk_11
        rw [nI_1]
        refine ih (c + 1) f z1 (by omega) (by omega) hf h16 hO hW (fun s hs => ?_)
        by_cases hsc : s = c
        · rw [hsc]; exact c1
        · exact hm s (by omega)
  have zer : ∀ (d c : Nat) (z1 : ow_MS), c + d = 2 * V → fr (frW n) z z1 → (∀ s, s < c → z1.2.1 (n + 14) s = -1) → Tt (fun K k => q_X12_walk K k 1 (nI c) 0 0 0 0 0 n 0 z1) Q := by
    intro d
    induction d with
    | zero =>
      intro c z1 hc hf hm
      refine u_X12_walk_1 ?_; unfold qm_X12_walk_1
      refine w_rdF (frK hf hL).V ?_
      rw [rn_mul2]
      exact w_leT (by omega) (by omega) (w_wrF (out (2 * V) 0 0 _ (by omega) (Nat.le_refl _) (fr_F2 hf (Or.inr (Or.inr rfl))) po_usF_at ⟨fun s hs => Or.inl (hm s (by omega)), fun f hf9 => by omega⟩ ⟨fun f hf9 => by omega, fun f hf9 => by omega⟩ (fun s hs => by omega)))
    | succ d ih =>
      intro c z1 hc hf hm
      refine u_X12_walk_1 ?_; unfold qm_X12_walk_1
      refine w_rdF (frK hf hL).V ?_
      rw [rn_mul2]
      refine w_leF (by omega) (by omega) (w_wrI (pl14 hn) rfl (by omega) ?_)
      rw [nI_1]
      refine ih (c + 1) _ (by omega) (fr_I2 hf (Or.inl rfl)) (fun s hs => ?_)
      by_cases hsc : s = c
      · rw [hsc]; exact po_usI_at
      · exact rd_ne hsc (hm s (by omega))
  refine e_X12_walk ?_
  refine u_X12_walk_0 ?_; unfold qm_X12_walk_0
  exact zer (2 * V) 0 z (by omega) fr_rf (fun s hs => by omega)
end
section
/-! 99zzzzzzzzzzp.xpl2 -/
/-! the reference's isPlane is the class's -/
section XP0
variable {A : rn_L} {sg : Nat → Bool} {f : Nat → Nat} {T : ow_NT} {m : Nat → Nat} {P : Nat}
theorem parts_cnt0 (hi : isoN A sg f T) (hv : vn T.1 T.2.2.1) (hk : mk A m P) : ((List.range P).filter (fun p => !(pvl A m p A.flatten.length).isEmpty)).length = (np_parts T.1 T.2.2.1.1).2 := by
  have hc := hi.2.2.1
  obtain ⟨p1, p2, p3, p4⟩ := parts_I hv hc
  let F := (np_parts T.1 T.2.2.1.1).1
  let n := (np_parts T.1 T.2.2.1.1).2
  have hex : ∀ r, r < n → ∃ v, v < A.flatten.length ∧ F (lbv A f v) = nI r := by
    intro r hr
    obtain ⟨k, k1, k2⟩ := p3 r hr
    obtain ⟨v, v1, v2⟩ := lbv_sur hi k1
    exact ⟨v, v1, by rw [v2]; exact k2⟩
  let vr : Nat → Nat := fun r => if h : ∃ v, v < A.flatten.length ∧ F (lbv A f v) = nI r then Classical.choose h else 0
  have hvr : ∀ r, r < n → vr r < A.flatten.length ∧ F (lbv A f (vr r)) = nI r := by
    intro r hr
    have h := hex r hr
    have e : vr r = Classical.choose h := dif_pos h
    rw [e]
    exact Classical.choose_spec h
  have hn31 : n < 2 ^ 31 := by
    have : n ≤ 2 * T.1 := p4
    omega
  have pm : ((List.range n).map (fun r => m (rn_c A (vr r)))).Perm ((List.range P).filter (fun p => !(pvl A m p A.flatten.length).isEmpty)) := by
    refine (List.perm_ext_iff_of_nodup (nodup_map List.nodup_range (fun a b ha hb e => ?_)) (nodup_filter List.nodup_range)).mpr (fun p => ?_)
    · have ha := List.mem_range.mp ha
      have hb := List.mem_range.mp hb
      have h1 := (part_iff hi hv hk (hvr a ha).1 (hvr b hb).1).mpr e
      have h2 : nI a = nI b := by
        rw [← (hvr a ha).2, ← (hvr b hb).2]
        exact h1
      exact nI_inj9 (by omega) (by omega) h2
    · rw [List.mem_map, List.mem_filter, List.mem_range, Bool.not_eq_true', List.isEmpty_eq_false_iff]
      constructor
      · rintro ⟨r, r1, r2⟩
        have hr := hvr r (List.mem_range.mp r1)
        refine ⟨by rw [← r2]; exact hk.1 _ (rn_c_in A _ hr.1).1, ?_⟩
        exact List.ne_nil_of_mem (pvl_m.mpr ⟨hr.1, r2⟩)
      · rintro ⟨q1, q2⟩
        obtain ⟨v, hv9⟩ := List.exists_mem_of_ne_nil _ q2
        have hv1 := pvl_m.mp hv9
        obtain ⟨r, r1, r2⟩ := p2 _ (lbv_lt hi hv1.1)
        refine ⟨r, List.mem_range.mpr r1, ?_⟩
        rw [← hv1.2]
        refine (part_iff hi hv hk (hvr r r1).1 hv1.1).mp ?_
        exact (hvr r r1).2.trans r2.symm
  have h1 := pm.length_eq
  rw [List.length_map, List.length_range] at h1
  exact h1.symm
/-- the dart of a side -/
def dtS (A : rn_L) (f : Nat → Nat) (s : Nat) : Nat := if s % 2 = 0 then 2 * lbv A f (s / 2) else 2 * lbv A f (rn_nx A (s / 2)) + 1
theorem dtS_lt (hi : isoN A sg f T) {s : Nat} (hs : s < 2 * A.flatten.length) : dtS A f s < 4 * T.1 := by
  have h1 := lbv_lt hi (show s / 2 < A.flatten.length by omega)
  have h2 := lbv_lt hi (rn_nx_lt (A := A) (show s / 2 < A.flatten.length by omega))
  unfold dtS
  split <;> omega
theorem dtS_sur (hi : isoN A sg f T) {d : Nat} (hd : d < 4 * T.1) : ∃ s, s < 2 * A.flatten.length ∧ dtS A f s = d := by
  obtain ⟨v, v1, v2⟩ := lbv_sur hi (show d / 2 < 2 * T.1 by omega)
  by_cases e : d % 2 = 0
  · refine ⟨2 * v, by omega, ?_⟩
    unfold dtS
    rw [if_pos (by omega), show 2 * v / 2 = v by omega, v2]
    omega
  · have h1 := rn_pv_lt (A := A) v1
    refine ⟨2 * rn_pv A v + 1, by omega, ?_⟩
    unfold dtS
    rw [if_neg (by omega), show (2 * rn_pv A v + 1) / 2 = rn_pv A v by omega, nx_pv v1, v2]
    omega
theorem smv_b (hi : isoN A sg f T) (hp : pm1 T) {v : Nat} (hv : v < A.flatten.length) : stG T.2.2.2 (lbv A f v) = smv A sg v := by
  obtain ⟨h1, h2⟩ := lbv_hf hi hv
  have h3 := hi.2.2.2.2.2.2.1 v hv
  have hx := hi.2.2.2.1 v hv
  have hu : uns A v < 2 := (hi.1.2 _ (vAt_mem hv)).2.1
  unfold stG smv
  rw [h1, h2]
  have h4 : decide (0 < T.2.2.2 (f (crs A v))) = !sg (crs A v) := by
    rcases hp _ hx with e | e
    · rw [e] at h3 ⊢
      have : sg (crs A v) = false := by
        cases h9 : sg (crs A v) with
        | false => rfl
        | true => exact absurd (h3.mpr h9) (by decide)
      rw [this]
      rfl
    · rw [e] at h3 ⊢
      rw [h3.mp (by decide)]
      rfl
  rw [h4]
  rcases (show uns A v = 0 ∨ uns A v = 1 by omega) with e | e <;> rw [e] <;> cases sg (crs A v) <;> rfl
theorem dtS_ph (hi : isoN A sg f T) (hvn : vn T.1 T.2.2.1) (hp : pm1 T) {s : Nat} (hs : s < 2 * A.flatten.length) : pn_ph T.2.2.1 (stG T.2.2.2) (dtS A f s) = dtS A f (phi A sg s) := by
  have hv : s / 2 < A.flatten.length := by omega
  have hn := rn_nx_lt (A := A) hv
  have hh := hdv_lt (A := A) hs
  obtain ⟨m1, -, m2, -⟩ := lbv_mt hi hh
  have hb := smv_b hi hp hh
  have nx : T.2.2.1.1 (lbv A f (s / 2)) = lbv A f (rn_nx A (s / 2)) := hi.2.2.2.2.2.1 _ hv
  have hpv := nx_pv (A := A) m1
  unfold pn_ph pn_al
  by_cases e : s % 2 = 0
  · have ed : dtS A f s = 2 * lbv A f (s / 2) := if_pos e
    have eh : hdv A s = rn_nx A (s / 2) := if_pos e
    rw [ed, if_pos (by omega), show 2 * lbv A f (s / 2) / 2 = lbv A f (s / 2) by omega, nx, ← eh]
    unfold pn_rt
    rw [show (2 * lbv A f (hdv A s) + 1) / 2 = lbv A f (hdv A s) by omega, show (2 * lbv A f (hdv A s) + 1) % 2 = 1 by omega, hb, ← m2]
    unfold phi wyv
    rw [e]
    cases smv A sg (hdv A s)
    · rw [if_neg (by decide), if_neg (by decide)]
      unfold dtS
      rw [if_neg (by omega), show (2 * rn_pv A (mtf A (hdv A s)) + 1) / 2 = rn_pv A (mtf A (hdv A s)) by omega, hpv]
    · rw [if_pos (by decide), if_pos (by decide)]
      unfold dtS
      rw [if_pos (by omega), show 2 * mtf A (hdv A s) / 2 = mtf A (hdv A s) by omega]
  · have ed : dtS A f s = 2 * lbv A f (rn_nx A (s / 2)) + 1 := if_neg e
    have eh : hdv A s = s / 2 := if_neg e
    have pv : T.2.2.1.2 (lbv A f (rn_nx A (s / 2))) = lbv A f (s / 2) := by
      rw [← nx]
      exact (hvn _ (lbv_lt hi hv)).2.2.1
    rw [ed, if_neg (by omega), show (2 * lbv A f (rn_nx A (s / 2)) + 1) / 2 = lbv A f (rn_nx A (s / 2)) by omega, pv, ← eh]
    unfold pn_rt
    rw [show 2 * lbv A f (hdv A s) / 2 = lbv A f (hdv A s) by omega, show 2 * lbv A f (hdv A s) % 2 = 0 by omega, hb, ← m2]
    unfold phi wyv
    rw [show s % 2 = 1 by omega]
    cases smv A sg (hdv A s)
    · rw [if_pos (by decide), if_pos (by decide)]
      unfold dtS
      rw [if_pos (by omega), show 2 * mtf A (hdv A s) / 2 = mtf A (hdv A s) by omega]
    · rw [if_neg (by decide), if_neg (by decide)]
      unfold dtS
      rw [if_neg (by omega), show (2 * rn_pv A (mtf A (hdv A s)) + 1) / 2 = rn_pv A (mtf A (hdv A s)) by omega, hpv]
theorem faces_F (hi : isoN A sg f T) (hvn : vn T.1 T.2.2.1) (hp : pm1 T) : ∃ Lb : Nat → Nat, (∀ s, s < 2 * A.flatten.length → Lb (phi A sg s) = Lb s) ∧ ∀ F M, F ≤ 2 * A.flatten.length → (∀ s, s < 2 * A.flatten.length → ∃ f', f' < F ∧ M s = nI f') → wkF3 A sg Lb F M → F = (np_faces T.1 T.2.2.1 T.2.2.2).2 := by
  have hc := hi.2.2.1
  have hlen := hi.2.1
  have hok := wkF_ok hi.1
  obtain ⟨g, X, g1, g2, g3, g4⟩ := faces_ge (G := T.2.2.2) hvn hc
  refine ⟨fun s => g (dtS A f s), fun s hs => ?_, fun F M hF hM hW => ?_⟩
  · show g (dtS A f (phi A sg s)) = g (dtS A f s)
    rw [← dtS_ph hi hvn hp hs]
    exact g1 _ (dtS_lt hi hs)
  · -- the label of a side
    have hl : ∀ s, ∃ k, s < 2 * A.flatten.length → k < F ∧ M s = nI k := fun s => by
      by_cases h : s < 2 * A.flatten.length
      · obtain ⟨k, k1, k2⟩ := hM s h
        exact ⟨k, fun _ => ⟨k1, k2⟩⟩
      · exact ⟨0, fun h9 => absurd h9 h⟩
    let ln : Nat → Nat := fun s => Classical.choose (hl s)
    have ln1 : ∀ s, s < 2 * A.flatten.length → ln s < F ∧ M s = nI (ln s) := fun s hs => Classical.choose_spec (hl s) hs
    -- the side of a dart
    have hd : ∀ d, ∃ s, d < 4 * T.1 → s < 2 * A.flatten.length ∧ dtS A f s = d := fun d => by
      by_cases h : d < 4 * T.1
      · obtain ⟨s, s1, s2⟩ := dtS_sur hi h
        exact ⟨s, fun _ => ⟨s1, s2⟩⟩
      · exact ⟨0, fun h9 => absurd h9 h⟩
    let sd : Nat → Nat := fun d => Classical.choose (hd d)
    have sd1 : ∀ d, d < 4 * T.1 → sd d < 2 * A.flatten.length ∧ dtS A f (sd d) = d := fun d h => Classical.choose_spec (hd d) h
    have dinj : ∀ s t, s < 2 * A.flatten.length → t < 2 * A.flatten.length → dtS A f s = dtS A f t → s = t := by
      intro s t hs ht e
      unfold dtS at e
      by_cases e1 : s % 2 = 0
      · by_cases e2 : t % 2 = 0
        · rw [if_pos e1, if_pos e2] at e
          have := lbv_inj hi (show s / 2 < A.flatten.length by omega) (show t / 2 < A.flatten.length by omega) (by omega)
          omega
        · rw [if_pos e1, if_neg e2] at e
          omega
      · by_cases e2 : t % 2 = 0
        · rw [if_neg e1, if_pos e2] at e
          omega
        · rw [if_neg e1, if_neg e2] at e
          have h1 := lbv_inj hi (rn_nx_lt (A := A) (show s / 2 < A.flatten.length by omega)) (rn_nx_lt (A := A) (show t / 2 < A.flatten.length by omega)) (by omega)
          have h2 := congrArg (rn_pv A) h1
          rw [pv_nx (by omega), pv_nx (by omega)] at h2
          omega
    refine Nat.le_antisymm ?_ ?_
    · refine faces_le hvn hc ?_
      have hx : ∀ k, ∃ s, k < F → s < 2 * A.flatten.length ∧ M s = nI k := fun k => by
        by_cases h : k < F
        · obtain ⟨⟨s, s1, s2⟩, -⟩ := hW.2 k h
          exact ⟨s, fun _ => ⟨s1, s2⟩⟩
        · exact ⟨0, fun h9 => absurd h9 h⟩
      let sf : Nat → Nat := fun k => Classical.choose (hx k)
      have sf1 : ∀ k, k < F → sf k < 2 * A.flatten.length ∧ M (sf k) = nI k := fun k h => Classical.choose_spec (hx k) h
      refine ⟨fun d => ln (sd d), (List.range F).map (fun k => dtS A f (sf k)), fun d hd9 => ?_, fun x hx9 => ?_, ?_, by rw [List.length_map, List.length_range]; exact Nat.le_refl _⟩
      · obtain ⟨a1, a2⟩ := sd1 d hd9
        have e1 : pn_ph T.2.2.1 (stG T.2.2.2) d = dtS A f (phi A sg (sd d)) := by
          rw [← dtS_ph hi hvn hp a1, a2]
        have hphl := phi_lt (sg := sg) hok a1
        have e2 : sd (pn_ph T.2.2.1 (stG T.2.2.2) d) = phi A sg (sd d) := by
          have h9 := sd1 (pn_ph T.2.2.1 (stG T.2.2.2) d) (by rw [e1]; exact dtS_lt hi hphl)
          exact dinj _ _ h9.1 hphl (h9.2.trans e1)
        show ln (sd (pn_ph T.2.2.1 (stG T.2.2.2) d)) = ln (sd d)
        rw [e2]
        have h1 := ln1 _ a1
        have h2 := ln1 _ hphl
        have h3 := (hW.1 (ln (sd d)) h1.1 (sd d) a1).mp h1.2
        rw [h2.2] at h3
        exact nI_inj9 (by omega) (by omega) h3
      · obtain ⟨k, hk, rfl⟩ := List.mem_map.mp hx9
        exact dtS_lt hi (sf1 k (List.mem_range.mp hk)).1
      · unfold pm_dv
        rw [List.map_map]
        refine nodup_map List.nodup_range (fun a b ha hb e => ?_)
        have ha := List.mem_range.mp ha
        have hb := List.mem_range.mp hb
        have key : ∀ k, k < F → ln (sd (dtS A f (sf k))) = k := fun k hk => by
          obtain ⟨s1, s2⟩ := sf1 k hk
          have h9 := sd1 (dtS A f (sf k)) (dtS_lt hi s1)
          rw [dinj _ _ h9.1 s1 h9.2]
          have h1 := ln1 _ s1
          rw [s2] at h1
          exact (nI_inj9 (by omega) (by omega) h1.2).symm
        have e : ln (sd (dtS A f (sf a))) = ln (sd (dtS A f (sf b))) := e
        rw [key a ha, key b hb] at e
        exact e
    · have nd : (X.map (fun x => ln (sd x))).Nodup := nodup_map (pm_nd g3) (fun x y hx hy e => by
        obtain ⟨a1, a2⟩ := sd1 x (g2 x hx)
        obtain ⟨b1, b2⟩ := sd1 y (g2 y hy)
        have e : ln (sd x) = ln (sd y) := e
        have h1 := ln1 _ a1
        have h2 := ln1 _ b1
        rw [← e] at h2
        have h3 := (hW.2 _ h1.1).2 (sd x) (sd y) a1 b1 h1.2 h2.2
        have h3 : g (dtS A f (sd x)) = g (dtS A f (sd y)) := h3
        rw [a2, b2] at h3
        exact pm_inj g3 x y hx hy h3)
      have := nodup_le _ (List.range F) nd (fun a ha => by
        obtain ⟨x, hx, rfl⟩ := List.mem_map.mp ha
        exact List.mem_range.mpr (ln1 _ (sd1 x (g2 x hx)).1).1)
      rw [List.length_map, List.length_range] at this
      omega
end XP0
theorem xr_plane {n : Nat} {z : ow_MS} {A : rn_L} {sg : Nat → Bool} {f : Nat → Nat} {T : ow_NT} (hn : mw_net n) (hcn : A.length ≤ 39) (hi : isoN A sg f T) (hvn : vn T.1 T.2.2.1) (hp1 : pm1 T) (hL : rn_lk z n A) (hG : rn_sg z n A.flatten sg) : Te (fun K => qe_X12_isPlane K n z) (fun r => r.1 = (if nt_plane T = true then 1 else 0) ∧ fr (fun g => n + 12 ≤ g ∧ g ≤ n + 16) z r.2 ∧ rn_lk r.2 n A) := by
  have hd := wkF_ok hi.1
  have hc := hi.2.2.1
  have hV := hi.2.1
  have hlen : A.flatten.length ≤ 40 := by omega
  obtain ⟨Lb, hLb, hFx⟩ := faces_F hi hvn hp1
  let Q : Int32 × ow_MS → Prop := fun r => r.1 = (if nt_plane T = true then 1 else 0) ∧ fr (fun g => n + 12 ≤ g ∧ g ≤ n + 16) z r.2 ∧ rn_lk r.2 n A
  refine e_X12_isPlane ?_
  refine u_X12_isPlane_0 ?_; unfold qm_X12_isPlane_0
  refine w_cs0 (tn_split hn hlen hcn hd hL) (fun z1 ⟨f1, P, g1⟩ => w_cs0 (xr_walk hn hlen hd (fr_lk f1 (fun g hg => by rcases hg with hg | hg <;> omega) hL) (fun p hp => by rw [(f1 (n + 6) (by intro h9; rcases h9 with h9 | h9 <;> omega)).2.1]; exact hG p hp) hLb) (fun z2 ⟨f2, F, g2, g3⟩ => ?_))
  have hL1 := fr_lk f1 (fun g hg => by rcases hg with hg | hg <;> omega) hL
  have hL2 := fr_lk f2 (fun g hg => by rcases hg with hg | hg | hg <;> omega) hL1
  obtain ⟨m, hm1, hm2⟩ := mk_of hcn g1
  have hPl := g1.2.1
  have e12 := (f2 (n + 12) (by omega)).2.1
  have hM2 : ∀ c, c < A.length → z2.2.1 (n + 12) c = nI (m c) := fun c hc9 => by rw [e12]; exact hm2 c hc9
  have hP2 : z2.1 (n + 13) = nI P := by rw [(f2 (n + 13) (by omega)).1]; exact g1.1
  have hF2 : z2.1 (n + 16) = nI F := g2.1
  have eF := hFx F _ g2.2.1 g2.2.2.1 g3
  have hF80 : F ≤ 80 := by have := g2.2.1; omega
  have ec := parts_cnt0 hi hvn hm1
  rw [← cntB_fl] at ec
  have hcl : ∀ p, p ≤ P → cntB (fun p => !(pvl A m p A.flatten.length).isEmpty) p ≤ 39 := fun p hp => by
    have := cntB_le (fun p => !(pvl A m p A.flatten.length).isEmpty) p
    omega
  have post : fr (fun g => n + 12 ≤ g ∧ g ≤ n + 16) z z2 := fr_tr (fr_mono (fun g hg => by rcases hg with hg | hg <;> omega) f1) (fr_mono (fun g hg => by rcases hg with hg | hg | hg <;> omega) f2)
  have inn : ∀ (p x1 : Nat), p < P → Tt (fun K k => q_X12_isPlane K k 1 (nI (x1 + if (pvl A m p A.flatten.length).isEmpty = true then 0 else 2)) (nI (p + 1)) 0 0 n 0 0 z2) Q → ∀ (d c : Nat) (b : Bool), c + d = A.length → (b = true ↔ ∃ c', c' < c ∧ m c' = p ∧ rn_b A c' ≠ rn_b A (c' + 1)) → Tt (fun K k => q_X12_isPlane K k 2 (nI x1) (nI p) (bZ b) (nI c) n 0 0 z2) Q := by
    intro p x1 hpP hout d
    induction d with
    | zero =>
      intro c b hc hb
      have hce : c = A.length := by omega
      have hbb : b = !(pvl A m p A.flatten.length).isEmpty := by
        cases hbe : b with
        | true =>
          obtain ⟨c', c1, c2, c3⟩ := hb.mp hbe
          have hs := rn_b_mono A c'
          have hle := rn_b_le A (c' + 1)
          have hv : rn_b A c' < A.flatten.length := by omega
          have hcc : rn_c A (rn_b A c') = c' := rn_c_of A _ _ (Nat.le_refl _) (by omega)
          have : rn_b A c' ∈ pvl A m p A.flatten.length := pvl_m.mpr ⟨hv, by rw [hcc]; exact c2⟩
          cases h9 : pvl A m p A.flatten.length with
          | nil => rw [h9] at this; cases this
          | cons x L => rfl
        | false =>
          cases h9 : pvl A m p A.flatten.length with
          | nil => rfl
          | cons x L =>
            exfalso
            have hx : x ∈ pvl A m p A.flatten.length := by rw [h9]; exact List.mem_cons_self
            obtain ⟨x1, x2⟩ := pvl_m.mp hx
            obtain ⟨q1, q2, q3⟩ := rn_c_in A x x1
            rw [hb.mpr ⟨rn_c A x, by omega, x2, by omega⟩] at hbe
            cases hbe
      refine u_X12_isPlane_2 ?_; unfold qm_X12_isPlane_2
      refine w_rdF hL2.1.2.1 (w_leT (by omega) (by omega) ?_)
      cases he : (pvl A m p A.flatten.length).isEmpty with
      | true =>
        rw [he] at hbb hout
        have hbb : b = false := hbb
        rw [hbb]
        refine w_ifT rfl ?_
        refine u_X12_isPlane_5 ?_; unfold qm_X12_isPlane_5
        rw [nI_1]
        have hout : Tt (fun K k => q_X12_isPlane K k 1 (nI (x1 + 0)) (nI (p + 1)) 0 0 n 0 0 z2) Q := hout
        rw [← nI_add] at hout
        exact hout
      | false =>
        rw [he] at hbb hout
        have hbb : b = true := hbb
        rw [hbb]
        refine w_ifF (by decide) ?_
        refine u_X12_isPlane_5 ?_; unfold qm_X12_isPlane_5
        rw [nI_1]
        have hout : Tt (fun K k => q_X12_isPlane K k 1 (nI (x1 + 2)) (nI (p + 1)) 0 0 n 0 0 z2) Q := hout
        rw [← nI_add] at hout
        exact hout
    | succ d ih =>
      intro c b hc hb
      have hcA : c < A.length := by omega
      have hmc := hm1.1 c hcA
      have same : ¬ (m c = p ∧ rn_b A c ≠ rn_b A (c + 1)) → (b = true ↔ ∃ c', c' < c + 1 ∧ m c' = p ∧ rn_b A c' ≠ rn_b A (c' + 1)) := fun hno => by
        rw [hb]
        constructor
        · rintro ⟨c', c1, c2⟩
          exact ⟨c', by omega, c2⟩
        · rintro ⟨c', c1, c2⟩
          by_cases ecc : c' = c
          · rw [ecc] at c2
            exact absurd c2 hno
          · exact ⟨c', by omega, c2⟩
      have or0 : bZ b ||| 0 = bZ b := by cases b <;> decide
      have or1 : bZ b ||| 1 = bZ true := by cases b <;> decide
      have c3 : ¬ (m c = p ∧ rn_b A c ≠ rn_b A (c + 1)) → Tt (fun K k => q_X12_isPlane K k 3 (nI x1) (nI p) (bZ b) (nI c) n (bZ b) 0 z2) Q := fun hno => by
        refine u_X12_isPlane_3 ?_; unfold qm_X12_isPlane_3
        refine u_X12_isPlane_4 ?_; unfold qm_X12_isPlane_4
        rw [nI_1, or0]
        exact ih (c + 1) b (by omega) (same hno)
      refine u_X12_isPlane_2 ?_; unfold qm_X12_isPlane_2
      refine w_rdF hL2.1.2.1 (w_leF (by omega) (by omega) (w_rdI (pl12 hn) rfl (by omega) (hM2 c hcA) (w_eqN (by omega) (by omega) (fun hmp => w_cs1 (tn_circle hn hlen hcn hcA hL2.1) (fun a z9 h9 => ?_)) (fun hmp => c3 (fun h9 => hmp h9.1)))))
      cases h9
      by_cases hcir : rn_b A c = rn_b A (c + 1)
      · rw [if_pos hcir]
        exact w_ifF (by decide) (c3 (fun h9 => h9.2 hcir))
      · rw [if_neg hcir]
        refine w_ifT rfl ?_
        refine u_X12_isPlane_4 ?_; unfold qm_X12_isPlane_4
        rw [nI_1, or1]
        exact ih (c + 1) true (by omega) ⟨fun _ => ⟨c, by omega, hmp, hcir⟩, fun _ => rfl⟩
  have out : ∀ (d p : Nat), p + d = P → Tt (fun K k => q_X12_isPlane K k 1 (nI (T.1 + 2 * cntB (fun p => !(pvl A m p A.flatten.length).isEmpty) p)) (nI p) 0 0 n 0 0 z2) Q := by
    intro d
    induction d with
    | zero =>
      intro p hp
      have hpe : p = P := by omega
      have hcp := hcl P (Nat.le_refl _)
      rw [hpe]
      have e9 : nt_plane T = decide (F = T.1 + 2 * cntB (fun p => !(pvl A m p A.flatten.length).isEmpty) P) := by
        unfold nt_plane
        rw [← eF, ec]
      refine u_X12_isPlane_1 ?_; unfold qm_X12_isPlane_1
      refine w_rdF hP2 (w_leT (by omega) (by omega) (w_rdF hF2 (w_eqN (by omega) (by omega) (fun h9 => w_okZ (Or.inr rfl) (w_some ⟨?_, post, hL2⟩)) (fun h9 => w_okZ (Or.inl rfl) (w_some ⟨?_, post, hL2⟩)))))
      · rw [e9, decide_eq_true h9]
        rfl
      · rw [e9, decide_eq_false h9]
        rfl
    | succ d ih =>
      intro p hp
      have h1 := ih (p + 1) (by omega)
      refine u_X12_isPlane_1 ?_; unfold qm_X12_isPlane_1
      refine w_rdF hP2 (w_leF (by omega) (by omega) (inn p _ (by omega) ?_ A.length 0 false (by omega) ⟨fun h9 => (by cases h9), fun ⟨c', c1, _⟩ => by omega⟩))
      have e9 : T.1 + 2 * cntB (fun p => !(pvl A m p A.flatten.length).isEmpty) p + (if (pvl A m p A.flatten.length).isEmpty = true then 0 else 2) = T.1 + 2 * cntB (fun p => !(pvl A m p A.flatten.length).isEmpty) (p + 1) := by
        show _ = T.1 + 2 * (cntB (fun p => !(pvl A m p A.flatten.length).isEmpty) p + (if (!(pvl A m p A.flatten.length).isEmpty) = true then 1 else 0))
        cases (pvl A m p A.flatten.length).isEmpty
        · show _ + 2 = T.1 + 2 * (_ + 1)
          omega
        · show _ + 0 = T.1 + 2 * (_ + 0)
          omega
      rw [e9]
      exact h1
  refine w_rdF hL2.V (w_nzI (by decide) ?_)
  rw [show nI A.flatten.length / 2 = nI T.1 from by rw [show nI A.flatten.length / 2 = nI (A.flatten.length / 2) from pk_div (d := 2) (by omega) (by omega) (by omega), show A.flatten.length / 2 = T.1 by omega]]
  exact out P 0 (by omega)
end
section
/-! 99zzzzzzzzzzq.xrd -/
/-! a text read: what it says -/
abbrev rtN := List (Int32 × Int32 × Nat)
abbrev rtO := Nat ⊕ (rtN × rn_L)
def pSg (bt : Nat → Int32) (t i j : Nat) (x : Int32) : Nat ⊕ (Nat × Int32 × Int32 × Nat) := if j = t then .inl t else if bt j = 43 ∨ bt j = 45 then .inr (if bt i = 117 then 1 else 0, x, if bt j = 43 then 1 else -1, j + 1) else .inl j
/-- a visit that begins at i -/
def pV (bt : Nat → Int32) (t i : Nat) : Nat ⊕ (Nat × Int32 × Int32 × Nat) :=
  if bt i = 111 ∨ bt i = 117 then
    if i + 1 = t then .inl t
    else if bt (i + 1) < 49 then .inl (i + 1)
    else if bt (i + 1) ≤ 57 then
      if i + 2 < t ∧ ¬ bt (i + 2) < 48 ∧ ¬ 57 < bt (i + 2) then pSg bt t i (i + 3) (10 * (bt (i + 1) - 48) + bt (i + 2) - 48) else pSg bt t i (i + 2) (bt (i + 1) - 48)
    else .inl (i + 1)
  else .inl i
def nix (nm : rtN) (x : Int32) : Option Nat := nm.findIdx? (fun e => decide (e.1 = x))
def rdC (go : Nat → rtN → rn_L → List vT → rtO) (nm : rtN) (A : rn_L) (B : List vT) (i u : Nat) (x s : Int32) (j : Nat) : rtO := match nix nm x with
  | none => if nm.length = 12 then .inl i else go j (nm ++ [(x, s, i)]) A (B ++ [(nm.length, u)])
  | some k => if (k, u) ∈ A.flatten ++ B ∨ (nm.getD k (0, 0, 0)).2.1 ≠ s then .inl i else go j nm A (B ++ [(k, u)])
def rdF9 (bt : Nat → Int32) (t : Nat) : Nat → Nat → rtN → rn_L → List vT → rtO
  | 0, i, _, _, _ => .inl i
  | n + 1, i, nm, A, B => if t ≤ i then .inr (nm, A ++ [B]) else if bt i = 59 then (if A.length + 1 = 6 then .inl i else rdF9 bt t n (i + 1) nm (A ++ [B]) []) else match pV bt t i with
    | .inl j => .inl j
    | .inr (u, x, s, j) => rdC (rdF9 bt t n) nm A B i u x s j
/-- what holds of what was read -/
def rtP (t : Nat) (nm : rtN) (F : List vT) : Prop := nm.length ≤ 12 ∧ F.Nodup ∧ (∀ p : vT, p ∈ F → p.1 < nm.length ∧ p.2 < 2) ∧ ∀ e, e ∈ nm → s1 e.2.1 ∧ e.2.2 < t
theorem nix_some {nm : rtN} {x : Int32} {k : Nat} : nix nm x = some k ↔ k < nm.length ∧ (nm.getD k (0, 0, 0)).1 = x ∧ ∀ j, j < k → (nm.getD j (0, 0, 0)).1 ≠ x := by
  unfold nix
  rw [List.findIdx?_eq_some_iff_getElem]
  constructor
  · rintro ⟨h, h1, h2⟩
    refine ⟨h, ?_, fun j hj => ?_⟩
    · rw [List.getD_eq_getElem?_getD, List.getElem?_eq_getElem h]
      exact of_decide_eq_true h1
    · rw [List.getD_eq_getElem?_getD, List.getElem?_eq_getElem (show j < nm.length by omega)]
      have := h2 j hj
      intro e
      exact this (decide_eq_true e)
  · rintro ⟨h, h1, h2⟩
    rw [List.getD_eq_getElem?_getD, List.getElem?_eq_getElem h] at h1
    refine ⟨h, decide_eq_true h1, fun j hj => ?_⟩
    have := h2 j hj
    rw [List.getD_eq_getElem?_getD, List.getElem?_eq_getElem (show j < nm.length by omega)] at this
    exact fun h9 => this (of_decide_eq_true h9)
theorem nix_none {nm : rtN} {x : Int32} : nix nm x = none ↔ ∀ j, j < nm.length → (nm.getD j (0, 0, 0)).1 ≠ x := by
  unfold nix
  rw [List.findIdx?_eq_none_iff]
  constructor
  · intro h j hj e
    rw [List.getD_eq_getElem?_getD, List.getElem?_eq_getElem hj] at e
    have := h _ (List.getElem_mem hj)
    have e : nm[j].1 = x := e
    rw [decide_eq_true e] at this
    cases this
  · intro h e he
    obtain ⟨j, hj, rfl⟩ := List.getElem_of_mem he
    have := h j hj
    rw [List.getD_eq_getElem?_getD, List.getElem?_eq_getElem hj] at this
    exact decide_eq_false this
/-- the answers of a reader: R what was read, c whether the net is plane -/
def lonK (nm : rtN) (F : List vT) (k : Nat) : Prop := k < nm.length ∧ ¬ ((k, 0) ∈ F ∧ (k, 1) ∈ F)
def lonA (nm : rtN) (F : List vT) (a : Nat) : Prop := (∃ k, lonK nm F k ∧ (nm.getD k (0, 0, 0)).2.2 = a) ∧ ∀ k, lonK nm F k → a ≤ (nm.getD k (0, 0, 0)).2.2
def sgN (nm : rtN) (x : Nat) : Bool := decide ((nm.getD x (0, 0, 0)).2.1 = -1)
theorem getD_of {nm : rtN} {k : Nat} {e : Int32 × Int32 × Nat} (h : nm[k]? = some e) : nm.getD k (0, 0, 0) = e := by
  rw [List.getD_eq_getElem?_getD, h]
  rfl
theorem rtP_okF {t : Nat} {nm : rtN} {F : List vT} (h : rtP t nm F) (hall : ∀ k, ¬ lonK nm F k) : okF F nm.length := by
  refine ⟨h.2.1, fun p => ⟨fun hp => h.2.2.1 p hp, fun ⟨h1, h2⟩ => ?_⟩⟩
  have h3 : (p.1, 0) ∈ F ∧ (p.1, 1) ∈ F := Classical.byContradiction (fun h9 => hall p.1 ⟨h1, h9⟩)
  have : p.2 = 0 ∨ p.2 = 1 := by omega
  rcases this with e | e
  · have := h3.1
    rw [← e] at this
    exact this
  · have := h3.2
    rw [← e] at this
    exact this
theorem te_all {O α : Type} {f : Nat → Option O} {Q : O → Prop} {H : α → Prop} {R : α → O → Prop} (h1 : Te f Q) (h2 : ∀ a, H a → Te f (R a)) : Te f (fun r => Q r ∧ ∀ a, H a → R a r) := by
  obtain ⟨r, ⟨b, hb⟩, hq⟩ := h1
  refine ⟨r, ⟨b, hb⟩, hq, fun a ha => ?_⟩
  obtain ⟨r', ⟨b', hb'⟩, hr⟩ := h2 a ha
  have e1 := hb (b + b') (by omega)
  have e2 := hb' (b + b') (by omega)
  rw [e1] at e2
  cases e2
  exact hr
/-! the reference reads so -/
theorem xm_byteAt {z : ow_MS} {i t : Nat} (hi : i < 1000) (ht : t ≤ 400) (h11 : z.1 11 = nI t) : Te (fun K => qe_X13_byteAt K (nI i) z) (fun r => r = (if t ≤ i then -1 else z.2.1 10 i, z)) := by
  refine e_X13_byteAt ?_; unfold qm_X13_byteAt_0
  exact w_rdF h11 (w_le (by omega) (by omega) (fun h9 => w_some (by rw [if_pos h9])) (fun h9 => w_rdI ml10 rfl (by omega) rfl (w_some (by rw [if_neg (by omega)]))))
def rD2 (z : ow_MS) (nm : rtN) (A : rn_L) (B : List vT) : Prop := rn_At z 3000 A B ∧ ∀ k e, nm[k]? = some e → z.2.1 16 k = e.1 ∧ z.2.1 17 k = e.2.1 ∧ z.2.1 18 k = nI e.2.2 ∧ z.2.1 19 k = nI (hb (A.flatten ++ B) k) ∧ ∀ u, (k, u) ∈ A.flatten ++ B → z.2.1 3006 k = e.2.1
/-- how the reference answers -/
def rdQ (t : Nat) (R : rtO) (r : Int32 × ow_MS) : Prop := match R with
  | .inl j => r.1 = nI j ∧ j ≤ t
  | .inr (nm, A) => rtP t nm A.flatten ∧ A.length ≤ 6 ∧ A ≠ [] ∧ ((∃ a, a < t ∧ lonA nm A.flatten a ∧ r.1 = nI a) ∨ (∀ k, ¬ lonK nm A.flatten k) ∧ rn_At r.2 3000 A [] ∧ rn_sg r.2 3000 A.flatten (sgN nm) ∧ ∀ a : (Nat → Nat) × ow_NT, (isoN A (sgN nm) a.1 a.2 ∧ vn a.2.1 a.2.2.2.1 ∧ pm1 a.2) → r.1 = if nt_plane a.2 = true then -1 else nI t)
theorem xr_read {z : ow_MS} {bt : Nat → Int32} {t : Nat} {R : rtO} (ht : t ≤ 400) (h11 : z.1 11 = nI t) (hbt : ∀ k, k < t → z.2.1 10 k = bt k) (hR : rdF9 bt t (t + 1) 0 [] [] [] = R) : Te (fun K => qe_X13_read K z) (fun r => fr frV z r.2 ∧ rdQ t R r) := by
  let Q : Int32 × ow_MS → Prop := fun r => fr frV z r.2 ∧ rdQ t R r
  have t11 : ∀ {y : ow_MS}, fr frV z y → y.1 11 = nI t := fun hf => by rw [(hf 11 (by unfold frV; omega)).1]; exact h11
  have tbt : ∀ {y : ow_MS}, fr frV z y → ∀ k, k < t → y.2.1 10 k = bt k := fun hf k hk => by rw [(hf 10 (by unfold frV; omega)).2.1]; exact hbt k hk
  have bAt : ∀ {y : ow_MS} {i : Nat}, fr frV z y → i < 1000 → Te (fun K => qe_X13_byteAt K (nI i) y) (fun r => r = (if t ≤ i then -1 else bt i, y)) := fun {y i} hf hi => w_monoE (xm_byteAt hi ht (t11 hf)) (fun r e => by
    rw [e]
    by_cases h9 : t ≤ i
    · rw [if_pos h9, if_pos h9]
    · rw [if_neg h9, if_neg h9, tbt hf i (by omega)])
  have ret : ∀ (a : Nat) (y : ow_MS), a ≤ t → fr frV z y → R = .inl a → Q (nI a, y) := fun a y ha hf e => ⟨hf, by
    rw [e]
    exact ⟨rfl, ha⟩⟩
  have l10 : ∀ (x2 : Int32) (A1 : rn_L) (nm : rtN), A1.length ≤ 6 → A1 ≠ [] → rtP t nm A1.flatten → R = .inr (nm, A1) → ∀ (k j l : Nat) (y : ow_MS), j + k = nm.length → fr frV z y → rD2 y nm A1 [] → (l = t + 1 ∧ (∀ i, i < j → hb A1.flatten i = 3) ∨ l < t ∧ (∃ i, i < j ∧ lonK nm A1.flatten i ∧ (nm.getD i (0, 0, 0)).2.2 = l) ∧ ∀ i, i < j → lonK nm A1.flatten i → l ≤ (nm.getD i (0, 0, 0)).2.2) → Tt (fun K i => q_X13_read K i 10 (nI nm.length) x2 (nI l) (nI j) 0 0 0 0 0 y) Q := by
    intro x2 A1 nm hA6 hAne hP hRe k
    have hN12 := hP.1
    have lon3 : ∀ i, i < nm.length → (hb A1.flatten i = 3 ↔ ¬ lonK nm A1.flatten i) := fun i hi => by
      constructor
      · intro h9 h8
        exact h8.2 (hb_3 h9)
      · intro h9
        have h3 : (i, 0) ∈ A1.flatten ∧ (i, 1) ∈ A1.flatten := Classical.byContradiction (fun h8 => h9 ⟨hi, h8⟩)
        unfold hb
        rw [if_pos h3.1, if_pos h3.2]
    induction k with
    | zero =>
      intro j l y hj hf hD hl
      obtain ⟨r1, r2⟩ := hD
      rw [List.append_nil] at r2
      refine u_X13_read_10 ?_; unfold qm_X13_read_10
      refine w_leT (by omega) (by omega) (w_rdF (t11 hf) (w_lt (by omega) (by omega) (fun h9 => ?_) (fun h9 => w_some ⟨hf, ?_⟩)))
      · have hall : ∀ i, ¬ lonK nm A1.flatten i := fun i hi => by
          rcases hl with ⟨-, hl⟩ | hl
          · exact (lon3 i hi.1).mp (hl i (by have := hi.1; omega)) hi
          · omega
        have ok := rtP_okF hP hall
        have wk : wkF A1.flatten := okF_wk (by omega) ok
        have hlen := okF_len ok
        have sgY : rn_sg y 3000 A1.flatten (sgN nm) := fun p hp => by
          have hk := (hP.2.2.1 p hp).1
          obtain ⟨q1, q2, q3, q4, q5⟩ := r2 p.1 _ (List.getElem?_eq_getElem hk)
          have e9 := q5 p.2 hp
          show y.2.1 3006 p.1 = _
          rw [e9]
          unfold sgN
          rw [getD_of (List.getElem?_eq_getElem hk)]
          rcases (hP.2.2.2 _ (List.getElem_mem hk)).1 with e | e <;> rw [e] <;> rfl
        refine w_cs0 (tn_link pn3 (by omega) (by omega) (wkF_ok wk).1 r1) (fun y1 ⟨g1, g2, g3⟩ => ?_)
        have sg1 : rn_sg y1 3000 A1.flatten (sgN nm) := fun p hp => by
          rw [(g1 3006 (fun h8 => by have := h8.1; omega)).2.1]
          exact sgY p hp
        have pln := te_all (α := (Nat → Nat) × ow_NT) (H := fun a => isoN A1 (sgN nm) a.1 a.2 ∧ vn a.2.1 a.2.2.2.1 ∧ pm1 a.2) (R := fun a r => r.1 = if nt_plane a.2 = true then 1 else 0) (tn_plane pn3 (by omega) (by omega) (wkF_ok wk) ⟨g2, g3⟩) (fun a ha => w_monoE (xr_plane pn3 (by omega) ha.1 ha.2.1 ha.2.2 ⟨g2, g3⟩ sg1) (fun r hr => hr.1))
        refine w_cs1 pln (fun a y2 ⟨⟨k1, k2, k3, _, _⟩, k4⟩ => ?_)
        have k2 : fr (fun g => 3000 + 12 ≤ g ∧ g ≤ 3000 + 16) y1 y2 := k2
        have k3 : rn_lk y2 3000 A1 := k3
        have k1 : a = 0 ∨ a = 1 := k1
        have k4 : ∀ (c : (Nat → Nat) × ow_NT), isoN A1 (sgN nm) c.1 c.2 ∧ vn c.2.1 c.2.2.2.1 ∧ pm1 c.2 → a = if nt_plane c.2 = true then 1 else 0 := k4
        have hf2 : fr frV z y2 := fr_tr hf (fr_tr (fr_mono (fun g hg => Or.inr (by have := hg.1; have := hg.2; omega)) g1) (fr_mono (fun g hg => Or.inr (by omega)) k2))
        have sg2 : rn_sg y2 3000 A1.flatten (sgN nm) := fun p hp => by
          rw [(k2 3006 (by omega)).2.1]
          exact sg1 p hp
        have fin : ∀ x : Int32, (∀ c : (Nat → Nat) × ow_NT, isoN A1 (sgN nm) c.1 c.2 ∧ vn c.2.1 c.2.2.2.1 ∧ pm1 c.2 → x = if nt_plane c.2 = true then -1 else nI t) → Q (x, y2) := fun x hx => ⟨hf2, by
          rw [hRe]
          exact ⟨hP, hA6, hAne, Or.inr ⟨hall, k3.1, sg2, hx⟩⟩⟩
        refine w_if (fun h0 => w_rdF (t11 hf2) (w_some (fin _ (fun c hc => ?_)))) (fun h0 => w_some (fin _ (fun c hc => ?_)))
        · have := k4 c hc
          rw [h0] at this
          cases e9 : nt_plane c.2 with
          | false => rfl
          | true =>
            rw [e9] at this
            exact absurd this (by decide)
        · have := k4 c hc
          cases e9 : nt_plane c.2 with
          | true => rfl
          | false =>
            rw [e9] at this
            exact absurd this h0
      · rcases hl with ⟨e, -⟩ | ⟨e, ⟨i, i1, i2, i3⟩, h8⟩
        · omega
        · show rdQ t R (nI l, y)
          rw [hRe]
          exact ⟨hP, hA6, hAne, Or.inl ⟨l, e, ⟨⟨i, i2, i3⟩, fun k hk => h8 k (by have := hk.1; omega) hk⟩, rfl⟩⟩
    | succ k ih =>
      intro j l y hj hf hD hl
      have hjN : j < nm.length := by omega
      obtain ⟨q1, q2, q3, q4, q5⟩ := hD.2 j _ (List.getElem?_eq_getElem hjN)
      rw [List.append_nil] at q4
      have hat : nm[j].2.2 < t := (hP.2.2.2 _ (List.getElem_mem hjN)).2
      have eat : (nm.getD j (0, 0, 0)).2.2 = nm[j].2.2 := by rw [getD_of (List.getElem?_eq_getElem hjN)]
      have hbl := hb_lt (F := A1.flatten) (k := j)
      refine u_X13_read_10 ?_; unfold qm_X13_read_10
      refine w_leF (by omega) (by omega) (w_rdI ml19 rfl (by omega) q4 (w_eqN (b := 3) (by omega) (by omega) (fun h9 => ?_) (fun h9 => w_rdI ml18 rfl (by omega) q3 ?_)))
      · refine u_X13_read_11 ?_; unfold qm_X13_read_11
        rw [nI_1]
        have hno := (lon3 j hjN).mp h9
        refine ih (j + 1) l y (by omega) hf hD (hl.imp (fun ⟨e1, e2⟩ => ⟨e1, fun i hi => ?_⟩) (fun ⟨e1, ⟨i, i1, i2⟩, e2⟩ => ⟨e1, ⟨i, by omega, i2⟩, fun i hi h8 => ?_⟩))
        · by_cases hij : i = j
          · rw [hij]; exact h9
          · exact e2 i (by omega)
        · by_cases hij : i = j
          · rw [hij] at h8
            exact absurd h8 hno
          · exact e2 i (by omega) h8
      · have hlo : lonK nm A1.flatten j := Classical.byContradiction (fun h8 => h9 ((lon3 j hjN).mpr h8))
        have up : ∀ i, i < j + 1 → lonK nm A1.flatten i → (i = j ∨ i < j) := fun i hi _ => by omega
        by_cases hal : nm[j].2.2 < l
        · rw [if_pos (nI_lt hal (by omega))]
          refine u_X13_read_11 ?_; unfold qm_X13_read_11
          rw [nI_1]
          refine ih (j + 1) nm[j].2.2 y (by omega) hf hD (Or.inr ⟨hat, ⟨j, by omega, hlo, eat⟩, fun i hi h8 => ?_⟩)
          by_cases hij : i = j
          · rw [hij, eat]
            exact Nat.le_refl _
          · rcases hl with ⟨-, hl⟩ | ⟨-, -, hl⟩
            · exact absurd h8 ((lon3 i h8.1).mp (hl i (by omega)))
            · have := hl i (by omega) h8
              omega
        · rw [if_neg (nI_nlt (by omega) (by omega))]
          refine u_X13_read_11 ?_; unfold qm_X13_read_11
          rw [nI_1]
          rcases hl with ⟨hl, -⟩ | ⟨hl0, ⟨i0, i1, i2⟩, hl⟩
          · omega
          · refine ih (j + 1) l y (by omega) hf hD (Or.inr ⟨hl0, ⟨i0, by omega, i2⟩, fun i hi h8 => ?_⟩)
            by_cases hij : i = j
            · rw [hij, eat]
              omega
            · exact hl i (by omega) h8
  have main : ∀ (u i n : Nat) (nm : rtN) (A1 : rn_L) (B1 : List vT) (y : ow_MS), i + u = t → t + 1 ≤ i + n → A1.length ≤ 5 → fr frV z y → rD2 y nm A1 B1 → rtP t nm (A1.flatten ++ B1) → rdF9 bt t n i nm A1 B1 = R → Tt (fun K k => q_X13_read K k 1 (nI nm.length) (nI i) 0 0 0 0 0 0 0 y) Q := by
    intro u
    induction u using Nat.strongRecOn with
    | ind u ih =>
      intro i n nm A1 B1 y hi hn hA5 hf hD hP hRe
      have hlen := rd_len hP.2.1 hP.2.2.1
      have hN12 := hP.1
      obtain ⟨n, rfl⟩ : ∃ n', n = n' + 1 := ⟨n - 1, by omega⟩
      have hRe : (if t ≤ i then Sum.inr (nm, A1 ++ [B1]) else if bt i = 59 then (if A1.length + 1 = 6 then Sum.inl i else rdF9 bt t n (i + 1) nm (A1 ++ [B1]) []) else match pV bt t i with
        | .inl j => Sum.inl j
        | .inr (u, x, s, j) => rdC (rdF9 bt t n) nm A1 B1 i u x s j) = R := hRe
      have eFl : (A1 ++ [B1]).flatten = A1.flatten ++ B1 := by rw [List.flatten_append]; simp
      have endR : ∀ {y2 : ow_MS}, rn_At y2 3000 (A1 ++ [B1]) [] → fr (fun g => g = 3000 + 2 ∨ g = 3000 + 3) y y2 → rD2 y2 nm (A1 ++ [B1]) [] := by
        intro y2 h1 h2
        unfold rD2
        rw [List.append_nil, eFl, (h2 16 (by omega)).2.1, (h2 19 (by omega)).2.1, (h2 17 (by omega)).2.1, (h2 18 (by omega)).2.1, (h2 3006 (by omega)).2.1]
        exact ⟨h1, hD.2⟩
      refine u_X13_read_1 ?_; unfold qm_X13_read_1
      refine w_rdF (t11 hf) (w_le (by omega) (by omega) (fun hti => w_cs0 (tn_end pn3 hD.1 (by omega)) (fun y2 ⟨g1, g2⟩ => ?_)) (fun hit => ?_))
      · have hf2 : fr frV z y2 := fr_tr hf (fr_mono (fun g hg => Or.inr (by omega)) g2)
        rw [if_pos hti] at hRe
        refine w_rdF (t11 hf2) ?_
        rw [nI_1]
        exact l10 _ (A1 ++ [B1]) nm (by rw [List.length_append]; show A1.length + 1 ≤ 6; omega) (by simp) (by rw [eFl]; exact hP) hRe.symm nm.length 0 (t + 1) y2 (by omega) hf2 (endR g1 g2) (Or.inl ⟨rfl, fun i hi => by omega⟩)
      · rw [if_neg (by omega)] at hRe
        refine w_rdI ml10 rfl (by omega) (tbt hf i hit) (w_if (fun h59 => w_cs0 (tn_end pn3 hD.1 (by omega)) (fun y2 ⟨g1, g2⟩ => ?_)) (fun h59 => ?_))
        · have hf2 : fr frV z y2 := fr_tr hf (fr_mono (fun g hg => Or.inr (by omega)) g2)
          rw [if_pos h59] at hRe
          have e2 := g1.2.1
          rw [List.length_append] at e2
          have e2 : y2.1 (3000 + 2) = nI (A1.length + 1) := e2
          refine w_rdF e2 (w_eqN (b := 6) (by omega) (by omega) (fun h6 => ?_) (fun h6 => ?_))
          · rw [if_pos h6] at hRe
            exact w_some (ret i y2 (by omega) hf2 hRe.symm)
          · rw [if_neg h6] at hRe
            rw [nI_1]
            exact ih (t - (i + 1)) (by omega) (i + 1) n nm (A1 ++ [B1]) [] y2 (by omega) (by omega) (by rw [List.length_append]; show A1.length + 1 ≤ 5; omega) hf2 (endR g1 g2) (by rw [List.append_nil, eFl]; exact hP) hRe
        · rw [if_neg h59] at hRe
          have l9 : ∀ (nm2 : rtN) (i2 k u9 : Nat) (x3 x5 x6 : Int32) (y2 : ow_MS), i < i2 → i2 ≤ t → u9 < 2 → k < nm2.length → fr frV z y2 → rD2 y2 nm2 A1 B1 → rtP t nm2 (A1.flatten ++ B1) → (if (k, u9) ∈ A1.flatten ++ B1 ∨ (nm2.getD k (0, 0, 0)).2.1 ≠ x6 then Sum.inl i else rdF9 bt t n i2 nm2 A1 (B1 ++ [(k, u9)])) = R → Tt (fun K k9 => q_X13_read K k9 9 (nI nm2.length) (nI i2) x3 (nI i) x5 x6 (nI u9) (nI k) 0 y2) Q := by
            intro nm2 i2 k u9 x3 x5 x6 y2 hi2 hit2 hu9 hkN hf2 hD2 hP2 hR9
            have hget := List.getElem?_eq_getElem hkN
            obtain ⟨q1, q2, q3, q4, q5⟩ := hD2.2 k _ hget
            have r42 := hP2.1
            have hlen2 := rd_len hP2.2.1 hP2.2.2.1
            rw [getD_of hget] at hR9
            refine u_X13_read_9 ?_; unfold qm_X13_read_9
            refine w_rdI ml19 rfl (by omega) q4 (w_if (fun hand => w_rdI ml17 rfl (by omega) q2 (w_if (fun hsg => w_rdI ml19 rfl (by omega) q4 (w_wrI ml19 rfl (by omega) (w_wrI (pl6 pn3) rfl (by omega) ?_))) (fun hsg => w_some (ret i y2 (by omega) hf2 ?_)))) (fun hand => w_some (ret i y2 (by omega) hf2 ?_)))
            · have hnot := (hb_and hu9).mp hand
              rw [if_neg (fun h9 => h9.elim hnot (fun h8 => h8 hsg))] at hR9
              rw [hb_or hu9 hnot]
              obtain ⟨y3, hy3⟩ : ∃ y3, y3 = usI (usI y2 19 k (nI (hb (A1.flatten ++ B1 ++ [(k, u9)]) k))) 3006 k x6 := ⟨_, rfl⟩
              have f3 : fr (fun g => g = 19 ∨ g = 3006) y2 y3 := by rw [hy3]; exact fr_I2 (fr_I (Or.inl rfl)) (Or.inr rfl)
              rw [← hy3]
              refine w_cs0 (tn_add pn3 (fr_At f3 (fun g hg => by omega) hD2.1) (by omega)) (fun y4 ⟨g1, g2⟩ => ?_)
              have hf4 : fr frV z y4 := fr_tr hf2 (fr_tr (fr_mono (fun g hg => by unfold frV; omega) f3) (fr_mono (fun g hg => Or.inr (by omega)) g2))
              have e : A1.flatten ++ (B1 ++ [(k, u9)]) = A1.flatten ++ B1 ++ [(k, u9)] := (List.append_assoc _ _ _).symm
              refine ih (t - i2) (by omega) i2 n nm2 A1 (B1 ++ [(k, u9)]) y4 (by omega) (by omega) hA5 hf4 ?_ ?_ hR9
              · unfold rD2
                rw [e, (g2 16 (by omega)).2.1, (g2 19 (by omega)).2.1, (g2 17 (by omega)).2.1, (g2 18 (by omega)).2.1, (g2 3006 (by omega)).2.1]
                refine ⟨g1, fun j ej hj => ?_⟩
                obtain ⟨j1, j2, j3, j4, j5⟩ := hD2.2 j ej hj
                rw [hy3]
                by_cases hjk : j = k
                · subst hjk
                  rw [hget] at hj
                  cases hj
                  refine ⟨rd_ot (by decide) (rd_ot (by decide) j1), rd_ot (by decide) (rd_ot (by decide) j2), rd_ot (by decide) (rd_ot (by decide) j3), rd_ot (by decide) po_usI_at, fun u8 _ => ?_⟩
                  rw [po_usI_at]
                  exact hsg.symm
                · refine ⟨rd_ot (by decide) (rd_ot (by decide) j1), rd_ot (by decide) (rd_ot (by decide) j2), rd_ot (by decide) (rd_ot (by decide) j3), rd_ot (by decide) (rd_ne hjk (by rw [hb_ot hjk]; exact j4)), fun u8 hu8 => ?_⟩
                  rw [po_usI_ne hjk, po_usI_ot (by decide)]
                  refine j5 u8 ?_
                  rw [List.mem_append, List.mem_singleton] at hu8
                  exact hu8.resolve_right (fun h8 => hjk (Prod.mk.inj h8).1)
              · rw [e]
                refine ⟨r42, ?_, fun p hp => ?_, hP2.2.2.2⟩
                · rw [List.nodup_append]
                  refine ⟨hP2.2.1, by simp, fun a ha b hb9 e9 => hnot ?_⟩
                  have : b = (k, u9) := by simpa using hb9
                  rw [← this, ← e9]
                  exact ha
                · rw [List.mem_append, List.mem_singleton] at hp
                  rcases hp with hp | hp
                  · exact hP2.2.2.1 p hp
                  · rw [hp]
                    exact ⟨hkN, hu9⟩
            · rw [if_pos (Or.inr hsg)] at hR9
              exact hR9.symm
            · rw [if_pos (Or.inl (Classical.byContradiction (fun h9 => hand ((hb_and hu9).mpr h9))))] at hR9
              exact hR9.symm
          have l8 : ∀ (i2 k u9 : Nat) (x3 x5 x6 : Int32), i < i2 → i2 ≤ t → u9 < 2 → k ≤ nm.length → s1 x6 → (∀ j, j < k → (nm.getD j (0, 0, 0)).1 ≠ x5) → (k < nm.length → (nm.getD k (0, 0, 0)).1 = x5) → rdC (rdF9 bt t n) nm A1 B1 i u9 x5 x6 i2 = R → Tt (fun K k9 => q_X13_read K k9 8 (nI nm.length) (nI i2) x3 (nI i) x5 x6 (nI u9) (nI k) 0 y) Q := by
            intro i2 k u9 x3 x5 x6 hi2 hit2 hu9 hkN hs6 hbf hat hRC
            unfold rdC at hRC
            refine u_X13_read_8 ?_; unfold qm_X13_read_8
            refine w_eqN (by omega) (by omega) (fun hke => ?_) (fun hke => ?_)
            · subst hke
              rw [nix_none.mpr hbf] at hRC
              have hRC : (if nm.length = 12 then Sum.inl i else rdF9 bt t n i2 (nm ++ [(x5, x6, i)]) A1 (B1 ++ [(nm.length, u9)])) = R := hRC
              refine w_eqN (b := 12) (by omega) (by omega) (fun h12 => w_some (ret i y (by omega) hf ?_)) (fun h12 => w_wrI ml16 rfl (by omega) (w_wrI ml17 rfl (by omega) (w_wrI ml18 rfl (by omega) (w_wrI ml19 rfl (by omega) ?_))))
              · rw [if_pos h12] at hRC
                exact hRC.symm
              · rw [if_neg h12] at hRC
                rw [nI_1]
                have hno : ∀ u8, (nm.length, u8) ∉ A1.flatten ++ B1 := fun u8 h8 => by
                  have := (hP.2.2.1 _ h8).1
                  have : nm.length < nm.length := this
                  omega
                have h0 : hb (A1.flatten ++ B1) nm.length = 0 := by
                  unfold hb
                  rw [if_neg (hno 0), if_neg (hno 1)]
                have f3 : fr (fun g => 16 ≤ g ∧ g ≤ 19) y (usI (usI (usI (usI y 16 nm.length x5) 17 nm.length x6) 18 nm.length (nI i)) 19 nm.length 0) := fr_I2 (fr_I2 (fr_I2 (fr_I (by decide)) (by decide)) (by decide)) (by decide)
                have eg : (nm ++ [(x5, x6, i)]).getD nm.length (0, 0, 0) = (x5, x6, i) := getD_of (by rw [List.getElem?_append_right (Nat.le_refl _), Nat.sub_self]; rfl)
                have key := l9 (nm ++ [(x5, x6, i)]) i2 nm.length u9 x3 x5 x6 (usI (usI (usI (usI y 16 nm.length x5) 17 nm.length x6) 18 nm.length (nI i)) 19 nm.length 0) hi2 hit2 hu9 (by rw [List.length_append]; show nm.length < nm.length + 1; omega) (fr_tr hf (fr_mono (fun g hg => Or.inl hg) f3)) ⟨fr_At f3 (fun g hg => by omega) hD.1, fun j ej hj => ?_⟩ ⟨by rw [List.length_append]; show nm.length + 1 ≤ 12; omega, hP.2.1, fun p hp => ⟨by rw [List.length_append]; have := (hP.2.2.1 p hp).1; omega, (hP.2.2.1 p hp).2⟩, fun e he => ?_⟩ ?_
                · rw [List.length_append] at key
                  exact key
                · by_cases hjk : j = nm.length
                  · subst hjk
                    rw [List.getElem?_append_right (Nat.le_refl _), Nat.sub_self] at hj
                    cases hj
                    refine ⟨rd_ot (by decide) (rd_ot (by decide) (rd_ot (by decide) po_usI_at)), rd_ot (by decide) (rd_ot (by decide) po_usI_at), rd_ot (by decide) po_usI_at, ?_, fun u8 h8 => absurd h8 (hno u8)⟩
                    rw [h0]
                    exact po_usI_at
                  · have hjl : j < nm.length := by
                      have := (List.getElem?_eq_some_iff.mp hj).1
                      rw [List.length_append] at this
                      have this : j < nm.length + 1 := this
                      omega
                    rw [List.getElem?_append_left hjl] at hj
                    obtain ⟨j1, j2, j3, j4, j5⟩ := hD.2 j ej hj
                    refine ⟨rd_ot (by decide) (rd_ot (by decide) (rd_ot (by decide) (rd_ne hjk j1))), rd_ot (by decide) (rd_ot (by decide) (rd_ne hjk (rd_ot (by decide) j2))), rd_ot (by decide) (rd_ne hjk (rd_ot (by decide) (rd_ot (by decide) j3))), rd_ne hjk (rd_ot (by decide) (rd_ot (by decide) (rd_ot (by decide) j4))), fun u8 h8 => ?_⟩
                    rw [(f3 3006 (by omega)).2.1]
                    exact j5 u8 h8
                · rcases List.mem_append.mp he with h9 | h9
                  · exact hP.2.2.2 e h9
                  · rw [List.mem_singleton.mp h9]
                    exact ⟨hs6, hit⟩
                · rw [eg, if_neg (fun h9 => h9.elim (hno u9) (fun h8 => h8 rfl))]
                  exact hRC
            · have hkl : k < nm.length := by omega
              rw [nix_some.mpr ⟨hkl, hat hkl, hbf⟩] at hRC
              exact l9 nm i2 k u9 x3 x5 x6 y hi2 hit2 hu9 hkl hf hD hP hRC
          have l7 : ∀ (i2 u9 : Nat) (x3 x5 x6 : Int32), i < i2 → i2 ≤ t → u9 < 2 → s1 x6 → rdC (rdF9 bt t n) nm A1 B1 i u9 x5 x6 i2 = R → ∀ (d k : Nat), k + d = nm.length → (∀ j, j < k → (nm.getD j (0, 0, 0)).1 ≠ x5) → Tt (fun K k9 => q_X13_read K k9 7 (nI nm.length) (nI i2) x3 (nI i) x5 x6 (nI u9) (nI k) 0 y) Q := by
            intro i2 u9 x3 x5 x6 hi2 hit2 hu9 hs6 hRC d
            induction d with
            | zero =>
              intro k hk hbf
              refine u_X13_read_7 ?_; unfold qm_X13_read_7
              exact w_leT (by omega) (by omega) (l8 i2 k u9 x3 x5 x6 hi2 hit2 hu9 (by omega) hs6 hbf (fun h9 => by omega) hRC)
            | succ d ihd =>
              intro k hk hbf
              have hkl : k < nm.length := by omega
              have hget := List.getElem?_eq_getElem hkl
              obtain ⟨q1, -⟩ := hD.2 k _ hget
              refine u_X13_read_7 ?_; unfold qm_X13_read_7
              rw [nI_1]
              refine w_leF (by omega) (by omega) (w_rdI ml16 rfl (by omega) q1 (w_if (fun h9 => l8 i2 k u9 x3 x5 x6 hi2 hit2 hu9 (by omega) hs6 hbf (fun _ => by rw [getD_of hget]; exact h9) hRC) (fun h9 => ihd (k + 1) (by omega) (fun j hj => ?_))))
              by_cases hjk : j = k
              · rw [hjk, getD_of hget]
                exact h9
              · exact hbf j (by omega)
          have l3 : ∀ (i2 : Nat) (x5 : Int32), i < i2 → i2 ≤ t → (match pSg bt t i i2 x5 with
              | .inl j => Sum.inl j
              | .inr (u, x, s, j) => rdC (rdF9 bt t n) nm A1 B1 i u x s j) = R → Tt (fun K k9 => q_X13_read K k9 3 (nI nm.length) (nI i2) (bt i) (nI i) x5 0 0 0 0 y) Q := by
            intro i2 x5 hi2 hit2 hRC
            unfold pSg at hRC
            have l4 : i2 < t → (bt i2 = 43 ∨ bt i2 = 45) → rdC (rdF9 bt t n) nm A1 B1 i (if bt i = 117 then 1 else 0) x5 (if bt i2 = 43 then 1 else -1) (i2 + 1) = R → Tt (fun K k9 => q_X13_read K k9 4 (nI nm.length) (nI i2) (bt i) (nI i) x5 0 0 0 0 y) Q := by
              intro hlt hs hRC
              have l5 : ∀ t0 : Int32, s1 t0 → rdC (rdF9 bt t n) nm A1 B1 i (if bt i = 117 then 1 else 0) x5 t0 (i2 + 1) = R → Tt (fun K k9 => q_X13_read K k9 5 (nI nm.length) (nI i2) (bt i) (nI i) x5 0 0 0 t0 y) Q := by
                intro t0 h0 hRC
                refine u_X13_read_5 ?_; unfold qm_X13_read_5
                rw [nI_1]
                refine w_if (fun h7 => ?_) (fun h7 => ?_)
                · rw [if_pos h7] at hRC
                  refine u_X13_read_6 ?_; unfold qm_X13_read_6
                  exact l7 (i2 + 1) 1 _ x5 t0 (by omega) (by omega) (by omega) h0 hRC nm.length 0 (by omega) (fun j hj => by omega)
                · rw [if_neg h7] at hRC
                  refine u_X13_read_6 ?_; unfold qm_X13_read_6
                  exact l7 (i2 + 1) 0 _ x5 t0 (by omega) (by omega) (by omega) h0 hRC nm.length 0 (by omega) (fun j hj => by omega)
              refine u_X13_read_4 ?_; unfold qm_X13_read_4
              refine w_cs1 (bAt hf (by omega)) (fun a y9 e => ?_)
              cases e
              rw [if_neg (by omega)]
              refine w_if (fun h9 => ?_) (fun h9 => ?_)
              · rw [if_pos h9] at hRC
                exact l5 1 (Or.inl rfl) hRC
              · rw [if_neg h9] at hRC
                exact l5 (-1) (Or.inr rfl) hRC
            refine u_X13_read_3 ?_; unfold qm_X13_read_3
            refine w_rdF (t11 hf) (w_eqN (by omega) (by omega) (fun h9 => ?_) (fun hne => w_cs1 (bAt hf (by omega)) (fun a y9 e => ?_)))
            · rw [if_pos h9] at hRC
              exact w_rdF (t11 hf) (w_some (ret t y (by omega) hf hRC.symm))
            · cases e
              rw [if_neg hne] at hRC
              rw [if_neg (by omega)]
              refine w_if (fun h9 => ?_) (fun h9 => w_cs1 (bAt hf (by omega)) (fun a y9 e => ?_))
              · rw [if_pos (Or.inl h9)] at hRC
                exact l4 (by omega) (Or.inl h9) hRC
              · cases e
                rw [if_neg (by omega)]
                refine w_if (fun h8 => ?_) (fun h8 => ?_)
                · rw [if_pos (Or.inr h8)] at hRC
                  exact l4 (by omega) (Or.inr h8) hRC
                · rw [if_neg (fun h7 => h7.elim h9 h8)] at hRC
                  exact w_some (ret i2 _ (by omega) hf hRC.symm)
          have l2 : (bt i = 111 ∨ bt i = 117) → Tt (fun K k => q_X13_read K k 2 (nI nm.length) (nI i) (bt i) 0 0 0 0 0 0 y) Q := by
            intro hou
            unfold pV at hRe
            rw [if_pos hou] at hRe
            refine u_X13_read_2 ?_; unfold qm_X13_read_2
            rw [nI_1, nI_1, nI_1]
            refine w_rdF (t11 hf) (w_eqN (by omega) (by omega) (fun h9 => ?_) (fun hne => w_cs1 (bAt hf (by omega)) (fun a1 y1 e1 => ?_)))
            · rw [if_pos h9] at hRe
              exact w_rdF (t11 hf) (w_some (ret t y (by omega) hf hRe.symm))
            · cases e1
              rw [if_neg hne] at hRe
              rw [if_neg (by omega)]
              refine w_if (fun h9 => ?_) (fun h9 => w_cs1 (bAt hf (by omega)) (fun a2 y2 e2 => ?_))
              · rw [if_pos h9] at hRe
                exact w_some (ret (i + 1) _ (by omega) hf hRe.symm)
              · cases e2
                rw [if_neg h9] at hRe
                rw [if_neg (by omega)]
                refine w_if (fun h8 => w_cs1 (bAt hf (by omega)) (fun a3 y3 e3 => w_cs1 (bAt (i := i + 1 + 1) (y := y3) (by cases e3; exact hf) (by omega)) (fun a4 y4 e4 => ?_))) (fun h8 => ?_)
                · cases e3
                  cases e4
                  rw [if_pos h8] at hRe
                  rw [if_neg (show ¬ t ≤ i + 1 by omega)]
                  by_cases h2 : t ≤ i + 1 + 1
                  · rw [if_pos h2]
                    rw [if_neg (fun h7 => by omega)] at hRe
                    exact w_ifT (by decide) (l3 (i + 1 + 1) _ (by omega) (by omega) hRe)
                  · rw [if_neg h2]
                    refine w_if (fun h7 => ?_) (fun h7 => w_cs1 (bAt hf (by omega)) (fun a5 y5 e5 => ?_))
                    · rw [if_neg (fun h6 => h6.2.1 h7)] at hRe
                      exact l3 (i + 1 + 1) _ (by omega) (by omega) hRe
                    · cases e5
                      rw [if_neg h2]
                      refine w_if (fun h6 => ?_) (fun h6 => w_cs1 (bAt hf (by omega)) (fun a6 y6 e6 => ?_))
                      · rw [if_neg (fun h5 => h5.2.2 h6)] at hRe
                        exact l3 (i + 1 + 1) _ (by omega) (by omega) hRe
                      · cases e6
                        rw [if_neg h2]
                        rw [if_pos ⟨by omega, h7, h6⟩] at hRe
                        exact l3 (i + 1 + 1 + 1) _ (by omega) (by omega) hRe
                · rw [if_neg h8] at hRe
                  exact w_some (ret (i + 1) _ (by omega) hf hRe.symm)
          refine w_if (fun h9 => l2 (Or.inl h9)) (fun h9 => w_if (fun h8 => l2 (Or.inr h8)) (fun h8 => ?_))
          unfold pV at hRe
          rw [if_neg (fun h7 => h7.elim h9 h8)] at hRe
          exact w_some (ret i y (by omega) hf hRe.symm)
  refine e_X13_read ?_
  refine u_X13_read_0 ?_; unfold qm_X13_read_0
  refine w_cs0 (tn_clear pn3) (fun y ⟨g1, g2⟩ => main t 0 (t + 1) [] [] [] y (by omega) (by omega) (Nat.zero_le _) (fr_mono (fun g hg => Or.inr (by omega)) g2) ⟨g1, fun k e he => by rw [List.getElem?_nil] at he; cases he⟩ ⟨Nat.zero_le _, List.nodup_nil, fun p hp => (by cases hp), fun e he => (by cases he)⟩ hR)
end
section
/-! 99zzzzzzzzzzr.xrc -/
/-! the class reads so -/
def rvR (bt : Nat → Int32) (n a : Nat) (R : Nat ⊕ (Nat × Int32 × Int32 × Nat)) (r : Int32 × ow_MS) : Prop := match R with
  | .inl j => r.1 = nI j ∧ j ≤ n
  | .inr (u, x, s, j) => r.1 = -1 ∧ r.2.1 11005 = nI j ∧ a < j ∧ j ≤ n ∧ u = (if bt a = 117 then 1 else 0) ∧ s = (if bt (j - 1) = 43 then 1 else -1) ∧ ∃ k, k < 100 ∧ x = nI k ∧ r.2.1 11006 = nI k
def atN (nm : rtN) (k : Nat) : Nat := (nm.getD k (0, 0, 0)).2.2
def sgV (nm : rtN) (k : Nat) : Int32 := (nm.getD k (0, 0, 0)).2.1
def oxI : Option Nat → Int32
  | none => -1
  | some x => nI x
/-- what has been read: names nm, visits F -/
def rcT (t : Nat) (z : ow_MS) (nm : rtN) (F : List vT) (T : ow_NT) : Prop := cAt z 4000 T ∧ ow_b24 T.2.2.1 ∧ T.1 = nm.length ∧ rtP t nm F ∧ (∀ x, x < T.1 → ∃ u, (x, u) ∈ F) ∧ (∀ v, v < 24 → (z.2.1 11004 v = -1 ∧ kp v ∉ F) ∨ ∃ b, b < 400 ∧ z.2.1 11004 v = nI b ∧ kp v ∈ F ∧ (kp (mt v) ∉ F → b = atN nm (v / 2))) ∧ (∀ k, k < 100 → z.2.1 11003 k = oxI (nix nm (nI k))) ∧ ∀ x, x < T.1 → T.2.2.2 x = sgV nm x
theorem nix_app {nm : rtN} {x y : Int32} {e : Int32 × Nat} (hx : nix nm x = none) : nix (nm ++ [(x, e)]) y = if y = x then some nm.length else nix nm y := by
  have g0 : ∀ j, j < nm.length → (nm ++ [(x, e)]).getD j (0, 0, 0) = nm.getD j (0, 0, 0) := fun j hj => by
    rw [List.getD_eq_getElem?_getD, List.getD_eq_getElem?_getD, List.getElem?_append_left hj]
  have g1 : (nm ++ [(x, e)]).getD nm.length (0, 0, 0) = (x, e) := getD_of (by rw [List.getElem?_append_right (Nat.le_refl _), Nat.sub_self]; rfl)
  by_cases h : y = x
  · rw [if_pos h, h]
    refine nix_some.mpr ⟨by rw [List.length_append]; exact Nat.lt_succ_self _, by rw [g1], fun j hj => ?_⟩
    rw [g0 j hj]
    exact nix_none.mp hx j hj
  · rw [if_neg h]
    cases e9 : nix nm y with
    | none =>
      refine nix_none.mpr (fun j hj => ?_)
      rw [List.length_append] at hj
      have hj : j < nm.length + 1 := hj
      by_cases ej : j = nm.length
      · rw [ej, g1]
        exact fun e8 => h e8.symm
      · rw [g0 j (by omega)]
        exact nix_none.mp e9 j (by omega)
    | some k =>
      obtain ⟨k1, k2, k3⟩ := nix_some.mp e9
      refine nix_some.mpr ⟨by rw [List.length_append]; omega, by rw [g0 k k1]; exact k2, fun j hj => ?_⟩
      rw [g0 j (by omega)]
      exact k3 j hj
theorem at_app {nm : rtN} {e : Int32 × Int32 × Nat} {k : Nat} (h : k < nm.length) : atN (nm ++ [e]) k = atN nm k ∧ sgV (nm ++ [e]) k = sgV nm k := by
  unfold atN sgV
  rw [List.getD_eq_getElem?_getD, List.getD_eq_getElem?_getD, List.getElem?_append_left h]
  exact ⟨rfl, rfl⟩
theorem at_new {nm : rtN} {e : Int32 × Int32 × Nat} : (nm ++ [e]).getD nm.length (0, 0, 0) = e := getD_of (by rw [List.getElem?_append_right (Nat.le_refl _), Nat.sub_self]; rfl)
theorem rcT_fr {P : Nat → Prop} {t : Nat} {y y1 : ow_MS} {nm : rtN} {F : List vT} {T : ow_NT} (hf : fr P y y1) (hP : ∀ g, P g → ¬ cP 4000 g ∧ g ≠ 11003 ∧ g ≠ 11004) (h : rcT t y nm F T) : rcT t y1 nm F T := by
  obtain ⟨s1, s2, s3, s4, s5, s6, s7, s8⟩ := h
  refine ⟨cAt_fr hf (fun g hg h9 => (hP g h9).1 hg) s1, s2, s3, s4, s5, fun v hv => ?_, fun k hk => ?_, s8⟩
  · rw [(hf 11004 (fun h9 => (hP _ h9).2.2 rfl)).2.1]
    exact s6 v hv
  · rw [(hf 11003 (fun h9 => (hP _ h9).2.1 rfl)).2.1]
    exact s7 k hk
section XRC
variable {vl : Nat → Nat} {y : ow_MS} {bt : Nat → Int32} {t : Nat} {nm : rtN} {F : List vT} {T : ow_NT}
theorem xc_readVisit {a n : Nat} (ha : y.1 11005 = nI a) (hn : y.1 11001 = nI n) (han : a < n) (h400 : n ≤ 400) (hbt : ∀ k, k < n → y.2.1 11002 k = bt k) : Te (fun K => ce_X9_readVisit vl K 11000 y) (fun r => fr rvP y r.2 ∧ rvR bt n a (pV bt n a) r) := by
  obtain ⟨R, hR⟩ : ∃ R, pV bt n a = R := ⟨_, rfl⟩
  rw [hR]
  let Q : Int32 × ow_MS → Prop := fun r => fr rvP y r.2 ∧ rvR bt n a R r
  have nf : ∀ {z : ow_MS}, fr rvP y z → z.1 11001 = nI n := fun hf => (hf 11001 (by unfold rvP; omega)).1.trans hn
  have bf : ∀ {z : ow_MS}, fr rvP y z → ∀ k, k < n → z.2.1 11002 k = bt k := fun hf k hk => by
    rw [(hf 11002 (by unfold rvP; omega)).2.1]
    exact hbt k hk
  have c4 : ∀ (z : ow_MS) (b : Nat), fr rvP y z → b ≤ n → z.1 11005 = nI b → R = .inl b → Tt (fun K t => c_X9_readVisit vl K t 4 11000 z) Q := by
    intro z b hf h1 h2 h3
    refine u_X9_readVisit_4 ?_; unfold cm_X9_readVisit_4
    exact w_rdF h2 (w_some ⟨hf, by rw [h3]; exact ⟨rfl, h1⟩⟩)
  have c2 : ∀ (z : ow_MS) (b : Nat), fr rvP y z → b ≤ n → z.1 11005 = nI b → R = .inl b → Tt (fun K t => c_X9_readVisit vl K t 2 11000 z) Q := by
    intro z b hf h1 h2 h3
    refine u_X9_readVisit_2 ?_; unfold cm_X9_readVisit_2
    exact w_rdF h2 (w_some ⟨hf, by rw [h3]; exact ⟨rfl, h1⟩⟩)
  have c3 : ∀ (z : ow_MS) (b k : Nat), fr rvP y z → a < b → b ≤ n → k < 100 → z.1 11005 = nI b → z.1 11006 = nI k → pSg bt n a b (nI k) = R → Tt (fun K t => c_X9_readVisit vl K t 3 11000 z) Q := by
    intro z b k hf h1 h2 h4 h5 h6 hS
    have c5 : b < n → (bt b = 43 ∨ bt b = 45) → Tt (fun K t => c_X9_readVisit vl K t 5 11000 z) Q := by
      intro hbn hs
      unfold pSg at hS
      rw [if_neg (by omega), if_pos hs] at hS
      refine u_X9_readVisit_5 ?_; unfold cm_X9_readVisit_5
      refine w_rdF h5 (w_wrF ?_)
      rw [nI_1]
      refine w_some ⟨fr_F2 hf (Or.inl rfl), ?_⟩
      rw [← hS]
      exact ⟨rfl, po_usF_at, by omega, by omega, rfl, by rw [Nat.add_sub_cancel], k, h4, rfl, rf_ot (by omega) h6⟩
    refine u_X9_readVisit_3 ?_; unfold cm_X9_readVisit_3
    refine w_rdF h5 (w_rdF (nf hf) (w_le (by omega) (by omega) (fun h7 => c4 z b hf h2 h5 ?_) (fun h7 => w_rdF h5 (w_crI ch_11002 rfl (by omega) (bf hf b h7) (w_if (fun h8 => c5 h7 (Or.inl h8)) (fun h8 => w_rdF h5 (w_crI ch_11002 rfl (by omega) (bf hf b h7) (w_if (fun h9 => c5 h7 (Or.inr h9)) (fun h9 => c4 z b hf h2 h5 ?_)))))))))
    · unfold pSg at hS
      have hbn : b = n := by omega
      rw [if_pos hbn] at hS
      rw [← hS, hbn]
    · unfold pSg at hS
      rw [if_neg (by omega), if_neg (fun h6 => h6.elim h8 h9)] at hS
      exact hS.symm
  have c1 : (bt a = 111 ∨ bt a = 117) → Tt (fun K t => c_X9_readVisit vl K t 1 11000 y) Q := by
    intro hou
    unfold pV at hR
    rw [if_pos hou] at hR
    refine u_X9_readVisit_1 ?_; unfold cm_X9_readVisit_1
    refine w_rdF ha (w_wrF ?_)
    rw [nI_1]
    have f1 : fr rvP y (usF y 11005 (nI (a + 1))) := fr_F (Or.inl rfl)
    have e1 : (usF y 11005 (nI (a + 1))).1 11005 = nI (a + 1) := po_usF_at
    refine w_rdF e1 (w_rdF (nf f1) (w_le (by omega) (by omega) (fun h1 => c2 _ (a + 1) f1 (by omega) e1 ?_) (fun h1 => w_rdF e1 (w_crI ch_11002 rfl (by omega) (bf f1 (a + 1) h1) ?_))))
    · have han1 : a + 1 = n := by omega
      rw [if_pos han1] at hR
      rw [← hR, han1]
    rw [if_neg (by omega)] at hR
    refine w_if (fun h49 => c2 _ (a + 1) f1 (by omega) e1 (by rw [if_pos h49] at hR; exact hR.symm)) (fun h49 => w_rdF e1 (w_crI ch_11002 rfl (by omega) (bf f1 (a + 1) h1) (w_if (fun h57 => ?_) (fun h57 => c2 _ (a + 1) f1 (by omega) e1 (by rw [if_neg h49, if_neg h57] at hR; exact hR.symm)))))
    rw [if_neg h49, if_pos h57] at hR
    have hch : ∃ k, 1 ≤ k ∧ k ≤ 9 ∧ bt (a + 1) - 48 = nI k := by
      generalize bt (a + 1) = x at h49 h57
      have h0 : ¬ x < 0 := fun h9 => h49 (Int32.lt_trans h9 (by decide))
      obtain ⟨k, k31, rfl⟩ := nI_of h0
      have q1 : 49 ≤ k := by
        apply Nat.le_of_not_lt
        exact fun h9 => h49 (nI_lt (b := 49) h9 (by omega))
      have q2 : k ≤ 57 := (nI_leI k31 (by omega : 57 < 2 ^ 31)).mp h57
      exact ⟨k - 48, by omega, by omega, pk_sub (b := 48) (by omega)⟩
    obtain ⟨k, k1, k2, k3⟩ := hch
    rw [k3] at hR
    refine w_rdF e1 (w_crI ch_11002 rfl (show a + 1 < 400 by omega) (bf f1 (a + 1) h1) (w_wrF ?_))
    rw [k3]
    have e2 : (usF (usF y 11005 (nI (a + 1))) 11006 (nI k)).1 11005 = nI (a + 1) := rf_ot (by omega) e1
    refine w_rdF e2 (w_wrF ?_)
    rw [nI_1]
    have f3 : fr rvP y (usF (usF (usF y 11005 (nI (a + 1))) 11006 (nI k)) 11005 (nI (a + 1 + 1))) := fr_F2 (fr_F2 f1 (Or.inr rfl)) (Or.inl rfl)
    have e3 : (usF (usF (usF y 11005 (nI (a + 1))) 11006 (nI k)) 11005 (nI (a + 1 + 1))).1 11005 = nI (a + 1 + 1) := po_usF_at
    have e4 : (usF (usF (usF y 11005 (nI (a + 1))) 11006 (nI k)) 11005 (nI (a + 1 + 1))).1 11006 = nI k := rf_ot (by omega) po_usF_at
    generalize usF (usF (usF y 11005 (nI (a + 1))) 11006 (nI k)) 11005 (nI (a + 1 + 1)) = z at f3 e3 e4
    have t3 : ¬ (a + 2 < n ∧ ¬ bt (a + 2) < 48 ∧ ¬ 57 < bt (a + 2)) → Tt (fun K t => c_X9_readVisit vl K t 3 11000 z) Q := fun hno => by
      rw [if_neg hno] at hR
      exact c3 z (a + 1 + 1) k f3 (by omega) (by omega) (by omega) e3 e4 hR
    refine w_rdF e3 (w_rdF (nf f3) (w_le (by omega) (by omega) (fun h2 => t3 (fun h9 => by omega)) (fun h2 => w_rdF e3 (w_crI ch_11002 rfl (by omega) (bf f3 (a + 1 + 1) h2) (w_if (fun h48 => t3 (fun h9 => h9.2.1 h48)) (fun h48 => w_rdF e3 (w_crI ch_11002 rfl (by omega) (bf f3 (a + 1 + 1) h2) (w_if (fun h57' => t3 (fun h9 => h9.2.2 h57')) (fun h57' => w_rdF e4 (w_rdF e3 (w_crI ch_11002 rfl (show a + 1 + 1 < 400 by omega) (bf f3 (a + 1 + 1) h2) (w_wrF ?_))))))))))))
    rw [if_pos ⟨h2, h48, h57'⟩] at hR
    have hch : ∃ m, m < 100 ∧ (10 * nI k + bt (a + 1 + 1)) - 48 = nI m := by
      generalize bt (a + 1 + 1) = x at h48 h57'
      have h0 : ¬ x < 0 := fun h9 => h48 (Int32.lt_trans h9 (by decide))
      obtain ⟨j, j31, rfl⟩ := nI_of h0
      have q1 : 48 ≤ j := by
        apply Nat.le_of_not_lt
        exact fun h9 => h48 (nI_lt (b := 48) h9 (by omega))
      have q2 : j ≤ 57 := by
        apply Nat.le_of_not_lt
        exact fun h9 => h57' (nI_lt (a := 57) h9 j31)
      refine ⟨10 * k + j - 48, by omega, ?_⟩
      rw [show (10 : Int32) * nI k = nI (10 * k) from pk_mul 10 _, nI_add]
      exact pk_sub (b := 48) (by omega)
    obtain ⟨m, m2, m3⟩ := hch
    have hR : pSg bt n a (a + 1 + 1 + 1) (10 * nI k + bt (a + 1 + 1) - 48) = R := hR
    rw [m3] at hR ⊢
    have e5 : (usF z 11006 (nI m)).1 11005 = nI (a + 1 + 1) := rf_ot (by omega) e3
    refine w_rdF e5 (w_wrF ?_)
    rw [nI_1]
    exact c3 _ (a + 1 + 1 + 1) m (fr_F2 (fr_F2 f3 (Or.inr rfl)) (Or.inl rfl)) (by omega) (by omega) m2 po_usF_at (rf_ot (by omega) po_usF_at) hR
  refine e_X9_readVisit ?_
  refine u_X9_readVisit_0 ?_; unfold cm_X9_readVisit_0
  refine w_rdF ha (w_crI ch_11002 rfl (by omega) (hbt a han) (w_if (fun h1 => c1 (Or.inl h1)) (fun h1 => w_rdF ha (w_crI ch_11002 rfl (by omega) (hbt a han) (w_if (fun h2 => c1 (Or.inr h2)) (fun h2 => w_rdF ha (w_some ⟨fr_rf, ?_⟩)))))))
  unfold pV at hR
  rw [if_neg (fun h9 => h9.elim h1 h2)] at hR
  rw [← hR]
  exact ⟨rfl, by omega⟩
/-- a visit entered: its answer -/
def enQ (t : Nat) (y : ow_MS) (nm : rtN) (F : List vT) (T : ow_NT) (b u k : Nat) (s : Int32) (r : Int32 × ow_MS) : Prop := (r.1 = -1 ∧ (∃ T', cAt r.2 4000 T' ∧ ow_b24 T'.2.2.1) ∧ (nix nm (nI k) = none ∧ nm.length = 12 ∨ ∃ x, nix nm (nI k) = some x ∧ ((x, u) ∈ F ∨ sgV nm x ≠ s))) ∨ (∃ T', T'.2.1 = T.2.1 ∧ T'.2.2.1 = T.2.2.1 ∧ (nix nm (nI k) = none ∧ nm.length ≠ 12 ∧ r.1 = nI (lb (nm.length, u)) ∧ rcT t r.2 (nm ++ [(nI k, s, b)]) (F ++ [(nm.length, u)]) T' ∨ ∃ x, nix nm (nI k) = some x ∧ ¬ ((x, u) ∈ F ∨ sgV nm x ≠ s) ∧ r.1 = nI (lb (x, u)) ∧ rcT t r.2 nm (F ++ [(x, u)]) T'))
theorem xc_enter {a k b u n : Nat} {s : Int32} (hS : rcT t y nm F T) (ht : t ≤ 400) (ha : y.1 11005 = nI a) (ha1 : 1 ≤ a) (ha4 : a ≤ n) (hn : n ≤ 400) (hk : y.1 11006 = nI k) (hk1 : k < 100) (hb : b < t) (hbt : ∀ k, k < n → y.2.1 11002 k = bt k) (hbn : b < n) (hu : u = if bt b = 117 then 1 else 0) (hs : s = if bt (a - 1) = 43 then 1 else -1) : Te (fun K => ce_X9_enter vl K 11000 4000 (nI b) y) (fun r => fr enR y r.2 ∧ enQ t y nm F T b u k s r) := by
  let Q : Int32 × ow_MS → Prop := fun r => fr enR y r.2 ∧ enQ t y nm F T b u k s r
  obtain ⟨s1', s2, s3, s4, s5, s6, s7, s8⟩ := id hS
  have hN := s4.1
  have hu2 : u < 2 := by rw [hu]; split <;> omega
  have hss : s1 s := by
    rw [hs]
    split
    · exact Or.inl rfl
    · exact Or.inr rfl
  -- a visit at crossing x
  have c3 : ∀ (z : ow_MS) (nm2 : rtN) (T1 : ow_NT) (x : Nat), fr enR y z → cAt z 4000 T1 → T1.2.1 = T.2.1 → T1.2.2.1 = T.2.2.1 → T1.1 = nm2.length → x < nm2.length → rtP t nm2 F → (∀ x', x' < T1.1 → x' = x ∨ ∃ u, (x', u) ∈ F) → (∀ v, v < 24 → (z.2.1 11004 v = -1 ∧ kp v ∉ F) ∨ ∃ b, b < 400 ∧ z.2.1 11004 v = nI b ∧ kp v ∈ F ∧ (kp (mt v) ∉ F → b = atN nm2 (v / 2))) → (∀ k, k < 100 → z.2.1 11003 k = oxI (nix nm2 (nI k))) → (∀ x, x < T1.1 → T1.2.2.2 x = sgV nm2 x) → ((∀ u', (x, u') ∉ F) → atN nm2 x = b) → (((x, u) ∈ F ∨ sgV nm2 x ≠ s) → nix nm (nI k) = some x ∧ nm2 = nm) → (¬ ((x, u) ∈ F ∨ sgV nm2 x ≠ s) → ∀ r T', r.1 = nI (lb (x, u)) → T'.2.1 = T.2.1 → T'.2.2.1 = T.2.2.1 → rcT t r.2 nm2 (F ++ [(x, u)]) T' → enQ t y nm F T b u k s r) → Tt (fun K t => c_X9_enter vl K t 3 (nI b) s (nI x) 11000 4000 (nI u) (nI (2 * x)) z) Q := by
    intro z nm2 T1 x hf h1 h2 h3 h4 h5 h6 h8 h9 h10 h11 h12 h13 h14
    have hN2 := h6.1
    have hv24 : 2 * x + u < 24 := by omega
    have hb24 : ow_b24 T1.2.2.1 := by rw [h3]; exact s2
    have ekp : kp (2 * x + u) = (x, u) := kp_lb2 (p := (x, u)) hu2
    have bad : ((x, u) ∈ F ∨ sgV nm2 x ≠ s) → Q (-1, z) := fun h => by
      obtain ⟨q1, q2⟩ := h13 h
      refine ⟨hf, Or.inl ⟨rfl, ⟨T1, h1, hb24⟩, Or.inr ⟨x, q1, ?_⟩⟩⟩
      rw [← q2]
      exact h
    refine u_X9_enter_3 ?_; unfold cm_X9_enter_3
    rw [nI_add]
    rcases h9 (2 * x + u) hv24 with ⟨e1, e2⟩ | ⟨b', b1, e1, e2, -⟩
    · rw [ekp] at e2
      refine w_crI ch_11004 rfl hv24 e1 (w_ifT rfl (w_crI (nH_3 nH4) rfl (show x < 12 by omega) ((h1.2.2.2.2 x).trans (h11 x (by omega))) (w_if (fun hsg => w_ctI ch_11004 rfl hv24 (w_some ⟨fr_I2 hf (Or.inr (Or.inr (Or.inr rfl))), ?_⟩)) (fun hsg => w_some (bad (Or.inr hsg))))))
      refine h14 (fun h => h.elim e2 (fun h7 => h7 hsg)) _ T1 rfl h2 h3 ⟨cAt_fr (P := fun q => q = 11004) (fr_I rfl) (fun g hg h => by unfold cP at hg; omega) h1, hb24, h4, ⟨hN2, ?_, fun p hp => ?_, h6.2.2.2⟩, fun x' hx' => ?_, fun v hv => ?_, fun k9 hk9 => rd_ot (by omega) (h10 k9 hk9), h11⟩
      · rw [List.nodup_append]
        refine ⟨h6.2.1, List.nodup_cons.mpr ⟨fun h => (by cases h), List.nodup_nil⟩, fun p hp q hq e => ?_⟩
        rw [List.mem_singleton.mp hq] at e
        rw [e] at hp
        exact e2 hp
      · rcases List.mem_append.mp hp with h | h
        · exact h6.2.2.1 p h
        · rw [List.mem_singleton.mp h]
          exact ⟨h5, hu2⟩
      · rcases h8 x' hx' with h | ⟨u', h⟩
        · exact ⟨u, List.mem_append_right _ (by rw [h]; exact List.mem_singleton.mpr rfl)⟩
        · exact ⟨u', List.mem_append_left _ h⟩
      · by_cases ev : v = 2 * x + u
        · refine Or.inr ⟨b, by omega, by rw [ev]; exact po_usI_at, List.mem_append_right _ (by rw [ev, ekp]; exact List.mem_singleton.mpr rfl), fun hno => ?_⟩
          rw [show v / 2 = x by omega]
          refine (h12 (fun u' hu' => ?_)).symm
          -- the other visit is not there
          have h2u : u' < 2 := (h6.2.2.1 _ hu').2
          by_cases eu : u' = u
          · rw [eu] at hu'
            exact e2 hu'
          · refine hno (List.mem_append_left _ ?_)
            have : kp (mt v) = (x, u') := by
              unfold kp mt
              rw [ev]
              by_cases eo : (2 * x + u) % 2 = 0
              · rw [if_pos eo]
                exact Prod.ext (by show (2 * x + u + 1) / 2 = x; omega) (by show (2 * x + u + 1) % 2 = u'; omega)
              · rw [if_neg eo]
                exact Prod.ext (by show (2 * x + u - 1) / 2 = x; omega) (by show (2 * x + u - 1) % 2 = u'; omega)
            rw [this]
            exact hu'
        · rcases h9 v hv with ⟨q1, q2⟩ | ⟨b', q1, q2, q3, q4⟩
          · refine Or.inl ⟨rd_ne ev q1, fun hm => ?_⟩
            rcases List.mem_append.mp hm with h | h
            · exact q2 h
            · have h9 := List.mem_singleton.mp h
              have := congrArg lb h9
              rw [kp_lb] at this
              exact ev this
          · exact Or.inr ⟨b', q1, rd_ne ev q2, List.mem_append_left _ q3, fun hno => q4 (fun h => hno (List.mem_append_left _ h))⟩
    · rw [ekp] at e2
      exact w_crI ch_11004 rfl hv24 e1 (w_ifF (nI_nm1 (by omega)) (w_some (bad (Or.inl e2))))
  have c2 : ∀ (z : ow_MS) (x : Nat), fr enR y z → Tt (fun K t => c_X9_enter vl K t 3 (nI b) s (nI x) 11000 4000 (nI u) (nI (2 * x)) z) Q → Tt (fun K t => c_X9_enter vl K t 2 (nI b) s (nI x) 11000 4000 0 0 z) Q := by
    intro z x hf h3
    have eb : z.2.1 11002 b = bt b := by
      rw [(hf 11002 (by unfold enR; omega)).2.1]
      exact hbt b hbn
    refine u_X9_enter_2 ?_; unfold cm_X9_enter_2
    rw [show (2 : Int32) * nI x = nI (2 * x) from pk_mul 2 _]
    refine w_crI ch_11002 rfl (by omega) eb (w_if (fun h7 => ?_) (fun h7 => ?_))
    · rw [if_pos h7] at hu
      rw [hu] at h3
      exact h3
    · rw [if_neg h7] at hu
      rw [hu] at h3
      exact h3
  have c1 : Tt (fun K t => c_X9_enter vl K t 1 (nI b) 0 0 11000 4000 s 0 y) Q := by
    refine u_X9_enter_1 ?_; unfold cm_X9_enter_1
    have e3 := s7 k hk1
    cases hx : nix nm (nI k) with
    | none =>
      rw [hx] at e3
      have e3 : y.2.1 11003 k = -1 := e3
      refine w_rdF hk (w_crI ch_11003 rfl hk1 e3 (w_ifT rfl (w_rdF s1'.1 (w_lt (b := 12) (by omega) (by omega) (fun h12 => w_rdF s1'.1 (w_rdF s1'.1 (w_wrF ?_))) (fun h12 => w_some ⟨fr_rf, Or.inl ⟨rfl, ⟨T, s1', s2⟩, Or.inl ⟨hx, by omega⟩⟩⟩)))))
      rw [nI_1]
      have hk2 : (usF y 4008 (nI (T.1 + 1))).1 11006 = nI k := rf_ot (by omega) hk
      refine w_rdF hk2 (w_ctI ch_11003 rfl hk1 (w_ctI (nH_3 nH4) rfl h12 ?_))
      have hf : fr enR y (usI (usI (usF y 4008 (nI (T.1 + 1))) 11003 k (nI T.1)) 4003 T.1 s) := fr_I2 (fr_I2 (fr_F (Or.inl rfl)) (Or.inr (Or.inr (Or.inl rfl)))) (Or.inr (Or.inl rfl))
      have hcA : cAt (usI (usI (usF y 4008 (nI (T.1 + 1))) 11003 k (nI T.1)) 4003 T.1 s) 4000 (T.1 + 1, T.2.1, T.2.2.1, su T.2.2.2 T.1 s) := ⟨show (usF y 4008 (nI (T.1 + 1))).1 4008 = _ from po_usF_at, show (usF y 4008 (nI (T.1 + 1))).1 4009 = nI T.2.1 from rf_ot (by omega) s1'.2.1, fun v => rd_ot (by omega) (rd_ot (by omega) (s1'.2.2.1 v)), fun v => rd_ot (by omega) (rd_ot (by omega) (s1'.2.2.2.1 v)), fun v => by
        show _ = su T.2.2.2 T.1 s v
        by_cases ev : v = T.1
        · rw [ev]
          exact po_usI_at.trans (if_pos rfl).symm
        · rw [show su T.2.2.2 T.1 s v = T.2.2.2 v from if_neg ev]
          exact rd_ne ev (rd_ot (by omega) (s1'.2.2.2.2 v))⟩
      have hno : ∀ u', (T.1, u') ∉ F := fun u' h9 => by
        have := (s4.2.2.1 _ h9).1
        have this : T.1 < nm.length := this
        omega
      have hnew : (nm ++ [(nI k, s, b)]).getD T.1 (0, 0, 0) = (nI k, s, b) := by rw [s3]; exact at_new
      have hsn : sgV (nm ++ [(nI k, s, b)]) T.1 = s := by unfold sgV; rw [hnew]
      have hno2 : ¬ ((T.1, u) ∈ F ∨ sgV (nm ++ [(nI k, s, b)]) T.1 ≠ s) := fun h => h.elim (hno u) (fun h9 => h9 hsn)
      refine c2 _ T.1 hf (c3 _ (nm ++ [(nI k, s, b)]) (T.1 + 1, T.2.1, T.2.2.1, su T.2.2.2 T.1 s) T.1 hf hcA rfl rfl (by rw [List.length_append, s3]; rfl) (by rw [List.length_append, s3]; exact Nat.lt_succ_self _) ⟨by rw [List.length_append]; show nm.length + 1 ≤ 12; omega, s4.2.1, fun p hp => ⟨by rw [List.length_append]; have := (s4.2.2.1 p hp).1; omega, (s4.2.2.1 p hp).2⟩, fun e he => ?_⟩ (fun x' hx' => ?_) (fun v hv => ?_) (fun k9 hk9 => ?_) (fun x' hx' => ?_) (fun _ => by unfold atN; rw [hnew]) (fun h => absurd h hno2) (fun _ r T' r1 r2 r3 r4 => Or.inr ⟨T', r2, r3, Or.inl ⟨hx, by omega, by rw [← s3]; exact r1, by rw [← s3]; exact r4⟩⟩))
      · rcases List.mem_append.mp he with h9 | h9
        · exact s4.2.2.2 e h9
        · rw [List.mem_singleton.mp h9]
          exact ⟨hss, hb⟩
      · have hx' : x' < T.1 + 1 := hx'
        by_cases ex : x' = T.1
        · exact Or.inl ex
        · exact Or.inr (s5 x' (by omega))
      · rw [show (usI (usI (usF y 4008 (nI (T.1 + 1))) 11003 k (nI T.1)) 4003 T.1 s).2.1 11004 v = y.2.1 11004 v from rd_ot (by omega) (rd_ot (by omega) rfl)]
        rcases s6 v hv with h9 | ⟨b', q1, q2, q3, q4⟩
        · exact Or.inl h9
        · refine Or.inr ⟨b', q1, q2, q3, fun h9 => ?_⟩
          have hlt := (s4.2.2.1 _ q3).1
          have hlt : v / 2 < nm.length := hlt
          rw [(at_app hlt).1]
          exact q4 h9
      · rw [nix_app hx]
        by_cases ek : k9 = k
        · rw [ek, if_pos rfl, ← s3]
          exact rd_ot (by omega) po_usI_at
        · rw [if_neg (fun e => ek (nI_inj9 (by omega) (by omega) e))]
          exact rd_ot (by omega) (rd_ne ek (s7 k9 hk9))
      · have hx' : x' < T.1 + 1 := hx'
        show su T.2.2.2 T.1 s x' = _
        by_cases ex : x' = T.1
        · rw [ex, hsn]
          exact if_pos rfl
        · rw [show su T.2.2.2 T.1 s x' = T.2.2.2 x' from if_neg ex, (at_app (show x' < nm.length by omega)).2]
          exact s8 x' (by omega)
    | some x =>
      rw [hx] at e3
      have e3 : y.2.1 11003 k = nI x := e3
      have hxl := (nix_some.mp hx).1
      refine w_rdF hk (w_crI ch_11003 rfl hk1 e3 (w_ifF (nI_nm1 (by omega)) (c2 y x fr_rf (c3 y nm T x fr_rf s1' rfl rfl s3 hxl s4 (fun x' hx' => Or.inr (s5 x' hx')) s6 s7 s8 (fun h9 => ?_) (fun _ => ⟨hx, rfl⟩) (fun hno r T' r1 r2 r3 r4 => Or.inr ⟨T', r2, r3, Or.inr ⟨x, hx, hno, r1, r4⟩⟩)))))
      obtain ⟨u', h8⟩ := s5 x (by omega)
      exact absurd h8 (h9 u')
  refine e_X9_enter ?_
  refine u_X9_enter_0 ?_; unfold cm_X9_enter_0
  refine w_rdF ha ?_
  rw [show nI a - 1 = nI (a - 1) from pk_sub (b := 1) ha1]
  refine w_crI ch_11002 rfl (show a - 1 < 400 by omega) (hbt (a - 1) (by omega)) (w_if (fun h9 => ?_) (fun h9 => ?_))
  · rw [if_pos h9] at hs
    rw [hs] at c1
    exact c1
  · rw [if_neg h9] at hs
    rw [hs] at c1
    exact c1
end XRC
end
section
/-! 99zzzzzzzzzzs.xdia -/
/-! both sides: diagram -/
theorem te_and {O : Type} {f : Nat → Option O} {Q R : O → Prop} (h1 : Te f Q) (h2 : Te f R) : Te f (fun r => Q r ∧ R r) := w_monoE (te_all (α := Unit) (H := fun _ => True) (R := fun _ => R) h1 (fun _ _ => h2)) (fun r ⟨a, b⟩ => ⟨a, b () trivial⟩)
theorem te_sw {O P : Type} {f : Nat → Option O} {g : Nat → Option P} {R : P → Prop} {M : O → P → Prop} (h2 : Te g R) (H : ∀ b, R b → Te f (fun a => M a b)) : Te f (fun a => Te g (fun b => M a b)) := by
  obtain ⟨b, hb, hR⟩ := h2
  exact w_monoE (H b hR) (fun a ha => ⟨b, hb, ha⟩)
theorem lonA_uni {nm : rtN} {F : List vT} {a b : Nat} (h1 : lonA nm F a) (h2 : lonA nm F b) : a = b := by
  obtain ⟨⟨k, k1, k2⟩, k3⟩ := h1
  obtain ⟨⟨j, j1, j2⟩, j3⟩ := h2
  have := k3 j j1
  have := j3 k k1
  omega
/-- how the class's reader answers -/
def rcQ (t : Nat) (R : rtO) (r : Int32 × ow_MS) : Prop := match R with
  | .inl j => r.1 = nI j ∧ j ≤ t
  | .inr (nm, A) => (∃ a, a < t ∧ lonA nm A.flatten a ∧ r.1 = nI a) ∨ (∀ k, ¬ lonK nm A.flatten k) ∧ r.1 = -1 ∧ ∃ T, cAt r.2 4000 T ∧ nv T ∧ isoN A (sgN nm) (fun x => x) T ∧ pm1 T
section XDI
variable {vl : Nat → Nat} {y : ow_MS} {bt : Nat → Int32} {t : Nat} {nm : rtN} {F : List vT} {T : ow_NT}
theorem xc_finish {A : rn_L} {L : List vT} {x3 x4 : Int32} (hS : rcT t y nm (A.flatten ++ L) T) (hl : lkS T.2.2.1 A L) (hci : T.2.1 = cirs A) (hx : lsI L x3 x4) : Te (fun K => ce_X9_finish vl K 4000 x3 x4 y) (fun y1 => ∃ T1, rcT t y1 nm (A ++ [L]).flatten T1 ∧ lkS T1.2.2.1 (A ++ [L]) [] ∧ T1.2.1 = cirs (A ++ [L]) ∧ fr (cP 4000) y y1) := by
  obtain ⟨s1', s2, s3, s4, s5, s6, s7, s8⟩ := id hS
  have hN := s4.1
  have e0 : vOK (A.flatten ++ L) := ⟨s4.2.1, fun p hp => (s4.2.2.1 p hp).2⟩
  refine e_X9_finish ?_; unfold cm_X9_finish_0
  cases L with
  | nil =>
    have hx : x3 = -1 := hx
    refine w_ifT hx (w_rdF s1'.2.1 (w_wrF (w_some ⟨(T.1, T.2.1 + 1, T.2.2), ?_, lk_nil hl, ?_, fr_F (by unfold cP; omega)⟩)))
    · rw [fl_app]
      exact ⟨⟨rf_ot (by omega) s1'.1, po_usF_at.trans (nI_1 _), s1'.2.2⟩, s2, s3, s4, s5, s6, s7, s8⟩
    · rw [cirs_app, if_pos rfl, ← hci]
  | cons p L =>
    obtain ⟨hx3, q, hq, hx4⟩ := hx
    have hpF : p ∈ A.flatten ++ p :: L := List.mem_append_right _ List.mem_cons_self
    have hqF : q ∈ A.flatten ++ p :: L := List.mem_append_right _ (List.mem_of_getElem? hq)
    have b24 : ∀ r, r ∈ A.flatten ++ p :: L → lb r < 24 := fun r hr => by
      have h1 := s4.2.2.1 r hr
      unfold lb
      omega
    have hp24 := b24 p hpF
    refine w_ifF (by rw [hx3]; exact nI_nm1 (by omega)) ?_
    rw [hx3, hx4]
    refine w_cs0 (tc_link nH4 s1' (b24 q hqF) (b24 p hpF)) ?_
    rintro y1 ⟨g1, g2⟩
    refine w_some ⟨_, ⟨g1, nl_b24 s2 (b24 q hqF) (b24 p hpF), s3, ?_, ?_, fun v hv => ?_, fun k hk => ?_, s8⟩, lk_close e0 hq hl, ?_, g2⟩
    · rw [fl_app]
      exact s4
    · rw [fl_app]
      exact s5
    · rw [fl_app, (g2 11004 (by unfold cP; omega)).2.1]
      exact s6 v hv
    · rw [(g2 11003 (by unfold cP; omega)).2.1]
      exact s7 k hk
    · rw [cirs_app, if_neg (List.cons_ne_nil p L), Nat.add_zero]
      exact hci
theorem xc_firstLonely (hS : rcT t y nm F T) (ht : t ≤ 400) : Te (fun K => ce_X9_firstLonely vl K 11000 4000 y) (fun r => r.2 = y ∧ (r.1 = -1 ∧ (∀ k, ¬ lonK nm F k) ∨ ∃ a, a < t ∧ lonA nm F a ∧ r.1 = nI a)) := by
  obtain ⟨s1', s2, s3, s4, s5, s6, s7, s8⟩ := id hS
  have hN := s4.1
  -- a lonely visit
  let lv : Nat → Prop := fun v => kp v ∈ F ∧ kp (mt v) ∉ F
  have lvK : ∀ v, v < 2 * T.1 → lv v → lonK nm F (v / 2) := fun v hv ⟨h1, h2⟩ => by
    refine ⟨by omega, fun ⟨h3, h4⟩ => h2 ?_⟩
    have hm := mt_half v
    have : mt v % 2 = 0 ∨ mt v % 2 = 1 := by omega
    unfold kp
    rw [hm]
    rcases this with e | e <;> rw [e]
    · exact h3
    · exact h4
  have kLv : ∀ k, lonK nm F k → ∃ v, v < 2 * T.1 ∧ v / 2 = k ∧ lv v := fun k ⟨h1, h2⟩ => by
    obtain ⟨u, hu⟩ := s5 k (by omega)
    have hu2 : u < 2 := (s4.2.2.1 _ hu).2
    refine ⟨2 * k + u, by omega, by omega, ?_, fun h3 => h2 ?_⟩
    · unfold kp
      rw [show (2 * k + u) / 2 = k by omega, show (2 * k + u) % 2 = u by omega]
      exact hu
    · unfold kp mt at h3
      rcases (show u = 0 ∨ u = 1 by omega) with e | e
      · rw [e] at hu
        rw [e, if_pos (by omega), show (2 * k + 0 + 1) / 2 = k by omega, show (2 * k + 0 + 1) % 2 = 1 by omega] at h3
        exact ⟨hu, h3⟩
      · rw [e] at hu
        rw [e, if_neg (by omega), show (2 * k + 1 - 1) / 2 = k by omega, show (2 * k + 1 - 1) % 2 = 0 by omega] at h3
        exact ⟨h3, hu⟩
  let Q : Int32 × ow_MS → Prop := fun r => r.2 = y ∧ (r.1 = -1 ∧ (∀ k, ¬ lonK nm F k) ∨ ∃ a, a < t ∧ lonA nm F a ∧ r.1 = nI a)
  let I : Nat → Int32 → Prop := fun i l => (l = -1 ∧ ∀ v, v < i → ¬ lv v) ∨ ∃ b, b < t ∧ l = nI b ∧ (∃ v, v < i ∧ lv v ∧ atN nm (v / 2) = b) ∧ ∀ v, v < i → lv v → b ≤ atN nm (v / 2)
  have c1 : ∀ (d i : Nat) (l : Int32), i + d = 2 * T.1 → I i l → Tt (fun K t => c_X9_firstLonely vl K t 1 l (nI i) 11000 4000 y) Q := by
    intro d
    induction d with
    | zero =>
      intro i l hi hl
      have e : i = 2 * T.1 := by omega
      subst e
      refine u_X9_firstLonely_1 ?_; unfold cm_X9_firstLonely_1
      refine w_rdF s1'.1 ?_
      rw [show (2 : Int32) * nI T.1 = nI (2 * T.1) from pk_mul 2 _]
      refine w_leT (by omega) (by omega) (w_some ⟨rfl, ?_⟩)
      rcases hl with ⟨e, h⟩ | ⟨b, b1, b2, ⟨v, v1, v2, v3⟩, b4⟩
      · refine Or.inl ⟨e, fun k hk => ?_⟩
        obtain ⟨v, v1, -, v3⟩ := kLv k hk
        exact h v v1 v3
      · refine Or.inr ⟨b, b1, ⟨⟨v / 2, lvK v v1 v2, v3⟩, fun k hk => ?_⟩, b2⟩
        obtain ⟨v', w1, w2, w3⟩ := kLv k hk
        rw [← w2]
        exact b4 v' w1 w3
    | succ d ih =>
      intro i l hi hl
      have hi24 : i < 24 := by omega
      have hm24 := mt_lt (c := 12) (show i < 2 * 12 by omega)
      have c3 : ∀ l2, I (i + 1) l2 → Tt (fun K t => c_X9_firstLonely vl K t 3 l2 (nI i) 11000 4000 y) Q := by
        intro l2 h2
        refine u_X9_firstLonely_3 ?_; unfold cm_X9_firstLonely_3
        rw [nI_1]
        exact ih (i + 1) l2 (by omega) h2
      have keep : ¬ lv i → I (i + 1) l := by
        intro h9
        have ne : ∀ v, v < i + 1 → lv v → v < i := fun v hv h8 => by
          by_cases ev : v = i
          · rw [ev] at h8
            exact absurd h8 h9
          · omega
        rcases hl with ⟨e, h⟩ | ⟨b, b1, b2, ⟨v, v1, v2⟩, b4⟩
        · exact Or.inl ⟨e, fun v hv h8 => h v (ne v hv h8) h8⟩
        · exact Or.inr ⟨b, b1, b2, ⟨v, by omega, v2⟩, fun v hv h8 => b4 v (ne v hv h8) h8⟩
      refine u_X9_firstLonely_1 ?_; unfold cm_X9_firstLonely_1
      refine w_rdF s1'.1 ?_
      rw [show (2 : Int32) * nI T.1 = nI (2 * T.1) from pk_mul 2 _, xor1 ⟨i, hi24⟩]
      refine w_leF (by omega) (by omega) ?_
      rcases s6 i hi24 with ⟨e1, e2⟩ | ⟨b, b1, e1, e2, e3⟩
      · exact w_crI ch_11004 rfl hi24 e1 (w_ifT rfl (c3 l (keep (fun h => e2 h.1))))
      · refine w_crI ch_11004 rfl hi24 e1 (w_ifF (nI_nm1 (by omega)) ?_)
        rcases s6 (mt i) (by omega) with ⟨f1, f2⟩ | ⟨b', b2, f1, f2, -⟩
        · have hlv : lv i := ⟨e2, f2⟩
          have hb := e3 f2
          have hat : b < t := by
            rw [hb]
            have hk := (lvK i (by omega) hlv).1
            have := (s4.2.2.2 _ (List.getElem_mem hk)).2
            unfold atN
            rw [getD_of (List.getElem?_eq_getElem hk)]
            exact this
          have c2 : (∀ v, v < i → lv v → b ≤ atN nm (v / 2)) → Tt (fun K t => c_X9_firstLonely vl K t 2 l (nI i) 11000 4000 y) Q := by
            intro hle
            refine u_X9_firstLonely_2 ?_; unfold cm_X9_firstLonely_2
            refine w_crI ch_11004 rfl hi24 e1 (c3 _ (Or.inr ⟨b, hat, rfl, ⟨i, by omega, hlv, hb.symm⟩, fun v hv h8 => ?_⟩))
            by_cases ev : v = i
            · rw [ev]
              omega
            · exact hle v (by omega) h8
          refine w_crI ch_11004 rfl (show mt i < 24 by omega) f1 (w_ifT rfl ?_)
          rcases hl with ⟨e, h⟩ | ⟨b3, b4, e, b5, b6⟩
          · exact w_ifT e (c2 (fun v hv h8 => absurd h8 (h v hv)))
          · refine w_ifF (by rw [e]; exact nI_nm1 (by omega)) (w_crI ch_11004 rfl hi24 e1 ?_)
            rw [e]
            refine w_le (by omega) (by omega) (fun h9 => c3 _ (Or.inr ⟨b3, b4, rfl, ?_, fun v hv h8 => ?_⟩)) (fun h9 => ?_)
            · obtain ⟨v, v1, v2⟩ := b5
              exact ⟨v, by omega, v2⟩
            · by_cases ev : v = i
              · rw [ev, ← hb]
                exact h9
              · exact b6 v (by omega) h8
            · rw [← e]
              exact c2 (fun v hv h8 => by have := b6 v hv h8; omega)
        · exact w_crI ch_11004 rfl (show mt i < 24 by omega) f1 (w_ifF (nI_nm1 (by omega)) (c3 l (keep (fun h => h.2 f2))))
  refine e_X9_firstLonely ?_
  refine u_X9_firstLonely_0 ?_; unfold cm_X9_firstLonely_0
  exact c1 (2 * T.1) 0 (-1) (by omega) (Or.inl ⟨rfl, fun v hv => absurd hv (Nat.not_lt_zero _)⟩)
theorem xc_readDiagram {n : Nat} {R : rtO} (hn : y.1 11001 = nI n) (h400 : n ≤ 400) (hT : ∃ T, cAt y 4000 T ∧ ow_b24 T.2.2.1) (hbt : ∀ k, k < n → y.2.1 11002 k = bt k) (hR : rdF9 bt n (n + 1) 0 [] [] [] = R) : Te (fun K => ce_X9_readDiagram vl K 11000 4000 y) (fun r => rcQ n R r) := by
  let Q : Int32 × ow_MS → Prop := fun r => rcQ n R r
  have nf : ∀ {z : ow_MS}, fr rdP y z → z.1 11001 = nI n := fun hf => (hf 11001 (by unfold rdP cP; omega)).1.trans hn
  have bf : ∀ {z : ow_MS}, fr rdP y z → ∀ k, k < n → z.2.1 11002 k = bt k := fun hf k hk => by
    rw [(hf 11002 (by unfold rdP cP; omega)).2.1]
    exact hbt k hk
  have bad : ∀ (z : ow_MS) (b : Nat), b ≤ n → R = .inl b → Tt (fun _ _ => some (nI b, z)) Q := fun z b h1 h2 => w_some (by
    show rcQ n R (nI b, z)
    rw [h2]
    exact ⟨rfl, h1⟩)
  have c4 : ∀ (z : ow_MS) (nm : rtN) (A : rn_L) (L : List vT) (T : ow_NT) (x2 x3 x4 x5 : Int32), fr rdP y z → rcT n z nm (A.flatten ++ L) T → lkS T.2.2.1 A L → T.2.1 = cirs A → lsI L x3 x4 → A.length + 1 ≤ 6 → R = .inr (nm, A ++ [L]) → Tt (fun K t => c_X9_readDiagram vl K t 4 x2 x3 x4 x5 0 0 0 11000 4000 z) Q := by
    intro z nm A L T x2 x3 x4 x5 hf h1 h2 h3 h4 h5 hRe
    refine u_X9_readDiagram_4 ?_; unfold cm_X9_readDiagram_4
    refine w_cs0 (xc_finish h1 h2 h3 h4) ?_
    rintro z1 ⟨T1, g1, g2, g3, g4⟩
    refine w_cs1 (xc_firstLonely g1 h400) ?_
    rintro v z2 ⟨e1, e2⟩
    dsimp only at e1 e2
    rw [e1]
    refine w_some ?_
    show rcQ n R (v, z1)
    rw [hRe]
    rcases e2 with ⟨rfl, e3⟩ | e2
    · obtain ⟨s1', s2, s3, s4, s5, s6, s7, s8⟩ := g1
      have hN := s4.1
      have hok : okF (A ++ [L]).flatten T1.1 := by rw [s3]; exact rtP_okF s4 e3
      obtain ⟨n1, n2⟩ := lk_net hok (by omega) (by rw [List.length_append]; exact h5) s2 g3 g2
      have hsg : ∀ x, x < T1.1 → T1.2.2.2 x = 1 ∨ T1.2.2.2 x = -1 := fun x hx => by
        rw [s8 x hx]
        have hk : x < nm.length := by omega
        unfold sgV
        rw [getD_of (List.getElem?_eq_getElem hk)]
        exact (s4.2.2.2 _ (List.getElem_mem hk)).1
      refine Or.inr ⟨e3, rfl, T1, s1', n1, ?_, hsg⟩
      obtain ⟨i1, i2, i3, i4, i5, i6, i7, i8⟩ := n2
      refine ⟨i1, i2, i3, i4, i5, i6, fun w hw => ?_, i8⟩
      have hx := i4 w hw
      show T1.2.2.2 (crs (A ++ [L]) w) < 0 ↔ sgN nm (crs (A ++ [L]) w) = true
      unfold sgN
      rw [decide_eq_true_iff]
      have e9 := s8 _ hx
      unfold sgV at e9
      rw [← e9]
      rcases hsg _ hx with e | e <;> rw [e] <;> decide
    · exact Or.inl e2
  have c1 : ∀ (d i m : Nat) (z : ow_MS) (nm : rtN) (A : rn_L) (L : List vT) (T : ow_NT) (x3 x4 : Int32) (a : Nat), i + d = 400 → i ≤ a → n + 1 ≤ a + m → fr rdP y z → z.1 11005 = nI a → a ≤ n → rcT n z nm (A.flatten ++ L) T → lkS T.2.2.1 A L → T.2.1 = cirs A → lsI L x3 x4 → A.length + 1 ≤ 6 → rdF9 bt n m a nm A L = R → Tt (fun K t => c_X9_readDiagram vl K t 1 (nI (A.length + 1)) x3 x4 (nI i) 0 0 0 11000 4000 z) Q := by
    intro d
    induction d with
    | zero =>
      intro i m z nm A L T x3 x4 a hi hia hm hf ha han h1 h2 h3 h4 h5 hRe
      obtain ⟨m, rfl⟩ : ∃ m', m = m' + 1 := ⟨m - 1, by omega⟩
      have hRe : (if n ≤ a then Sum.inr (nm, A ++ [L]) else if bt a = 59 then (if A.length + 1 = 6 then Sum.inl a else rdF9 bt n m (a + 1) nm (A ++ [L]) []) else match pV bt n a with
        | .inl j => Sum.inl j
        | .inr (u, x, s, j) => rdC (rdF9 bt n m) nm A L a u x s j) = R := hRe
      rw [if_pos (by omega)] at hRe
      refine u_X9_readDiagram_1 ?_; unfold cm_X9_readDiagram_1
      exact w_leT (a := 400) (by omega) (by omega) (c4 z nm A L T _ x3 x4 _ hf h1 h2 h3 h4 h5 hRe.symm)
    | succ d ih =>
      intro i m z nm A L T x3 x4 a hi hia hm hf ha han h1 h2 h3 h4 h5 hRe
      obtain ⟨m, rfl⟩ : ∃ m', m = m' + 1 := ⟨m - 1, by omega⟩
      have hRe : (if n ≤ a then Sum.inr (nm, A ++ [L]) else if bt a = 59 then (if A.length + 1 = 6 then Sum.inl a else rdF9 bt n m (a + 1) nm (A ++ [L]) []) else match pV bt n a with
        | .inl j => Sum.inl j
        | .inr (u, x, s, j) => rdC (rdF9 bt n m) nm A L a u x s j) = R := hRe
      have c3 : ∀ (z1 : ow_MS) (nm1 : rtN) (A1 : rn_L) (L1 : List vT) (T1 : ow_NT) (y3 y4 y6 : Int32) (a1 : Nat), a < a1 → fr rdP y z1 → z1.1 11005 = nI a1 → a1 ≤ n → rcT n z1 nm1 (A1.flatten ++ L1) T1 → lkS T1.2.2.1 A1 L1 → T1.2.1 = cirs A1 → lsI L1 y3 y4 → A1.length + 1 ≤ 6 → rdF9 bt n m a1 nm1 A1 L1 = R → Tt (fun K t => c_X9_readDiagram vl K t 3 (nI (A1.length + 1)) y3 y4 (nI i) y6 0 0 11000 4000 z1) Q := by
        intro z1 nm1 A1 L1 T1 y3 y4 y6 a1 q0 q1 q2 q3 q4 q5 q6 q7 q8 q9
        refine u_X9_readDiagram_3 ?_; unfold cm_X9_readDiagram_3
        rw [nI_1 i]
        exact ih (i + 1) m z1 nm1 A1 L1 T1 y3 y4 a1 (by omega) (by omega) (by omega) q1 q2 q3 q4 q5 q6 q7 q8 q9
      refine u_X9_readDiagram_1 ?_; unfold cm_X9_readDiagram_1
      refine w_leF (a := 400) (by omega) (by omega) (w_rdF ha (w_rdF (nf hf) (w_le (by omega) (by omega) (fun h9 => c4 z nm A L T _ x3 x4 _ hf h1 h2 h3 h4 h5 (by rw [if_pos h9] at hRe; exact hRe.symm)) (fun hal => w_rdF ha (w_rdF ha (w_crI ch_11002 rfl (show a < 400 by omega) (bf hf a hal) ?_))))))
      rw [if_neg (by omega)] at hRe
      refine w_if (fun h59 => ?_) (fun h59 => ?_)
      · rw [if_pos h59] at hRe
        rw [nI_1]
        refine w_le (b := 6) (by omega) (by omega) (fun h6 => w_cs0 (xc_finish h1 h2 h3 h4) ?_) (fun h6 => w_rdF ha (bad z a (by omega) (by rw [if_pos (by omega)] at hRe; exact hRe.symm)))
        rintro z1 ⟨T1, g1, g2, g3, g4⟩
        rw [if_neg (by omega)] at hRe
        have ha1 : z1.1 11005 = nI a := (g4 11005 (by unfold cP; omega)).1.trans ha
        refine w_rdF ha1 (w_wrF ?_)
        rw [nI_1 a]
        have hf1 : fr rdP y (usF z1 11005 (nI (a + 1))) := fr_F2 (fr_tr hf (fr_mono (fun g hg => Or.inl hg) g4)) (by unfold rdP; omega)
        have hA1 : (A ++ [L]).length = A.length + 1 := by
          rw [List.length_append]
          rfl
        have := c3 (usF z1 11005 (nI (a + 1))) nm (A ++ [L]) [] T1 (-1) x4 (nI a) (a + 1) (by omega) hf1 po_usF_at (by omega) (by
          rw [List.append_nil]
          exact rcT_fr (P := fun g => g = 11005) (fr_F rfl) (fun g hg => by unfold cP; omega) g1) g2 g3 rfl (by omega) hRe
        rw [hA1] at this
        exact this
      · rw [if_neg h59] at hRe
        refine w_cs1 (xc_readVisit (bt := bt) ha (nf hf) hal h400 (bf hf)) ?_
        rintro v z1 ⟨f1, e1⟩
        dsimp only at f1
        have hf1 : fr rdP y z1 := fr_tr hf (fr_mono (fun g hg => by unfold rvP at hg; unfold rdP; omega) f1)
        have h11 : rcT n z1 nm (A.flatten ++ L) T := rcT_fr f1 (fun g hg => by unfold rvP at hg; unfold cP; omega) h1
        cases hp : pV bt n a with
        | inl j =>
          rw [hp] at e1 hRe
          obtain ⟨e1, e2⟩ := e1
          have e1 : v = nI j := e1
          rw [e1]
          exact w_ifF (nI_nm1 (by omega)) (bad z1 j e2 hRe.symm)
        | inr q =>
          obtain ⟨u, x, s, j⟩ := q
          rw [hp] at e1 hRe
          obtain ⟨e1, k5, k1, k2, ku, ks, k, k4, kx, k6⟩ := e1
          have e1 : v = -1 := e1
          have k5 : z1.1 11005 = nI j := k5
          have k6 : z1.1 11006 = nI k := k6
          subst kx
          have hRe : rdC (rdF9 bt n m) nm A L a u (nI k) s j = R := hRe
          unfold rdC at hRe
          rw [e1]
          refine w_ifT rfl (w_cs1 (xc_enter (bt := bt) h11 h400 k5 (by omega) k2 h400 k6 k4 hal (bf hf1) hal ku ks) ?_)
          rintro w z2 ⟨f2, e2⟩
          dsimp only at f2
          have hf2 : fr rdP y z2 := fr_tr hf1 (fr_mono (fun g hg => by unfold enR at hg; unfold rdP cP; omega) f2)
          have ha2 : z2.1 11005 = nI j := (f2 11005 (by unfold enR; omega)).1.trans k5
          have good : ∀ (nm2 : rtN) (p : vT) (T2 : ow_NT), w = nI (lb p) → T2.2.1 = T.2.1 → T2.2.2.1 = T.2.2.1 → rcT n z2 nm2 (A.flatten ++ L ++ [p]) T2 → rdF9 bt n m j nm2 A (L ++ [p]) = R → Tt (fun K t => if w = -1 then some (nI a, z2) else if x3 = -1 then c_X9_readDiagram vl K t 2 (nI (A.length + 1)) w x4 (nI i) (nI a) (-1) w 11000 4000 z2 else cs0 (ce_X7_link vl K 4000 x4 w z2) fun z14 => c_X9_readDiagram vl K t 2 (nI (A.length + 1)) x3 x4 (nI i) (nI a) (-1) w 11000 4000 z14) Q := by
            intro nm2 p T2 hw r2 r3 r1 hRe2
            rw [hw]
            have r1' : rcT n z2 nm2 (A.flatten ++ (L ++ [p])) T2 := by
              rw [← List.append_assoc]
              exact r1
            have hN2 := r1'.2.2.2.1.1
            have b24 : ∀ r, r ∈ A.flatten ++ (L ++ [p]) → lb r < 24 := fun r hr => by
              have q1 := r1'.2.2.2.1.2.2.1 r hr
              unfold lb
              omega
            have p24 := b24 p (by simp)
            have hne : nI (lb p) ≠ -1 := nI_nm1 (by omega)
            refine w_ifF hne ?_
            cases L with
            | nil =>
              have h4 : x3 = -1 := h4
              have hl2 : lkS T2.2.2.1 A [p] := by
                rw [r3]
                exact lk_one h2
              refine w_ifT h4 ?_
              refine u_X9_readDiagram_2 ?_; unfold cm_X9_readDiagram_2
              exact c3 z2 nm2 A [p] T2 (nI (lb p)) (nI (lb p)) _ j k1 hf2 ha2 k2 r1' hl2 (r2.trans h3) ⟨rfl, p, rfl, rfl⟩ h5 hRe2
            | cons q0 L =>
              obtain ⟨hx3, q, hq, hx4⟩ := h4
              have hq24 := b24 q (List.mem_append_right _ (List.mem_append_left _ (List.mem_of_getElem? hq)))
              have h024 := b24 q0 (List.mem_append_right _ (List.mem_append_left _ List.mem_cons_self))
              refine w_ifF (by rw [hx3]; exact nI_nm1 (by omega)) ?_
              rw [hx4]
              refine w_cs0 (tc_link nH4 r1'.1 hq24 p24) ?_
              rintro z3 ⟨g1, g2⟩
              obtain ⟨t1, t2, t3, t4, t5, t6, t7, t8⟩ := r1'
              have r13 : rcT n z3 nm2 (A.flatten ++ (q0 :: L ++ [p])) (ntS T2 (nl T2.2.2.1 (lb q) (lb p))) := by
                refine ⟨g1, nl_b24 t2 hq24 p24, t3, t4, t5, fun v hv => ?_, fun k hk => ?_, t8⟩
                · rw [(g2 11004 (by unfold cP; omega)).2.1]
                  exact t6 v hv
                · rw [(g2 11003 (by unfold cP; omega)).2.1]
                  exact t7 k hk
              have hl3 : lkS (nl T2.2.2.1 (lb q) (lb p)) A (q0 :: L ++ [p]) := by
                rw [r3]
                refine lk_more ?_ hq h2
                rw [List.append_assoc]
                exact ⟨t4.2.1, fun p hp => (t4.2.2.1 p hp).2⟩
              have ha3 : z3.1 11005 = nI j := (g2 11005 (by unfold cP; omega)).1.trans ha2
              refine u_X9_readDiagram_2 ?_; unfold cm_X9_readDiagram_2
              refine c3 z3 nm2 A (q0 :: L ++ [p]) _ x3 (nI (lb p)) _ j k1 (fr_tr hf2 (fr_mono (fun g hg => Or.inl hg) g2)) ha3 k2 r13 hl3 (r2.trans h3) ⟨hx3, p, ?_, rfl⟩ h5 hRe2
              have hll : (L.append [p]).length = L.length + 1 := List.length_append
              show (q0 :: L ++ [p])[(L.append [p]).length]? = some p
              rw [hll]
              rw [List.getElem?_append_right (show (q0 :: L).length ≤ L.length + 1 from Nat.le_refl _), show L.length + 1 - (q0 :: L).length = 0 from Nat.sub_self _]
              rfl
          rcases e2 with ⟨hw, -, e2⟩ | ⟨T2, r2, r3, e2⟩
          · have hw : w = -1 := hw
            rw [hw]
            refine w_ifT rfl (bad z2 a (by omega) ?_)
            rcases e2 with ⟨q1, q2⟩ | ⟨x, q1, q2⟩
            · rw [q1] at hRe
              have hRe : (if nm.length = 12 then Sum.inl a else rdF9 bt n m j (nm ++ [(nI k, s, a)]) A (L ++ [(nm.length, u)])) = R := hRe
              rw [if_pos q2] at hRe
              exact hRe.symm
            · rw [q1] at hRe
              have hRe : (if (x, u) ∈ A.flatten ++ L ∨ (nm.getD x (0, 0, 0)).2.1 ≠ s then Sum.inl a else rdF9 bt n m j nm A (L ++ [(x, u)])) = R := hRe
              unfold sgV at q2
              rw [if_pos q2] at hRe
              exact hRe.symm
          · rcases e2 with ⟨q1, q2, q3, q4⟩ | ⟨x, q1, q2, q3, q4⟩
            · rw [q1] at hRe
              have hRe : (if nm.length = 12 then Sum.inl a else rdF9 bt n m j (nm ++ [(nI k, s, a)]) A (L ++ [(nm.length, u)])) = R := hRe
              rw [if_neg q2] at hRe
              exact good _ (nm.length, u) T2 q3 r2 r3 q4 hRe
            · rw [q1] at hRe
              have hRe : (if (x, u) ∈ A.flatten ++ L ∨ (nm.getD x (0, 0, 0)).2.1 ≠ s then Sum.inl a else rdF9 bt n m j nm A (L ++ [(x, u)])) = R := hRe
              unfold sgV at q2
              rw [if_neg q2] at hRe
              exact good _ (x, u) T2 q3 r2 r3 q4 hRe
  obtain ⟨T0, t1, t2⟩ := hT
  refine e_X9_readDiagram ?_
  refine u_X9_readDiagram_0 ?_; unfold cm_X9_readDiagram_0
  refine w_cs0 (tc_fillA ch_11003 (by omega)) ?_
  rintro z1 ⟨a1, a2⟩
  refine w_cs0 (tc_fillA ch_11004 (by omega)) ?_
  rintro z2 ⟨b1, b2⟩
  have t12 : cAt z2 4000 T0 := cAt_fr b2 (fun g hg h9 => by unfold cP at hg; omega) (cAt_fr a2 (fun g hg h9 => by unfold cP at hg; omega) t1)
  refine w_cs0 (tc_empty t12) ?_
  rintro z3 ⟨d1, d2⟩
  have hf3 : fr rdP y z3 := fr_tr (fr_mono (fun g hg => by rw [hg]; unfold rdP; omega) a2) (fr_tr (fr_mono (fun g hg => by rw [hg]; unfold rdP; omega) b2) (fr_mono (fun g hg => Or.inl hg) d2))
  refine w_wrF (c1 400 0 (n + 1) (usF z3 11005 0) [] [] [] (0, 0, T0.2.2) (-1) (-1) 0 (by omega) (Nat.le_refl _) (by omega) (fr_F2 hf3 (by unfold rdP; omega)) po_usF_at (Nat.zero_le _) ?_ ⟨fun v hv => absurd hv (Nat.not_lt_zero _), fun i p q e => by rw [List.getElem?_nil] at e; cases e⟩ rfl rfl (by show 0 + 1 ≤ 6; omega) hR)
  refine ⟨cAt_fr (P := fun g => g = 11005) (fr_F rfl) (fun g hg h9 => by unfold cP at hg; omega) d1, t2, rfl, ⟨Nat.zero_le _, List.nodup_nil, fun p hp => (by cases hp), fun e he => (by cases he)⟩, fun x hx => absurd hx (Nat.not_lt_zero _), fun v hv => Or.inl ⟨?_, fun h => (by cases h)⟩, fun k hk => ?_, fun x hx => absurd hx (Nat.not_lt_zero _)⟩
  · show z3.2.1 11004 v = -1
    rw [(d2 11004 (by unfold cP; omega)).2.1]
    exact b1 v hv
  · show z3.2.1 11003 k = -1
    rw [(d2 11003 (by unfold cP; omega)).2.1, (b2 11003 (by omega)).2.1]
    exact a1 k hk
end XDI
end
section
/-! 99zzzzzzzzzzt.xdi2 -/
/-! both sides: diagram -/
/-- how the class's diagram ends; R what was read -/
def dgQ (St : plT) (y : ow_MS) (t : Nat) (R : rtO) (r : Nat × Int32 × ow_MS) : Prop := r.1 = 3 ∧ r.2.2 = y ∧ allF St ∨ r.1 = 0 ∧ r.2.2.1 11001 = 0 ∧ ∃ e, lstF St e ∧ match R with
  | .inl j => r.2.1 = -1 - nI j ∧ relC r.2.2 St
  | .inr (nm, A) => (∃ a, lonA nm A.flatten a ∧ r.2.1 = -1 - nI a ∧ relC r.2.2 St) ∨ (∀ k, ¬ lonK nm A.flatten k) ∧ ∃ T, isoN A (sgN nm) (fun x => x) T ∧ vn T.1 T.2.2.1 ∧ pm1 T ∧ (nt_plane T = false ∧ r.2.1 = -1 - nI t ∧ relC r.2.2 St ∨ nt_plane T = true ∧ ∃ y3, dgC y3 ∧ relC y3 St ∧ cKp y3 e A (sgN nm) r.2)
section XD2
variable {X : (Nat → Nat → Int32) → Prop} {z y : ow_MS} {St : plT} {vl : Nat → Nat} {bt : Nat → Int32} {t : Nat} {R : rtO}
theorem xc_diagram (hN : gM y) (hC : relC y St) (hS : okS St) (ht : t ≤ 400) (h11 : y.1 11001 = nI t) (hbt : ∀ k, k < t → y.2.1 11002 k = bt k) (hR : rdF9 bt t (t + 1) 0 [] [] [] = R) : Te (fun K => ce_X11_diagram vl K 0 y) (dgQ St y t R) := by
  -- the end
  have c1 : ∀ (y0 z : ow_MS) (e : Nat) (x2 : Int32), lstF St e → gM z → relC z St → (x2 ≠ -1 → ∀ r : Nat × Int32 × ow_MS, r.1 = 0 → r.2.2.1 11001 = 0 → r.2.1 = -1 - x2 → relC r.2.2 St → dgQ St y0 t R r) → (x2 = -1 → ∃ T A sg, cAt z 4000 T ∧ nv T ∧ isoN A sg (fun x => x) T ∧ pm1 T ∧ nt_plane T = true ∧ ∀ (r : Nat × Int32 × ow_MS) y3, r.1 = 0 → r.2.2.1 11001 = 0 → dgC y3 → relC y3 St → cKp y3 e A sg r.2 → dgQ St y0 t R r) → Tt (fun K t => c_X11_diagram vl K t 1 (nI e) x2 0 z) (dgQ St y0 t R) := by
    intro y0 z e x2 he h1 h2 hbad hgood
    refine u_X11_diagram_1 ?_; unfold cm_X11_diagram_1
    have f1 : fr (fun g => g = 11001) z (usF z (0 + 11000 + 1) 0) := fr_F rfl
    have hN1 : gN (usF z (0 + 11000 + 1) 0) := gN_F (g := 11001) (far_cP (by omega)) h1.1
    have hC1 : relC (usF z (0 + 11000 + 1) 0) St := relC_fr f1 (fun q hq h9 => by unfold cW at hq; omega) h2
    have t1 : (usF z (0 + 11000 + 1) 0).1 11001 = 0 := po_usF_at
    refine w_wrF (w_if (fun ex => ?_) (fun ex => w_some (hbad ex _ rfl t1 rfl hC1)))
    obtain ⟨T, A, sg, t2, t3, t4, t5, t6, hg⟩ := hgood ex
    refine w_cs1 (tc_keep hN1 he.1 (cAt_fr f1 (fun g hg h9 => by unfold cP at hg; omega) t2) t3) ?_
    rintro r z2 ⟨q0, q1, q2, ⟨Cs, os, q3, q4⟩, q5, -⟩
    refine w_some (hg (0, r, z2) _ rfl ?_ hN1.1 hC1 ⟨q0, q1, q2, ⟨T, _, Cs, os, t3, t5, isoV_of t4 t3.1, t6, q3, q4⟩, q5⟩)
    show z2.1 11001 = 0
    rw [(q2 11001 (by unfold uP; omega)).1]
    exact t1
  refine e_X11_diagram ?_
  refine u_X11_diagram_0 ?_; unfold cm_X11_diagram_0
  refine w_tc1 (xc_free hN.1.1 hC hS) ?_ ?_
  · rintro v y1 ⟨h2, rfl⟩
    rcases h2 with h2 | ⟨-, e, rfl, he⟩
    · exact absurd (show (0 : Nat) = 3 from h2.1) (by decide)
    · refine w_cs1 (te_and (tc_readDiagram h11 ht (hN.1.2.1 4000 nH4)) (xc_readDiagram h11 ht (hN.1.2.1 4000 nH4) hbt hR)) ?_
      rintro v y2 ⟨⟨f2, hT2, -⟩, e2⟩
      dsimp only at f2 hT2
      have u2 : ∀ g, rdP g → 4001 ≤ g ∧ g ≤ 4011 ∨ g = 6001 ∨ g = 6002 ∨ 11001 ≤ g ∧ g ≤ 11006 := fun g hg => by unfold rdP cP at hg; omega
      have hM2 : gM y2 := ⟨gN_d f2 u2 hT2 hN.1, tbs_fr f2 (fun g hg => by have := u2 g hg; omega) hN.2⟩
      have hC2 : relC y2 St := relC_fr f2 (fun q hq h9 => by have := u2 q h9; unfold cW at hq; omega) hC
      have en2 : y2.1 11001 = nI t := by
        rw [(f2 11001 (by unfold rdP cP; omega)).1]
        exact h11
      -- a fault
      have fault : ∀ j : Nat, j ≤ t → v = nI j → (∀ r : Nat × Int32 × ow_MS, r.1 = 0 → r.2.2.1 11001 = 0 → r.2.1 = -1 - nI j → relC r.2.2 St → dgQ St y1 t R r) → Tt (fun K k => if v = -1 then cs1 (ce_X4_isPlane vl K (0 + 6000) (0 + 4000) y2) fun v7 z6 => (if v7 = 0 then rdF z6 ((0 + 11000) + 1) fun v8 => c_X11_diagram vl K k 1 (nI e) v8 0 z6 else c_X11_diagram vl K k 1 (nI e) v 0 z6) else c_X11_diagram vl K k 1 (nI e) v 0 y2) (dgQ St y1 t R) := fun j hj hv hq => by
        rw [hv]
        exact w_ifF (nI_nm1 (by omega)) (c1 y1 y2 e (nI j) he hM2 hC2 (fun _ => hq) (fun h9 => absurd h9 (nI_nm1 (by omega))))
      cases hRR : R with
      | inl j =>
        rw [hRR] at e2 fault
        obtain ⟨e2, e3⟩ := e2
        have e2 : v = nI j := e2
        exact fault j e3 e2 (fun r r1 r2 r3 r4 => Or.inr ⟨r1, r2, e, he, r3, r4⟩)
      | inr q =>
        obtain ⟨nm, A⟩ := q
        rw [hRR] at e2 fault c1
        rcases e2 with ⟨a, a1, a2, a3⟩ | ⟨a1, a2, T, a3, a4, a5, a6⟩
        · have a3 : v = nI a := a3
          exact fault a (by omega) a3 (fun r r1 r2 r3 r4 => Or.inr ⟨r1, r2, e, he, Or.inl ⟨a, a2, r3, r4⟩⟩)
        · have a2 : v = -1 := a2
          have a3 : cAt y2 4000 T := a3
          rw [a2]
          refine w_ifT rfl (w_cs1 (tc_plane (f := 6000) nH4 (Or.inl rfl) (by omega) a3 a4.2.2.1 a4.1 a4.2.1) ?_)
          rintro w y3 ⟨e3, f3⟩
          dsimp only at f3
          have e3 : w = zI (nt_plane T) := e3
          have u3 : ∀ g, (cQ 4000 g ∨ cF 6000 g) → 4001 ≤ g ∧ g ≤ 4011 ∨ g = 6001 ∨ g = 6002 ∨ 11001 ≤ g ∧ g ≤ 11006 := fun g hg => by unfold cQ cF at hg; omega
          have t13 : cAt y3 4000 T := cAt_fr f3 (fun g hg h9 => by unfold cP at hg; unfold cQ cF at h9; omega) a3
          have hM3 : gM y3 := ⟨gN_d f3 u3 ⟨T, t13, a4.2.2.1⟩ hM2.1, tbs_fr f3 (fun g hg => by have := u3 g hg; omega) hM2.2⟩
          have hC3 : relC y3 St := relC_fr f3 (fun q hq h9 => by have := u3 q h9; unfold cW at hq; omega) hC2
          have en3 : y3.1 11001 = nI t := by
            rw [(f3 11001 (by unfold cQ cF; omega)).1]
            exact en2
          rw [e3]
          cases hpl : nt_plane T with
          | false =>
            refine w_ifT rfl (w_rdF en3 (c1 y1 y3 e (nI t) he hM3 hC3 (fun _ r r1 r2 r3 r4 => ?_) (fun h9 => absurd h9 (nI_nm1 (by omega)))))
            exact Or.inr ⟨r1, r2, e, he, Or.inr ⟨a1, T, a5, a4.1, a6, Or.inl ⟨hpl, r3, r4⟩⟩⟩
          | true =>
            refine w_ifF (by decide) (c1 y1 y3 e (-1) he hM3 hC3 (fun h9 => absurd rfl h9) (fun _ => ⟨T, A, sgN nm, t13, a4, a5, a6, hpl, fun r y5 r1 r2 r3 r4 r5 => ?_⟩))
            exact Or.inr ⟨r1, r2, e, he, Or.inr ⟨a1, T, a5, a4.1, a6, Or.inr ⟨hpl, y5, r3, r4, r5⟩⟩⟩
  · rintro a v y1 ha ⟨h2, rfl⟩
    rcases h2 with h2 | h2
    · exact w_some (Or.inl ⟨h2.1, rfl, h2.2⟩)
    · exact absurd h2.1 ha
/-- how the reference's diagram ends; T the net of what was read -/
def dgR (St : plT) (X : (Nat → Nat → Int32) → Prop) (z : ow_MS) (t : Nat) (R : rtO) (T : ow_NT) (r : Int32 × ow_MS) : Prop := rFl X z 1 r ∧ allF St ∨ r.2.1 1 = 0 ∧ r.2.1 11 = 0 ∧ ∃ e, lstF St e ∧ match R with
  | .inl j => r.1 = -1 - nI j ∧ relR r.2 St
  | .inr (nm, A) => A.length ≤ 6 ∧ A ≠ [] ∧ ((∃ a, lonA nm A.flatten a ∧ r.1 = -1 - nI a ∧ relR r.2 St) ∨ (∀ k, ¬ lonK nm A.flatten k) ∧ (nt_plane T = false ∧ r.1 = -1 - nI t ∧ relR r.2 St ∨ nt_plane T = true ∧ ∃ z3, relR z3 St ∧ rKp X z3 e A (sgN nm) r))
def dgF (g : Nat) : Prop := frV g ∨ g = 11 ∨ rPk g
theorem xq_diagram {T : ow_NT} (h : gI X z) (hRl : relR z St) (ht : t ≤ 400) (h11 : z.1 11 = nI t) (hbt : ∀ k, k < t → z.2.1 10 k = bt k) (hR : rdF9 bt t (t + 1) 0 [] [] [] = R) (hT : ∀ nm A e, lstF St e → R = .inr (nm, A) → (∀ k, ¬ lonK nm A.flatten k) → isoN A (sgN nm) (fun x => x) T ∧ vn T.1 T.2.2.1 ∧ pm1 T) : Te (fun K => qe_X13_diagram K z) (fun r => fr dgF z r.2 ∧ dgR St X z t R T r) := by
  have h1 := gI_1 (c := 0) h
  have hR1 := relR_1 (c := 0) hRl
  refine e_X13_diagram ?_; unfold qm_X13_diagram_0
  refine w_wrF (w_freeX hR1 (fun hall => w_ifT rfl (w_mono (w_failX (k := 1) h1 fr_1) (fun r hr => ⟨fr_mono (fun g hg => Or.inr (Or.inr (rPs_k hg))) hr.2.2, Or.inl ⟨hr, hall⟩⟩))) (fun e he => w_ifF (rn_neg1 (by have := he.1; omega)) (w_cs1 (xr_read (z := usF z 1 0) ht h11 hbt hR) ?_)))
  rintro v z2 ⟨f2, e2⟩
  dsimp only at f2
  have hI : gI X (usF z2 11 0) := gI_t (t := 0) rfl (by omega) (gI_fr f2 (fun g hg => by unfold frV at hg; unfold per; omega) h1)
  have fz : fr dgF z (usF z2 11 0) := fr_F2 (fr_tr (fr_F (P := dgF) (Or.inr (Or.inr (Or.inl rfl)))) (fr_mono (fun g hg => Or.inl hg) f2)) (Or.inr (Or.inl rfl))
  have hR2 : relR (usF z2 11 0) St := relR_fr (P := fun g => g = 11) (fr_F rfl) (by omega) (relR_fr f2 (by unfold frV; omega) hR1)
  have z1 : (usF z2 11 0).1 1 = 0 := rf_ot (by omega) (by rw [(f2 1 (by unfold frV; omega)).1]; exact po_usF_at)
  have z11 : (usF z2 11 0).1 11 = 0 := po_usF_at
  have fault : ∀ j : Nat, j ≤ t → v = nI j → (∀ r : Int32 × ow_MS, r.2.1 1 = 0 → r.2.1 11 = 0 → r.1 = -1 - nI j → relR r.2 St → dgR St X z t R T r) → Tt (fun K _ => if v = -1 then cs1 (qe_X13_keep K (usF z2 11 0)) fun v8 z7 => some (v8, z7) else some (-1 - v, usF z2 11 0)) (fun r => fr dgF z r.2 ∧ dgR St X z t R T r) := fun j hj hv hq => by
    rw [hv]
    exact w_ifF (nI_nm1 (by omega)) (w_some ⟨fz, hq _ z1 z11 rfl hR2⟩)
  refine w_wrF ?_
  cases hRR : R with
  | inl j =>
    rw [hRR] at e2 fault
    obtain ⟨e2, e3⟩ := e2
    have e2 : v = nI j := e2
    exact fault j e3 e2 (fun r r1 r2 r3 r4 => Or.inr ⟨r1, r2, e, he, r3, r4⟩)
  | inr q =>
    obtain ⟨nm, A⟩ := q
    rw [hRR] at e2 fault
    obtain ⟨b1, b2, b3, e2⟩ := e2
    rcases e2 with ⟨a, a1, a2, a3⟩ | ⟨a1, a2, a3, a4⟩
    · have a3 : v = nI a := a3
      exact fault a (by omega) a3 (fun r r1 r2 r3 r4 => Or.inr ⟨r1, r2, e, he, b2, b3, Or.inl ⟨a, a2, r3, r4⟩⟩)
    · have hTT := hT nm A e he hRR a1
      have a4 : v = if nt_plane T = true then -1 else nI t := a4 ((fun x => x), T) hTT
      have a2 : rn_At z2 3000 A [] := a2
      have a3 : rn_sg z2 3000 A.flatten (sgN nm) := a3
      cases hpl : nt_plane T with
      | false =>
        rw [hpl] at a4
        have a4 : v = nI t := a4
        exact fault t (Nat.le_refl _) a4 (fun r r1 r2 r3 r4 => Or.inr ⟨r1, r2, e, he, b2, b3, Or.inr ⟨a1, Or.inl ⟨hpl, r3, r4⟩⟩⟩)
      | true =>
        rw [hpl] at a4
        have a4 : v = -1 := a4
        rw [a4]
        have hF := hTT.1.1
        have hlen := hTT.1.2.1
        have hc12 := hTT.1.2.2.1
        refine w_ifT rfl (w_mono (w_keepX (z0 := usF z2 11 0) hI hR2 he z1 fr_rf (fr_At (P := fun g => g = 11) (fr_F rfl) (fun g hg => by omega) a2) a3 hF (by omega) b2) (fun r hr => ⟨fr_tr fz (fr_mono (fun g hg => Or.inr (Or.inr hg)) hr.2.2.2.1), Or.inr ⟨hr.2.2.1, ?_, e, he, b2, b3, Or.inr ⟨a1, Or.inr ⟨hpl, usF z2 11 0, hR2, hr⟩⟩⟩⟩))
        rw [(hr.2.2.2.1 11 (by unfold rPk rSc; omega)).1]
        exact z11
/-- diagram answers the same -/
theorem b_diagram (h : rel1 X z y St) (hM : gM y) (hT : relT z y) : Te (fun K => qe_X13_diagram K z) (fun rr => Te (fun K => ce_X11_diagram vl K 0 y) (fun rc => (∃ St', rel1 X rr.2 rc.2.2 St') ∧ gM rc.2.2 ∧ relT rr.2 rc.2.2 ∧ fr dgF z rr.2 ∧ fr diP y rc.2.2 ∧ ansI [(1, 3)] rr rc)) := by
  obtain ⟨t, t1, t2, t3, t4⟩ := id hT
  obtain ⟨R, hR⟩ : ∃ R, rdF9 (fun k => z.2.1 10 k) t (t + 1) 0 [] [] [] = R := ⟨_, rfl⟩
  have hbc : ∀ k, k < t → y.2.1 11002 k = (fun k => z.2.1 10 k) k := fun k hk => (t4 k hk).symm
  refine te_sw (te_and (tc_diagram hM ⟨t, t1, t3⟩) (xc_diagram (St := St) hM h.2.2.2.1 h.2.2.2.2 t1 t3 hbc hR)) (fun rc ⟨⟨g1, g2, g3⟩, g4⟩ => ?_)
  have hTe : ∃ T, ∀ nm A e, lstF St e → R = .inr (nm, A) → (∀ k, ¬ lonK nm A.flatten k) → (isoN A (sgN nm) (fun x => x) T ∧ vn T.1 T.2.2.1 ∧ pm1 T) ∧ (nt_plane T = false ∧ rc.2.1 = -1 - nI t ∧ relC rc.2.2 St ∨ nt_plane T = true ∧ ∃ y3 e', lstF St e' ∧ dgC y3 ∧ relC y3 St ∧ cKp y3 e' A (sgN nm) rc.2) := by
    rcases g4 with ⟨-, -, c1⟩ | ⟨-, -, e, he, hc⟩
    · exact ⟨(0, 0, (fun x => x, fun x => x), fun _ => 0), fun nm A e he => (all_lst c1 he).elim⟩
    · cases hRR : R with
      | inl j => exact ⟨(0, 0, (fun x => x, fun x => x), fun _ => 0), fun nm A e _ e9 => by cases e9⟩
      | inr q =>
        obtain ⟨nm, A⟩ := q
        rw [hRR] at hc
        rcases hc with ⟨a, a1, -⟩ | ⟨-, T, a2, a3, a4, a5⟩
        · refine ⟨(0, 0, (fun x => x, fun x => x), fun _ => 0), fun nm' A' e _ e9 hno => ?_⟩
          cases e9
          obtain ⟨⟨k, k1, -⟩, -⟩ := a1
          exact absurd k1 (hno k)
        · refine ⟨T, fun nm' A' e' _ e9 _ => ?_⟩
          cases e9
          refine ⟨⟨a2, a3, a4⟩, a5.imp id ?_⟩
          rintro ⟨b1, y3, b2, b3, b4⟩
          exact ⟨b1, y3, e, he, b2, b3, b4⟩
  obtain ⟨T, hT9⟩ := hTe
  refine w_monoE (te_and (tp_diagram h.1) (xq_diagram (T := T) h.1 h.2.2.1 t1 t2 (fun k _ => rfl) hR (fun nm A e he e9 hno => (hT9 nm A e he e9 hno).1))) (fun rr ⟨r1, r2, r3⟩ => ?_)
  have hz0 : ∀ {z1 y1 : ow_MS}, z1.1 11 = 0 → y1.1 11001 = 0 → relT z1 y1 := fun e1 e2 => ⟨0, by omega, e1, e2, fun k hk => absurd hk (Nat.not_lt_zero _)⟩
  have hN := g1.1
  have okk := h.2.2.2.2
  rcases r3 with ⟨r3, r4⟩ | ⟨r3, r4, e, he, r5⟩
  · rcases g4 with ⟨c1, c2, -⟩ | ⟨-, -, e, he, -⟩
    · refine ⟨⟨St, r1, hN, relR_fr r3.2.2 (by unfold rPs rSc; omega) h.2.2.1, by rw [c2]; exact h.2.2.2.1, okk⟩, g1, ⟨t, t1, ?_, by rw [c2]; exact t3, fun k hk => ?_⟩, r2, g3, Or.inr ⟨1, 3, by simp, r3.2.1, c1⟩⟩
      · rw [(r3.2.2 11 (by unfold rPs rSc; omega)).1]
        exact t2
      · rw [c2, (r3.2.2 10 (by unfold rPs rSc; omega)).2.1]
        exact t4 k hk
    · exact (all_lst r4 he).elim
  · rcases g4 with ⟨-, -, c1⟩ | ⟨c0, c1, e', he', hc⟩
    · exact (all_lst c1 he).elim
    · have same : rr.1 = rc.2.1 → relR rr.2 St → relC rc.2.2 St → (∃ St', rel1 X rr.2 rc.2.2 St') ∧ gM rc.2.2 ∧ relT rr.2 rc.2.2 ∧ fr dgF z rr.2 ∧ fr diP y rc.2.2 ∧ ansI [(1, 3)] rr rc := fun q1 q2 q3 => ⟨⟨St, r1, hN, q2, q3, okk⟩, g1, hz0 r4 c1, r2, g3, Or.inl ⟨r3, c0, q1⟩⟩
      cases hRR : R with
      | inl j =>
        rw [hRR] at r5 hc
        exact same (r5.1.trans hc.1.symm) r5.2 hc.2
      | inr q =>
        obtain ⟨nm, A⟩ := q
        rw [hRR] at r5 hc
        obtain ⟨b2, b3, r5⟩ := r5
        rcases r5 with ⟨a, a1, a2, a3⟩ | ⟨a1, a2⟩
        · rcases hc with ⟨a', k1, k2, k3⟩ | ⟨k1, -⟩
          · have ea := lonA_uni a1 k1
            subst ea
            exact same (a2.trans k2.symm) a3 k3
          · obtain ⟨⟨k, k2, -⟩, -⟩ := a1
            exact absurd k2 (k1 k)
        · obtain ⟨-, hT8⟩ := hT9 nm A e he hRR a1
          rcases a2 with ⟨p1, p2, p3⟩ | ⟨p1, z3, p2, p3⟩
          · rcases hT8 with ⟨-, m2, m3⟩ | ⟨m1, -⟩
            · exact same (p2.trans m2.symm) p3 m3
            · rw [p1] at m1
              cases m1
          · rcases hT8 with ⟨m1, -⟩ | ⟨-, y3, e2, he2, m2, m3, m4⟩
            · rw [p1] at m1
              cases m1
            · have ef := lst_uni2 he2 he
              subst ef
              obtain ⟨k1, A', sg', k2, k3, k4⟩ := kp_join m2 m3 p2 okk he2 b2 b3 m4 p3
              exact ⟨⟨_, r1, hN, k3, k2, k4⟩, g1, hz0 r4 c1, r2, g3, Or.inl ⟨r3, c0, k1.symm⟩⟩
/-- where only the tape's length changed besides what rel2 doesn't speak of -/
theorem rel2_t {P Q : Nat → Prop} {z1 y1 : ow_MS} (hz : fr P z z1) (hy : fr Q y y1) (h1 : ∀ g, P g → g = 11 ∨ ¬ r2Z g) (h2 : ∀ g, Q g → g = 11001 ∨ g = 11002 ∨ ¬ r2Y g) (hT : relT z1 y1) (h : rel2 z y) : rel2 z1 y1 := by
  obtain ⟨-, k2, k3, ⟨Ms, k4, k5, k6⟩, Ns, k7, k8, k9⟩ := h
  have no : ∀ g, r2Z g → g ≠ 11 → ¬ P g := fun g g1 g2 h9 => (h1 g h9).elim g2 (fun h8 => h8 g1)
  have no2 : ∀ g, r2Y g → g ≠ 11001 → g ≠ 11002 → ¬ Q g := fun g g1 g2 g3 h9 => (h2 g h9).elim g2 (fun h8 => h8.elim g3 (fun h7 => h7 g1))
  refine ⟨hT, relB_k hz hy ⟨no _ (by unfold r2Z; omega) (by omega), no _ (by unfold r2Z; omega) (by omega), no _ (by unfold r2Z; omega) (by omega)⟩ ⟨no2 _ (by unfold r2Y; omega) (by omega) (by omega), no2 _ (by unfold r2Y; omega) (by omega) (by omega), no2 _ (by unfold r2Y; omega) (by omega) (by omega)⟩ k2, brC_fr hy ⟨no2 _ (by unfold r2Y; omega) (by omega) (by omega), no2 _ (by unfold r2Y; omega) (by omega) (by omega), no2 _ (by unfold r2Y; omega) (by omega) (by omega)⟩ k3, ⟨Ms, rlR_k hz ⟨no _ (by unfold r2Z; omega) (by omega), no _ (by unfold r2Z; omega) (by omega), no _ (by unfold r2Z; omega) (by omega)⟩ k4, rlC_k hy (fun q hq => no2 q (by unfold cV at hq; unfold r2Y; omega) (by unfold cV at hq; omega) (by unfold cV at hq; omega)) k5, k6⟩, Ns, rlR_k hz ⟨no _ (by unfold r2Z; omega) (by omega), no _ (by unfold r2Z; omega) (by omega), no _ (by unfold r2Z; omega) (by omega)⟩ k7, rlC_k hy (fun q hq => no2 q (by unfold cV at hq; unfold r2Y; omega) (by unfold cV at hq; omega) (by unfold cV at hq; omega)) k8, k9⟩
theorem c_diagram (h : rel3 X z y) : Te (fun K => qe_X13_diagram K z) (fun rr => Te (fun K => ce_X11_diagram vl K 0 y) (fun rc => rel3 X rr.2 rc.2.2 ∧ ansI [(1, 3)] rr rc)) := by
  obtain ⟨⟨St, k⟩, hM, h2⟩ := id h
  exact w_monoE (b_diagram k hM h2.1) (fun rr hr => w_monoE hr (fun rc ⟨b1, b2, b3, b4, b5, b6⟩ => ⟨⟨b1, b2, rel2_t b4 b5 (fun g hg => by unfold dgF frV rPk rSc at hg; unfold r2Z; omega) (fun g hg => by unfold diP uP at hg; unfold r2Y; omega) b3 h2⟩, b6⟩))
end XD2
end
section
/-! 99zzzzzzzzzzu.xord -/
/-! the order of codes on both sides; collect, each code once -/
def sts (Cs : List cdT) (os : List Nat) : Prop := ∀ i j, i < j → j < os.length → cmpC (atC Cs os i) (atC Cs os j) < 0
theorem sts_ins {Cs : List cdT} {os : List Nat} {B : cdT} {k : Nat} (hk : k ≤ os.length) (hl : Cs.length = os.length) (hos : ∀ (j s : Nat), os[j]? = some s → s < Cs.length) (hs : sts Cs os) (h1 : ∀ i, i < k → cmpC (atC Cs os i) B < 0) (h2 : ∀ i, k ≤ i → i < os.length → cmpC B (atC Cs os i) < 0) : sts (Cs ++ [B]) (insO os k os.length) := by
  intro i j hij hj
  rw [insO_len hk] at hj
  rw [atC_ins hk hl hos (by omega), atC_ins hk hl hos (by omega)]
  by_cases a1 : j < k
  · rw [if_pos a1, if_pos (by omega)]
    exact hs i j hij (by omega)
  · rw [if_neg a1]
    by_cases a2 : j = k
    · rw [if_pos a2, if_pos (by omega)]
      exact h1 i (by omega)
    · rw [if_neg a2]
      by_cases a3 : i < k
      · rw [if_pos a3]
        exact hs i (j - 1) (by omega) (by omega)
      · rw [if_neg a3]
        by_cases a4 : i = k
        · rw [if_pos a4]
          exact h2 (j - 1) (by omega) (by omega)
        · rw [if_neg a4]
          exact hs (i - 1) (j - 1) (by omega) (by omega)
/-- the signs of a net that was loaded -/
def sgR (c : Nat) (sg : Nat → Bool) (R : ow_NT) : Prop := R.1 = c ∧ ∀ x, x < c → R.2.2.2 x = if sg x then -1 else 1
theorem lex_in {sg sg' : Nat → Bool} {b : Nat} {RA RB UA UB : List Nat} : ∀ (L L' : List vT), (∀ p, p ∈ L → b ≤ p.1 ∧ p.2 < 2) → (∀ p, p ∈ L' → b ≤ p.1 ∧ p.2 < 2) → (L = L' → (lexD RA RB < 0 ↔ lexD UA UB < 0)) → (lexD (L.map (tkv sg) ++ 0 :: RA) (L'.map (tkv sg') ++ 0 :: RB) < 0 ↔ lexD (L.map (clc sg b) ++ 0 :: UA) (L'.map (clc sg' b) ++ 0 :: UB) < 0)
  | [], [], _, _, h => by
    show (if (0 : Nat) = 0 then lexD RA RB else ((0 : Nat) : Int) - ((0 : Nat) : Int)) < 0 ↔ (if (0 : Nat) = 0 then lexD UA UB else ((0 : Nat) : Int) - ((0 : Nat) : Int)) < 0
    rw [if_pos rfl, if_pos rfl]
    exact h rfl
  | [], q :: L', _, h2, _ => by
    have hq := h2 q List.mem_cons_self
    have e1 : 0 < tkv sg' q := by unfold tkv; omega
    have e2 : 0 < clc sg' b q := by unfold clc; omega
    show (if (0 : Nat) = tkv sg' q then lexD RA _ else ((0 : Nat) : Int) - (tkv sg' q : Int)) < 0 ↔ (if (0 : Nat) = clc sg' b q then lexD UA _ else ((0 : Nat) : Int) - (clc sg' b q : Int)) < 0
    rw [if_neg (by omega), if_neg (by omega)]
    omega
  | p :: L, [], h1, _, _ => by
    have hp := h1 p List.mem_cons_self
    have e1 : 0 < tkv sg p := by unfold tkv; omega
    have e2 : 0 < clc sg b p := by unfold clc; omega
    show (if tkv sg p = 0 then lexD _ RB else (tkv sg p : Int) - ((0 : Nat) : Int)) < 0 ↔ (if clc sg b p = 0 then lexD _ UB else (clc sg b p : Int) - ((0 : Nat) : Int)) < 0
    rw [if_neg (by omega), if_neg (by omega)]
    omega
  | p :: L, q :: L', h1, h2, h => by
    have hp := h1 p List.mem_cons_self
    have hq := h2 q List.mem_cons_self
    have ih := lex_in (sg := sg) (sg' := sg') (b := b) (RA := RA) (RB := RB) (UA := UA) (UB := UB) L L' (fun r hr => h1 r (List.mem_cons_of_mem _ hr)) (fun r hr => h2 r (List.mem_cons_of_mem _ hr))
    show (if tkv sg p = tkv sg' q then lexD (L.map (tkv sg) ++ 0 :: RA) (L'.map (tkv sg') ++ 0 :: RB) else (tkv sg p : Int) - (tkv sg' q : Int)) < 0 ↔ (if clc sg b p = clc sg' b q then lexD (L.map (clc sg b) ++ 0 :: UA) (L'.map (clc sg' b) ++ 0 :: UB) else (clc sg b p : Int) - (clc sg' b q : Int)) < 0
    have d1 : tkv sg p = clc sg b p + 4 * b := by unfold tkv clc; omega
    have d2 : tkv sg' q = clc sg' b q + 4 * b := by unfold tkv clc; omega
    by_cases e : tkv sg p = tkv sg' q
    · rw [if_pos e, if_pos (by omega)]
      refine ih (fun eL => h ?_)
      have : p = q := by
        unfold tkv at e
        have s1 : (if sg p.1 = true then 1 else 0) < 2 := by split <;> omega
        have s2 : (if sg' q.1 = true then 1 else 0) < 2 := by split <;> omega
        exact Prod.ext (by omega) (by omega)
      rw [this, eL]
    · rw [if_neg e, if_neg (by omega)]
      omega
theorem lex_tu {sg sg' : Nat → Bool} : ∀ (A B : rn_L) (b : Nat) (D : rn_L), bsO b D A → bsO b D B → (∀ p, p ∈ A.flatten → p.2 < 2) → (∀ p, p ∈ B.flatten → p.2 < 2) → (lexD (tk sg A) (tk sg' B) < 0 ↔ lexD (ucd sg b D A) (ucd sg' b D B) < 0)
  | [], B, b, D, _, _, _, _ => by
    show -(((tk sg' B).length : Nat) : Int) < 0 ↔ -(((ucd sg' b D B).length : Nat) : Int) < 0
    rw [tk_len, ucd_len]
  | L :: A, [], b, D, _, _, _, _ => by
    have e1 : tk sg (L :: A) ≠ [] := fun e => by
      have := congrArg List.length e
      rw [tk_len] at this
      exact absurd this (by simp)
    have e2 : ucd sg b D (L :: A) ≠ [] := fun e => by
      have := congrArg List.length e
      rw [ucd_len] at this
      exact absurd this (by simp)
    obtain ⟨x, X, ex⟩ := List.exists_cons_of_ne_nil e1
    obtain ⟨u, U, eu⟩ := List.exists_cons_of_ne_nil e2
    rw [ex, eu]
    show (((x :: X).length : Nat) : Int) < 0 ↔ (((u :: U).length : Nat) : Int) < 0
    omega
  | L :: A, L' :: B, b, D, h1, h2, h3, h4 => by
    obtain ⟨a1, a2⟩ := h1
    obtain ⟨b1, b2⟩ := h2
    have t1 : tk sg (L :: A) = L.map (tkv sg) ++ 0 :: tk sg A := by
      show (L.map (tkv sg) ++ [0]) ++ tk sg A = _
      rw [List.append_assoc]
      rfl
    have t2 : tk sg' (L' :: B) = L'.map (tkv sg') ++ 0 :: tk sg' B := by
      show (L'.map (tkv sg') ++ [0]) ++ tk sg' B = _
      rw [List.append_assoc]
      rfl
    rw [t1, t2]
    show _ ↔ lexD (L.map (clc sg b) ++ 0 :: ucd sg (nxb b (D ++ [L])) (D ++ [L]) A) (L'.map (clc sg' b) ++ 0 :: ucd sg' (nxb b (D ++ [L'])) (D ++ [L']) B) < 0
    refine lex_in L L' (fun p hp => ⟨a1 p hp, h3 p (List.mem_append_left _ hp)⟩) (fun p hp => ⟨b1 p hp, h4 p (List.mem_append_left _ hp)⟩) (fun e => ?_)
    subst e
    exact lex_tu A B _ _ a2 b2 (fun p hp => h3 p (List.mem_append_right _ hp)) (fun p hp => h4 p (List.mem_append_right _ hp))
theorem vOf_tk {sg : Nat → Bool} : ∀ A : rn_L, vOf (tk sg A) = A.flatten.length
  | [] => rfl
  | L :: A => by
    have h1 := vOf_tk (sg := sg) A
    have t1 : tk sg (L :: A) = L.map (tkv sg) ++ 0 :: tk sg A := by
      show (L.map (tkv sg) ++ [0]) ++ tk sg A = _
      rw [List.append_assoc]
      rfl
    have h2 : (L.map (tkv sg)).countP (fun t => decide (0 < t)) = L.length := by
      rw [List.countP_eq_length.mpr, List.length_map]
      intro t ht
      obtain ⟨p, -, rfl⟩ := List.mem_map.mp ht
      refine decide_eq_true ?_
      unfold tkv
      omega
    unfold vOf at h1 ⊢
    rw [t1, List.countP_append, h2, List.countP_cons, h1, List.flatten_cons, List.length_append]
    simp
/-- the lesser diagram on both sides -/
theorem lsr_cmp {sg sg' : Nat → Bool} {A B : rn_L} {c c' : Nat} (hA : okL A c) (hB : okL B c') : lsr (tk sg A) (tk sg' B) = true ↔ cmpC (clC sg A) (clC sg' B) < 0 := by
  have l1 := okF_len hA.1
  have l2 := okF_len hB.1
  unfold lsr cmpC
  rw [vOf_tk, vOf_tk]
  show (if A.flatten.length = B.flatten.length then lxb (tk sg A) (tk sg' B) else decide (A.flatten.length < B.flatten.length)) = true ↔ (if A.flatten.length / 2 = B.flatten.length / 2 then lexD (ucd sg 0 [] A) (ucd sg' 0 [] B) else ((A.flatten.length / 2 : Nat) : Int) - ((B.flatten.length / 2 : Nat) : Int)) < 0
  by_cases e : A.flatten.length = B.flatten.length
  · rw [if_pos e, if_pos (by omega), lxb_lex]
    exact lex_tu A B 0 [] hA.2.2.1 hB.2.2.1 (fun p hp => ((hA.1.2 p).mp hp).2) (fun p hp => ((hB.1.2 p).mp hp).2)
  · rw [if_neg e, if_neg (by omega), decide_eq_true_iff]
    omega
/-- a code and a row of one diagram -/
def crR (C : cdT) (r : List Nat) : Prop := ∃ A sg c, okL A c ∧ C = clC sg A ∧ r = tk sg A
theorem crR_r {C : cdT} {r r' : List Nat} (h : crR C r) (h' : crR C r') : r = r' := by
  obtain ⟨A, sg, c, h1, h2, h3⟩ := h
  obtain ⟨B, sg', c', k1, k2, k3⟩ := h'
  rw [h3, k3]
  exact (clC_tk h1 k1).mp (h2.symm.trans k2)
theorem crR_c {C C' : cdT} {r : List Nat} (h : crR C r) (h' : crR C' r) : C = C' := by
  obtain ⟨A, sg, c, h1, h2, h3⟩ := h
  obtain ⟨B, sg', c', k1, k2, k3⟩ := h'
  rw [h2, k2]
  exact (clC_tk h1 k1).mpr (h3.symm.trans k3)
theorem crR_lt {C C' : cdT} {r r' : List Nat} (h : crR C r) (h' : crR C' r') : lsr r r' = true ↔ cmpC C C' < 0 := by
  obtain ⟨A, sg, c, h1, h2, h3⟩ := h
  obtain ⟨B, sg', c', k1, k2, k3⟩ := h'
  rw [h2, h3, k2, k3]
  exact lsr_cmp h1 k1
section XCL
variable {vl : Nat → Nat} {y : ow_MS} {g g' p p' s : Nat} {Cs : List cdT} {os : List Nat} {A : rn_L} {sg : Nat → Bool} {c kd : Nat}
theorem xc_collect (hg : tH g p) (hs : s < p) (hg16 : g + 6 ≤ 16000) (hC : slC y g s (clC sg A)) (hA : okL A c) (hg' : tH g' p') (h16 : g' + 6 ≤ 16000) (hg2 : 2000 ≤ g') (hgk : ∀ q, cV g' q → q ≠ 8001 ∧ q ≠ 9001 ∧ q ≠ 10001 ∧ (q < 4001 ∨ 5011 < q)) (hk : kd < 5) (hN : gN y) (hT : tbO y g' p' Cs os) (hst : sts Cs os) : Te (fun K => ce_X6_collect vl K 12000 g (nI s) (nI kd) g' y) (fun y1 => gN y1 ∧ fr (coP g') y y1 ∧ ∃ R X os', nv R ∧ isoN A sg (fun x => x) R ∧ sgR c sg R ∧ tbO y1 g' p' (Cs ++ X) os' ∧ sts (Cs ++ X) os' ∧ (∀ C, C ∈ X → ∃ j, j < mv_cnt R.1 kd ∧ mvD kd R j C) ∧ ∀ j, j < mv_cnt R.1 kd → mvN kd R j ∨ ∃ C, mvD kd R j C ∧ (C ∈ Cs ++ X ∨ os'.length = p')) := by
  let Q0 : ow_MS → Prop := fun y1 => gN y1 ∧ fr (coP g') y y1 ∧ ∃ R X os', nv R ∧ isoN A sg (fun x => x) R ∧ sgR c sg R ∧ tbO y1 g' p' (Cs ++ X) os' ∧ sts (Cs ++ X) os' ∧ (∀ C, C ∈ X → ∃ j, j < mv_cnt R.1 kd ∧ mvD kd R j C) ∧ ∀ j, j < mv_cnt R.1 kd → mvN kd R j ∨ ∃ C, mvD kd R j C ∧ (C ∈ Cs ++ X ∨ os'.length = p')
  have hpp := tH_p hg'
  obtain ⟨T0, t01, t02⟩ := hN.2.1 16000 nH16
  have hk2 : kH 20000 := Or.inr rfl
  -- the loop over the numbers
  have main : ∀ (R : ow_NT) (F P : Nat → Int32) (z0 : ow_MS), nv R → isoN A sg (fun x => x) R → sgR c sg R → mv_mk kd R F P → cAt z0 16000 R → (∀ k, z0.2.1 18001 k = F k) → (∀ k, z0.2.1 16006 k = P k) → fr (coP g') y z0 → (∃ Q, cAt z0 17000 Q ∧ ow_b24 Q.2.2.1) → tbO z0 g' p' Cs os → (byR z0 21001 ∧ byR z0 22001 ∧ byR z0 23001) → Tt (fun K t => c_X6_collect vl K t 1 (nI s) (nI kd) 0 0 12000 g g' z0) Q0 := by
    intro R F P z0 hR hiso hsR hmk r0 r1 r2 r3 r4 r5 r6
    have hR6 : R.2.1 ≤ 6 := by have := hR.2.2.2; omega
    have c2 : ∀ (d j : Nat) (z : ow_MS) (X : List cdT) (os1 : List Nat), j + d = mv_cnt R.1 kd → cAt z 16000 R → (∀ k, z.2.1 18001 k = F k) → (∀ k, z.2.1 16006 k = P k) → fr (coP g') y z → (∃ Q, cAt z 17000 Q ∧ ow_b24 Q.2.2.1) → tbO z g' p' (Cs ++ X) os1 → sts (Cs ++ X) os1 → (byR z 21001 ∧ byR z 22001 ∧ byR z 23001) → (∀ C, C ∈ X → ∃ i, i < mv_cnt R.1 kd ∧ mvD kd R i C) → (∀ i, i < j → mvN kd R i ∨ ∃ C, mvD kd R i C ∧ (C ∈ Cs ++ X ∨ os1.length = p')) → Tt (fun K t => c_X6_collect vl K t 2 (nI s) (nI kd) (nI (mv_cnt R.1 kd)) (nI j) 12000 g g' z) Q0 := by
      intro d
      have hcb := cnt_b (c := R.1) hR.2.1 hk
      induction d with
      | zero =>
        intro j z X os1 hj q0 q1 q2 q3 q4 q5 q5s q6 q7 q8
        have ej : j = mv_cnt R.1 kd := by omega
        refine u_X6_collect_2 ?_; unfold cm_X6_collect_2
        refine w_leT (by omega) (by omega) (w_some ⟨gN_co h16 hg2 hgk q3 hN ⟨⟨R, q0, hR.2.2.1⟩, q4⟩ q6, q3, R, X, os1, hR, hiso, hsR, q5, q5s, q7, fun i hi => q8 i (by omega)⟩)
      | succ d ih =>
        intro j z X os1 hj q0 q1 q2 q3 q4 q5 q5s q6 q7 q8
        obtain ⟨Q, Q1, Q2⟩ := q4
        have hjl : j < mv_cnt R.1 kd := by omega
        have hS : mvS z R Q := ⟨q0, Q1, hR.2.2.1, Q2, hR.2.1, hR6⟩
        obtain ⟨hb9, hnv⟩ := mv_nv hR hk F P Q j hmk Q2 hjl
        refine u_X6_collect_2 ?_; unfold cm_X6_collect_2
        refine w_leF (by omega) (by omega) (w_cs1 (tc_make hS hR.1 hk hjl q1 q2) ?_)
        rintro r z1 ⟨e1, e2, e3⟩
        dsimp only at e1 e2 e3
        rw [e1]
        have k16 : cAt z1 16000 R := cAt_fr e3 (fun q hq h9 => by unfold cP at hq; unfold mvP at h9; omega) q0
        have k18 : ∀ k, z1.2.1 18001 k = F k := fun k => by rw [(e3 18001 (by unfold mvP; omega)).2.1]; exact q1 k
        have k66 : ∀ k, z1.2.1 16006 k = P k := fun k => by rw [(e3 16006 (by unfold mvP; omega)).2.1]; exact q2 k
        have kf : fr (coP g') y z1 := fr_tr q3 (fr_mono (fun q hq => by unfold mvP at hq; unfold coP; omega) e3)
        have kt : tbO z1 g' p' (Cs ++ X) os1 := tbO_fr e3 (fun q hq h9 => by unfold cV at hq; unfold mvP at h9; omega) q5
        have kb : byR z1 21001 ∧ byR z1 22001 ∧ byR z1 23001 := ⟨byR_fr e3 (by unfold mvP; omega) q6.1, byR_fr e3 (by unfold mvP; omega) q6.2.1, byR_fr e3 (by unfold mvP; omega) q6.2.2⟩
        have c3 : ∀ (z2 : ow_MS) (X2 : List cdT) (os2 : List Nat), cAt z2 16000 R → (∀ k, z2.2.1 18001 k = F k) → (∀ k, z2.2.1 16006 k = P k) → fr (coP g') y z2 → (∃ Q, cAt z2 17000 Q ∧ ow_b24 Q.2.2.1) → tbO z2 g' p' (Cs ++ X2) os2 → sts (Cs ++ X2) os2 → (byR z2 21001 ∧ byR z2 22001 ∧ byR z2 23001) → (∀ C, C ∈ X2 → ∃ i, i < mv_cnt R.1 kd ∧ mvD kd R i C) → (∀ i, i < j + 1 → mvN kd R i ∨ ∃ C, mvD kd R i C ∧ (C ∈ Cs ++ X2 ∨ os2.length = p')) → Tt (fun K t => c_X6_collect vl K t 3 (nI s) (nI kd) (nI (mv_cnt R.1 kd)) (nI j) 12000 g g' z2) Q0 := by
          intro z2 X2 os2 p0 p1 p2 p3 p4 p5 p5s p6 p7 p8
          refine u_X6_collect_3 ?_; unfold cm_X6_collect_3
          rw [nI_1]
          exact ih (j + 1) z2 X2 os2 (by omega) p0 p1 p2 p3 p4 p5 p5s p6 p7 p8
        refine w_if (fun e0 => ?_) (fun e0 => ?_)
        · refine c3 z1 X os1 k16 k18 k66 kf ⟨_, e2, hb9⟩ kt q5s kb q7 (fun i hi => ?_)
          by_cases ei : i = j
          · rw [ei]
            exact Or.inl ⟨F, P, Q, hmk, Q2, zI_e e0⟩
          · exact q8 i (by omega)
        · have hB := zI_ne e0
          have hv := hnv hB
          refine w_cs0 (tc_encode hk2 nH17 e2 hv kb.1 kb.2.1 kb.2.2) ?_
          rintro z2 ⟨⟨Ds, qs, d1, d2, d3⟩, b1, b2, b3, hy2, f2⟩
          have n2 : ∀ q, enP 20000 17000 q → 17001 ≤ q ∧ q ≤ 17011 ∨ 20004 ≤ q ∧ q ≤ 23005 := fun q hq => by
            unfold enP cpP epP cV cQ at hq
            omega
          have hD : mvD kd R j (enC (mv_T kd j Q R F P) Ds qs) := ⟨F, P, Q, Ds, qs, hmk, Q2, hB, d1, rfl⟩
          have hokC : okC (enC (mv_T kd j Q R F P) Ds qs) := by
            obtain ⟨A', sg', o1, o2, -⟩ := enc_ok hv d1
            exact ⟨A', sg', _, o1, o2⟩
          have kt2 : tbO z2 g' p' (Cs ++ X) os1 := tbO_fr f2 (fun q hq h9 => by have := n2 q h9; unfold cV at hq; omega) kt
          refine w_cs0 (tc_addNew hg' (kH_out hk2) (by omega) Nat.one_pos kt2.1 kt2.2.2.2.1 d2 d3 b1) ?_
          rintro z3 ⟨a1, a2, a3⟩
          have m16 : cAt z3 16000 R := cAt_fr a3 (fun q hq h9 => by unfold cP at hq; unfold cV at h9; omega) (cAt_fr f2 (fun q hq h9 => by have := n2 q h9; unfold cP at hq; omega) k16)
          have m17 : cAt z3 17000 (mv_T kd j Q R F P) := cAt_fr a3 (fun q hq h9 => by unfold cP at hq; unfold cV at h9; omega) hy2
          have m18 : ∀ k, z3.2.1 18001 k = F k := fun k => by
            rw [(a3 18001 (by unfold cV; omega)).2.1, (f2 18001 (fun h9 => by have := n2 _ h9; omega)).2.1]
            exact k18 k
          have m66 : ∀ k, z3.2.1 16006 k = P k := fun k => by
            rw [(a3 16006 (by unfold cV; omega)).2.1, (f2 16006 (fun h9 => by have := n2 _ h9; omega)).2.1]
            exact k66 k
          have mf : fr (coP g') y z3 := fr_tr kf (fr_tr (fr_mono (fun q hq => by have := n2 q hq; unfold coP; omega) f2) (fr_mono (fun q hq => Or.inr (Or.inr hq)) a3))
          have mb : byR z3 21001 ∧ byR z3 22001 ∧ byR z3 23001 := ⟨byR_fr a3 (by unfold cV; omega) b1, byR_fr a3 (by unfold cV; omega) b2, byR_fr a3 (by unfold cV; omega) b3⟩
          have mby : byR z3 (g' + 1) := a2 kt2.2.2.2.2
          rcases a1 with ⟨⟨k, k1, k2⟩, rfl⟩ | ⟨k, k1, k2, k3⟩
          · refine c3 z3 X os1 m16 m18 m66 mf ⟨_, m17, hb9⟩ kt2 q5s mb q7 (fun i hi => ?_)
            by_cases ei : i = j
            · rw [ei]
              refine Or.inr ⟨_, hD, Or.inl ?_⟩
              rw [← k2]
              obtain ⟨s9, s91, s92, s93, s94⟩ := tab_at kt2.1 k1
              unfold atC
              have hk9 : (Cs ++ X).length = os1.length := kt2.1.2.1
              have hso : os1.getD k 0 < (Cs ++ X).length := by
                rw [List.getD_eq_getElem?_getD, List.getElem?_eq_getElem k1]
                exact (kt2.1.2.2.2 k _ (List.getElem?_eq_getElem k1)).2
              rw [List.getD_eq_getElem?_getD (l := Cs ++ X), List.getElem?_eq_getElem hso]
              exact List.getElem_mem hso
            · exact q8 i (by omega)
          · by_cases hl : os1.length < p'
            · rw [if_pos hl] at k3
              have hmo := k2 (srt_mo kt2.2.1 _)
              have hT3 : tbO z3 g' p' (Cs ++ (X ++ [enC (mv_T kd j Q R F P) Ds qs])) (insO os1 k os1.length) := by
                rw [← List.append_assoc]
                refine ⟨k3, srt_ins k1 kt2.1.2.1 (tabC_os kt2.1) kt2.2.1 (fun i hi => Int.le_of_lt (hmo.1 i hi)) (fun i h1 h2 => ?_), fun C hC => ?_, by rw [insO_len k1]; omega, mby⟩
                · have := hmo.2 i h1 h2
                  have := cmpC_sym (A := enC (mv_T kd j Q R F P) Ds qs) (B := atC (Cs ++ X) os1 i)
                  omega
                · rcases List.mem_append.mp hC with h9 | h9
                  · exact kt2.2.2.1 C h9
                  · rw [List.mem_singleton.mp h9]
                    exact hokC
              have hT3s : sts (Cs ++ (X ++ [enC (mv_T kd j Q R F P) Ds qs])) (insO os1 k os1.length) := by
                rw [← List.append_assoc]
                refine sts_ins k1 kt2.1.2.1 (tabC_os kt2.1) q5s hmo.1 (fun i h1 h2 => ?_)
                have := hmo.2 i h1 h2
                have := cmpC_sym (A := enC (mv_T kd j Q R F P) Ds qs) (B := atC (Cs ++ X) os1 i)
                omega
              refine c3 z3 _ _ m16 m18 m66 mf ⟨_, m17, hb9⟩ hT3 hT3s mb (fun C hC => ?_) (fun i hi => ?_)
              · rcases List.mem_append.mp hC with h9 | h9
                · exact q7 C h9
                · rw [List.mem_singleton.mp h9]
                  exact ⟨j, hjl, hD⟩
              · by_cases ei : i = j
                · rw [ei]
                  exact Or.inr ⟨_, hD, Or.inl (List.mem_append_right _ (List.mem_append_right _ (List.mem_singleton.mpr rfl)))⟩
                · rcases q8 i (by omega) with h9 | ⟨C, h9, h8 | h8⟩
                  · exact Or.inl h9
                  · refine Or.inr ⟨C, h9, Or.inl ?_⟩
                    rw [← List.append_assoc]
                    exact List.mem_append_left _ h8
                  · omega
            · rw [if_neg hl] at k3
              have hfull : os1.length = p' := by
                have := kt2.2.2.2.1
                omega
              refine c3 z3 X os1 m16 m18 m66 mf ⟨_, m17, hb9⟩ ⟨k3, kt2.2.1, kt2.2.2.1, kt2.2.2.2.1, mby⟩ q5s mb q7 (fun i hi => ?_)
              by_cases ei : i = j
              · rw [ei]
                exact Or.inr ⟨_, hD, Or.inr hfull⟩
              · exact q8 i (by omega)
    refine u_X6_collect_1 ?_; unfold cm_X6_collect_1
    refine w_cs1 (tc_countNumbers r0.1 hR.2.1 hk) ?_
    rintro v z1 ⟨e1, e2⟩
    dsimp only at e1 e2
    rw [e1, e2]
    exact c2 (mv_cnt R.1 kd) 0 z0 [] os (by omega) r0 r1 r2 r3 r4 (by rw [List.append_nil]; exact r5) (by rw [List.append_nil]; exact hst) r6 (fun C hC => by cases hC) (fun i hi => absurd hi (Nat.not_lt_zero _))
  have hbk := hN.2.2 20000 hk2
  refine e_X6_collect ?_
  refine u_X6_collect_0 ?_; unfold cm_X6_collect_0
  refine w_cs0 (tc_load3 nH16 hg (by omega) hs hA hC t01 t02) ?_
  rintro y1 ⟨⟨R, hR, hR1, hR2, hR3⟩, f1⟩
  have hsR : sgR c sg R := ⟨hR1, hR3⟩
  have n1 : ∀ q, cL 16000 q → 16001 ≤ q ∧ q ≤ 16010 := fun q hq => by unfold cL at hq; omega
  have f1c : fr (coP g') y y1 := fr_mono (fun q hq => by have := n1 q hq; unfold coP; omega) f1
  have hT1 : tbO y1 g' p' Cs os := tbO_fr f1 (fun q hq h9 => by have := n1 q h9; unfold cV at hq; omega) hT
  have hQ1 : ∃ Q, cAt y1 17000 Q ∧ ow_b24 Q.2.2.1 := by
    obtain ⟨Q, a1, a2⟩ := hN.2.1 17000 nH17
    exact ⟨Q, cAt_fr f1 (fun q hq h9 => by have := n1 q h9; unfold cP at hq; omega) a1, a2⟩
  have hb1 : byR y1 21001 ∧ byR y1 22001 ∧ byR y1 23001 := ⟨byR_fr f1 (fun h9 => by have := n1 _ h9; omega) hbk.1, byR_fr f1 (fun h9 => by have := n1 _ h9; omega) hbk.2.1, byR_fr f1 (fun h9 => by have := n1 _ h9; omega) hbk.2.2⟩
  have hv := hR.2.2.1
  by_cases e3 : kd = 3
  · refine w_ifT (by rw [e3]; rfl) (w_cs0 (tc_markParts nH16 hR.1 (fun a ha => (hv.1 a ha).1) hv.2.1) ?_)
    rintro y2 ⟨m1, m2, m3⟩
    have hy2 : cAt y2 16000 R := cAt_fr m3 (fun q hq h9 => by unfold cP at hq; unfold cQ at h9; omega) hR.1
    refine w_cs0 (tc_faces (f := 18000) nH16 (Or.inr (Or.inl rfl)) (by omega) hy2 hv.2.2.1 hv.1 hv.2.1) ?_
    rintro y3 ⟨g1, g2, g3⟩
    have hof := np_parts_of (N := R.2.2.1.1) (c := R.1) (fun a ha => (hv.1 a ha).1) hv.2.1 (y1.2.1 (16000 + 6))
    have hfa := mr_out_rl (fun a ha => fc_on_vn hv.1 R.2.2.2 ha) (rl_fill (4 * R.1) (y2.2.1 (18000 + 1)) (-1)) (4 * R.1) (Nat.le_refl _)
    have u2 : ∀ q, cQ 16000 q → 16001 ≤ q ∧ q ≤ 16011 := fun q hq => by unfold cQ at hq; omega
    have u3 : ∀ q, cF 18000 q → q = 18001 ∨ q = 18002 := fun q hq => by unfold cF at hq; omega
    refine main R (y3.2.1 18001) (y3.2.1 16006) y3 hv hR.2.1 hsR (fun _ => ⟨fun k hk9 => ?_, fun k hk9 => ?_⟩) (cAt_fr g3 (fun q hq h9 => by have := u3 q h9; unfold cP at hq; omega) hy2) (fun _ => rfl) (fun _ => rfl) (fr_tr f1c (fr_tr (fr_mono (fun q hq => by have := u2 q hq; unfold coP; omega) m3) (fr_mono (fun q hq => by have := u3 q hq; unfold coP; omega) g3))) ?_ (tbO_fr g3 (fun q hq h9 => by have := u3 q h9; unfold cV at hq; omega) (tbO_fr m3 (fun q hq h9 => by have := u2 q h9; unfold cV at hq; omega) hT1)) ⟨byR_fr g3 (fun h9 => by have := u3 _ h9; omega) (byR_fr m3 (fun h9 => by have := u2 _ h9; omega) hb1.1), byR_fr g3 (fun h9 => by have := u3 _ h9; omega) (byR_fr m3 (fun h9 => by have := u2 _ h9; omega) hb1.2.1), byR_fr g3 (fun h9 => by have := u3 _ h9; omega) (byR_fr m3 (fun h9 => by have := u2 _ h9; omega) hb1.2.2)⟩
    · rw [(g3 16006 (fun h9 => by have := u3 _ h9; omega)).2.1]
      exact (m1 k).trans (hof.1 k hk9)
    · exact (g1 k).trans (hfa.1 k hk9)
    · obtain ⟨Q, a1, a2⟩ := hQ1
      exact ⟨Q, cAt_fr g3 (fun q hq h9 => by have := u3 q h9; unfold cP at hq; omega) (cAt_fr m3 (fun q hq h9 => by have := u2 q h9; unfold cP at hq; omega) a1), a2⟩
  · refine w_ifF (fun h9 => e3 (nI_inj9 (a := kd) (b := 3) (by omega) (by omega) h9)) ?_
    exact main R (y1.2.1 18001) (y1.2.1 16006) y1 hv hR.2.1 hsR (fun h9 => absurd h9 e3) hR.1 (fun _ => rfl) (fun _ => rfl) f1c hQ1 hT1 hb1
end XCL
end
section
/-! 99zzzzzzzzzzv.xof -/
/-! what the reference is offered, exactly: rows in order -/
def nfR (A : rn_L) (sg : Nat → Bool) (r : List Nat) : Prop := ∃ m P, mk A m P ∧ r = pkR A sg m P
/-- S' is S with the rows of what O names -/
def adS (S S' : List Nat → Prop) (O : rn_L → (Nat → Bool) → Prop) : Prop := (∀ r, S r → S' r) ∧ (∀ r, S' r → S r ∨ ∃ A sg, O A sg ∧ nfR A sg r) ∧ ∀ A sg, O A sg → ∃ r, S' r ∧ nfR A sg r
theorem adS_tr {S S1 S2 : List Nat → Prop} {O O1 : rn_L → (Nat → Bool) → Prop} (h : adS S S1 O) (h1 : adS S1 S2 O1) : adS S S2 (fun A sg => O A sg ∨ O1 A sg) := by
  refine ⟨fun r hr => h1.1 r (h.1 r hr), fun r hr => ?_, fun A sg hO => ?_⟩
  · rcases h1.2.1 r hr with h9 | ⟨A, sg, h8, h9⟩
    · rcases h.2.1 r h9 with h9 | ⟨A, sg, h8, h9⟩
      · exact Or.inl h9
      · exact Or.inr ⟨A, sg, Or.inl h8, h9⟩
    · exact Or.inr ⟨A, sg, Or.inr h8, h9⟩
  · rcases hO with h9 | h9
    · obtain ⟨r, r1, r2⟩ := h.2.2 A sg h9
      exact ⟨r, h1.1 r r1, r2⟩
    · exact h1.2.2 A sg h9
theorem adS_rf {S : List Nat → Prop} : adS S S (fun _ _ => False) := ⟨fun r h => h, fun r h => Or.inl h, fun A sg h => h.elim⟩
theorem adS_eq {S S' : List Nat → Prop} {O O' : rn_L → (Nat → Bool) → Prop} (h : adS S S' O) (e : ∀ A sg, O A sg ↔ O' A sg) : adS S S' O' := ⟨h.1, fun r hr => (h.2.1 r hr).imp id (fun ⟨A, sg, h8, h9⟩ => ⟨A, sg, (e A sg).mp h8, h9⟩), fun A sg h9 => h.2.2 A sg ((e A sg).mpr h9)⟩
/-- what takes offers -/
def snkF (Φ : ow_MS → (List Nat → Prop) → Nat → Prop) : Prop := (∀ (P : Nat → Prop) z z1 S n, fr P z z1 → (∀ g, P g → 31 ≤ g ∧ g ≤ 34 ∨ 1000 ≤ g) → Φ z S n → Φ z1 S n) ∧ (∀ z S n A sg, n < 2700 → Φ z S n → rn_At z 3000 A [] → rn_sg z 3000 A.flatten sg → wkF A.flatten → A.flatten.length ≤ 24 → A.length ≤ 6 → Te (fun K => qe_X13_offer K z) (fun z1 => (∃ S', adS S S' (fun A' sg' => A' = A ∧ sg' = sg) ∧ Φ z1 S' (n + 1)) ∧ fr frO z z1)) ∧ ∀ z S n n', n ≤ n' → Φ z S n → Φ z S n'
theorem lsr_c {S T : List Nat} : lsr S T = true ↔ cmpC (vOf S, S) (vOf T, T) < 0 := by
  unfold lsr cmpC
  show (if vOf S = vOf T then lxb S T else decide (vOf S < vOf T)) = true ↔ (if vOf S = vOf T then lexD S T else ((vOf S : Nat) : Int) - ((vOf T : Nat) : Int)) < 0
  by_cases e : vOf S = vOf T
  · rw [if_pos e, if_pos e]
    exact lxb_lex S T
  · rw [if_neg e, if_neg e, decide_eq_true_iff]
    omega
theorem lsr_tr {S T U : List Nat} (h1 : lsr S T = true) (h2 : lsr T U = true) : lsr S U = true := by
  rw [lsr_c] at h1 h2 ⊢
  have h3 := cmpC_tr (Int.le_of_lt h1) (Int.le_of_lt h2)
  have h4 : cmpC (vOf S, S) (vOf U, U) ≠ 0 := fun e => by
    have e2 := cmpC_0 e
    have e3 : S = U := congrArg Prod.snd e2
    rw [e3] at h1
    have := cmpC_sym (A := (vOf U, U)) (B := (vOf T, T))
    omega
  omega
theorem lsr_irr {S : List Nat} : lsr S S = false := by
  cases e : lsr S S with
  | false => rfl
  | true =>
    rw [lsr_c, cmpC_rf] at e
    omega
theorem lsr_tri {S T : List Nat} (h : lsr S T = false) (hne : T ≠ S) : lsr T S = true := by
  rw [lsr_c]
  have h1 : ¬ cmpC (vOf S, S) (vOf T, T) < 0 := fun h9 => by
    rw [← lsr_c, h] at h9
    cases h9
  have h2 := cmpC_sym (A := (vOf T, T)) (B := (vOf S, S))
  have h3 : cmpC (vOf S, S) (vOf T, T) ≠ 0 := fun e => hne (congrArg Prod.snd (cmpC_0 e)).symm
  omega
/-- the list of rows that moves() keeps -/
def lsW (z : ow_MS) (Ms : List (List Nat)) : Prop := Ms.length ≤ 2700 ∧ z.1 22 = nI Ms.length ∧ (∀ (k : Nat) r, Ms[k]? = some r → ∃ j, j < Ms.length ∧ z.2.1 21 k = nI j ∧ rc_At z 20 (32 * j) r) ∧ (∀ j, j < Ms.length → dRow z 20 (32 * j)) ∧ Ms.Pairwise (fun a b => lsr a b = true)
theorem pw_get {Ms : List (List Nat)} (h : Ms.Pairwise (fun a b => lsr a b = true)) {i j : Nat} {a b : List Nat} (ha : Ms[i]? = some a) (hb : Ms[j]? = some b) (hij : i < j) : lsr a b = true := by
  obtain ⟨h1, h2⟩ := List.getElem?_eq_some_iff.mp ha
  obtain ⟨h3, h4⟩ := List.getElem?_eq_some_iff.mp hb
  have := List.pairwise_iff_getElem.mp h i j h1 h3 hij
  rw [h2, h4] at this
  exact this
theorem rc_cp {z z1 : ow_MS} {h o : Nat} {F : List Nat} (hv : rc_At z 27 0 F) (hc : ∀ i, i < F.length + 1 → z1.2.1 h (o + i) = z.2.1 27 i) : rc_At z1 h o F := by
  refine ⟨hv.1, hv.2.1, ?_, fun i t hi => ?_⟩
  · have := hc 0 (by omega)
    rw [Nat.add_zero] at this
    rw [this]
    exact hv.2.2.1
  · have := (List.getElem?_eq_some_iff.mp hi).1
    rw [hc (i + 1) (by omega)]
    have := hv.2.2.2 i t hi
    rw [Nat.zero_add] at this
    exact this
theorem rc_eq {z z1 : ow_MS} {h o : Nat} {F : List Nat} (hi : ∀ i, o ≤ i → i < o + 32 → z1.2.1 h i = z.2.1 h i) (hv : rc_At z h o F) : rc_At z1 h o F := by
  have hl := hv.1
  refine ⟨hv.1, hv.2.1, by rw [hi o (by omega) (by omega)]; exact hv.2.2.1, fun k t hk => ?_⟩
  have := (List.getElem?_eq_some_iff.mp hk).1
  rw [hi _ (by omega) (by omega)]
  exact hv.2.2.2 k t hk
theorem rc_uni {z : ow_MS} {h o : Nat} {S T : List Nat} (h1 : rc_At z h o S) (h2 : rc_At z h o T) : S = T := by
  have b1 := h1.1
  have b2 := h2.1
  have hl : S.length = T.length := nI_inj9 (by omega) (by omega) (h1.2.2.1.symm.trans h2.2.2.1)
  refine List.ext_getElem? (fun k => ?_)
  by_cases hk : k < S.length
  · obtain ⟨s, s1, s2, s3⟩ := rc_get h1 hk
    obtain ⟨t, t1, t2, t3⟩ := rc_get (k := k) h2 (by omega)
    rw [s1, t1, nI_inj9 (a := s) (b := t) (by omega) (by omega) (s3.symm.trans t3)]
  · rw [List.getElem?_eq_none (by omega), List.getElem?_eq_none (by omega)]
/-- a row put into a sorted list -/
def insR (Ms : List (List Nat)) (lo : Nat) (F : List Nat) : List (List Nat) := Ms.take lo ++ F :: Ms.drop lo
theorem insR_len {Ms : List (List Nat)} {lo : Nat} {F : List Nat} (h : lo ≤ Ms.length) : (insR Ms lo F).length = Ms.length + 1 := by
  unfold insR
  rw [List.length_append, List.length_take, List.length_cons, List.length_drop]
  omega
theorem insR_at {Ms : List (List Nat)} {lo k : Nat} {F : List Nat} (h : lo ≤ Ms.length) : (insR Ms lo F)[k]? = if k < lo then Ms[k]? else if k = lo then some F else Ms[k - 1]? := by
  unfold insR
  have hl : (Ms.take lo).length = lo := by rw [List.length_take]; omega
  by_cases h1 : k < lo
  · rw [if_pos h1, List.getElem?_append_left (by omega), List.getElem?_take, if_pos h1]
  · rw [if_neg h1, List.getElem?_append_right (by omega), hl]
    by_cases h2 : k = lo
    · rw [if_pos h2, h2, Nat.sub_self]
      rfl
    · rw [if_neg h2]
      obtain ⟨d, rfl⟩ : ∃ d, k = lo + d + 1 := ⟨k - lo - 1, by omega⟩
      rw [show lo + d + 1 - lo = d + 1 by omega, List.getElem?_cons_succ, List.getElem?_drop, show lo + d + 1 - 1 = lo + d by omega]
theorem insR_mem {Ms : List (List Nat)} {lo : Nat} {F r : List Nat} : r ∈ insR Ms lo F ↔ r = F ∨ r ∈ Ms := by
  unfold insR
  rw [List.mem_append, List.mem_cons]
  constructor
  · rintro (h | h | h)
    · exact Or.inr (List.mem_of_mem_take h)
    · exact Or.inl h
    · exact Or.inr (List.mem_of_mem_drop h)
  · rintro (h | h)
    · exact Or.inr (Or.inl h)
    · rw [← List.take_append_drop lo Ms] at h
      rcases List.mem_append.mp h with h9 | h9
      · exact Or.inl h9
      · exact Or.inr (Or.inr h9)
theorem insR_pw {Ms : List (List Nat)} {lo : Nat} {F : List Nat} (h : Ms.Pairwise (fun a b => lsr a b = true)) (hl : lo ≤ Ms.length) (h1 : ∀ k r, k < lo → Ms[k]? = some r → lsr r F = true) (h2 : ∀ k r, lo ≤ k → Ms[k]? = some r → lsr F r = true) : (insR Ms lo F).Pairwise (fun a b => lsr a b = true) := by
  rw [List.pairwise_iff_getElem]
  intro i j hi hj hij
  have ei := List.getElem?_eq_getElem hi
  have ej := List.getElem?_eq_getElem hj
  rw [insR_at hl] at ei ej
  by_cases a1 : i < lo
  · rw [if_pos a1] at ei
    by_cases b1 : j < lo
    · rw [if_pos b1] at ej
      exact pw_get h ei ej hij
    · rw [if_neg b1] at ej
      by_cases b2 : j = lo
      · rw [if_pos b2] at ej
        rw [← Option.some.inj ej]
        exact h1 i _ a1 ei
      · rw [if_neg b2] at ej
        exact pw_get h ei ej (by omega)
  · rw [if_neg a1] at ei
    rw [if_neg (by omega), if_neg (by omega)] at ej
    by_cases a2 : i = lo
    · rw [if_pos a2] at ei
      rw [← Option.some.inj ei]
      exact h2 (j - 1) _ (by omega) ej
    · rw [if_neg a2] at ei
      exact pw_get h ei ej (by omega)
theorem xm_offerList {z : ow_MS} {Ms : List (List Nat)} {F : List Nat} (hL : Ms.length < 2700) (hP : lsW z Ms) (hF : rc_At z 27 0 F) (hD : dRow z 27 0) : Te (fun K => qe_X13_offerList K z) (fun z1 => (∃ Ms', lsW z1 Ms' ∧ Ms'.length ≤ Ms.length + 1 ∧ ∀ r, r ∈ Ms' ↔ r = F ∨ r ∈ Ms) ∧ fr (fun g => 20 ≤ g ∧ g ≤ 22) z z1) := by
  obtain ⟨-, h22, ho, hR, hpw⟩ := id hP
  have hl := hF.1
  let Q : ow_MS → Prop := fun z1 => (∃ Ms', lsW z1 Ms' ∧ Ms'.length ≤ Ms.length + 1 ∧ ∀ r, r ∈ Ms' ↔ r = F ∨ r ∈ Ms) ∧ fr (fun g => 20 ≤ g ∧ g ≤ 22) z z1
  have c5 : ∀ (lo : Nat) (x1 x2 : Int32), lo ≤ Ms.length → (∀ k r, k < lo → Ms[k]? = some r → lsr r F = true) → (∀ k r, lo ≤ k → Ms[k]? = some r → lsr F r = true) → ∀ (d k : Nat) (z1 : ow_MS), k + d = F.length + 1 → fr (fun g => 20 ≤ g ∧ g ≤ 21) z z1 → (∀ i, i < lo → z1.2.1 21 i = z.2.1 21 i) → z1.2.1 21 lo = nI Ms.length → (∀ i, lo < i → i ≤ Ms.length → z1.2.1 21 i = z.2.1 21 (i - 1)) → (∀ i, i < k → z1.2.1 20 (32 * Ms.length + i) = z.2.1 27 i) → (∀ i, i < 32 * Ms.length → z1.2.1 20 i = z.2.1 20 i) → Tt (fun K i => q_X13_offerList K i 5 x1 x2 (nI k) z1) Q := by
    intro lo x1 x2 hlo s1' s2 d
    induction d with
    | zero =>
      intro k z1 hk hf o1 o2 o3 hc hi
      have e22 : z1.1 22 = nI Ms.length := by rw [(hf 22 (by omega)).1]; exact h22
      refine u_X13_offerList_5 ?_; unfold qm_X13_offerList_5
      refine w_rdI ml27 nI_0.symm (by omega) (x := nI F.length) (by rw [(hf 27 (by omega)).2.1]; exact hF.2.2.1) (w_ltT (by omega) (by omega) (w_rdF e22 (w_wrF ?_)))
      rw [nI_1]
      have rowF : rc_At z1 20 (32 * Ms.length) F := rc_cp hF (fun i hi9 => hc i (by omega))
      have rowO : ∀ j r, j < Ms.length → rc_At z 20 (32 * j) r → rc_At z1 20 (32 * j) r := fun j r hj h9 => rc_eq (fun i h1 h2 => hi i (by omega)) h9
      refine w_some ⟨⟨insR Ms lo F, ⟨by rw [insR_len hlo]; omega, by rw [insR_len hlo]; exact po_usF_at, fun k9 r hk9 => ?_, fun j hj => ?_, insR_pw hpw hlo s1' s2⟩, by rw [insR_len hlo]; exact Nat.le_refl _, fun r => insR_mem⟩, fr_F2 (fr_mono (fun g hg => by omega) hf) (by omega)⟩
      · rw [insR_at hlo] at hk9
        rw [insR_len hlo]
        by_cases a1 : k9 < lo
        · rw [if_pos a1] at hk9
          obtain ⟨j, j1, j2, j3⟩ := ho k9 r hk9
          exact ⟨j, by omega, by show z1.2.1 21 k9 = _; rw [o1 k9 a1]; exact j2, rowO j r j1 j3⟩
        · rw [if_neg a1] at hk9
          by_cases a2 : k9 = lo
          · rw [if_pos a2] at hk9
            rw [← Option.some.inj hk9, a2]
            exact ⟨Ms.length, by omega, o2, rowF⟩
          · rw [if_neg a2] at hk9
            obtain ⟨j, j1, j2, j3⟩ := ho (k9 - 1) r hk9
            have hk8 := (List.getElem?_eq_some_iff.mp hk9).1
            exact ⟨j, by omega, by show z1.2.1 21 k9 = _; rw [o3 k9 (by omega) (by omega)]; exact j2, rowO j r j1 j3⟩
      · rw [insR_len hlo] at hj
        by_cases hjL : j = Ms.length
        · rw [hjL]
          obtain ⟨A, sg, hv⟩ := hD
          have eF : tk sg A = F := rc_uni hv.1 hF
          exact dRow_cp hv (fun i hi9 => hc i (by rw [eF] at hi9; omega))
        · exact dRow_eq (fun i h1 h2 => hi i (by omega)) (hR j (by omega))
    | succ d ih =>
      intro k z1 hk hf o1 o2 o3 hc hi
      have e22 : z1.1 22 = nI Ms.length := by rw [(hf 22 (by omega)).1]; exact h22
      refine u_X13_offerList_5 ?_; unfold qm_X13_offerList_5
      refine w_rdI ml27 nI_0.symm (by omega) (x := nI F.length) (by rw [(hf 27 (by omega)).2.1]; exact hF.2.2.1) (w_ltF (by omega) (by omega) (w_rdF e22 (w_rdI ml27 rfl (by omega) (by rw [(hf 27 (by omega)).2.1]) ?_)))
      rw [show (32 : Int32) * nI Ms.length = nI (32 * Ms.length) from pk_mul 32 Ms.length, nI_add, nI_1]
      refine w_wrI ml20 rfl (by omega) (ih (k + 1) _ (by omega) (fr_I2 hf (by omega)) (fun i hi9 => rd_ot (by omega) (o1 i hi9)) (rd_ot (by omega) o2) (fun i h1 h2 => rd_ot (by omega) (o3 i h1 h2)) (fun i hi9 => ?_) (fun i hi9 => rd_ne (by omega) (hi i hi9)))
      by_cases hik : i = k
      · rw [hik, po_usI_at]
      · exact rd_ne (by omega) (hc i (by omega))
  have c4 : ∀ (lo : Nat) (x2 : Int32), lo ≤ Ms.length → (∀ k r, k < lo → Ms[k]? = some r → lsr r F = true) → (∀ k r, lo ≤ k → Ms[k]? = some r → lsr F r = true) → ∀ (d k : Nat) (z1 : ow_MS), lo + d = k → k ≤ Ms.length → fr (fun g => g = 21) z z1 → (∀ i, i < k → z1.2.1 21 i = z.2.1 21 i) → (∀ i, k < i → i ≤ Ms.length → z1.2.1 21 i = z.2.1 21 (i - 1)) → Tt (fun K i => q_X13_offerList K i 4 (nI lo) x2 (nI k) z1) Q := by
    intro lo x2 hlo s1' s2 d
    induction d with
    | zero =>
      intro k z1 hk hkL hf o1 o3
      have e22 : z1.1 22 = nI Ms.length := by rw [(hf 22 (by omega)).1]; exact h22
      refine u_X13_offerList_4 ?_; unfold qm_X13_offerList_4
      refine w_leT (by omega) (by omega) (w_rdF e22 (w_wrI ml21 rfl (by omega) (c5 lo _ _ hlo s1' s2 (F.length + 1) 0 _ (by omega) (fr_I2 (fr_mono (fun g hg => by omega) hf) (by omega)) (fun i hi => rd_ne (by omega) (o1 i (by omega))) po_usI_at (fun i h1 h2 => rd_ne (by omega) (o3 i (by omega) h2)) (fun i hi => by omega) (fun i hi => ?_))))
      rw [po_usI_ot (by omega), (hf 20 (by omega)).2.1]
    | succ d ih =>
      intro k z1 hk hkL hf o1 o3
      refine u_X13_offerList_4 ?_; unfold qm_X13_offerList_4
      rw [show nI k - 1 = nI (k - 1) from pk_sub (b := 1) (by omega), show nI k + -1 = nI (k - 1) from by
        obtain ⟨k9, rfl⟩ : ∃ k9, k = k9 + 1 := ⟨k - 1, by omega⟩
        rw [pk_m1]
        rfl]
      refine w_leF (by omega) (by omega) (w_rdI ml21 rfl (by omega) (o1 (k - 1) (by omega)) (w_wrI ml21 rfl (by omega) (ih (k - 1) _ (by omega) (by omega) (fr_I2 hf rfl) (fun i hi => rd_ne (by omega) (o1 i (by omega))) (fun i h1 h2 => ?_))))
      by_cases hik : i = k
      · rw [hik, po_usI_at]
      · exact rd_ne hik (o3 i (by omega) h2)
  have c3 : ∀ (lo : Nat) (x2 : Int32), lo ≤ Ms.length → (∀ k r, k < lo → Ms[k]? = some r → lsr r F = true) → (∀ k r, lo ≤ k → Ms[k]? = some r → lsr F r = true) → Tt (fun K i => q_X13_offerList K i 3 (nI lo) x2 0 z) Q := by
    intro lo x2 hlo s1' s2
    refine u_X13_offerList_3 ?_; unfold qm_X13_offerList_3
    exact w_rdF h22 (c4 lo x2 hlo s1' s2 (Ms.length - lo) Ms.length z (by omega) (Nat.le_refl _) fr_rf (fun i _ => rfl) (fun i h1 h2 => by omega))
  -- the search ends
  have fin : ∀ (lo hi : Nat), lo = hi → hi ≤ Ms.length → (∀ k r, k < lo → Ms[k]? = some r → lsr r F = true) → (∀ k r, hi ≤ k → Ms[k]? = some r → lsr r F = false) → Tt (fun K i => rdF z 22 fun v2 => (if v2 ≤ nI lo then q_X13_offerList K i 3 (nI lo) (nI hi) 0 z else rdI mX z 21 (nI lo) fun v3 => cs1 (qe_X13_isSame K 27 0 20 (32 * v3) z) fun v5 z4 => (if v5 = 0 then q_X13_offerList K i 3 (nI lo) (nI hi) 0 z4 else some z4))) Q := by
    intro lo hi hlh hhL s1' s2
    subst hlh
    refine w_rdF h22 (w_le (by omega) (by omega) (fun h9 => c3 _ _ (by omega) s1' (fun k r hk e => ?_)) (fun h9 => ?_))
    · have := (List.getElem?_eq_some_iff.mp e).1
      omega
    · obtain ⟨r, hr⟩ : ∃ r, Ms[lo]? = some r := ⟨_, List.getElem?_eq_getElem h9⟩
      obtain ⟨j, hj, e, hw⟩ := ho lo r hr
      refine w_rdI ml21 rfl (by omega) e ?_
      rw [show (32 : Int32) * nI j = nI (32 * j) from pk_mul 32 j]
      refine w_cs1 (tr_same (o := 0) ml27 ml20 (by omega) (by omega) (by omega) (by omega) hF hw) (fun a z1 e => ?_)
      cases e
      by_cases eF : F = r
      · rw [decide_eq_true eF]
        refine w_ifF (by decide) (w_some ⟨⟨Ms, hP, by omega, fun q => ⟨Or.inr, fun h8 => h8.elim (fun h7 => ?_) id⟩⟩, fr_rf⟩)
        rw [h7, eF]
        exact List.mem_of_getElem? hr
      · rw [decide_eq_false eF]
        refine w_ifT rfl (c3 _ _ (by omega) s1' (fun k q hk ek => ?_))
        by_cases ekl : k = lo
        · rw [ekl, hr] at ek
          cases ek
          exact lsr_tri (s2 lo _ (Nat.le_refl _) hr) eF
        · have h7 := lsr_tri (s2 lo _ (Nat.le_refl _) hr) eF
          exact lsr_tr h7 (pw_get hpw hr ek (by omega))
  have srch : ∀ (u lo hi : Nat), hi - lo ≤ u → lo ≤ hi → hi ≤ Ms.length → (∀ k r, k < lo → Ms[k]? = some r → lsr r F = true) → (∀ k r, hi ≤ k → Ms[k]? = some r → lsr r F = false) → Tt (fun K i => q_X13_offerList K i 1 (nI lo) (nI hi) 0 z) Q := by
    intro u
    induction u with
    | zero =>
      intro lo hi hu hlh hhL s1' s2
      refine u_X13_offerList_1 ?_; unfold qm_X13_offerList_1
      exact w_leT (by omega) (by omega) (fin lo hi (by omega) hhL s1' s2)
    | succ u ih =>
      intro lo hi hu hlh hhL s1' s2
      refine u_X13_offerList_1 ?_; unfold qm_X13_offerList_1
      refine w_le (by omega) (by omega) (fun hle => fin lo hi (by omega) hhL s1' s2) (fun hlt => w_nzI (by decide) ?_)
      rw [nI_add, show nI (lo + hi) / 2 = nI ((lo + hi) / 2) from pk_div (d := 2) (by omega) (by omega) (by omega)]
      obtain ⟨r, hr⟩ : ∃ r, Ms[(lo + hi) / 2]? = some r := ⟨_, List.getElem?_eq_getElem (by omega)⟩
      obtain ⟨j, hj, e, hw⟩ := ho _ r hr
      have hwl := hw.1
      refine w_rdI ml21 rfl (by omega) e ?_
      rw [show (32 : Int32) * nI j = nI (32 * j) from pk_mul 32 j]
      refine w_cs1 (tr_lesser (p := 0) ml20 ml27 (by omega) (by omega) (by omega) (by omega) hw hF) (fun a z1 e => ?_)
      cases e
      cases el : lsr r F with
      | false =>
        refine w_ifT rfl ?_
        refine u_X13_offerList_2 ?_; unfold qm_X13_offerList_2
        refine ih lo ((lo + hi) / 2) (by omega) (by omega) (by omega) s1' (fun k q hk ek => ?_)
        by_cases ekm : k = (lo + hi) / 2
        · rw [ekm, hr] at ek
          cases ek
          exact el
        · cases e9 : lsr q F with
          | false => rfl
          | true =>
            have := lsr_tr (pw_get hpw hr ek (by omega)) e9
            rw [el] at this
            cases this
      | true =>
        refine w_ifF (by decide) ?_
        refine u_X13_offerList_2 ?_; unfold qm_X13_offerList_2
        rw [nI_1]
        refine ih ((lo + hi) / 2 + 1) hi (by omega) (by omega) (by omega) (fun k q hk ek => ?_) s2
        by_cases ekm : k = (lo + hi) / 2
        · rw [ekm, hr] at ek
          cases ek
          exact el
        · exact lsr_tr (pw_get hpw ek hr (by omega)) el
  refine e_X13_offerList ?_
  refine u_X13_offerList_0 ?_; unfold qm_X13_offerList_0
  exact w_rdF h22 (srch Ms.length 0 Ms.length (by omega) (by omega) (Nat.le_refl _) (fun k r hk => by omega) (fun k r hk e => by
    have := (List.getElem?_eq_some_iff.mp e).1
    omega))
end
section
/-! 99zzzzzzzzzzw.xof2 -/
/-! the list takes offers; without: a crossing, or two, taken out -/
def snk0 (X : (Nat → Nat → Int32) → Prop) (z : ow_MS) (S : List Nat → Prop) (n : Nat) : Prop := gI X z ∧ z.1 30 = 0 ∧ ∃ Ms, lsW z Ms ∧ (∀ r, S r ↔ r ∈ Ms) ∧ Ms.length ≤ n
theorem lsW_fr {P : Nat → Prop} {z z1 : ow_MS} {Ms : List (List Nat)} (hf : fr P z z1) (hP : ¬ P 20 ∧ ¬ P 21 ∧ ¬ P 22) (h : lsW z Ms) : lsW z1 Ms := by
  obtain ⟨h1, h2, h3, h4, h5⟩ := h
  refine ⟨h1, by rw [(hf 22 hP.2.2).1]; exact h2, fun k r hk => ?_, fun j hj => dRow_fr hf hP.1 (h4 j hj), h5⟩
  obtain ⟨j, j1, j2, j3⟩ := h3 k r hk
  exact ⟨j, j1, by rw [(hf 21 hP.2.1).2.1]; exact j2, rc_fr hf hP.1 j3⟩
theorem snk0_ok {X : (Nat → Nat → Int32) → Prop} : snkF (snk0 X) := by
  refine ⟨fun P z z1 S n hf hP h => ?_, fun z S n A sg hn h hA hG hF h24 h6 => ?_, fun z S n n' hn h => ?_⟩
  · obtain ⟨h1, h2, Ms, h3, h4, h5⟩ := h
    refine ⟨gI_fr hf (fun g hg => by have := hP g hg; unfold per; omega) h1, by rw [(hf 30 (fun h9 => by have := hP _ h9; omega)).1]; exact h2, Ms, lsW_fr hf ⟨fun h9 => by have := hP _ h9; omega, fun h9 => by have := hP _ h9; omega, fun h9 => by have := hP _ h9; omega⟩ h3, h4, h5⟩
  · obtain ⟨h1, h2, Ms, h3, h4, h5⟩ := h
    refine e_X13_offer ?_; unfold qm_X13_offer_0
    refine w_cs0 (tr_pack (o := 0) pn3 (by omega) ml27 (by omega) (by omega) (by omega) (by omega) hF hA hG) (fun z1 ⟨m, P, g1, g2, g3, g4, _, _⟩ => ?_)
    have i1 : gI X z1 := gI_fr g3 (fun g hg => by unfold frQ at hg; unfold per; omega) h1
    have i2 : z1.1 30 = 0 := by rw [(g3 30 (by unfold frQ; omega)).1]; exact h2
    have i3 : lsW z1 Ms := lsW_fr g3 (by unfold frQ; omega) h3
    refine w_rdF i2 (w_ifF (by decide) (w_ifT rfl (w_cs0 (xm_offerList (by omega) i3 g2 (dRow_pack hF g1 h24 h6 g2)) (fun z2 ⟨⟨Ms', k1, k2, k3⟩, k4⟩ => w_some ⟨⟨fun r => r = pkR A sg m P ∨ S r, ⟨fun r hr => Or.inr hr, fun r hr => ?_, fun A' sg' ⟨e1, e2⟩ => ?_⟩, ?_, ?_, Ms', k1, fun r => ?_, by omega⟩, ?_⟩))))
    · rcases hr with hr | hr
      · exact Or.inr ⟨A, sg, ⟨rfl, rfl⟩, m, P, g1, hr⟩
      · exact Or.inl hr
    · rw [e1, e2]
      exact ⟨_, Or.inl rfl, m, P, g1, rfl⟩
    · obtain ⟨j1, j2, j3, j4, j5, j6, j7⟩ := i1
      refine ⟨gTape_fr k4 (by omega) j1, gRows_fr k4 (by omega) j2, ⟨Ms'.length, k1.1, k1.2.1, fun k hk => ?_, k1.2.2.2.1⟩, gSum_fr k4 (by omega) (by omega) (by omega) j4, gCash_fr k4 (by omega) (by omega) (by omega) (by omega) (by omega) j5, gBrs_fr k4 (by omega) (by omega) (by omega) j6, gX_fr k4 (fun g hg => by omega) j7⟩
      obtain ⟨j, q1, q2, -⟩ := k1.2.2.1 k _ (List.getElem?_eq_getElem hk)
      exact ⟨j, q1, q2⟩
    · rw [(k4 30 (by omega)).1]
      exact i2
    · show (r = pkR A sg m P ∨ S r) ↔ _
      rw [k3, h4]
    · exact fr_tr (fr_mono (fun g hg => by unfold frQ at hg; unfold frO; omega) g3) (fr_mono (fun g hg => Or.inl (by omega)) k4)
  · obtain ⟨h1, h2, Ms, h3, h4, h5⟩ := h
    exact ⟨h1, h2, Ms, h3, h4, by omega⟩
/-- two crossings taken out of a list -/
def woA (x y : Nat) (A : rn_L) : rn_L := A.map (fun L => L.filter (fun p => decide (p.1 ≠ x) && decide (p.1 ≠ y)))
theorem woA_fl (x y : Nat) : ∀ A : rn_L, (woA x y A).flatten = A.flatten.filter (fun p => decide (p.1 ≠ x) && decide (p.1 ≠ y))
  | [] => rfl
  | L :: A => by
    have := woA_fl x y A
    show L.filter _ ++ (woA x y A).flatten = _
    rw [this, List.flatten_cons, List.filter_append]
theorem woA_wk {x y : Nat} {A : rn_L} (h : wkF A.flatten) : wkF (woA x y A).flatten := by
  rw [woA_fl]
  refine ⟨h.1.filter _, fun p hp => ?_⟩
  obtain ⟨h1, h2⟩ := List.mem_filter.mp hp
  obtain ⟨a, b, c⟩ := h.2 p h1
  exact ⟨a, b, List.mem_filter.mpr ⟨c, h2⟩⟩
section XWO
variable {Φ : ow_MS → (List Nat → Prop) → Nat → Prop} {n L : Nat} {z : ow_MS} {A : rn_L} {sg : Nat → Bool} {S : List Nat → Prop}
theorem xr_without {x y : Nat} (hΦ : snkF Φ) (hn : mw_net n) (hn3 : n ≠ 3000) (hx : x < 40) (hy : y < 40) (hL : L < 2700) (hO : oNet z n A sg) (h : Φ z S L) : Te (fun K => qe_X13_without K n (nI x) (nI y) z) (fun z1 => (∃ S', adS S S' (fun A' sg' => A' = woA x y A ∧ sg' = sg) ∧ Φ z1 S' (L + 1)) ∧ fr frB z z1) := by
  have hmn := net_mod hn
  have hl := hO.len
  have hC := hO.2.2.2
  let Q : ow_MS → Prop := fun z1 => (∃ S', adS S S' (fun A' sg' => A' = woA x y A ∧ sg' = sg) ∧ Φ z1 S' (L + 1)) ∧ fr frB z z1
  refine e_X13_without ?_
  refine u_X13_without_0 ?_; unfold qm_X13_without_0
  refine w_cs0 (tn_clear pn3) (fun z3 ⟨b3, f3⟩ => w_cs0 (tn_signs pn3 hn (fun e => hn3 e.symm)) (fun z4 ⟨f4, s4⟩ => ?_))
  let I : ow_MS → Prop := fun y => fr (fun g => 3001 ≤ g ∧ g ≤ 3006) z y ∧ ∀ x, x < 40 → y.2.1 3006 x = z.2.1 (n + 6) x
  have oI : ∀ {y : ow_MS}, I y → oNet y n A sg := fun hI => oNet_fr hI.1 (fun g hg => by omega) hO
  have stI : ∀ {P : Nat → Prop} {y y2 : ow_MS}, I y → fr P y y2 → (∀ g, P g → 3001 ≤ g ∧ g ≤ 3005) → I y2 := fun hI hf hP => ⟨fr_tr hI.1 (fr_mono (fun g hg => by have := hP g hg; omega) hf), fun x hx => by rw [(hf 3006 (fun h9 => by have := hP _ h9; omega)).2.1]; exact hI.2 x hx⟩
  have lenT : ∀ (c : Nat), (woA x y (A.take c)).flatten.length ≤ rn_b A c := fun c => by
    rw [woA_fl]
    exact List.length_filter_le _ _
  have out : ∀ (k c : Nat) (y1 : ow_MS), c + k = A.length → I y1 → rn_At y1 3000 (woA x y (A.take c)) [] → Tt (fun K i => q_X13_without K i 1 (nI x) (nI y) (nI c) 0 n y1) Q := by
    intro k
    induction k with
    | zero =>
      intro c y1 hc hI hb
      have hce : c = A.length := by omega
      rw [hce, List.take_length] at hb
      have hlw : (woA x y A).flatten.length ≤ A.flatten.length := by
        rw [woA_fl]
        exact List.length_filter_le _ _
      have sgY : rn_sg y1 3000 (woA x y A).flatten sg := fun p hp => by
        rw [woA_fl] at hp
        have hp1 := (List.mem_filter.mp hp).1
        have h40 := (hO.wk.2 p hp1).1
        show y1.2.1 3006 p.1 = _
        rw [hI.2 _ h40]
        exact hO.2.1 p hp1
      refine u_X13_without_1 ?_; unfold qm_X13_without_1
      refine w_rdF (lk_C (oI hI).1) (w_leT (by omega) (by omega) (w_cs0 (hΦ.2.1 y1 S L (woA x y A) sg hL (hΦ.1 _ _ _ _ _ hI.1 (fun g hg => by omega) h) hb sgY (woA_wk hO.wk) (by omega) (by unfold woA; rw [List.length_map]; omega)) (fun y2 ⟨g1, g2⟩ => w_some ⟨g1, fr_tr (fr_mono (fun g hg => Or.inr (by omega)) hI.1) (fr_mono (fun g hg => by unfold frO at hg; unfold frB; omega) g2)⟩)))
    | succ k ih =>
      intro c y1 hc hI hb
      have hcA : c < A.length := by omega
      have m1 := rn_b_mono A c
      have m2 := rn_b_le A (c + 1)
      have hlT := lenT c
      have inn : ∀ (k i : Nat) (y1 : ow_MS), i + k = rn_b A (c + 1) → rn_b A c ≤ i → I y1 → rn_At y1 3000 (woA x y (A.take c)) (((A.getD c []).take (i - rn_b A c)).filter (fun p => decide (p.1 ≠ x) && decide (p.1 ≠ y))) → Tt (fun K i9 => q_X13_without K i9 2 (nI x) (nI y) (nI c) (nI i) n y1) Q := by
        intro k
        induction k with
        | zero =>
          intro i y1 hi hlo hI hb
          have hie : i = rn_b A (c + 1) := by omega
          rw [hie] at hb ⊢
          rw [cmp_all hcA] at hb
          refine u_X13_without_2 ?_; unfold qm_X13_without_2
          rw [nI_1]
          refine w_rdI (pl3 hn) rfl (by omega) (lk_b (oI hI).1 (by omega)) (w_leT (by omega) (Nat.le_refl _) (w_cs0 (tn_end pn3 hb (by unfold woA; rw [List.length_map, List.length_take]; omega)) (fun y2 ⟨g1, g2⟩ => ih (c + 1) y2 (by omega) (stI hI g2 (fun g hg => by omega)) ?_)))
          rw [tk_snoc hcA]
          unfold woA at g1 ⊢
          rw [List.map_append]
          exact g1
        | succ k ihk =>
          intro i y1 hi hlo hI hb
          have hil : i < A.flatten.length := by omega
          have hat := cmp_at hcA hlo (show i < rn_b A (c + 1) by omega)
          have hc12 := (hO.cx hil).1
          have e4 := (lk_cu (oI hI).1 hil).1
          have skip : (crs A i = x ∨ crs A i = y) → Tt (fun K i9 => q_X13_without K i9 3 (nI x) (nI y) (nI c) (nI i) n y1) Q := by
            intro hxy
            refine u_X13_without_3 ?_; unfold qm_X13_without_3
            rw [nI_1]
            refine ihk (i + 1) y1 (by omega) (by omega) hI ?_
            rw [show i + 1 - rn_b A c = (i - rn_b A c) + 1 by omega, take_s hat, List.filter_append]
            have : [vAt A i].filter (fun p => decide (p.1 ≠ x) && decide (p.1 ≠ y)) = [] := by
              have e9 : (decide ((vAt A i).1 ≠ x) && decide ((vAt A i).1 ≠ y)) = false := by
                rcases hxy with h9 | h9
                · have h9 : (vAt A i).1 = x := h9
                  rw [h9, decide_eq_false (fun h8 => h8 rfl)]
                  rfl
                · have h9 : (vAt A i).1 = y := h9
                  rw [h9, decide_eq_false (p := y ≠ y) (fun h8 => h8 rfl), Bool.and_false]
              rw [List.filter_cons, e9]
              rfl
            rw [this, List.append_nil]
            exact hb
          refine u_X13_without_2 ?_; unfold qm_X13_without_2
          rw [nI_1]
          refine w_rdI (pl3 hn) rfl (by omega) (lk_b (oI hI).1 (by omega)) (w_leF (by omega) (by omega) (w_rdI (pl4 hn) rfl (by omega) e4 (w_eqN (by omega) (by omega) (fun h9 => skip (Or.inl h9)) (fun h9 => w_rdI (pl4 hn) rfl (by omega) e4 (w_eqN (by omega) (by omega) (fun h8 => skip (Or.inr h8)) (fun h8 => w_rdI (pl4 hn) rfl (by omega) e4 (w_rdI (pl5 hn) rfl (by omega) (lk_cu (oI hI).1 hil).2 (w_cs0 (tn_add (x := crs A i) (u := uns A i) pn3 hb ?_) (fun y2 ⟨g1, g2⟩ => ?_)))))))))
          · rw [List.length_append]
            have q1 : (((A.getD c []).take (i - rn_b A c)).filter (fun p => decide (p.1 ≠ x) && decide (p.1 ≠ y))).length ≤ i - rn_b A c := Nat.le_trans (List.length_filter_le _ _) (by rw [List.length_take]; omega)
            omega
          · refine u_X13_without_3 ?_; unfold qm_X13_without_3
            rw [nI_1]
            refine ihk (i + 1) y2 (by omega) (by omega) (stI hI g2 (fun g hg => by omega)) ?_
            rw [show i + 1 - rn_b A c = (i - rn_b A c) + 1 by omega, take_s hat, List.filter_append]
            have : [vAt A i].filter (fun p => decide (p.1 ≠ x) && decide (p.1 ≠ y)) = [(crs A i, uns A i)] := by
              have e9 : (decide ((vAt A i).1 ≠ x) && decide ((vAt A i).1 ≠ y)) = true := by
                rw [decide_eq_true (show (vAt A i).1 ≠ x from h9), decide_eq_true (show (vAt A i).1 ≠ y from h8)]
                rfl
              rw [List.filter_cons, e9]
              rfl
            rw [this]
            exact g1
      refine u_X13_without_1 ?_; unfold qm_X13_without_1
      refine w_rdF (lk_C (oI hI).1) (w_leF (by omega) (by omega) (w_rdI (pl3 hn) rfl (by omega) (lk_b (oI hI).1 (by omega)) (inn (rn_b A (c + 1) - rn_b A c) (rn_b A c) y1 (by omega) (Nat.le_refl _) hI ?_)))
      rw [Nat.sub_self, List.take_zero]
      exact hb
  refine out A.length 0 z4 (by omega) ⟨fr_tr (fr_mono (fun g hg => by omega) f3) (fr_mono (fun g hg => by omega) f4), fun x hx => ?_⟩ (fr_At f4 (fun g hg => by omega) b3)
  rw [show z4.2.1 3006 x = z3.2.1 (n + 6) x from s4 x hx, (f3 (n + 6) (by omega)).2.1]
end XWO
end
section
/-! 99zzzzzzzzzzx.xk02 -/
/-! exact: moves of kinds 0 and 2 of the reference -/
def O0 (A : rn_L) (sg : Nat → Bool) (k : Nat) (A' : rn_L) (sg' : Nat → Bool) : Prop := sg' = sg ∧ ∃ v, v < k ∧ rn_nx A v = mtf A v ∧ A' = woA (crs A v) (crs A v) A
def tw2 (A : rn_L) (sg : Nat → Bool) (v : Nat) : Prop := uns A v = 0 ∧ uns A (rn_nx A v) = 0 ∧ crs A v ≠ crs A (rn_nx A v) ∧ sg (crs A v) ≠ sg (crs A (rn_nx A v)) ∧ (rn_nx A (mtf A v) = mtf A (rn_nx A v) ∨ rn_nx A (mtf A (rn_nx A v)) = mtf A v)
def O2 (A : rn_L) (sg : Nat → Bool) (k : Nat) (A' : rn_L) (sg' : Nat → Bool) : Prop := sg' = sg ∧ ∃ v, v < k ∧ tw2 A sg v ∧ A' = woA (crs A v) (crs A (rn_nx A v)) A
section XK0
variable {Φ : ow_MS → (List Nat → Prop) → Nat → Prop} {n L : Nat} {z : ow_MS} {A : rn_L} {sg : Nat → Bool} {S : List Nat → Prop}
theorem sg_ne {b c : Bool} : ((if b = true then (-1 : Int32) else 1) = (if c = true then -1 else 1)) ↔ b = c := by
  cases b <;> cases c <;> decide
theorem exs_s {P : Nat → Prop} {v : Nat} : (∃ i, i < v + 1 ∧ P i) ↔ (∃ i, i < v ∧ P i) ∨ P v := by
  constructor
  · rintro ⟨i, h1, h2⟩
    by_cases e : i = v
    · rw [e] at h2
      exact Or.inr h2
    · exact Or.inl ⟨i, by omega, h2⟩
  · rintro (⟨i, h1, h2⟩ | h)
    · exact ⟨i, by omega, h2⟩
    · exact ⟨v, by omega, h⟩
theorem xr_k0 (hΦ : snkF Φ) (hn : mw_net n) (hn3 : n ≠ 3000) (hL : L + 24 ≤ 2700) (hO : oNet z n A sg) (h : Φ z S L) : Te (fun K => qe_X13_tryMoves K n (nI 0) z) (fun z1 => (∃ S', adS S S' (O0 A sg A.flatten.length) ∧ Φ z1 S' (L + 24)) ∧ fr frC z z1) := by
  have hl := hO.len
  have hd := wkF_ok hO.wk
  let Q : ow_MS → Prop := fun z1 => (∃ S', adS S S' (O0 A sg A.flatten.length) ∧ Φ z1 S' (L + 24)) ∧ fr frC z z1
  have l1 : ∀ (k v : Nat) (y : ow_MS), v + k = A.flatten.length → fr frC z y → (∃ S1, adS S S1 (O0 A sg v) ∧ Φ y S1 (L + v)) → Tt (fun K i => q_X13_tryMoves K i 1 (nI 0) (nI v) n y) Q := by
    intro k
    induction k with
    | zero =>
      intro v y hv hf ⟨S1, a1, a2⟩
      have hve : v = A.flatten.length := by omega
      rw [hve] at a1
      have o2 := oNet_C hn hn3 hf hO
      refine u_X13_tryMoves_1 ?_; unfold qm_X13_tryMoves_1
      exact w_rdF o2.1.V (w_leT (by omega) (by omega) (w_some ⟨⟨S1, a1, hΦ.2.2 _ _ _ _ (by omega) a2⟩, hf⟩))
    | succ k ih =>
      intro v y hv hf ⟨S1, a1, a2⟩
      have o2 := oNet_C hn hn3 hf hO
      have hvl : v < A.flatten.length := by omega
      have hnl := rn_nx_lt (A := A) hvl
      have hm1 := mtf_lt hd hvl
      have x1 := (o2.cx hvl).1
      have c2 : ∀ (y2 : ow_MS), fr frC z y2 → (∃ S2, adS S S2 (O0 A sg (v + 1)) ∧ Φ y2 S2 (L + (v + 1))) → Tt (fun K i => q_X13_tryMoves K i 2 (nI 0) (nI v) n y2) Q := by
        intro y2 hf2 ho2
        refine u_X13_tryMoves_2 ?_; unfold qm_X13_tryMoves_2
        rw [nI_1]
        exact ih (v + 1) y2 (by omega) hf2 ho2
      refine u_X13_tryMoves_1 ?_; unfold qm_X13_tryMoves_1
      refine w_rdF o2.1.V (w_leF (by omega) hvl (w_rdI (pl9 hn) rfl (by omega) (lk_n o2.1 hvl) (w_rdI (pl7 hn) rfl (by omega) (lk_m hd o2.1 hvl) (w_eqN (by omega) (by omega) (fun h9 => w_rdI (pl4 hn) rfl (by omega) (lk_cu o2.1 hvl).1 (w_rdI (pl4 hn) rfl (by omega) (lk_cu o2.1 hvl).1 (w_cs0 (xr_without hΦ hn hn3 (by omega) (by omega) (by omega) o2 a2) (fun y2 ⟨⟨S2, k0, k1⟩, k2⟩ => c2 y2 (fr_tr hf (fr_mono (fun g hg => by unfold frB at hg; unfold frC; omega) k2)) ⟨S2, adS_eq (adS_tr a1 k0) (fun A' sg' => ?_), hΦ.2.2 _ _ _ _ (by omega) k1⟩)))) (fun h9 => c2 y hf ⟨S1, adS_eq a1 (fun A' sg' => ?_), hΦ.2.2 _ _ _ _ (by omega) a2⟩)))))
      · unfold O0
        rw [exs_s]
        constructor
        · rintro (⟨e, h8⟩ | ⟨e1, e2⟩)
          · exact ⟨e, Or.inl h8⟩
          · exact ⟨e2, Or.inr ⟨h9, e1⟩⟩
        · rintro ⟨e, h8 | ⟨-, h8⟩⟩
          · exact Or.inl ⟨e, h8⟩
          · exact Or.inr ⟨h8, e⟩
      · unfold O0
        rw [exs_s]
        constructor
        · rintro ⟨e, h8⟩
          exact ⟨e, Or.inl h8⟩
        · rintro ⟨e, h8 | ⟨h8, -⟩⟩
          · exact ⟨e, h8⟩
          · exact absurd h8 h9
  refine e_X13_tryMoves ?_
  refine u_X13_tryMoves_0 ?_; unfold qm_X13_tryMoves_0
  refine w_ifF (by decide) (w_ifT rfl (l1 _ 0 z (Nat.zero_add _) fr_rf ⟨S, ?_, h⟩))
  refine adS_eq adS_rf (fun A' sg' => ⟨fun h9 => h9.elim, fun ⟨_, i, h9, _⟩ => absurd h9 (Nat.not_lt_zero _)⟩)
theorem xr_twoGo (hΦ : snkF Φ) (hn : mw_net n) (hn3 : n ≠ 3000) (hL : L + 24 ≤ 2700) (hO : oNet z n A sg) (h : Φ z S L) : Te (fun K => qe_X13_twoGo K n z) (fun z1 => (∃ S', adS S S' (O2 A sg A.flatten.length) ∧ Φ z1 S' (L + 24)) ∧ fr frC z z1) := by
  have hl := hO.len
  have hd := wkF_ok hO.wk
  let Q : ow_MS → Prop := fun z1 => (∃ S', adS S S' (O2 A sg A.flatten.length) ∧ Φ z1 S' (L + 24)) ∧ fr frC z z1
  have key : ∀ (k v : Nat) (y : ow_MS), v + k = A.flatten.length → fr frC z y → (∃ S1, adS S S1 (O2 A sg v) ∧ Φ y S1 (L + v)) → Tt (fun K i => q_X13_twoGo K i 1 (nI v) 0 0 0 n y) Q := by
    intro k
    induction k with
    | zero =>
      intro v y hv hf ⟨S1, a1, a2⟩
      have hve : v = A.flatten.length := by omega
      rw [hve] at a1
      have o2 := oNet_C hn hn3 hf hO
      refine u_X13_twoGo_1 ?_; unfold qm_X13_twoGo_1
      exact w_rdF o2.1.V (w_leT (by omega) (by omega) (w_some ⟨⟨S1, a1, hΦ.2.2 _ _ _ _ (by omega) a2⟩, hf⟩))
    | succ k ih =>
      intro v y hv hf ⟨S1, a1, a2⟩
      have o2 := oNet_C hn hn3 hf hO
      have hvl : v < A.flatten.length := by omega
      have hnl := rn_nx_lt (A := A) hvl
      have hm1 := mtf_lt hd hvl
      have hm2 := mtf_lt hd hnl
      have hnm1 := rn_nx_lt (A := A) hm1
      have hnm2 := rn_nx_lt (A := A) hm2
      obtain ⟨x1, xu, -⟩ := o2.cx hvl
      obtain ⟨x2, xu2, -⟩ := o2.cx hnl
      have u1 : uns A v < 2 := (hO.wk.2 _ (vAt_mem hvl)).2.1
      have u2 : uns A (rn_nx A v) < 2 := (hO.wk.2 _ (vAt_mem hnl)).2.1
      have c3 : ∀ (y2 : ow_MS) (a b c : Int32), fr frC z y2 → (∃ S2, adS S S2 (O2 A sg (v + 1)) ∧ Φ y2 S2 (L + (v + 1))) → Tt (fun K i => q_X13_twoGo K i 3 (nI v) a b c n y2) Q := by
        intro y2 a b c hf2 ho2
        refine u_X13_twoGo_3 ?_; unfold qm_X13_twoGo_3
        rw [nI_1]
        exact ih (v + 1) y2 (by omega) hf2 ho2
      have c2 : tw2 A sg v → ∀ (a b : Int32), Tt (fun K i => q_X13_twoGo K i 2 (nI v) (nI (rn_nx A v)) a b n y) Q := by
        intro htw a b
        refine u_X13_twoGo_2 ?_; unfold qm_X13_twoGo_2
        refine w_rdI (pl4 hn) rfl (by omega) (lk_cu o2.1 hvl).1 (w_rdI (pl4 hn) rfl (by omega) (lk_cu o2.1 hnl).1 (w_cs0 (xr_without hΦ hn hn3 (by omega) (by omega) (by omega) o2 a2) (fun y2 ⟨⟨S2, k0, k1⟩, k2⟩ => c3 y2 _ _ _ (fr_tr hf (fr_mono (fun g hg => by unfold frB at hg; unfold frC; omega) k2)) ⟨S2, adS_eq (adS_tr a1 k0) (fun A' sg' => ?_), hΦ.2.2 _ _ _ _ (by omega) k1⟩)))
        unfold O2
        rw [exs_s]
        constructor
        · rintro (⟨e, h8⟩ | ⟨e1, e2⟩)
          · exact ⟨e, Or.inl h8⟩
          · exact ⟨e2, Or.inr ⟨htw, e1⟩⟩
        · rintro ⟨e, h8 | ⟨-, h8⟩⟩
          · exact Or.inl ⟨e, h8⟩
          · exact Or.inr ⟨h8, e⟩
      have c33 : ¬ tw2 A sg v → ∀ a b c : Int32, Tt (fun K i => q_X13_twoGo K i 3 (nI v) a b c n y) Q := fun hno a b c => c3 y a b c hf ⟨S1, adS_eq a1 (fun A' sg' => by
        unfold O2
        rw [exs_s]
        constructor
        · rintro ⟨e, h8⟩
          exact ⟨e, Or.inl h8⟩
        · rintro ⟨e, h8 | ⟨h8, -⟩⟩
          · exact ⟨e, h8⟩
          · exact absurd h8 hno), hΦ.2.2 _ _ _ _ (by omega) a2⟩
      have e4 := (lk_cu o2.1 hvl).1
      have e4n := (lk_cu o2.1 hnl).1
      have e6 : y.2.1 (n + 6) (crs A v) = if sg (crs A v) = true then -1 else 1 := o2.2.1 _ (vAt_mem hvl)
      have e6n : y.2.1 (n + 6) (crs A (rn_nx A v)) = if sg (crs A (rn_nx A v)) = true then -1 else 1 := o2.2.1 _ (vAt_mem hnl)
      refine u_X13_twoGo_1 ?_; unfold qm_X13_twoGo_1
      exact w_rdF o2.1.V (w_leF (by omega) hvl (w_rdI (pl9 hn) rfl (by omega) (lk_n o2.1 hvl) (w_rdI (pl5 hn) rfl (by omega) (lk_cu o2.1 hvl).2 (w_eqN (b := 0) (by omega) (by omega) (fun h1 => w_rdI (pl5 hn) rfl (by omega) (lk_cu o2.1 hnl).2 (w_eqN (b := 0) (by omega) (by omega) (fun h2 => w_rdI (pl4 hn) rfl (by omega) e4 (w_rdI (pl4 hn) rfl (by omega) e4n (w_eqN (by omega) (by omega) (fun h3 => c33 (fun h9 => h9.2.2.1 h3) _ _ _) (fun h3 => w_rdI (pl4 hn) rfl (by omega) e4 (w_rdI (pl6 hn) rfl (by omega) e6 (w_rdI (pl4 hn) rfl (by omega) e4n (w_rdI (pl6 hn) rfl (by omega) e6n (w_if (fun h4 => c33 (fun h9 => h9.2.2.2.1 (sg_ne.mp h4)) _ _ _) (fun h4 => w_rdI (pl7 hn) rfl (by omega) (lk_m hd o2.1 hvl) (w_rdI (pl7 hn) rfl (by omega) (lk_m hd o2.1 hnl) (w_rdI (pl9 hn) rfl (by omega) (lk_n o2.1 hm1) (w_eqN (by omega) (by omega) (fun h5 => c2 ⟨h1, h2, h3, fun h8 => h4 (sg_ne.mpr h8), Or.inl h5⟩ _ _) (fun h5 => w_rdI (pl9 hn) rfl (by omega) (lk_n o2.1 hm2) (w_eqN (by omega) (by omega) (fun h6 => c2 ⟨h1, h2, h3, fun h8 => h4 (sg_ne.mpr h8), Or.inr h6⟩ _ _) (fun h6 => c33 (fun h9 => h9.2.2.2.2.elim h5 h6) _ _ _)))))))))))))) ) (fun h2 => c33 (fun h9 => h2 h9.2.1) _ _ _))) (fun h1 => c33 (fun h9 => h1 h9.1) _ _ _)))))
  refine e_X13_twoGo ?_
  refine u_X13_twoGo_0 ?_; unfold qm_X13_twoGo_0
  refine key _ 0 z (Nat.zero_add _) fr_rf ⟨S, ?_, h⟩
  exact adS_eq adS_rf (fun A' sg' => ⟨fun h9 => h9.elim, fun ⟨_, i, h9, _⟩ => absurd h9 (Nat.not_lt_zero _)⟩)
end XK0
end
section
/-! 99zzzzzzzzzzy.xbld -/
/-! exact: build: visits put into gaps -/
/-- what is put into the gaps g and h -/
def insG (g h : Nat) (P0 P1 : List vT) (gp : Nat) : List vT := (if gp = g then P0 else []) ++ (if gp = h then P1 else [])
def bldC (A : rn_L) (f : Nat → List vT) (c : Nat) : List vT := (if rn_b A c = rn_b A (c + 1) then f (A.flatten.length + c) else []) ++ (List.range' (rn_b A c) (rn_b A (c + 1) - rn_b A c)).flatMap (fun v => vAt A v :: f v)
def bldA (A : rn_L) (f : Nat → List vT) : rn_L := (List.range A.length).map (bldC A f)
/-- how many came so far -/
def wgB (V c i g : Nat) : Nat := if g < i ∨ V ≤ g ∧ g - V < c then 2 else 0
section XBL
variable {n : Nat} {z : ow_MS} {A : rn_L} {sg : Nat → Bool}
theorem insG_len {g h gp : Nat} {P0 P1 : List vT} (h0 : P0.length = 2) (h1 : P1.length ≤ 2) : (insG g h P0 P1 gp).length ≤ (if gp = g then 2 else 0) + (if gp = h then 2 else 0) := by
  unfold insG
  rw [List.length_append]
  have a1 : (if gp = g then P0 else []).length ≤ if gp = g then 2 else 0 := by
    split
    · omega
    · exact Nat.le_refl _
  have a2 : (if gp = h then P1 else []).length ≤ if gp = h then 2 else 0 := by
    split
    · omega
    · exact Nat.le_refl _
  omega
theorem xr_putAt {g h gp : Nat} {x3 : Int32} {A1 : rn_L} {B : List vT} {p0 p1 p2 p3 : vT} (hgp : gp < 100) (hg : g < 100) (hx3 : ∀ k, k < 100 → (nI k = x3 ↔ k = h)) (hlen : (A1.flatten ++ B).length + (if gp = g then 2 else 0) + (if gp = h then 2 else 0) ≤ 39) (c0 : z.2.1 31 0 = nI p0.1 ∧ z.2.1 32 0 = nI p0.2 ∧ z.2.1 31 1 = nI p1.1 ∧ z.2.1 32 1 = nI p1.2) (c1 : h < 100 → z.2.1 31 2 = nI p2.1 ∧ z.2.1 32 2 = nI p2.2 ∧ z.2.1 31 3 = nI p3.1 ∧ z.2.1 32 3 = nI p3.2) (hA : rn_At z 3000 A1 B) : Te (fun K => qe_X13_putAt K (nI gp) (nI g) x3 z) (fun z1 => rn_At z1 3000 A1 (B ++ insG g h [p0, p1] [p2, p3] gp) ∧ fr (fun g => g = 3001 ∨ g = 3004 ∨ g = 3005) z z1) := by
  have fin : ∀ (z1 : ow_MS) (B1 : List vT), fr (fun g => g = 3001 ∨ g = 3004 ∨ g = 3005) z z1 → (A1.flatten ++ B1).length + (if gp = h then 2 else 0) ≤ 39 → B1 = B ++ (if gp = g then [p0, p1] else []) → rn_At z1 3000 A1 B1 → Tt (fun K k => q_X13_putAt K k 1 (nI gp) (nI g) x3 z1) (fun z1 => rn_At z1 3000 A1 (B ++ insG g h [p0, p1] [p2, p3] gp) ∧ fr (fun g => g = 3001 ∨ g = 3004 ∨ g = 3005) z z1) := by
    intro z1 B1 hf hl hB1 hb1
    rw [List.length_append] at hl
    refine u_X13_putAt_1 ?_; unfold qm_X13_putAt_1
    refine w_if (fun h9 => ?_) (fun h9 => w_some ⟨?_, hf⟩)
    · have hgh := (hx3 gp hgp).mp h9
      obtain ⟨d1, d2, d3, d4⟩ := c1 (by omega)
      have e31 := (hf 31 (by omega)).2.1
      have e32 := (hf 32 (by omega)).2.1
      rw [if_pos hgh] at hl
      refine w_rdI ml31 (show (2 : Int32) = nI 2 from rfl) (by omega) (by rw [e31]; exact d1) (w_rdI ml32 (show (2 : Int32) = nI 2 from rfl) (by omega) (by rw [e32]; exact d2) (w_cs0 (tn_add (x := p2.1) (u := p2.2) pn3 hb1 (by rw [List.length_append]; omega)) (fun z2 ⟨g1, g2⟩ => ?_)))
      have e31' := (g2 31 (by omega)).2.1
      have e32' := (g2 32 (by omega)).2.1
      refine w_rdI ml31 (show (3 : Int32) = nI 3 from rfl) (by omega) (by rw [e31', e31]; exact d3) (w_rdI ml32 (show (3 : Int32) = nI 3 from rfl) (by omega) (by rw [e32', e32]; exact d4) (w_cs0 (tn_add (x := p3.1) (u := p3.2) pn3 g1 (by rw [List.length_append, List.length_append]; show _ + (_ + 1) < 40; omega)) (fun z3 ⟨k1, k2⟩ => w_some ⟨?_, fr_tr hf (fr_tr (fr_mono (fun g hg => by omega) g2) (fr_mono (fun g hg => by omega) k2))⟩)))
      have e9 : B ++ insG g h [p0, p1] [p2, p3] gp = B1 ++ [(p2.1, p2.2)] ++ [(p3.1, p3.2)] := by
        unfold insG
        rw [if_pos hgh, hB1]
        simp
      rw [e9]
      exact k1
    · have e9 : B ++ insG g h [p0, p1] [p2, p3] gp = B1 := by
        unfold insG
        rw [if_neg (fun h8 => h9 ((hx3 gp hgp).mpr h8)), hB1, List.append_nil]
      rw [e9]
      exact hb1
  obtain ⟨d1, d2, d3, d4⟩ := c0
  rw [List.length_append] at hlen
  refine e_X13_putAt ?_
  refine u_X13_putAt_0 ?_; unfold qm_X13_putAt_0
  refine w_eqN (by omega) (by omega) (fun h9 => ?_) (fun h9 => fin z B fr_rf (by rw [if_neg h9] at hlen; rw [List.length_append]; omega) (by rw [if_neg h9, List.append_nil]) hA)
  rw [if_pos h9] at hlen
  refine w_rdI ml31 nI_0.symm (by omega) d1 (w_rdI ml32 nI_0.symm (by omega) d2 (w_cs0 (tn_add (x := p0.1) (u := p0.2) pn3 hA (by rw [List.length_append]; omega)) (fun z2 ⟨g1, g2⟩ => ?_)))
  have e31 := (g2 31 (by omega)).2.1
  have e32 := (g2 32 (by omega)).2.1
  refine w_rdI ml31 (show (1 : Int32) = nI 1 from rfl) (by omega) (by rw [e31]; exact d3) (w_rdI ml32 (show (1 : Int32) = nI 1 from rfl) (by omega) (by rw [e32]; exact d4) (w_cs0 (tn_add (x := p1.1) (u := p1.2) pn3 g1 (by rw [List.length_append, List.length_append]; show _ + (_ + 1) < 40; omega)) (fun z3 ⟨k1, k2⟩ => fin z3 _ (fr_tr (fr_mono (fun g hg => by omega) g2) (fr_mono (fun g hg => by omega) k2)) ?_ ?_ k1)))
  · rw [List.length_append, List.length_append, List.length_append]
    show A1.flatten.length + (B.length + 1 + 1) + _ ≤ 39
    omega
  · rw [if_pos h9]
    simp
theorem range_s' {a i : Nat} (h : a ≤ i) : List.range' a (i + 1 - a) = List.range' a (i - a) ++ [i] := by
  rw [show i + 1 - a = (i - a) + 1 by omega, List.range'_concat]
  congr 2
  omega
theorem xr_build {g h : Nat} {x3 : Int32} {p0 p1 p2 p3 : vT} (hn : mw_net n) (hn3 : n ≠ 3000) (hO : oNet z n A sg) (hg : g < 100) (hh : h < 100 ∨ h = 1000) (hx3 : ∀ k, k < 100 → (nI k = x3 ↔ k = h)) (c0 : z.2.1 31 0 = nI p0.1 ∧ z.2.1 32 0 = nI p0.2 ∧ z.2.1 31 1 = nI p1.1 ∧ z.2.1 32 1 = nI p1.2) (c1 : h < 100 → z.2.1 31 2 = nI p2.1 ∧ z.2.1 32 2 = nI p2.2 ∧ z.2.1 31 3 = nI p3.1 ∧ z.2.1 32 3 = nI p3.2) : Te (fun K => qe_X13_build K n (nI g) x3 z) (fun z1 => rn_At z1 3000 (bldA A (insG g h [p0, p1] [p2, p3])) [] ∧ fr (fun g => 3001 ≤ g ∧ g ≤ 3006) z z1 ∧ (∀ x, x < A.flatten.length / 2 → z1.2.1 3006 x = z.2.1 (n + 6) x)) := by
  have hmn := net_mod hn
  have hl := hO.len
  have hC := hO.2.2.2
  obtain ⟨V, hV⟩ : ∃ V, V = A.flatten.length := ⟨_, rfl⟩
  obtain ⟨f, hf0⟩ : ∃ f, f = insG g h [p0, p1] [p2, p3] := ⟨_, rfl⟩
  have fl : ∀ gp, (f gp).length ≤ (if gp = g then 2 else 0) + (if gp = h then 2 else 0) := fun gp => by
    rw [hf0]
    exact insG_len rfl (Nat.le_refl _)
  let I : ow_MS → Prop := fun y => fr (fun g => 3001 ≤ g ∧ g ≤ 3005) z y
  have oI : ∀ {y : ow_MS}, I y → oNet y n A sg := fun hI => oNet_fr hI (fun g hg => by omega) hO
  have stI : ∀ {P : Nat → Prop} {y y2 : ow_MS}, I y → fr P y y2 → (∀ g, P g → 3001 ≤ g ∧ g ≤ 3005) → I y2 := fun hI hf hP => fr_tr hI (fr_mono hP hf)
  have cI0 : ∀ {y : ow_MS}, I y → y.2.1 31 0 = nI p0.1 ∧ y.2.1 32 0 = nI p0.2 ∧ y.2.1 31 1 = nI p1.1 ∧ y.2.1 32 1 = nI p1.2 := fun hI => by rw [(hI 31 (by omega)).2.1, (hI 32 (by omega)).2.1]; exact c0
  have cI1 : ∀ {y : ow_MS}, I y → h < 100 → y.2.1 31 2 = nI p2.1 ∧ y.2.1 32 2 = nI p2.2 ∧ y.2.1 31 3 = nI p3.1 ∧ y.2.1 32 3 = nI p3.2 := fun hI hh => by rw [(hI 31 (by omega)).2.1, (hI 32 (by omega)).2.1]; exact c1 hh
  let Q : ow_MS → Prop := fun z1 => rn_At z1 3000 (bldA A f) [] ∧ fr (fun g => 3001 ≤ g ∧ g ≤ 3006) z z1 ∧ (∀ x, x < A.flatten.length / 2 → z1.2.1 3006 x = z.2.1 (n + 6) x)
  -- the signs
  have l4 : ∀ (k x : Nat) (y : ow_MS), x + k = V / 2 → fr (fun g => 3001 ≤ g ∧ g ≤ 3006) z y → rn_At y 3000 (bldA A f) [] → (∀ x', x' < x → y.2.1 3006 x' = z.2.1 (n + 6) x') → Tt (fun K i => q_X13_build K i 4 (nI g) x3 (nI x) 0 n y) Q := by
    intro k
    induction k with
    | zero =>
      intro x y hx hf hb hs
      have o2 : oNet y n A sg := oNet_fr hf (fun g hg => by omega) hO
      refine u_X13_build_4 ?_; unfold qm_X13_build_4
      refine w_rdF o2.1.V (w_nzI (by decide) ?_)
      rw [← hV, show nI V / 2 = nI (V / 2) from pk_div (d := 2) (by omega) (by omega) (by omega)]
      exact w_leT (by omega) (by omega) (w_some ⟨hb, hf, fun x' hx' => hs x' (by omega)⟩)
    | succ k ih =>
      intro x y hx hf hb hs
      have o2 : oNet y n A sg := oNet_fr hf (fun g hg => by omega) hO
      refine u_X13_build_4 ?_; unfold qm_X13_build_4
      refine w_rdF o2.1.V (w_nzI (by decide) ?_)
      rw [← hV, show nI V / 2 = nI (V / 2) from pk_div (d := 2) (by omega) (by omega) (by omega), nI_1]
      refine w_leF (by omega) (by omega) (w_rdI (pl6 hn) rfl (by omega) rfl (w_wrI (pl6 pn3) rfl (by omega) ?_))
      refine ih (x + 1) _ (by omega) (fr_I2 hf (by omega)) (fr_At (P := fun g => g = 3006) (fr_I rfl) (fun g hg => by omega) hb) (fun x' hx' => ?_)
      by_cases he : x' = x
      · rw [he]
        show (usI y 3006 x (y.2.1 (n + 6) x)).2.1 3006 x = _
        rw [po_usI_at, (hf (n + 6) (by omega)).2.1]
      · exact rd_ne he (hs x' (by omega))
  have wmono : ∀ c i c' i' g, c ≤ c' → i ≤ i' → wgB V c i g ≤ wgB V c' i' g := fun c i c' i' g h1 h2 => by
    unfold wgB
    split
    · rw [if_pos (by omega)]
      exact Nat.le_refl _
    · omega
  have w2 : ∀ c i g, wgB V c i g ≤ 2 := fun c i g => by
    unfold wgB
    split <;> omega
  have out : ∀ (k c : Nat) (y : ow_MS), c + k = A.length → I y → ((List.range c).map (bldC A f)).flatten.length ≤ rn_b A c + wgB V c (rn_b A c) g + wgB V c (rn_b A c) h → rn_At y 3000 ((List.range c).map (bldC A f)) [] → Tt (fun K i => q_X13_build K i 1 (nI g) x3 (nI c) 0 n y) Q := by
    intro k
    induction k with
    | zero =>
      intro c y hc hI hlb hb
      have hce : c = A.length := by omega
      rw [hce] at hb
      refine u_X13_build_1 ?_; unfold qm_X13_build_1
      exact w_rdF (lk_C (oI hI).1) (w_leT (by omega) (by omega) (l4 (V / 2) 0 y (by omega) (fr_mono (fun g hg => by omega) hI) hb (fun x hx => by omega)))
    | succ k ih =>
      intro c y hc hI hlb hb
      have hcA : c < A.length := by omega
      have m1 := rn_b_mono A c
      have m2 := rn_b_le A (c + 1)
      have lc : ((List.range c).map (bldC A f)).length = c := by rw [List.length_map, List.length_range]
      have c3 : ∀ (k i : Nat) (y1 : ow_MS), i + k = rn_b A (c + 1) → rn_b A c ≤ i → I y1 → (((List.range c).map (bldC A f)).flatten ++ ((if rn_b A c = rn_b A (c + 1) then f (V + c) else []) ++ (List.range' (rn_b A c) (i - rn_b A c)).flatMap (fun v => vAt A v :: f v))).length ≤ i + wgB V (c + 1) i g + wgB V (c + 1) i h → rn_At y1 3000 ((List.range c).map (bldC A f)) ((if rn_b A c = rn_b A (c + 1) then f (V + c) else []) ++ (List.range' (rn_b A c) (i - rn_b A c)).flatMap (fun v => vAt A v :: f v)) → Tt (fun K i9 => q_X13_build K i9 3 (nI g) x3 (nI c) (nI i) n y1) Q := by
        intro k
        induction k with
        | zero =>
          intro i y1 hi hlo hI hlb hb
          have hie : i = rn_b A (c + 1) := by omega
          rw [hie] at hb hlb ⊢
          refine u_X13_build_3 ?_; unfold qm_X13_build_3
          rw [nI_1]
          have eC : ((List.range c).map (bldC A f)) ++ [(if rn_b A c = rn_b A (c + 1) then f (V + c) else []) ++ (List.range' (rn_b A c) (rn_b A (c + 1) - rn_b A c)).flatMap (fun v => vAt A v :: f v)] = (List.range (c + 1)).map (bldC A f) := by
            rw [List.range_succ, List.map_append, hV]
            rfl
          refine w_rdI (pl3 hn) rfl (by omega) (lk_b (oI hI).1 (by omega)) (w_leT (by omega) (Nat.le_refl _) (w_cs0 (tn_end pn3 hb (by omega)) (fun y2 ⟨g1, g2⟩ => ?_)))
          rw [eC] at g1
          refine ih (c + 1) y2 (by omega) (stI hI g2 (fun g hg => by omega)) ?_ g1
          rw [← eC, List.flatten_append, List.flatten_cons, List.flatten_nil, List.append_nil]
          exact hlb
        | succ k ihk =>
          intro i y1 hi hlo hI hlb hb
          have hil : i < A.flatten.length := by omega
          have q1 := w2 (c + 1) i g
          have q2 := w2 (c + 1) i h
          have sg1 : wgB V (c + 1) i g + (if i = g then 2 else 0) ≤ wgB V (c + 1) (i + 1) g := by
            unfold wgB
            by_cases e : i = g
            · rw [if_pos e, if_neg (by omega), if_pos (by omega)]
              exact Nat.le_refl _
            · rw [if_neg e]
              exact wmono _ _ _ _ g (Nat.le_refl _) (by omega)
          have sh1 : wgB V (c + 1) i h + (if i = h then 2 else 0) ≤ wgB V (c + 1) (i + 1) h := by
            unfold wgB
            by_cases e : i = h
            · rw [if_pos e, if_neg (by omega), if_pos (by omega)]
              exact Nat.le_refl _
            · rw [if_neg e]
              exact wmono _ _ _ _ h (Nat.le_refl _) (by omega)
          have r1 := w2 (c + 1) (i + 1) g
          have r2 := w2 (c + 1) (i + 1) h
          refine u_X13_build_3 ?_; unfold qm_X13_build_3
          rw [nI_1, nI_1]
          refine w_rdI (pl3 hn) rfl (by omega) (lk_b (oI hI).1 (by omega)) (w_leF (by omega) (by omega) (w_rdI (pl4 hn) rfl (by omega) (lk_cu (oI hI).1 hil).1 (w_rdI (pl5 hn) rfl (by omega) (lk_cu (oI hI).1 hil).2 (w_cs0 (tn_add (x := crs A i) (u := uns A i) pn3 hb (by omega)) (fun y2 ⟨g1, g2⟩ => ?_)))))
          have hI2 := stI hI g2 (fun g hg => by omega)
          refine w_cs0 (xr_putAt (gp := i) (by omega) hg hx3 ?_ (cI0 hI2) (cI1 hI2) g1) (fun y3 ⟨k1, k2⟩ => ?_)
          · rw [← List.append_assoc, List.length_append]
            show _ + 1 + _ + _ ≤ 39
            omega
          · rw [← hf0] at k1
            have e9 : ((if rn_b A c = rn_b A (c + 1) then f (V + c) else []) ++ (List.range' (rn_b A c) (i - rn_b A c)).flatMap (fun v => vAt A v :: f v)) ++ [(crs A i, uns A i)] ++ f i = (if rn_b A c = rn_b A (c + 1) then f (V + c) else []) ++ (List.range' (rn_b A c) (i + 1 - rn_b A c)).flatMap (fun v => vAt A v :: f v) := by
              rw [range_s' hlo, List.flatMap_append, List.flatMap_cons, List.flatMap_nil, List.append_nil]
              simp only [List.append_assoc]
              rfl
            rw [e9] at k1
            refine ihk (i + 1) y3 (by omega) (by omega) (stI hI2 k2 (fun g hg => by omega)) ?_ k1
            rw [← e9, ← List.append_assoc, ← List.append_assoc, List.length_append, List.length_append]
            have := fl i
            show _ + 1 + _ ≤ _
            omega
      have c2 : ∀ (y1 : ow_MS), I y1 → (((List.range c).map (bldC A f)).flatten ++ (if rn_b A c = rn_b A (c + 1) then f (V + c) else [])).length ≤ rn_b A c + wgB V (c + 1) (rn_b A c) g + wgB V (c + 1) (rn_b A c) h → rn_At y1 3000 ((List.range c).map (bldC A f)) (if rn_b A c = rn_b A (c + 1) then f (V + c) else []) → Tt (fun K i9 => q_X13_build K i9 2 (nI g) x3 (nI c) 0 n y1) Q := by
        intro y1 hI hlb hb
        refine u_X13_build_2 ?_; unfold qm_X13_build_2
        refine w_rdI (pl3 hn) rfl (by omega) (lk_b (oI hI).1 (by omega)) (c3 (rn_b A (c + 1) - rn_b A c) (rn_b A c) y1 (by omega) (Nat.le_refl _) hI ?_ ?_)
        · rw [Nat.sub_self]
          show (_ ++ (_ ++ [])).length ≤ _
          rw [List.append_nil]
          exact hlb
        · rw [Nat.sub_self]
          show rn_At y1 3000 _ (_ ++ [])
          rw [List.append_nil]
          exact hb
      have q1 := w2 c (rn_b A c) g
      have q2 := w2 c (rn_b A c) h
      refine u_X13_build_1 ?_; unfold qm_X13_build_1
      refine w_rdF (lk_C (oI hI).1) (w_leF (by omega) (by omega) (w_cs1 (tn_circle hn (by omega) (by omega) hcA (oI hI).1.1) (fun a y9 e => ?_)))
      cases e
      by_cases hcir : rn_b A c = rn_b A (c + 1)
      · rw [if_pos hcir]
        have bc := rn_b_le A c
        have sg1 : wgB V c (rn_b A c) g + (if V + c = g then 2 else 0) ≤ wgB V (c + 1) (rn_b A c) g := by
          unfold wgB
          by_cases e : V + c = g
          · rw [if_pos e, if_neg (by omega), if_pos (by omega)]
            exact Nat.le_refl _
          · rw [if_neg e]
            exact wmono _ _ _ _ g (by omega) (Nat.le_refl _)
        have sh1 : wgB V c (rn_b A c) h + (if V + c = h then 2 else 0) ≤ wgB V (c + 1) (rn_b A c) h := by
          unfold wgB
          by_cases e : V + c = h
          · rw [if_pos e, if_neg (by omega), if_pos (by omega)]
            exact Nat.le_refl _
          · rw [if_neg e]
            exact wmono _ _ _ _ h (by omega) (Nat.le_refl _)
        refine w_ifF (by decide) (w_rdF (oI hI).1.V ?_)
        rw [← hV, nI_add]
        have r1 := w2 (c + 1) (rn_b A c) g
        have r2 := w2 (c + 1) (rn_b A c) h
        refine w_cs0 (xr_putAt (gp := V + c) (by omega) hg hx3 (by rw [List.append_nil]; omega) (cI0 hI) (cI1 hI) hb) (fun y3 ⟨k1, k2⟩ => ?_)
        rw [← hf0, List.nil_append] at k1
        refine c2 y3 (stI hI k2 (fun g hg => by omega)) ?_ (by rw [if_pos hcir]; exact k1)
        rw [if_pos hcir, List.length_append]
        have := fl (V + c)
        omega
      · rw [if_neg hcir]
        refine w_ifT rfl (c2 y hI ?_ (by rw [if_neg hcir]; exact hb))
        rw [if_neg hcir, List.append_nil]
        have s1' := wmono c (rn_b A c) (c + 1) (rn_b A c) g (by omega) (Nat.le_refl _)
        have s2' := wmono c (rn_b A c) (c + 1) (rn_b A c) h (by omega) (Nat.le_refl _)
        omega
  rw [← hf0]
  refine e_X13_build ?_
  refine u_X13_build_0 ?_; unfold qm_X13_build_0
  exact w_cs0 (tn_clear pn3) (fun y ⟨g1, g2⟩ => out A.length 0 y (by omega) (fr_mono (fun g hg => by omega) g2) (Nat.zero_le _) g1)
end XBL
end
section
/-! 99zzzzzzzzzzz.xgap -/
/-! visits put into gaps: what is in the list then; a net for every list -/
def gpsC (A : rn_L) (c : Nat) : List Nat := (if rn_b A c = rn_b A (c + 1) then [A.flatten.length + c] else []) ++ List.range' (rn_b A c) (rn_b A (c + 1) - rn_b A c)
def gpsA (A : rn_L) (k : Nat) : List Nat := (List.range k).flatMap (gpsC A)
section XGP
variable {A : rn_L} {f : Nat → List vT}
theorem gps_1 {c i : Nat} : i ∈ gpsC A c ↔ (i = A.flatten.length + c ∧ rn_b A c = rn_b A (c + 1)) ∨ rn_b A c ≤ i ∧ i < rn_b A (c + 1) := by
  have m1 := rn_b_mono A c
  unfold gpsC
  rw [List.mem_append, List.mem_range'_1]
  constructor
  · rintro (h | h)
    · by_cases e : rn_b A c = rn_b A (c + 1)
      · rw [if_pos e] at h
        exact Or.inl ⟨List.mem_singleton.mp h, e⟩
      · rw [if_neg e] at h
        cases h
    · exact Or.inr (by omega)
  · rintro (⟨h1, h2⟩ | h)
    · rw [if_pos h2]
      exact Or.inl (List.mem_singleton.mpr h1)
    · exact Or.inr (by omega)
theorem rnb_mono2 {a b : Nat} (h : a ≤ b) : rn_b A a ≤ rn_b A b := by
  obtain ⟨d, rfl⟩ : ∃ d, b = a + d := ⟨b - a, by omega⟩
  clear h
  induction d with
  | zero => exact Nat.le_refl _
  | succ d ih => exact Nat.le_trans ih (rn_b_mono A (a + d))
theorem gps_mem {i : Nat} : i ∈ gpsA A A.length ↔ isG A i := by
  unfold gpsA isG
  rw [List.mem_flatMap]
  constructor
  · rintro ⟨c, hc, hi⟩
    have hc := List.mem_range.mp hc
    rcases gps_1.mp hi with ⟨h1, h2⟩ | ⟨h1, h2⟩
    · refine Or.inr ⟨by omega, by omega, ?_⟩
      rw [show i - A.flatten.length = c by omega]
      exact h2
    · have := rn_b_le A (c + 1)
      exact Or.inl (by omega)
  · rintro (h | ⟨h1, h2, h3⟩)
    · obtain ⟨q1, q2, q3⟩ := rn_c_in A i h
      exact ⟨rn_c A i, List.mem_range.mpr q1, gps_1.mpr (Or.inr ⟨by omega, by omega⟩)⟩
    · exact ⟨i - A.flatten.length, List.mem_range.mpr h2, gps_1.mpr (Or.inl ⟨by omega, h3⟩)⟩
theorem gps_nd : ∀ k, k ≤ A.length → (gpsA A k).Nodup
  | 0, _ => List.nodup_nil
  | k + 1, hk => by
    unfold gpsA
    rw [List.range_succ, List.flatMap_append, List.flatMap_cons, List.flatMap_nil, List.append_nil]
    refine List.nodup_append.mpr ⟨gps_nd k (by omega), ?_, fun a ha b hb e => ?_⟩
    · unfold gpsC
      refine List.nodup_append.mpr ⟨?_, List.nodup_range', fun a ha b hb e => ?_⟩
      · split
        · exact List.nodup_cons.mpr ⟨List.not_mem_nil, List.nodup_nil⟩
        · exact List.nodup_nil
      · have := rn_b_le A (k + 1)
        have := rn_b_mono A k
        rw [List.mem_range'_1] at hb
        by_cases e9 : rn_b A k = rn_b A (k + 1)
        · rw [if_pos e9] at ha
          have := List.mem_singleton.mp ha
          omega
        · rw [if_neg e9] at ha
          cases ha
    · obtain ⟨c, hc, ha⟩ := List.mem_flatMap.mp ha
      have hc := List.mem_range.mp hc
      have m := rnb_mono2 (A := A) (show c + 1 ≤ k by omega)
      have b1 := rn_b_le A (k + 1)
      have b2 := rn_b_le A (c + 1)
      rcases gps_1.mp ha with h1 | h1 <;> rcases gps_1.mp hb with h2 | h2 <;> omega
theorem fm_pc (Vs : List Nat) : (Vs.flatMap (fun v => vAt A v :: f v)).Perm (Vs.map (vAt A) ++ Vs.flatMap f) := by
  induction Vs with
  | nil => exact List.Perm.nil
  | cons v Vs ih =>
    rw [List.perm_iff_count] at ih ⊢
    intro a
    have := ih a
    simp only [List.flatMap_cons, List.map_cons, List.cons_append, List.count_append, List.count_cons] at this ⊢
    omega
theorem bld_pm : ∀ k, k ≤ A.length → ((List.range k).map (bldC A f)).flatten.Perm ((List.range (rn_b A k)).map (vAt A) ++ (gpsA A k).flatMap f)
  | 0, _ => by
    rw [rn_b0]
    exact List.Perm.nil
  | k + 1, hk => by
    have ih := bld_pm k (by omega)
    have h1 := fm_pc (A := A) (f := f) (List.range' (rn_b A k) (rn_b A (k + 1) - rn_b A k))
    have m1 := rn_b_mono A k
    have er : List.range (rn_b A (k + 1)) = List.range (rn_b A k) ++ List.range' (rn_b A k) (rn_b A (k + 1) - rn_b A k) := by
      rw [List.range_eq_range', List.range_eq_range']
      have := List.range'_append_1 (s := 0) (m := rn_b A k) (n := rn_b A (k + 1) - rn_b A k)
      rw [Nat.zero_add] at this
      rw [this]
      congr 1
      omega
    have eg : gpsA A (k + 1) = gpsA A k ++ gpsC A k := by
      unfold gpsA
      rw [List.range_succ, List.flatMap_append, List.flatMap_cons, List.flatMap_nil, List.append_nil]
    have ec : (gpsC A k).flatMap f = (if rn_b A k = rn_b A (k + 1) then f (A.flatten.length + k) else []) ++ (List.range' (rn_b A k) (rn_b A (k + 1) - rn_b A k)).flatMap f := by
      unfold gpsC
      rw [List.flatMap_append]
      congr 1
      split
      · rw [List.flatMap_cons, List.flatMap_nil, List.append_nil]
      · rfl
    rw [List.range_succ, List.map_append, List.flatten_append, er, eg, List.map_append, List.flatMap_append, ec]
    show (((List.range k).map (bldC A f)).flatten ++ (bldC A f k ++ [])).Perm _
    have eb : bldC A f k = (if rn_b A k = rn_b A (k + 1) then f (A.flatten.length + k) else []) ++ (List.range' (rn_b A k) (rn_b A (k + 1) - rn_b A k)).flatMap (fun v => vAt A v :: f v) := rfl
    rw [List.append_nil, eb]
    rw [List.perm_iff_count] at ih h1 ⊢
    intro a
    have i1 := ih a
    have i2 := h1 a
    simp only [List.count_append] at i1 i2 ⊢
    omega
theorem fm_one {g : Nat} {P : List vT} : ∀ {Gs : List Nat}, Gs.Nodup → Gs.flatMap (fun gp => if gp = g then P else []) = if g ∈ Gs then P else []
  | [], _ => rfl
  | a :: Gs, h => by
    obtain ⟨h1, h2⟩ := List.nodup_cons.mp h
    rw [List.flatMap_cons, fm_one h2]
    by_cases e : a = g
    · rw [if_pos e, if_neg (by rw [← e]; exact h1), if_pos (by rw [e]; exact List.mem_cons_self), List.append_nil]
    · rw [if_neg e, List.nil_append]
      by_cases e2 : g ∈ Gs
      · rw [if_pos e2, if_pos (List.mem_cons_of_mem _ e2)]
      · rw [if_neg e2, if_neg (fun h9 => (List.mem_cons.mp h9).elim (fun h8 => e h8.symm) e2)]
theorem fm_ap {Gs : List Nat} {a b : Nat → List vT} : (Gs.flatMap (fun g => a g ++ b g)).Perm (Gs.flatMap a ++ Gs.flatMap b) := by
  induction Gs with
  | nil => exact List.Perm.nil
  | cons g Gs ih =>
    rw [List.perm_iff_count] at ih ⊢
    intro x
    have := ih x
    simp only [List.flatMap_cons, List.count_append] at this ⊢
    omega
theorem vAt_all (A : rn_L) : (List.range A.flatten.length).map (vAt A) = A.flatten := by
  refine List.ext_getElem (by rw [List.length_map, List.length_range]) (fun i h1 h2 => ?_)
  rw [List.getElem_map, List.getElem_range]
  exact vAt_eq (List.getElem?_eq_getElem h2)
/-- what is in the list when visits have come into the gaps g and h -/
theorem bld_perm {g h : Nat} {P0 P1 : List vT} (hg : isG A g) : (bldA A (insG g h P0 P1)).flatten.Perm (A.flatten ++ (P0 ++ if h ∈ gpsA A A.length then P1 else [])) := by
  have h1 := bld_pm (A := A) (f := insG g h P0 P1) A.length (Nat.le_refl _)
  rw [rn_b_len, vAt_all] at h1
  refine h1.trans (List.Perm.append_left _ ?_)
  refine (fm_ap (a := fun gp => if gp = g then P0 else []) (b := fun gp => if gp = h then P1 else [])).trans ?_
  rw [fm_one (gps_nd _ (Nat.le_refl _)), fm_one (gps_nd _ (Nat.le_refl _)), if_pos (gps_mem.mpr hg)]
theorem okF_pm {F F' : List vT} {c : Nat} (h : F.Perm F') (ho : okF F' c) : okF F c := ⟨h.nodup_iff.mpr ho.1, fun p => by rw [h.mem_iff]; exact ho.2 p⟩
theorem bldA_cg {f f' : Nat → List vT} (h : ∀ gp, gp < A.flatten.length + A.length → f gp = f' gp) : bldA A f = bldA A f' := by
  unfold bldA
  refine List.map_congr_left (fun c hc => ?_)
  have hc := List.mem_range.mp hc
  have b1 := rn_b_le A (c + 1)
  have m1 := rn_b_mono A c
  unfold bldC
  rw [h _ (by omega)]
  congr 1
  rw [List.flatMap_eq_foldl, List.flatMap_eq_foldl]
  have key : ∀ (Vs : List Nat), (∀ v, v ∈ Vs → v < A.flatten.length) → Vs.flatMap (fun v => vAt A v :: f v) = Vs.flatMap (fun v => vAt A v :: f' v) := by
    intro Vs
    induction Vs with
    | nil => intro _; rfl
    | cons v Vs ih =>
      intro hv
      rw [List.flatMap_cons, List.flatMap_cons, h v (by have := hv v List.mem_cons_self; omega), ih (fun w hw => hv w (List.mem_cons_of_mem _ hw))]
  rw [← List.flatMap_eq_foldl, ← List.flatMap_eq_foldl]
  exact key _ (fun v hv => by
    rw [List.mem_range'_1] at hv
    omega)
end XGP
/-- the component of a visit -/
def cmpO (A : rn_L) (p : vT) : List vT := (A.find? (fun L => decide (p ∈ L))).getD []
theorem cmpO_of {A : rn_L} {L : List vT} {p : vT} (hn : A.flatten.Nodup) (hL : L ∈ A) (hp : p ∈ L) : cmpO A p = L := by
  unfold cmpO
  cases e : A.find? (fun L => decide (p ∈ L)) with
  | none =>
    have := List.find?_eq_none.mp e L hL
    rw [decide_eq_true hp] at this
    exact absurd rfl this
  | some M =>
    have h1 := List.find?_some e
    have h2 := List.mem_of_find?_eq_some e
    have h3 : p ∈ M := of_decide_eq_true h1
    show M = L
    rw [List.nodup_iff_pairwise_ne, List.pairwise_flatten] at hn
    apply Classical.byContradiction
    intro hne
    obtain ⟨i, hi, ei⟩ := List.getElem_of_mem h2
    obtain ⟨j, hj, ej⟩ := List.getElem_of_mem hL
    have pw := List.pairwise_iff_getElem.mp hn.2
    rcases Nat.lt_trichotomy i j with q | q | q
    · exact pw i j hi hj q p (by rw [ei]; exact h3) p (by rw [ej]; exact hp) rfl
    · subst q
      exact hne (ei.symm.trans ej)
    · exact pw j i hj hi q p (by rw [ej]; exact hp) p (by rw [ei]; exact h3) rfl
/-- a net that shows a list -/
def netO (A : rn_L) (sg : Nat → Bool) (c : Nat) : ow_NT := (c, cirs A, (fun v => lb (sc (cmpO A (kp v)) (kp v)), fun v => lb (sc (cmpO A (kp v)).reverse (kp v))), fun x => if sg x = true then -1 else 1)
theorem netO_ok {A : rn_L} {sg : Nat → Bool} {c : Nat} (ho : okF A.flatten c) (hc : c ≤ 12) : isoN A sg (fun x => x) (netO A sg c) ∧ vn c (netO A sg c).2.2.1 ∧ pm1 (netO A sg c) := by
  have inL : ∀ v, v < 2 * c → ∃ L, L ∈ A ∧ kp v ∈ L ∧ cmpO A (kp v) = L := fun v hv => by
    have : kp v ∈ A.flatten := (ho.2 _).mpr ⟨by show v / 2 < c; omega, by show v % 2 < 2; omega⟩
    obtain ⟨L, h1, h2⟩ := List.mem_flatten.mp this
    exact ⟨L, h1, h2, cmpO_of ho.1 h1 h2⟩
  have low : ∀ L p, L ∈ A → p ∈ L → p.1 < c ∧ p.2 < 2 := fun L p h1 h2 => (ho.2 p).mp (List.mem_flatten.mpr ⟨L, h1, h2⟩)
  have hl2 : ∀ L p, L ∈ A → p ∈ L → lb p < 2 * c := fun L p h1 h2 => by
    have := low L p h1 h2
    unfold lb
    omega
  refine ⟨isoS_iff.mp ⟨okF_wk (by omega) ho, okF_len ho, hc, fun p hp => ((ho.2 p).mp hp).1, fun p q _ _ e => e, fun L hL p hp => ?_, fun p hp => ?_, rfl⟩, fun v hv => ?_, fun x hx => ?_⟩
  · show lb (sc (cmpO A (kp (lb p))) (kp (lb p))) = lb (sc L p)
    rw [kp_lb2 (low L p hL hp).2, cmpO_of ho.1 hL hp]
  · show (if sg p.1 = true then (-1 : Int32) else 1) < 0 ↔ sg p.1 = true
    cases sg p.1 <;> decide
  · obtain ⟨L, h1, h2, h3⟩ := inL v hv
    have nL := L_nd ho.1 h1
    have s1 := sc_in h2 nL
    have nR : L.reverse.Nodup := (List.reverse_perm L).nodup_iff.mpr nL
    have s2 : sc L.reverse (kp v) ∈ L := List.mem_reverse.mp (sc_in (List.mem_reverse.mpr h2) nR)
    show lb (sc (cmpO A (kp v)) (kp v)) < 2 * c ∧ lb (sc (cmpO A (kp v)).reverse (kp v)) < 2 * c ∧ lb (sc (cmpO A (kp (lb (sc (cmpO A (kp v)) (kp v))))).reverse (kp (lb (sc (cmpO A (kp v)) (kp v))))) = v ∧ lb (sc (cmpO A (kp (lb (sc (cmpO A (kp v)).reverse (kp v))))) (kp (lb (sc (cmpO A (kp v)).reverse (kp v))))) = v
    rw [h3, kp_lb2 (low L _ h1 s1).2, kp_lb2 (low L _ h1 s2).2, cmpO_of ho.1 h1 s1, cmpO_of ho.1 h1 s2, sc_rev nL h2, sc_rv nL h2, kp_lb]
    exact ⟨hl2 L _ h1 s1, hl2 L _ h1 s2, rfl, rfl⟩
  · show (if sg x = true then (-1 : Int32) else 1) = 1 ∨ (if sg x = true then (-1 : Int32) else 1) = -1
    cases sg x
    · exact Or.inl rfl
    · exact Or.inr rfl
/-- plane, of a list -/
theorem pln_net {A : rn_L} {sg : Nat → Bool} {c : Nat} (ho : okF A.flatten c) (hc : c ≤ 12) : plnA A sg ↔ nt_plane (netO A sg c) = true := by
  obtain ⟨h1, h2, h3⟩ := netO_ok (sg := sg) ho hc
  exact ⟨fun h => h _ _ (isoV_of h1 h2) h3, fun h => plnA_of (isoV_of h1 h2) h3 h⟩
end
section
/-! 99zzzzzzzzzzza.xk1 -/
/-! exact: moves of kind 1 and 3 of the reference -/
def O1 (A : rn_L) (sg : Nat → Bool) (c : Nat) (A' : rn_L) (sg' : Nat → Bool) : Prop := ∃ g k, isG A g ∧ k < 4 ∧ A' = bldA A (insG g 1000 [(c, k % 2), (c, 1 - k % 2)] []) ∧ sg' = fun i => if i = c then decide (2 ≤ k) else sg i
def t3P (c k : Nat) : List vT := [(if k / 4 = 0 then c + k % 2 else c + k / 2 % 2, k / 4), (if k / 4 = 0 then 2 * c + 1 - (c + k % 2) else 2 * c + 1 - (c + k / 2 % 2), k / 4)]
def t3Q (c k : Nat) : List vT := [(if k / 4 = 0 then c + k / 2 % 2 else c + k % 2, 1 - k / 4), (if k / 4 = 0 then 2 * c + 1 - (c + k / 2 % 2) else 2 * c + 1 - (c + k % 2), 1 - k / 4)]
def t3A (A : rn_L) (c g h k : Nat) : rn_L := bldA A (insG g h (t3P c k) (t3Q c k))
def t3S (sg : Nat → Bool) (c : Nat) : Nat → Bool := fun i => if i = c then false else if i = c + 1 then true else sg i
def O3 (A : rn_L) (sg : Nat → Bool) (c : Nat) (A' : rn_L) (sg' : Nat → Bool) : Prop := ∃ g h k, isG A g ∧ isG A h ∧ (k < 4 ∨ g = h ∧ k < 8) ∧ A' = t3A A c g h k ∧ sg' = t3S sg c ∧ plnA A' sg'
theorem isG_lt {A : rn_L} {g : Nat} (h : isG A g) : g < A.flatten.length + A.length := by
  rcases h with h | ⟨h1, h2, -⟩ <;> omega
theorem okB_two {c u : Nat} (hu : u < 2) : okB [(c, u), (c, 1 - u)] c 1 := by
  refine ⟨?_, fun p => ?_⟩
  · refine List.nodup_cons.mpr ⟨fun h => ?_, List.nodup_cons.mpr ⟨List.not_mem_nil, List.nodup_nil⟩⟩
    have := congrArg Prod.snd (List.mem_singleton.mp h)
    have this : u = 1 - u := this
    omega
  · rw [List.mem_cons, List.mem_singleton]
    constructor
    · rintro (h | h) <;> rw [h]
      · exact ⟨Nat.le_refl _, by show c < c + 1; omega, hu⟩
      · exact ⟨Nat.le_refl _, by show c < c + 1; omega, by show 1 - u < 2; omega⟩
    · rintro ⟨h1, h2, h3⟩
      have e1 : p.1 = c := by omega
      rcases (show p.2 = u ∨ p.2 = 1 - u by omega) with e | e
      · exact Or.inl (Prod.ext e1 e)
      · exact Or.inr (Prod.ext e1 e)
theorem okB_F {F G : List vT} {c d : Nat} (h1 : okF F c) (h2 : okB G c d) : okF (F ++ G) (c + d) := okB_0.mp (okB_app (okB_0.mpr h1) (by rw [Nat.zero_add]; exact h2))
section XK1
variable {Φ : ow_MS → (List Nat → Prop) → Nat → Prop} {n L c : Nat} {z : ow_MS} {A : rn_L} {sg : Nat → Bool} {S : List Nat → Prop}
theorem o1_ok {g k : Nat} (hok : okF A.flatten c) (hA : A.length ≤ 6) (h20 : A.flatten.length ≤ 24) (hg : isG A g) (hk : k < 4) : okF (bldA A (insG g 1000 [(c, k % 2), (c, 1 - k % 2)] [])).flatten (c + 1) := by
  have hlt := isG_lt hg
  have h9 : ¬ 1000 ∈ gpsA A A.length := fun h => by
    have := isG_lt (gps_mem.mp h)
    omega
  have p := bld_perm (h := 1000) (P0 := [(c, k % 2), (c, 1 - k % 2)]) (P1 := []) hg
  rw [if_neg h9, List.append_nil] at p
  exact okF_pm p (okB_F hok (okB_two (by omega)))
theorem xr_oneComes (hΦ : snkF Φ) (hn : mw_net n) (hn3 : n ≠ 3000) (hok : okF A.flatten c) (hV : A.flatten.length ≤ 22) (hL : L + 4 * (A.flatten.length + A.length) ≤ 2700) (hO : oNet z n A sg) (h : Φ z S L) : Te (fun K => qe_X13_oneComes K n z) (fun z1 => (∃ S', adS S S' (O1 A sg c) ∧ Φ z1 S' (L + 4 * (A.flatten.length + A.length))) ∧ fr frB z z1) := by
  have hmn := net_mod hn
  have hC := hO.2.2.2
  have hVc := okF_len hok
  obtain ⟨V, hVe⟩ : ∃ V, V = A.flatten.length := ⟨_, rfl⟩
  let O : Nat → Nat → rn_L → (Nat → Bool) → Prop := fun g0 k0 A' sg' => ∃ g k, isG A g ∧ (g < g0 ∧ k < 4 ∨ g = g0 ∧ k < k0) ∧ k < 4 ∧ A' = bldA A (insG g 1000 [(c, k % 2), (c, 1 - k % 2)] []) ∧ sg' = fun i => if i = c then decide (2 ≤ k) else sg i
  let Q : ow_MS → Prop := fun z1 => (∃ S', adS S S' (O1 A sg c) ∧ Φ z1 S' (L + 4 * (A.flatten.length + A.length))) ∧ fr frB z z1
  have ed : nI A.flatten.length / 2 = nI c := by
    rw [show nI A.flatten.length / 2 = nI (A.flatten.length / 2) from pk_div (d := 2) (by omega) (by omega) (by omega)]
    congr 1
    omega
  have outer : ∀ (d g : Nat) (y : ow_MS), g + d = V + A.length → fr frB z y → (∃ S1, adS S S1 (O g 0) ∧ Φ y S1 (L + 4 * g)) → Tt (fun K i => q_X13_oneComes K i 1 (nI c) (nI g) 0 n 0 0 y) Q := by
    intro d
    induction d with
    | zero =>
      intro g y hg hf ⟨S1, a1, a2⟩
      have o2 := oNet_B hn hn3 hf hO
      refine u_X13_oneComes_1 ?_; unfold qm_X13_oneComes_1
      refine w_rdF o2.1.V (w_rdF (lk_C o2.1) ?_)
      rw [nI_add]
      refine w_leT (by omega) (by omega) (w_some ⟨⟨S1, adS_eq a1 (fun A' sg' => ?_), hΦ.2.2 _ _ _ _ (by omega) a2⟩, hf⟩)
      constructor
      · rintro ⟨g1, k1, h1, -, h3, h4, h5⟩
        exact ⟨g1, k1, h1, h3, h4, h5⟩
      · rintro ⟨g1, k1, h1, h3, h4, h5⟩
        have := isG_lt h1
        exact ⟨g1, k1, h1, Or.inl ⟨by omega, h3⟩, h3, h4, h5⟩
    | succ d ih =>
      intro g y hg hf h0
      have c4 : ∀ (x4 : Int32) (y : ow_MS), fr frB z y → (∃ S1, adS S S1 (O (g + 1) 0) ∧ Φ y S1 (L + 4 * (g + 1))) → Tt (fun K i => q_X13_oneComes K i 4 (nI c) (nI g) x4 n 0 0 y) Q := by
        intro x4 y hf ho
        refine u_X13_oneComes_4 ?_; unfold qm_X13_oneComes_4
        rw [nI_1]
        exact ih (g + 1) y (by omega) hf ho
      have inn : ∀ (d k : Nat) (y : ow_MS), k + d = 4 → fr frB z y → (∃ S1, adS S S1 (O g k) ∧ Φ y S1 (L + 4 * g + k)) → Tt (fun K i => q_X13_oneComes K i 2 (nI c) (nI g) (nI k) n 0 0 y) Q := by
        intro d
        induction d with
        | zero =>
          intro k y hk hf ⟨S1, a1, a2⟩
          have hk4 : k = 4 := by omega
          subst hk4
          refine u_X13_oneComes_2 ?_; unfold qm_X13_oneComes_2
          refine w_leT (a := 4) (by omega) (by omega) (c4 _ y hf ⟨S1, adS_eq a1 (fun A' sg' => ?_), hΦ.2.2 _ _ _ _ (by omega) a2⟩)
          constructor
          · rintro ⟨g1, k1, h1, h2, h3⟩
            exact ⟨g1, k1, h1, by omega, h3⟩
          · rintro ⟨g1, k1, h1, h2, h3⟩
            exact ⟨g1, k1, h1, by omega, h3⟩
        | succ d ihd =>
          intro k y hk hf ⟨S1, a1, a2⟩
          have o2 := oNet_B hn hn3 hf hO
          refine u_X13_oneComes_2 ?_; unfold qm_X13_oneComes_2
          refine w_leF (a := 4) (by omega) (by omega) (w_cs1 (tp_isGap hn o2 (by omega)) (fun a y9 ⟨e, h9⟩ => ?_))
          have e : y9 = y := e
          subst e
          rcases h9 with ⟨h9, hng⟩ | ⟨h9, hig⟩
          · have h9 : a = 0 := h9
            refine w_ifT h9 (c4 _ y9 hf ⟨S1, adS_eq a1 (fun A' sg' => ?_), hΦ.2.2 _ _ _ _ (by omega) a2⟩)
            constructor
            · rintro ⟨g1, k1, h1, h2, h3⟩
              exact ⟨g1, k1, h1, by omega, h3⟩
            · rintro ⟨g1, k1, h1, h2, h3⟩
              refine ⟨g1, k1, h1, ?_, h3⟩
              by_cases eg : g1 = g
              · rw [eg] at h1
                exact absurd h1 hng
              · omega
          · have h9 : a = 1 := h9
            refine w_ifF (by rw [h9]; decide) ?_
            rw [rn_and1 (by omega), show (1 : Int32) - nI (k % 2) = nI (1 - k % 2) from pk_sub (a := 1) (by omega)]
            refine w_cs0 (tp_put (i := 0) (by omega)) (fun y1 e1 => w_cs0 (tp_put (i := 1) (by omega)) (fun y2 e2 => ?_))
            subst e1
            subst e2
            have f31 : fr (fun g => g = 31 ∨ g = 32) y9 (usI (usI (usI (usI y9 31 0 (nI c)) 32 0 (nI (k % 2))) 31 1 (nI c)) 32 1 (nI (1 - k % 2))) := fr_I2 (fr_I2 (fr_I2 (fr_I (Or.inl rfl)) (Or.inr rfl)) (Or.inl rfl)) (Or.inr rfl)
            have o3 := oNet_fr f31 (fun g hg => by omega) o2
            refine w_cs0 (xr_build (g := g) (h := 1000) (p0 := (c, k % 2)) (p1 := (c, 1 - k % 2)) (p2 := (0, 0)) (p3 := (0, 0)) hn hn3 o3 (by omega) (Or.inr rfl) neg_x3 ⟨rd_ot (by decide) (rd_ne (by decide) (rd_ot (by decide) po_usI_at)), rd_ne (by decide) (rd_ot (by decide) po_usI_at), rd_ot (by decide) po_usI_at, po_usI_at⟩ (fun h8 => by omega)) (fun y3 ⟨b3, f3, s3⟩ => ?_)
            have eb : bldA A (insG g 1000 [(c, k % 2), (c, 1 - k % 2)] [(0, 0), (0, 0)]) = bldA A (insG g 1000 [(c, k % 2), (c, 1 - k % 2)] []) := bldA_cg (fun gp hgp => by
              unfold insG
              rw [if_neg (show ¬ gp = 1000 by omega), if_neg (show ¬ gp = 1000 by omega)])
            rw [eb] at b3
            have ok1 := o1_ok hok hC (by omega) hig (show k < 4 by omega)
            have hl1 := okF_len ok1
            have lenA : (bldA A (insG g 1000 [(c, k % 2), (c, 1 - k % 2)] [])).length = A.length := by
              unfold bldA
              rw [List.length_map, List.length_range]
            have fin : ∀ t0 : Int32, t0 = (if decide (2 ≤ k) = true then -1 else 1) → Tt (fun K i => q_X13_oneComes K i 3 (nI c) (nI g) (nI k) n t0 (nI c) y3) Q := by
              intro t0 ht0
              have F3 : fr (fun g => 31 ≤ g ∧ g ≤ 34 ∨ 1000 ≤ g) y9 (usI y3 3006 c t0) := fr_I2 (fr_tr (fr_mono (fun g hg => by omega) f31) (fr_mono (fun g hg => by omega) f3)) (by omega)
              have FB : fr frB z (usI y3 3006 c t0) := fr_I2 (fr_tr hf (fr_tr (fr_mono (fun g hg => by unfold frB; omega) f31) (fr_mono (fun g hg => by unfold frB; omega) f3))) (by unfold frB; omega)
              refine u_X13_oneComes_3 ?_; unfold qm_X13_oneComes_3
              rw [nI_1]
              refine w_wrI (pl6 pn3) rfl (by omega) (w_cs0 (hΦ.2.1 _ S1 _ _ (fun i => if i = c then decide (2 ≤ k) else sg i) (by omega) (hΦ.1 _ _ _ _ _ F3 (fun g hg => hg) a2) (fr_At (P := fun g => g = 3006) (fr_I rfl) (fun g hg => by omega) b3) (fun p hp => ?_) (okF_wk (by omega) ok1) (by omega) (by rw [lenA]; exact hC)) (fun y5 ⟨⟨S2, k0, k1⟩, k2⟩ => ihd (k + 1) y5 (by omega) (fr_tr FB (fr_mono (fun g hg => by unfold frO at hg; unfold frB; omega) k2)) ⟨S2, adS_eq (adS_tr a1 k0) (fun A' sg' => ?_), hΦ.2.2 _ _ _ _ (by omega) k1⟩))
              · have hp1 := ((ok1.2 p).mp hp).1
                show (usI y3 3006 c t0).2.1 3006 p.1 = if (if p.1 = c then decide (2 ≤ k) else sg p.1) = true then -1 else 1
                by_cases ep : p.1 = c
                · rw [ep, if_pos rfl, po_usI_at]
                  exact ht0
                · rw [if_neg ep]
                  refine rd_ne ep ?_
                  rw [s3 p.1 (by omega)]
                  exact o3.2.1 (p.1, 0) ((hok.2 _).mpr ⟨by show p.1 < c; omega, by show 0 < 2; omega⟩)
              · constructor
                · rintro (⟨g1, k1, h1, h2, h3⟩ | ⟨e1, e2⟩)
                  · exact ⟨g1, k1, h1, by omega, h3⟩
                  · exact ⟨g, k, hig, by omega, by omega, e1, e2⟩
                · rintro ⟨g1, k1, h1, h2, h3, h4, h5⟩
                  by_cases eg : g1 = g ∧ k1 = k
                  · rw [eg.1, eg.2] at h4
                    rw [eg.2] at h5
                    exact Or.inr ⟨h4, h5⟩
                  · exact Or.inl ⟨g1, k1, h1, by omega, h3, h4, h5⟩
            refine w_le (a := 2) (by omega) (by omega) (fun h8 => fin (-1) ?_) (fun h8 => fin 1 ?_)
            · rw [decide_eq_true h8]
              rfl
            · rw [decide_eq_false (by omega)]
              rfl
      have o2 := oNet_B hn hn3 hf hO
      refine u_X13_oneComes_1 ?_; unfold qm_X13_oneComes_1
      refine w_rdF o2.1.V (w_rdF (lk_C o2.1) ?_)
      rw [nI_add]
      exact w_leF (by omega) (by omega) (inn 4 0 y (by omega) hf h0)
  refine e_X13_oneComes ?_
  refine u_X13_oneComes_0 ?_; unfold qm_X13_oneComes_0
  refine w_rdF hO.1.V (w_nzI (by decide) ?_)
  rw [ed]
  refine outer (V + A.length) 0 z (by omega) fr_rf ⟨S, adS_eq adS_rf (fun A' sg' => ⟨fun h9 => h9.elim, ?_⟩), h⟩
  rintro ⟨g1, k1, -, h2, -⟩
  omega
/-! two come -/
theorem t3_ok {g h k : Nat} (hok : okF A.flatten c) (hg : isG A g) (hh : isG A h) (hk : k < 8) : okF (t3A A c g h k).flatten (c + 2) := by
  have p := bld_perm (h := h) (P0 := t3P c k) (P1 := t3Q c k) hg
  rw [if_pos (gps_mem.mpr hh)] at p
  exact okF_pm p (okB_F hok (two_ok (a := k % 2) (b := k / 2 % 2) (u := k / 4) (by omega) (by omega) (by omega)))
theorem t3_len {g h k : Nat} : (t3A A c g h k).length = A.length := by
  unfold t3A bldA
  rw [List.length_map, List.length_range]
theorem xr_twoAt {g h k : Nat} (hΦ : snkF Φ) (hn : mw_net n) (hn3 : n ≠ 3000) (hok : okF A.flatten c) (hV : A.flatten.length ≤ 20) (hL : L < 2700) (hg : isG A g) (hh : isG A h) (ht : k < 8) (hO : oNet z n A sg) (hP : Φ z S L) : Te (fun K => qe_X13_twoAt K n (nI g) (nI h) (nI k) z) (fun z1 => (∃ S', adS S S' (fun A' sg' => A' = t3A A c g h k ∧ sg' = t3S sg c ∧ plnA A' sg') ∧ Φ z1 S' (L + 1)) ∧ fr frC z z1) := by
  have hmn := net_mod hn
  have hC := hO.2.2.2
  have hVc := okF_len hok
  have hgb := isG_lt hg
  have hhb := isG_lt hh
  have ok3 := t3_ok (k := k) hok hg hh ht
  have hl3 := okF_len ok3
  have hle3 := t3_len (A := A) (c := c) (g := g) (h := h) (k := k)
  let Q : ow_MS → Prop := fun z1 => (∃ S', adS S S' (fun A' sg' => A' = t3A A c g h k ∧ sg' = t3S sg c ∧ plnA A' sg') ∧ Φ z1 S' (L + 1)) ∧ fr frC z z1
  obtain ⟨u, hu⟩ : ∃ u, u = k / 4 := ⟨_, rfl⟩
  have hu2 : u < 2 := by omega
  obtain ⟨q0, hq0⟩ : ∃ q, q = (if u = 0 then c + k % 2 else c + k / 2 % 2) := ⟨_, rfl⟩
  obtain ⟨q1, hq1⟩ : ∃ q, q = (if u = 0 then 2 * c + 1 - (c + k % 2) else 2 * c + 1 - (c + k / 2 % 2)) := ⟨_, rfl⟩
  obtain ⟨q2, hq2⟩ : ∃ q, q = (if u = 0 then c + k / 2 % 2 else c + k % 2) := ⟨_, rfl⟩
  obtain ⟨q3, hq3⟩ : ∃ q, q = (if u = 0 then 2 * c + 1 - (c + k / 2 % 2) else 2 * c + 1 - (c + k % 2)) := ⟨_, rfl⟩
  have eP : t3P c k = [(q0, u), (q1, u)] := by rw [hq0, hq1, hu]; rfl
  have eQ : t3Q c k = [(q2, 1 - u), (q3, 1 - u)] := by rw [hq2, hq3, hu]; rfl
  have c4 : ∀ (y : ow_MS) (x6 x7 x8 x9 t0 : Int32), fr (fun g => g = 31 ∨ g = 32) z y → y.2.1 31 0 = nI q0 → y.2.1 32 0 = nI u → y.2.1 31 1 = nI q1 → y.2.1 32 1 = nI u → y.2.1 31 2 = nI q2 → y.2.1 32 2 = nI (1 - u) → t0 = nI q3 → Tt (fun K i => q_X13_twoAt K i 4 (nI g) (nI h) (nI k) (nI c) x6 x7 x8 x9 (nI u) n t0 3 y) Q := by
    intro y x6 x7 x8 x9 t0 hf p0 r0 p1 r1 p2 r2 ht0
    refine u_X13_twoAt_4 ?_; unfold qm_X13_twoAt_4
    rw [show (1 : Int32) - nI u = nI (1 - u) from pk_sub (a := 1) (by omega), nI_1]
    refine w_cs0 (tp_put (i := 3) (by omega)) (fun y2 e2 => ?_)
    subst e2
    have f31 : fr (fun g => g = 31 ∨ g = 32) z (usI (usI y 31 3 t0) 32 3 (nI (1 - u))) := fr_I2 (fr_I2 hf (Or.inl rfl)) (Or.inr rfl)
    have o3 := oNet_fr f31 (fun g hg => by omega) hO
    refine w_cs0 (xr_build (g := g) (h := h) (p0 := (q0, u)) (p1 := (q1, u)) (p2 := (q2, 1 - u)) (p3 := (q3, 1 - u)) hn hn3 o3 (by omega) (Or.inl (by omega)) (fun k hk => nI_eq (by omega) (by omega)) ⟨rd_ot (by decide) (rd_ne (by decide) p0), rd_ne (by decide) (rd_ot (by decide) r0), rd_ot (by decide) (rd_ne (by decide) p1), rd_ne (by decide) (rd_ot (by decide) r1)⟩ (fun _ => ⟨rd_ot (by decide) (rd_ne (by decide) p2), rd_ne (by decide) (rd_ot (by decide) r2), rd_ot (by decide) (po_usI_at.trans ht0), po_usI_at⟩)) (fun y3 ⟨b3, f3, s3⟩ => ?_)
    rw [← eP, ← eQ] at b3
    have b3 : rn_At y3 3000 (t3A A c g h k) [] := b3
    refine w_wrI (pl6 pn3) rfl (by omega) (w_wrI (pl6 pn3) rfl (by omega) ?_)
    obtain ⟨y4, hy4⟩ : ∃ y4, y4 = usI (usI y3 3006 c 1) 3006 (c + 1) (-1) := ⟨_, rfl⟩
    have f4 : fr (fun g => g = 3006) y3 y4 := by rw [hy4]; exact fr_I2 (fr_I rfl) rfl
    have b4 : rn_At y4 3000 (t3A A c g h k) [] := fr_At f4 (fun g hg => by omega) b3
    have sg4 : rn_sg y4 3000 (t3A A c g h k).flatten (t3S sg c) := fun p hp => by
      have hp1 := ((ok3.2 p).mp hp).1
      show y4.2.1 3006 p.1 = if t3S sg c p.1 = true then -1 else 1
      unfold t3S
      rw [hy4]
      by_cases ep : p.1 = c
      · rw [ep, if_pos rfl]
        exact rd_ne (by omega) po_usI_at
      · rw [if_neg ep]
        by_cases ep2 : p.1 = c + 1
        · rw [ep2, if_pos rfl]
          exact po_usI_at
        · rw [if_neg ep2]
          refine rd_ne ep2 (rd_ne ep ?_)
          rw [s3 p.1 (by omega)]
          exact o3.2.1 (p.1, 0) ((hok.2 _).mpr ⟨by show p.1 < c; omega, by show 0 < 2; omega⟩)
    have hwk : wkF (t3A A c g h k).flatten := okF_wk (by omega) ok3
    have F4 : fr (fun g => 31 ≤ g ∧ g ≤ 34 ∨ 1000 ≤ g) z y4 := fr_tr (fr_mono (fun g hg => by omega) f31) (fr_tr (fr_mono (fun g hg => by omega) f3) (fr_mono (fun g hg => by omega) f4))
    have C4 : fr frC z y4 := fr_tr (fr_mono (fun g hg => by unfold frC; omega) f31) (fr_tr (fr_mono (fun g hg => by unfold frC; omega) f3) (fr_mono (fun g hg => by unfold frC; omega) f4))
    obtain ⟨n1, n2, n3⟩ := netO_ok (sg := t3S sg c) ok3 (show c + 2 ≤ 12 by omega)
    rw [← hy4]
    refine w_cs0 (tn_link pn3 (by omega) (by omega) (wkF_ok hwk).1 b4) (fun y5 ⟨g1, g2, g3⟩ => ?_)
    have sg5 : rn_sg y5 3000 (t3A A c g h k).flatten (t3S sg c) := fun p hp => by
      rw [(g1 3006 (fun h8 => by have := h8.1; omega)).2.1]
      exact sg4 p hp
    refine w_cs1 (xr_plane pn3 (by omega) n1 n2 n3 ⟨g2, g3⟩ sg5) (fun v y6 ⟨k1, k2, k3⟩ => ?_)
    have k1 : v = if nt_plane (netO (t3A A c g h k) (t3S sg c) (c + 2)) = true then 1 else 0 := k1
    have k2 : fr (fun g => 3000 + 12 ≤ g ∧ g ≤ 3000 + 16) y5 y6 := k2
    have k3 : rn_lk y6 3000 (t3A A c g h k) := k3
    have F6 : fr (fun g => 31 ≤ g ∧ g ≤ 34 ∨ 1000 ≤ g) z y6 := fr_tr F4 (fr_tr (fr_mono (fun g hg => by have := hg.1; omega) g1) (fr_mono (fun g hg => by omega) k2))
    have C6 : fr frC z y6 := fr_tr C4 (fr_tr (fr_mono (fun g hg => by have := hg.1; have := hg.2; unfold frC; omega) g1) (fr_mono (fun g hg => by unfold frC; omega) k2))
    have pl := pln_net (sg := t3S sg c) ok3 (show c + 2 ≤ 12 by omega)
    have P6 := hΦ.1 _ _ _ _ _ F6 (fun g hg => hg) hP
    cases hpl : nt_plane (netO (t3A A c g h k) (t3S sg c) (c + 2)) with
    | false =>
      rw [hpl] at k1 pl
      have k1 : v = 0 := k1
      refine w_ifT k1 (w_some ⟨⟨S, adS_eq adS_rf (fun A' sg' => ⟨fun h9 => h9.elim, ?_⟩), hΦ.2.2 _ _ _ _ (by omega) P6⟩, C6⟩)
      rintro ⟨e1, e2, e3⟩
      rw [e1, e2] at e3
      have := pl.mp e3
      cases this
    | true =>
      rw [hpl] at k1 pl
      have k1 : v = 1 := k1
      refine w_ifF (by rw [k1]; decide) (w_cs0 (hΦ.2.1 y6 S L _ (t3S sg c) hL P6 k3.1 (fun p hp => ?_) hwk (by omega) (by omega)) (fun y7 ⟨⟨S2, m0, m1⟩, m2⟩ => w_some ⟨⟨S2, adS_eq m0 (fun A' sg' => ⟨fun ⟨e1, e2⟩ => ⟨e1, e2, ?_⟩, fun ⟨e1, e2, _⟩ => ⟨e1, e2⟩⟩), m1⟩, fr_tr C6 (fr_mono (fun g hg => by unfold frO at hg; unfold frC; omega) m2)⟩))
      · rw [(k2 3006 (by omega)).2.1]
        exact sg5 p hp
      · rw [e1, e2]
        exact pl.mpr rfl
  have c3 : ∀ (y : ow_MS) (x6 x7 x8 x9 t0 : Int32), (if u = 0 then x9 = nI q3 else x7 = nI q3) → fr (fun g => g = 31 ∨ g = 32) z y → y.2.1 31 0 = nI q0 → y.2.1 32 0 = nI u → y.2.1 31 1 = nI q1 → y.2.1 32 1 = nI u → t0 = nI q2 → Tt (fun K i => q_X13_twoAt K i 3 (nI g) (nI h) (nI k) (nI c) x6 x7 x8 x9 (nI u) n t0 2 y) Q := by
    intro y x6 x7 x8 x9 t0 hx hf p0 r0 p1 r1 ht0
    refine u_X13_twoAt_3 ?_; unfold qm_X13_twoAt_3
    rw [show (1 : Int32) - nI u = nI (1 - u) from pk_sub (a := 1) (by omega)]
    refine w_cs0 (tp_put (i := 2) (by omega)) (fun y2 e2 => ?_)
    subst e2
    have f31 : fr (fun g => g = 31 ∨ g = 32) z (usI (usI y 31 2 t0) 32 2 (nI (1 - u))) := fr_I2 (fr_I2 hf (Or.inl rfl)) (Or.inr rfl)
    refine w_eqN (b := 0) (by omega) (by omega) (fun h9 => ?_) (fun h9 => ?_)
    · rw [if_pos h9] at hx
      exact c4 _ _ _ _ _ _ f31 (rd_ot (by decide) (rd_ne (by decide) p0)) (rd_ne (by decide) (rd_ot (by decide) r0)) (rd_ot (by decide) (rd_ne (by decide) p1)) (rd_ne (by decide) (rd_ot (by decide) r1)) (rd_ot (by decide) (po_usI_at.trans ht0)) po_usI_at hx
    · rw [if_neg h9] at hx
      exact c4 _ _ _ _ _ _ f31 (rd_ot (by decide) (rd_ne (by decide) p0)) (rd_ne (by decide) (rd_ot (by decide) r0)) (rd_ot (by decide) (rd_ne (by decide) p1)) (rd_ne (by decide) (rd_ot (by decide) r1)) (rd_ot (by decide) (po_usI_at.trans ht0)) po_usI_at hx
  have c2 : ∀ (y : ow_MS) (x6 x7 x8 x9 t0 : Int32), (if u = 0 then x9 = nI q3 else x7 = nI q3) → (if u = 0 then x8 = nI q2 else x6 = nI q2) → fr (fun g => g = 31 ∨ g = 32) z y → y.2.1 31 0 = nI q0 → y.2.1 32 0 = nI u → t0 = nI q1 → Tt (fun K i => q_X13_twoAt K i 2 (nI g) (nI h) (nI k) (nI c) x6 x7 x8 x9 (nI u) n t0 1 y) Q := by
    intro y x6 x7 x8 x9 t0 hx hx2 hf p0 r0 ht0
    refine u_X13_twoAt_2 ?_; unfold qm_X13_twoAt_2
    refine w_cs0 (tp_put (i := 1) (by omega)) (fun y2 e2 => ?_)
    subst e2
    have f31 : fr (fun g => g = 31 ∨ g = 32) z (usI (usI y 31 1 t0) 32 1 (nI u)) := fr_I2 (fr_I2 hf (Or.inl rfl)) (Or.inr rfl)
    refine w_eqN (b := 0) (by omega) (by omega) (fun h9 => ?_) (fun h9 => ?_)
    · rw [if_pos h9] at hx2
      exact c3 _ _ _ _ _ _ hx f31 (rd_ot (by decide) (rd_ne (by decide) p0)) (rd_ne (by decide) (rd_ot (by decide) r0)) (rd_ot (by decide) (po_usI_at.trans ht0)) po_usI_at hx2
    · rw [if_neg h9] at hx2
      exact c3 _ _ _ _ _ _ hx f31 (rd_ot (by decide) (rd_ne (by decide) p0)) (rd_ne (by decide) (rd_ot (by decide) r0)) (rd_ot (by decide) (po_usI_at.trans ht0)) po_usI_at hx2
  have c1 : ∀ (x6 x7 x8 x9 t0 : Int32), (if u = 0 then x9 = nI q3 else x7 = nI q3) → (if u = 0 then x8 = nI q2 else x6 = nI q2) → (if u = 0 then x7 = nI q1 else x9 = nI q1) → t0 = nI q0 → Tt (fun K i => q_X13_twoAt K i 1 (nI g) (nI h) (nI k) (nI c) x6 x7 x8 x9 (nI u) n t0 0 z) Q := by
    intro x6 x7 x8 x9 t0 hx hx2 hx3 ht0
    refine u_X13_twoAt_1 ?_; unfold qm_X13_twoAt_1
    refine w_cs0 (tp_put (i := 0) (by omega)) (fun y2 e2 => ?_)
    subst e2
    have f31 : fr (fun g => g = 31 ∨ g = 32) z (usI (usI z 31 0 t0) 32 0 (nI u)) := fr_I2 (fr_I (Or.inl rfl)) (Or.inr rfl)
    refine w_eqN (b := 0) (by omega) (by omega) (fun h9 => ?_) (fun h9 => ?_)
    · rw [if_pos h9] at hx3
      exact c2 _ _ _ _ _ _ hx hx2 f31 (rd_ot (by decide) (po_usI_at.trans ht0)) po_usI_at hx3
    · rw [if_neg h9] at hx3
      exact c2 _ _ _ _ _ _ hx hx2 f31 (rd_ot (by decide) (po_usI_at.trans ht0)) po_usI_at hx3
  have ed : nI A.flatten.length / 2 = nI c := by
    rw [show nI A.flatten.length / 2 = nI (A.flatten.length / 2) from pk_div (d := 2) (by omega) (by omega) (by omega)]
    congr 1
    omega
  have e1 : nI k &&& 1 = nI (k % 2) := rn_and1 (by omega)
  have e2 : nI k >>> ((1 : Int32) &&& 31) = nI (k / 2) := rn_shr1 (by omega)
  have e3 : nI k >>> ((2 : Int32) &&& 31) = nI u := by rw [hu]; exact pk_shrN (n := k) (by omega) ((2 : Int32) &&& 31) 2 (by decide)
  have e4 : nI (k / 2) &&& 1 = nI (k / 2 % 2) := rn_and1 (by omega)
  refine e_X13_twoAt ?_
  refine u_X13_twoAt_0 ?_; unfold qm_X13_twoAt_0
  refine w_rdF hO.1.V (w_nzI (by decide) ?_)
  rw [ed, e1, e2, e3, e4, nI_add, nI_add, rn_mul2, nI_1, pk_sub (show c + k % 2 ≤ 2 * c + 1 by omega), pk_sub (show c + k / 2 % 2 ≤ 2 * c + 1 by omega)]
  refine w_eqN (b := 0) (by omega) (by omega) (fun h9 => ?_) (fun h9 => ?_)
  · rw [if_pos h9] at hq0 hq1 hq2 hq3
    refine c1 _ _ _ _ _ ?_ ?_ ?_ ?_
    · rw [if_pos h9, hq3]
    · rw [if_pos h9, hq2]
    · rw [if_pos h9, hq1]
    · rw [hq0]
  · rw [if_neg h9] at hq0 hq1 hq2 hq3
    refine c1 _ _ _ _ _ ?_ ?_ ?_ ?_
    · rw [if_neg h9, hq3]
    · rw [if_neg h9, hq2]
    · rw [if_neg h9, hq1]
    · rw [hq0]
end XK1
end
section
/-! 99zzzzzzzzzzzb.xk3 -/
/-! exact: moves of kind 3 of the reference, all places -/
def O3L (A : rn_L) (sg : Nat → Bool) (c g0 h0 k0 : Nat) (A' : rn_L) (sg' : Nat → Bool) : Prop := ∃ g h k, isG A g ∧ isG A h ∧ (k < 4 ∨ g = h ∧ k < 8) ∧ (g < g0 ∨ g = g0 ∧ (h < h0 ∨ h = h0 ∧ k < k0)) ∧ A' = t3A A c g h k ∧ sg' = t3S sg c ∧ plnA A' sg'
section XK3
variable {Φ : ow_MS → (List Nat → Prop) → Nat → Prop} {n L c : Nat} {z : ow_MS} {A : rn_L} {sg : Nat → Bool} {S : List Nat → Prop} {A' : rn_L} {sg' : Nat → Bool} {g h t : Nat}
theorem O3L_end : O3L A sg c (A.flatten.length + A.length) 0 0 A' sg' ↔ O3 A sg c A' sg' := by
  constructor
  · rintro ⟨g, h, k, h1, h2, h3, -, h5⟩
    exact ⟨g, h, k, h1, h2, h3, h5⟩
  · rintro ⟨g, h, k, h1, h2, h3, h5⟩
    exact ⟨g, h, k, h1, h2, h3, Or.inl (isG_lt h1), h5⟩
theorem O3L_row : O3L A sg c g (A.flatten.length + A.length) 0 A' sg' ↔ O3L A sg c (g + 1) 0 0 A' sg' := by
  constructor
  · rintro ⟨g1, h, k, h1, h2, h3, h4, h5⟩
    exact ⟨g1, h, k, h1, h2, h3, by omega, h5⟩
  · rintro ⟨g1, h, k, h1, h2, h3, h4, h5⟩
    have := isG_lt h2
    exact ⟨g1, h, k, h1, h2, h3, by omega, h5⟩
theorem O3L_cell : O3L A sg c g h (if g = h then 8 else 4) A' sg' ↔ O3L A sg c g (h + 1) 0 A' sg' := by
  constructor
  · rintro ⟨g1, h1, k, a1, a2, a3, a4, a5⟩
    exact ⟨g1, h1, k, a1, a2, a3, by omega, a5⟩
  · rintro ⟨g1, h1, k, a1, a2, a3, a4, a5⟩
    refine ⟨g1, h1, k, a1, a2, a3, ?_, a5⟩
    by_cases e : g = h
    · rw [if_pos e]
      omega
    · rw [if_neg e]
      omega
theorem O3L_no (hno : ¬ (isG A g ∧ isG A h)) : O3L A sg c g h t A' sg' ↔ O3L A sg c g (h + 1) 0 A' sg' := by
  constructor
  · rintro ⟨g1, h1, k, a1, a2, a3, a4, a5⟩
    exact ⟨g1, h1, k, a1, a2, a3, by omega, a5⟩
  · rintro ⟨g1, h1, k, a1, a2, a3, a4, a5⟩
    refine ⟨g1, h1, k, a1, a2, a3, ?_, a5⟩
    by_cases e : g1 = g ∧ h1 = h
    · rw [e.1] at a1
      rw [e.2] at a2
      exact absurd ⟨a1, a2⟩ hno
    · omega
theorem O3L_step (hg : isG A g) (hh : isG A h) (ht : t < 4 ∨ g = h ∧ t < 8) : (O3L A sg c g h t A' sg' ∨ (A' = t3A A c g h t ∧ sg' = t3S sg c ∧ plnA A' sg')) ↔ O3L A sg c g h (t + 1) A' sg' := by
  constructor
  · rintro (⟨g1, h1, k, a1, a2, a3, a4, a5⟩ | a5)
    · exact ⟨g1, h1, k, a1, a2, a3, by omega, a5⟩
    · exact ⟨g, h, t, hg, hh, ht, by omega, a5⟩
  · rintro ⟨g1, h1, k, a1, a2, a3, a4, a5⟩
    by_cases e : g1 = g ∧ h1 = h ∧ k = t
    · rw [e.1, e.2.1, e.2.2] at a5
      exact Or.inr a5
    · exact Or.inl ⟨g1, h1, k, a1, a2, a3, by omega, a5⟩
theorem xr_twoCome (hΦ : snkF Φ) (hn : mw_net n) (hn3 : n ≠ 3000) (hok : okF A.flatten c) (hV : A.flatten.length ≤ 20) (hO : oNet z n A sg) (h : Φ z S 0) : Te (fun K => qe_X13_twoCome K n z) (fun z1 => (∃ S', adS S S' (O3 A sg c) ∧ Φ z1 S' 2700) ∧ fr frC z z1) := by
  have hC := hO.2.2.2
  have hG := gcn_25 hV hC
  obtain ⟨N, hN⟩ : ∃ N, N = A.flatten.length + A.length := ⟨_, rfl⟩
  rw [← hN] at hG
  have hN26 : N ≤ 26 := by omega
  obtain ⟨W, hW⟩ : ∃ W, W = 4 * gcn A N + 4 := ⟨_, rfl⟩
  have hGW : gcn A N * W ≤ 2600 := by
    have := Nat.mul_le_mul hG (show W ≤ 104 by omega)
    omega
  let Q : ow_MS → Prop := fun z1 => (∃ S', adS S S' (O3 A sg c) ∧ Φ z1 S' 2700) ∧ fr frC z z1
  have out : ∀ (k g : Nat) (y : ow_MS), g + k = N → fr frC z y → (∃ L2, L2 ≤ gcn A g * W ∧ ∃ S1, adS S S1 (O3L A sg c g 0 0) ∧ Φ y S1 L2) → Tt (fun K i => q_X13_twoCome K i 1 (nI g) 0 0 n 0 0 y) Q := by
    intro k
    induction k with
    | zero =>
      intro g y hg hf ⟨L2, hL2, S1, hS1, ho⟩
      have o2 := oNet_C hn hn3 hf hO
      have : g = N := by omega
      rw [this] at hL2
      refine u_X13_twoCome_1 ?_; unfold qm_X13_twoCome_1
      refine w_rdF o2.1.V (w_rdF (lk_C o2.1) ?_)
      rw [nI_add]
      exact w_leT (by omega) (by omega) (w_some ⟨⟨S1, adS_eq hS1 (fun A' sg' => by rw [this, hN]; exact O3L_end), hΦ.2.2 _ _ _ _ (by omega) ho⟩, hf⟩)
    | succ k ih =>
      intro g y hg hf hLo
      have hgN : g < A.flatten.length + A.length := by omega
      have hmon := gcn_mono (A := A) (a := g + 1) (b := N) (by omega)
      obtain ⟨M, hM⟩ : ∃ M, M = gcn A g * W := ⟨_, rfl⟩
      -- the bound while h runs
      have mid : ∀ (k h9 : Nat) (y : ow_MS), h9 + k = N → fr frC z y → (∃ L2, L2 ≤ M + (if isGb : gcn A (g + 1) = gcn A g + 1 then 4 * gcn A h9 + (if g < h9 then 4 else 0) else 0) ∧ ∃ S1, adS S S1 (O3L A sg c g h9 0) ∧ Φ y S1 L2) → Tt (fun K i => q_X13_twoCome K i 2 (nI g) (nI h9) 0 n 0 0 y) Q := by
        intro k
        induction k with
        | zero =>
          intro h9 y hh hf ⟨L2, hL2, S1, hS1, ho⟩
          have o2 := oNet_C hn hn3 hf hO
          have hhN : h9 = N := by omega
          rw [hhN] at hL2 ⊢
          refine u_X13_twoCome_2 ?_; unfold qm_X13_twoCome_2
          refine w_rdF o2.1.V (w_rdF (lk_C o2.1) ?_)
          rw [nI_add, nI_1]
          refine w_leT (by omega) (by omega) (ih (g + 1) y (by omega) hf ⟨L2, ?_, S1, adS_eq hS1 (fun A' sg' => by rw [hhN, hN]; exact O3L_row), ho⟩)
          by_cases hig : gcn A (g + 1) = gcn A g + 1
          · rw [dif_pos hig, if_pos (by omega)] at hL2
            rw [hig, Nat.succ_mul, ← hM]
            omega
          · rw [dif_neg hig] at hL2
            have := Nat.mul_le_mul_right W (gcn_s A g)
            omega
        | succ k ihk =>
          intro h9 y hh hf hLh
          have hhN : h9 < A.flatten.length + A.length := by omega
          have hmonh := gcn_mono (A := A) (a := h9 + 1) (b := N) (by omega)
          have c5 : ∀ (x4 : Int32) (y : ow_MS), fr frC z y → (∃ L2, L2 ≤ M + (if isGb : gcn A (g + 1) = gcn A g + 1 then 4 * gcn A (h9 + 1) + (if g < h9 + 1 then 4 else 0) else 0) ∧ ∃ S1, adS S S1 (O3L A sg c g (h9 + 1) 0) ∧ Φ y S1 L2) → Tt (fun K i => q_X13_twoCome K i 5 (nI g) (nI h9) x4 n 0 0 y) Q := by
            intro x4 y hf ho
            refine u_X13_twoCome_5 ?_; unfold qm_X13_twoCome_5
            rw [nI_1]
            exact ihk (h9 + 1) y (by omega) hf ho
          have inn : ∀ (k t : Nat) (y : ow_MS), t + k = (if g = h9 then 8 else 4) → fr frC z y → (∃ L2, L2 ≤ M + (if isGb : gcn A (g + 1) = gcn A g + 1 then 4 * gcn A h9 + (if g < h9 then 4 else 0) else 0) + (if isG2 : gcn A (g + 1) = gcn A g + 1 ∧ gcn A (h9 + 1) = gcn A h9 + 1 then t else 0) ∧ ∃ S1, adS S S1 (O3L A sg c g h9 t) ∧ Φ y S1 L2) → Tt (fun K i => q_X13_twoCome K i 3 (nI g) (nI h9) (nI t) n 0 0 y) Q := by
            intro k
            induction k with
            | zero =>
              intro t y ht hf ⟨L2, hL2, S1, hS1, ho⟩
              have fin : Tt (fun K i => q_X13_twoCome K i 5 (nI g) (nI h9) (nI t) n 0 0 y) Q := by
                refine c5 _ y hf ⟨L2, ?_, S1, adS_eq hS1 (fun A' sg' => by rw [show t = if g = h9 then 8 else 4 by omega]; exact O3L_cell), ho⟩
                have ms := gcn_s A h9
                by_cases hig : gcn A (g + 1) = gcn A g + 1
                · rw [dif_pos hig] at hL2 ⊢
                  by_cases hih : gcn A (h9 + 1) = gcn A h9 + 1
                  · rw [dif_pos ⟨hig, hih⟩] at hL2
                    by_cases hgh : g = h9
                    · rw [if_pos hgh] at ht
                      rw [if_neg (by omega)] at hL2
                      rw [if_pos (by omega)]
                      omega
                    · rw [if_neg hgh] at ht
                      by_cases hlt : g < h9
                      · rw [if_pos hlt] at hL2
                        rw [if_pos (by omega)]
                        omega
                      · rw [if_neg hlt] at hL2
                        rw [if_neg (by omega)]
                        omega
                  · rw [dif_neg (fun h8 => hih h8.2)] at hL2
                    by_cases hlt : g < h9
                    · rw [if_pos hlt] at hL2
                      rw [if_pos (by omega)]
                      omega
                    · rw [if_neg hlt] at hL2
                      omega
                · rw [dif_neg hig] at hL2 ⊢
                  rw [dif_neg (fun h8 => hig h8.1)] at hL2
                  omega
              refine u_X13_twoCome_3 ?_; unfold qm_X13_twoCome_3
              refine w_eqN (by omega) (by omega) (fun h8 => ?_) (fun h8 => ?_)
              · rw [if_pos h8] at ht
                refine u_X13_twoCome_4 ?_; unfold qm_X13_twoCome_4
                exact w_leT (a := 8) (by omega) (by omega) fin
              · rw [if_neg h8] at ht
                refine u_X13_twoCome_4 ?_; unfold qm_X13_twoCome_4
                exact w_leT (a := 4) (by omega) (by omega) fin
            | succ k ihi =>
              intro t y ht hf ⟨L2, hL2, S1, hS1, ho⟩
              have o2 := oNet_C hn hn3 hf hO
              have t8 : t < 8 := by
                by_cases h8 : g = h9
                · rw [if_pos h8] at ht; omega
                · rw [if_neg h8] at ht; omega
              have t48 : t < 4 ∨ g = h9 ∧ t < 8 := by
                by_cases h8 : g = h9
                · exact Or.inr ⟨h8, t8⟩
                · rw [if_neg h8] at ht
                  exact Or.inl (by omega)
              have ms := gcn_s A h9
              -- leaving early: no gap
              have early : ¬ (isG A g ∧ isG A h9) → Tt (fun K i => q_X13_twoCome K i 5 (nI g) (nI h9) (nI t) n 0 0 y) Q := by
                intro hno
                refine c5 _ y hf ⟨L2, ?_, S1, adS_eq hS1 (fun A' sg' => O3L_no hno), ho⟩
                have hn2 : ¬ (gcn A (g + 1) = gcn A g + 1 ∧ gcn A (h9 + 1) = gcn A h9 + 1) := by
                  intro ⟨e1, e2⟩
                  apply hno
                  constructor
                  · rcases Classical.em (isG A g) with h7 | h7
                    · exact h7
                    · rw [gcn_n hgN h7] at e1; omega
                  · rcases Classical.em (isG A h9) with h7 | h7
                    · exact h7
                    · rw [gcn_n hhN h7] at e2; omega
                rw [dif_neg hn2] at hL2
                by_cases hig : gcn A (g + 1) = gcn A g + 1
                · rw [dif_pos hig] at hL2 ⊢
                  by_cases hlt : g < h9
                  · rw [if_pos hlt] at hL2
                    rw [if_pos (by omega)]
                    omega
                  · rw [if_neg hlt] at hL2
                    omega
                · rw [dif_neg hig] at hL2 ⊢
                  omega
              have go : Tt (fun K i => cs1 (qe_X13_isGap K n (nI g) y) fun v6 z5 => (if v6 = 0 then q_X13_twoCome K i 5 (nI g) (nI h9) (nI t) n 0 0 z5 else cs1 (qe_X13_isGap K n (nI h9) z5) fun v8 z7 => (if v8 = 0 then q_X13_twoCome K i 5 (nI g) (nI h9) (nI t) n 0 0 z7 else cs0 (qe_X13_twoAt K n (nI g) (nI h9) (nI t) z7) fun z9 => q_X13_twoCome K i 3 (nI g) (nI h9) (nI t + 1) n 0 0 z9))) Q := by
                refine w_cs1 (tp_isGap hn o2 (by omega)) (fun a y9 ⟨e, h7⟩ => ?_)
                have e : y9 = y := e
                subst e
                rcases h7 with ⟨h7, hng⟩ | ⟨h7, hig⟩
                · have h7 : a = 0 := h7
                  exact w_ifT h7 (early (fun h6 => hng h6.1))
                · have h7 : a = 1 := h7
                  refine w_ifF (by rw [h7]; decide) (w_cs1 (tp_isGap hn o2 (by omega)) (fun a2 y8 ⟨e2, h5⟩ => ?_))
                  have e2 : y8 = y9 := e2
                  subst e2
                  rcases h5 with ⟨h5, hng⟩ | ⟨h5, hih⟩
                  · have h5 : a2 = 0 := h5
                    exact w_ifT h5 (early (fun h6 => hng h6.2))
                  · have h5 : a2 = 1 := h5
                    have e1 := gcn_g hig
                    have e3 := gcn_g hih
                    rw [dif_pos e1, dif_pos ⟨e1, e3⟩] at hL2
                    have hMW : M + W ≤ gcn A N * W := by
                      rw [hM, ← Nat.succ_mul]
                      exact Nat.mul_le_mul_right W (by omega)
                    have hlim : L2 < 2700 := by
                      have : 4 * gcn A h9 + 4 + 8 ≤ W + 8 := by omega
                      by_cases hlt : g < h9
                      · rw [if_pos hlt] at hL2; omega
                      · rw [if_neg hlt] at hL2; omega
                    rw [nI_1]
                    refine w_ifF (by rw [h5]; decide) (w_cs0 (xr_twoAt hΦ hn hn3 hok hV hlim hig hih t8 o2 ho) (fun y7 ⟨⟨S3, k1, k2⟩, k3⟩ => ihi (t + 1) y7 (by omega) (fr_tr hf k3) ⟨L2 + 1, ?_, S3, adS_eq (adS_tr hS1 k1) (fun A' sg' => O3L_step hig hih t48), k2⟩))
                    rw [dif_pos e1, dif_pos ⟨e1, e3⟩]
                    omega
              refine u_X13_twoCome_3 ?_; unfold qm_X13_twoCome_3
              refine w_eqN (by omega) (by omega) (fun h8 => ?_) (fun h8 => ?_)
              · rw [if_pos h8] at ht
                refine u_X13_twoCome_4 ?_; unfold qm_X13_twoCome_4
                exact w_leF (a := 8) (by omega) (by omega) go
              · rw [if_neg h8] at ht
                refine u_X13_twoCome_4 ?_; unfold qm_X13_twoCome_4
                exact w_leF (a := 4) (by omega) (by omega) go
          have o2 := oNet_C hn hn3 hf hO
          obtain ⟨L2, hL2, S1, hS1, ho⟩ := hLh
          refine u_X13_twoCome_2 ?_; unfold qm_X13_twoCome_2
          refine w_rdF o2.1.V (w_rdF (lk_C o2.1) ?_)
          rw [nI_add]
          refine w_leF (by omega) (by omega) (inn _ 0 y (Nat.zero_add _) hf ⟨L2, ?_, S1, hS1, ho⟩)
          omega
      have o2 := oNet_C hn hn3 hf hO
      obtain ⟨L2, hL2, S1, hS1, ho⟩ := hLo
      refine u_X13_twoCome_1 ?_; unfold qm_X13_twoCome_1
      refine w_rdF o2.1.V (w_rdF (lk_C o2.1) ?_)
      rw [nI_add]
      exact w_leF (by omega) (by omega) (mid N 0 y (by omega) hf ⟨L2, by omega, S1, hS1, ho⟩)
  refine e_X13_twoCome ?_
  refine u_X13_twoCome_0 ?_; unfold qm_X13_twoCome_0
  exact out N 0 z (by omega) fr_rf ⟨0, Nat.zero_le _, S, adS_eq adS_rf (fun A' sg' => ⟨fun h9 => h9.elim, fun ⟨g1, h1, k1, _, _, _, h5, _⟩ => by omega⟩), h⟩
end XK3
end
