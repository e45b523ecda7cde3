section
/-! 99zzzzzzzzzzzzzzzzxa.xtwq -/
/-! two: what the reference's skein leaves alone -/
abbrev skE (H d g : Nat) : Prop := 1000 * (d + 5) ≤ g ∨ g = 41 ∨ g = H
section XTWQ
variable {X : (Nat → Nat → Int32) → Prop} {z : ow_MS}
theorem tp_leafC (c j a : Nat) (s : Int64) (y : ow_MS) (_ : c ≤ j + 6) (hj : j ≤ 12) (_ : 16 ≤ a) (_ : a ≤ 64) (h46 : y.1 46 = 0) : Te (fun K => qe_X13_leaf K (nI c) s (nI a - 40) (nI j) y) (fun z1 => fr (fun g => g = 42) y z1) := by
  refine e_X13_leaf ?_
  refine u_X13_leaf_0 ?_; unfold qm_X13_leaf_0
  exact w_rdF h46 (w_ifT rfl (w_rdJ ml42 rfl (by omega) rfl (w_if (fun _ => w_wrJ ml42 rfl (by omega) (w_some (fr_J rfl))) (fun _ => w_wrJ ml42 rfl (by omega) (w_some (fr_J rfl))))))
theorem tp_leafT (c j a : Nat) (s : Int64) (y : ow_MS) (hcj : c ≤ j + 6) (hj : j ≤ 12) (ha : 16 ≤ a) (ha2 : a ≤ 64) (h46 : y.1 46 = 1) : Te (fun K => qe_X13_leaf K (nI c) s (nI a - 40) (nI j) y) (fun z1 => fr (fun g => g = 44) y z1) := by
  have key : 1 ≤ c → ∀ (d t : Nat) (w : Int64) (y1 : ow_MS), t + d = c → fr (fun g => g = 44) y y1 → Tt (fun K i => q_X13_leaf K i 1 (nI c) (nI a - 40) (nI j) (nI (c - 1)) (nI t) s w 0 0 0 y1) (fun z1 => fr (fun g => g = 44) y z1) := by
    intro hc d
    induction d with
    | zero =>
      intro t w y1 ht hf
      refine u_X13_leaf_1 ?_; unfold qm_X13_leaf_1
      exact w_ltT (by omega) (by omega) (w_some hf)
    | succ d ih =>
      intro t w y1 ht hf
      have ix := lf_ix (j := j) (k := c - 1) (t := t) (a := a) hj (by omega) (by omega) ha ha2
      have hlt : 129 * (j + 20 - (c - 1)) + a + 2 * t + 24 - (c - 1) < 5289 := by omega
      have c2 : ∀ (y0 y2 : Int64), Tt (fun K i => q_X13_leaf K i 2 (nI c) (nI a - 40) (nI j) (nI (c - 1)) (nI t) s w (nI (129 * (j + 20 - (c - 1)) + a + 2 * t + 24 - (c - 1))) y0 y2 y1) (fun z1 => fr (fun g => g = 44) y z1) := by
        intro y0 y2
        refine u_X13_leaf_2 ?_; unfold qm_X13_leaf_2
        rw [nI_1]
        have hnz : (nI (t + 1)).toInt64 ≠ 0 := by
          rw [nI_l (by omega)]
          exact fun e => by
            have := (pk_lEQ (a := t + 1) (b := 0) (by omega) (by omega)).mp e
            omega
        exact w_wrJ ml44 rfl hlt (w_nzJ hnz (ih (t + 1) _ _ (by omega) (fr_J2 hf rfl)))
      refine u_X13_leaf_1 ?_; unfold qm_X13_leaf_1
      rw [ix]
      exact w_ltF (by omega) (by omega) (w_rdJ ml44 rfl hlt rfl (w_if (fun _ => c2 _ _) (fun _ => c2 _ _)))
  rcases Nat.eq_zero_or_pos c with h0 | h0
  · rw [h0]
    refine e_X13_leaf ?_
    refine u_X13_leaf_0 ?_; unfold qm_X13_leaf_0
    rw [show nI 0 - 1 = -1 from rfl]
    refine w_rdF h46 (w_ifF (by decide) ?_)
    refine u_X13_leaf_1 ?_; unfold qm_X13_leaf_1
    exact w_ifT (by decide) (w_some fr_rf)
  · refine e_X13_leaf ?_
    refine u_X13_leaf_0 ?_; unfold qm_X13_leaf_0
    rw [show nI c - 1 = nI (c - 1) from pk_sub (b := 1) h0]
    exact w_rdF h46 (w_ifF (by decide) (key h0 c 0 s y (by omega) fr_rf))
theorem tp_skeinH {e : Int32} {H : Nat} (hH : H = 42 ∨ H = 44) (hleaf : ∀ (c j a : Nat) (s : Int64) (y : ow_MS), c ≤ j + 6 → j ≤ 12 → 16 ≤ a → a ≤ 64 → y.1 46 = e → Te (fun K => qe_X13_leaf K (nI c) s (nI a - 40) (nI j) y) (fun z1 => fr (fun g => g = H) y z1)) : ∀ (f depth dd k j a : Nat) (A : rn_L) (s : Int64) (z : ow_MS), f < dd → depth + f ≤ 12 → j ≤ depth → wkF A.flatten → A.flatten.length ≤ 24 → A.length ≤ 6 + j → rn_At z (1000 * (depth + 4)) A [] → gPre A k → ouT A k f → 40 ≤ a + 2 * depth → a ≤ 40 + 2 * depth → z.1 46 = e → Te (fun K => qd_X13_skein K dd (nI depth) s (nI a - 40) (nI j) z) (fun z1 => fr (skE H depth) z z1) := by
  intro f
  induction f using Nat.strongRecOn with
  | ind f ih =>
  intro depth dd k j a A s z hdd hdf hj hF hl hC hA hg ho ha1 ha2 h46
  obtain ⟨dd, rfl⟩ : ∃ d', dd = d' + 1 := ⟨dd - 1, by omega⟩
  have hd := wkF_ok hF
  have hn : mw_net (1000 * (depth + 4)) := pnL (by omega)
  have hn2 : mw_net (1000 * (depth + 1 + 4)) := pnL (by omega)
  have cx : ∀ {i}, i < A.flatten.length → crs A i < 40 ∧ uns A i < 2 := fun hi => by
    obtain ⟨g1, g2, -⟩ := hF.2 _ (List.mem_of_getElem? (vAt_of hi))
    exact ⟨g1, g2⟩
  let Q : ow_MS → Prop := fun z1 => fr (skE H depth) z z1
  have mono41 : ∀ {y : ow_MS}, fr (fun g => g = 41) z y → fr (skE H depth) z y := fun hf => fr_mono (fun g hg => Or.inr (Or.inl hg)) hf
  have aA : ∀ {y : ow_MS}, fr (fun g => g = 41) z y → rn_At y (1000 * (depth + 4)) A [] := fun hf => fr_At hf (fun g hg => by omega) hA
  have aV : ∀ {y : ow_MS}, fr (fun g => g = 41) z y → y.1 (1000 * (depth + 4) + 1) = nI A.flatten.length := fun hf => by rw [(aA hf).1, List.append_nil]
  have c5 : ∀ (x8 : Int32) (y : ow_MS), fr (fun g => g = 41) z y → Tt (fun K i => q_X13_skein K (qd_X13_skein K dd) i 5 (nI depth) (nI a - 40) (nI j) (-1) x8 0 0 0 s (1000 * (depth + 4)) 0 0 0 0 0 0 0 0 y) Q := by
    intro x8 y hf
    refine u_X13_skein_5 ?_; unfold qm_X13_skein_5
    refine w_ifT rfl (w_rdF (aA hf).2.1 (w_cs0 (hleaf _ _ _ _ _ (by omega) (by omega) (by omega) (by omega) (by rw [(hf 46 (by decide)).1]; exact h46)) (fun z1 h9 => w_some ?_)))
    exact fr_tr (mono41 hf) (fr_mono (fun g hg => Or.inr (Or.inr hg)) h9)
  have bad : ∀ (v : Nat) (x8 : Int32) (y : ow_MS), fr (fun g => g = 41) z y → v < A.flatten.length → (∀ u, u < v → crs A u ≠ crs A v) → uns A v ≠ 0 → (∀ u, u < v → (∀ t, t < u → crs A t ≠ crs A u) → uns A u = 0) → Tt (fun K i => q_X13_skein K (qd_X13_skein K dd) i 5 (nI depth) (nI a - 40) (nI j) (nI v) x8 0 0 0 s (1000 * (depth + 4)) 0 0 0 0 0 0 0 0 y) Q := by
    intro v x8 y hf hv hfst hb hgood
    have hAy := aA hf
    obtain ⟨g1, g2, g3⟩ := rn_c_in A v hv
    have hml := mtf_lt hd hv
    have hmc := crs_mtf hd hv
    have hmn := mtf_ne hd hv
    have hvm : v < mtf A v := by
      rcases Nat.lt_or_ge (mtf A v) v with h8 | h8
      · exact absurd hmc (hfst _ h8)
      · omega
    obtain ⟨fc, hfc, kF, kg, ko⟩ := sk_ch (x := crs A v) hF hg ho hv rfl hfst hb hgood
    have c13 : ∀ (a' : Nat) (x : Int32) (x11 : Int32) (s1 : Int64) (y5 : ow_MS), x = nI a' - 40 → 40 ≤ a' + 2 * (depth + 1) → a' ≤ 40 + 2 * (depth + 1) → fr (skE H depth) z y5 → rn_At y5 (1000 * (depth + 1 + 4)) (A.map (List.map (flp (fun y => decide (y = crs A v))))) [] → Tt (fun K i => q_X13_skein K (qd_X13_skein K dd) i 13 (nI depth) (nI a - 40) (nI j) (nI v) (nI (rn_c A v)) (nI (crs A v)) (nI (mtf A v)) x11 s (1000 * (depth + 4)) (1000 * (depth + 1 + 4)) x 0 (nI (depth + 1)) 0 0 s1 0 y5) Q := by
      intro a' x x11 s1 y5 hx h1 h2 hf5 hA5
      rw [hx]
      refine u_X13_skein_13 ?_; unfold qm_X13_skein_13
      refine w_cs0 (ih fc (by omega) (depth + 1) dd (v + 1) j a' _ s1 y5 (by omega) (by omega) (by omega) kF (by rw [flp_len]; exact hl) (by rw [List.length_map]; exact hC) hA5 kg ko h1 h2 (by rw [(hf5 46 (by unfold skE; omega)).1]; exact h46)) (fun z6 h6 => w_some ?_)
      exact fr_tr hf5 (fr_mono (fun g hg => by unfold skE at hg ⊢; omega) h6)
    have c8 : ∀ (t0 : Int32), Tt (fun K i => q_X13_skein K (qd_X13_skein K dd) i 8 (nI depth) (nI a - 40) (nI j) (nI v) (nI (rn_c A v)) (nI (crs A v)) (nI (mtf A v)) 0 s (1000 * (depth + 4)) 0 t0 0 0 0 0 0 0 y) Q := by
      intro t0
      refine u_X13_skein_8 ?_; unfold qm_X13_skein_8
      rw [show nI depth + 1 = nI (depth + 1) from nI_1 _]
      refine w_rdN rfl (by omega) (w_cs0 (tp_smoothIn2 hn hn2 (by omega) hl (by omega) hAy g1 g2 g3 hvm hml) (fun z2 ⟨⟨q, hq, C, b1, b2, b3, b4, b5⟩, s2, f2⟩ => ?_))
      obtain ⟨fs, hfs, mF, mg, mo, ml⟩ := sk_sm hF hg ho hv hml hvm hmc hfst hb hgood b3 b4 (fun i hi => b5 i hi ⟨by omega, by omega, by omega⟩)
      have hz2 : fr (skE H depth) z z2 := fr_tr (mono41 hf) (fr_mono (fun g hg => Or.inl (by omega)) f2)
      have hA2 : rn_At z2 (1000 * (depth + 4)) A [] := fr_At f2 (fun g hg => by omega) hAy
      have c11 : ∀ (a' : Nat) (x : Int32) (s1 : Int64), x = nI a' - 40 → 40 ≤ a' + 2 * (depth + 1) → a' ≤ 40 + 2 * (depth + 1) → Tt (fun K i => q_X13_skein K (qd_X13_skein K dd) i 11 (nI depth) (nI a - 40) (nI j) (nI v) (nI (rn_c A v)) (nI (crs A v)) (nI (mtf A v)) t0 s (1000 * (depth + 4)) (1000 * (depth + 1 + 4)) x 0 (nI (depth + 1)) 0 0 s1 0 z2) Q := by
        intro a' x s1 hx h1 h2
        rw [hx]
        refine u_X13_skein_11 ?_; unfold qm_X13_skein_11
        rw [show nI depth + 1 = nI (depth + 1) from nI_1 _, show nI j + 1 = nI (j + 1) from nI_1 _]
        refine w_cs0 (ih fs (by omega) (depth + 1) dd v (j + 1) a' _ s1 z2 (by omega) (by omega) (by omega) mF (by omega) (by rw [List.length_map, b1]; omega) b2 mg mo h1 h2 (by rw [(hz2 46 (by unfold skE; omega)).1]; exact h46)) (fun z3 h3 => ?_)
        have hA3 : rn_At z3 (1000 * (depth + 4)) A [] := fr_At h3 (fun g hg => by unfold skE at hg; omega) hA2
        refine w_cs0 (tn_copy hn2 hn (by omega) (by omega) (by omega) hA3) (fun z4 ⟨hA4, f4, _⟩ => w_cs0 (tp_changeIn hn2 (by omega) (cx hv).1 (fun u hu => ⟨(cx hu).2, (cx hu).1⟩) hA4) (fun z5 ⟨hA5, f5, _⟩ => ?_))
        have hz5 : fr (skE H depth) z z5 := fr_tr hz2 (fr_tr (fr_mono (fun g hg => by unfold skE at hg ⊢; omega) h3) (fr_tr (fr_mono (fun g hg => Or.inl (by omega)) f4) (fr_mono (fun g hg => Or.inl (by omega)) f5)))
        refine w_rdF rfl (w_if (fun _ => c13 40 _ _ _ z5 rfl (by omega) (by omega) hz5 hA5) (fun _ => w_if (fun _ => ?_) (fun _ => ?_)))
        · refine u_X13_skein_12 ?_; unfold qm_X13_skein_12
          exact c13 (a - 2) _ _ _ z5 (sk_pw2 (by omega)).1 (by omega) (by omega) hz5 hA5
        · refine u_X13_skein_12 ?_; unfold qm_X13_skein_12
          exact c13 (a + 2) _ _ _ z5 (sk_pw2 (by omega)).2 (by omega) (by omega) hz5 hA5
      have c9 : ∀ (y0 : Int64), Tt (fun K i => q_X13_skein K (qd_X13_skein K dd) i 9 (nI depth) (nI a - 40) (nI j) (nI v) (nI (rn_c A v)) (nI (crs A v)) (nI (mtf A v)) t0 s (1000 * (depth + 4)) (1000 * (depth + 1 + 4)) 0 (nI (depth + 1)) 0 0 y0 0 0 z2) Q := by
        intro y0
        refine u_X13_skein_9 ?_; unfold qm_X13_skein_9
        refine w_rdF rfl (w_if (fun _ => c11 40 _ _ rfl (by omega) (by omega)) (fun _ => w_if (fun _ => ?_) (fun _ => ?_)))
        · refine u_X13_skein_10 ?_; unfold qm_X13_skein_10
          exact c11 (a - 1) _ _ (sk_pw (by omega)).1 (by omega) (by omega)
        · refine u_X13_skein_10 ?_; unfold qm_X13_skein_10
          exact c11 (a + 1) _ _ (sk_pw (by omega)).2 (by omega) (by omega)
      exact w_if (fun _ => c9 _) (fun _ => c9 _)
    have c7 : ∀ (d w : Nat), w + d = mtf A v → v < w → Tt (fun K i => q_X13_skein K (qd_X13_skein K dd) i 7 (nI depth) (nI a - 40) (nI j) (nI v) (nI (rn_c A v)) (nI (crs A v)) (nI w) 0 s (1000 * (depth + 4)) 0 0 0 0 0 0 0 0 y) Q := by
      intro d
      induction d with
      | zero =>
        intro w hw hvw
        have hw : w = mtf A v := by omega
        subst hw
        refine u_X13_skein_7 ?_; unfold qm_X13_skein_7
        exact w_rdI (pl4 hn) rfl (by omega) (at_cu hAy hml).1 (w_ifT (by rw [hmc]) (w_rdI (pl6 hn) rfl (cx hv).1 rfl (w_if (fun _ => c8 _) (fun _ => c8 _))))
      | succ d ih7 =>
        intro w hw hvw
        have hwl : w < A.flatten.length := by omega
        refine u_X13_skein_7 ?_; unfold qm_X13_skein_7
        rw [show nI w + 1 = nI (w + 1) from nI_1 _]
        refine w_rdI (pl4 hn) rfl (by omega) (at_cu hAy hwl).1 (w_ifF (fun e9 => ?_) (ih7 (w + 1) (by omega) (by omega)))
        have e8 := (nI_eq (by have := (cx hwl).1; omega) (by have := (cx hv).1; omega)).mp e9
        exact sk_two hd hv hml hwl (by omega) hmc (by omega) (by omega) e8
    have c6 : ∀ (d c : Nat), c + d = rn_c A v → Tt (fun K i => q_X13_skein K (qd_X13_skein K dd) i 6 (nI depth) (nI a - 40) (nI j) (nI v) (nI c) 0 0 0 s (1000 * (depth + 4)) 0 0 0 0 0 0 0 0 y) Q := by
      intro d
      induction d with
      | zero =>
        intro c hc
        have hc : c = rn_c A v := by omega
        subst hc
        refine u_X13_skein_6 ?_; unfold qm_X13_skein_6
        rw [show nI (rn_c A v) + 1 = nI (rn_c A v + 1) from nI_1 _, show nI v + 1 = nI (v + 1) from nI_1 _]
        exact w_rdI (pl3 hn) rfl (by omega) (hAy.2.2.1 _ (by omega)) (w_ltT (by have := rn_b_le A (rn_c A v + 1); unfold rn_b at this; omega) g3 (w_rdI (pl4 hn) rfl (by omega) (at_cu hAy hv).1 (c7 (mtf A v - (v + 1)) (v + 1) (by omega) (by omega))))
      | succ d ih6 =>
        intro c hc
        refine u_X13_skein_6 ?_; unfold qm_X13_skein_6
        rw [show nI c + 1 = nI (c + 1) from nI_1 _]
        have hle : rn_b A (c + 1) ≤ rn_b A (rn_c A v) := rn_b_mono2 (by omega)
        exact w_rdI (pl3 hn) rfl (by omega) (hAy.2.2.1 _ (by omega)) (w_ltF (by omega) (show rn_b A (c + 1) ≤ v by omega) (ih6 (c + 1) (by omega)))
    refine u_X13_skein_5 ?_; unfold qm_X13_skein_5
    exact w_ifF (rn_neg1 (by omega)) (c6 (rn_c A v) 0 (by omega))
  have scan : ∀ (d v : Nat) (y : ow_MS), v + d = A.flatten.length → fr (fun g => g = 41) z y → metR A v y → (∀ u, u < v → (∀ t, t < u → crs A t ≠ crs A u) → uns A u = 0) → Tt (fun K i => q_X13_skein K (qd_X13_skein K dd) i 2 (nI depth) (nI a - 40) (nI j) (-1) (nI v) 0 0 0 s (1000 * (depth + 4)) 0 0 0 0 0 0 0 0 y) Q := by
    intro d
    induction d with
    | zero =>
      intro v y hv hf hm hgd
      refine u_X13_skein_2 ?_; unfold qm_X13_skein_2
      exact w_rdF (aV hf) (w_leT (by omega) (by omega) (c5 _ y hf))
    | succ d ihs =>
      intro v y hv hf hm hgd
      have hvl : v < A.flatten.length := by omega
      have hcv := cx hvl
      have next : ∀ (y2 : ow_MS), fr (fun g => g = 41) z y2 → metR A (v + 1) y2 → (∀ u, u < v + 1 → (∀ t, t < u → crs A t ≠ crs A u) → uns A u = 0) → Tt (fun K i => q_X13_skein K (qd_X13_skein K dd) i 4 (nI depth) (nI a - 40) (nI j) (-1) (nI v) (nI (crs A v)) 0 0 s (1000 * (depth + 4)) 0 0 0 0 0 0 0 0 y2) Q := by
        intro y2 hf2 hm2 hg2
        refine u_X13_skein_4 ?_; unfold qm_X13_skein_4
        rw [show nI v + 1 = nI (v + 1) from nI_1 _]
        exact ihs (v + 1) y2 (by omega) hf2 hm2 hg2
      refine u_X13_skein_2 ?_; unfold qm_X13_skein_2
      refine w_rdF (aV hf) (w_leF (by omega) hvl (w_ifT rfl (w_rdI (pl4 hn) rfl (by omega) (at_cu (aA hf) hvl).1 (w_rdI ml41 rfl hcv.1 rfl ?_))))
      rcases hm _ hcv.1 with ⟨e0, hno⟩ | ⟨e1, u, hu, hue⟩
      · rw [e0]
        have hf2 : fr (fun g => g = 41) z (usI y 41 (crs A v) (vp_nar .boolean 1)) := fr_I2 hf rfl
        refine w_ifT rfl (w_wrZ ml41 rfl hcv.1 (w_rdI (pl5 hn) rfl (by omega) (at_cu (aA hf2) hvl).2 (w_if (fun h9 => ?_) (fun h9 => ?_))))
        · have hb : uns A v ≠ 0 := fun e => by rw [e] at h9; exact absurd h9 (by decide)
          refine u_X13_skein_3 ?_; unfold qm_X13_skein_3
          refine u_X13_skein_4 ?_; unfold qm_X13_skein_4
          rw [show nI v + 1 = nI (v + 1) from nI_1 _]
          refine u_X13_skein_2 ?_; unfold qm_X13_skein_2
          exact w_rdF (aV hf2) (w_le (by omega) (by omega) (fun _ => bad v _ _ hf2 hvl hno hb hgd) (fun _ => w_ifF (rn_neg1 (by omega)) (bad v _ _ hf2 hvl hno hb hgd)))
        · have hb : uns A v = 0 := by
            rcases Nat.eq_zero_or_pos (uns A v) with h8 | h8
            · exact h8
            · exact absurd (show nI (uns A v) = 1 by rw [show uns A v = 1 by omega]; rfl) h9
          refine u_X13_skein_3 ?_; unfold qm_X13_skein_3
          refine next _ hf2 (fun x hx => ?_) (fun u hu hfu => ?_)
          · by_cases hxv : x = crs A v
            · rw [hxv]
              exact Or.inr ⟨po_usI_at.trans (by decide), v, by omega, rfl⟩
            · rcases hm x hx with ⟨a1, a2⟩ | ⟨a1, u, hu, a2⟩
              · refine Or.inl ⟨rd_ne hxv a1, fun u hu e => ?_⟩
                by_cases huv : u = v
                · rw [huv] at e
                  exact hxv e.symm
                · exact a2 u (by omega) e
              · exact Or.inr ⟨rd_ne hxv a1, u, by omega, a2⟩
          · by_cases huv : u = v
            · rw [huv]; exact hb
            · exact hgd u (by omega) hfu
      · rw [e1]
        refine w_ifF (by decide) (next y hf (fun x hx => ?_) (fun t ht hft => ?_))
        · rcases hm x hx with ⟨a1, a2⟩ | ⟨a1, t, ht, a2⟩
          · refine Or.inl ⟨a1, fun t ht e => ?_⟩
            by_cases htv : t = v
            · rw [htv] at e
              exact a2 u hu (hue.trans e)
            · exact a2 t (by omega) e
          · exact Or.inr ⟨a1, t, by omega, a2⟩
        · by_cases htv : t = v
          · rw [htv] at hft
            exact absurd hue (hft u hu)
          · exact hgd t (by omega) hft
  have clr : ∀ (d i : Nat) (y : ow_MS), i + d = 40 → fr (fun g => g = 41) z y → (∀ x, x < i → y.2.1 41 x = 0) → Tt (fun K t => q_X13_skein K (qd_X13_skein K dd) t 1 (nI depth) (nI a - 40) (nI j) (nI i) 0 0 0 0 s (1000 * (depth + 4)) 0 0 0 0 0 0 0 0 y) Q := by
    intro d
    induction d with
    | zero =>
      intro i y hi hf hx
      refine u_X13_skein_1 ?_; unfold qm_X13_skein_1
      exact w_leT (a := 40) (by omega) (by omega) (scan A.flatten.length 0 y (by omega) hf (fun x h9 => Or.inl ⟨hx x (by omega), fun u hu => absurd hu (by omega)⟩) (fun u hu => absurd hu (by omega)))
    | succ d ihc =>
      intro i y hi hf hx
      refine u_X13_skein_1 ?_; unfold qm_X13_skein_1
      rw [show nI i + 1 = nI (i + 1) from nI_1 _]
      refine w_leF (a := 40) (by omega) (by omega) (w_wrZ ml41 rfl (by omega) (ihc (i + 1) _ (by omega) (fr_I2 hf rfl) (fun x h9 => ?_)))
      by_cases hxi : x = i
      · rw [hxi]
        exact po_usI_at.trans (by decide)
      · exact rd_ne hxi (hx x (by omega))
  refine w_qd ?_
  refine u_X13_skein_0 ?_; unfold qm_X13_skein_0
  exact w_rdN rfl (by omega) (clr 40 0 z (by omega) fr_rf (fun x hx => absurd hx (by omega)))
theorem tp_skeinH0 {e : Int32} {H : Nat} (hH : H = 42 ∨ H = 44) (hleaf : ∀ (c j a : Nat) (s : Int64) (y : ow_MS), c ≤ j + 6 → j ≤ 12 → 16 ≤ a → a ≤ 64 → y.1 46 = e → Te (fun K => qe_X13_leaf K (nI c) s (nI a - 40) (nI j) y) (fun z1 => fr (fun g => g = H) y z1)) {A : rn_L} {c : Nat} (hok : okF A.flatten c) (hc : c ≤ 12) (hC : A.length ≤ 6) (hA : rn_At z 4000 A []) (h46 : z.1 46 = e) : Te (fun K => qe_X13_skein K 0 1 0 0 z) (fun z1 => fr (skE H 0) z z1) := by
  have hl := okF_len hok
  have hw : wkF A.flatten := okF_wk (by omega) hok
  have ho : ouT A 0 c := ⟨List.range c, by rw [List.length_range]; exact Nat.le_refl _, fun v hv => Or.inr (List.mem_range.mpr ((hok.2 _).mp (List.mem_of_getElem? (vAt_of hv))).1)⟩
  exact tp_skeinH hH hleaf c 0 16 0 0 40 A 1 z (by omega) (by omega) (Nat.le_refl _) hw (by omega) (by omega) hA (fun v hv => absurd hv (by omega)) ho (by omega) (by omega) h46
end XTWQ
end
section
/-! 99zzzzzzzzzzzzzzzzy.xtwo -/
/-! two: the reference's answer, exactly -/
/-- what two answers -/
def twN9 (F : pz9) (i j v : Int32) : Prop := (-64 ≤ i.toInt ∧ i.toInt ≤ 64 ∧ -20 ≤ j.toInt ∧ j.toInt ≤ 20 → v = iI (F i.toInt j.toInt)) ∧ (¬ (-64 ≤ i.toInt ∧ i.toInt ≤ 64 ∧ -20 ≤ j.toInt ∧ j.toInt ≤ 20) → v = 0)
theorem twN_uni {F : pz9} {i j v w : Int32} (h1 : twN9 F i j v) (h2 : twN9 F i j w) : v = w := by
  by_cases c : -64 ≤ i.toInt ∧ i.toInt ≤ 64 ∧ -20 ≤ j.toInt ∧ j.toInt ≤ 20
  · rw [h1.1 c, h2.1 c]
  · rw [h1.2 c, h2.2 c]
theorem bd_nf {n : Nat} {W : wd9} {ov sg : Nat → Bool} {A : rn_L} (h : bdz n W ov A sg) {x : Nat} (hx : x ∈ nmz W) : ∃ p, p ∈ A.flatten ∧ p.1 = x := by
  obtain ⟨-, ⟨L, hL, eA⟩, -⟩ := h
  refine ⟨trz ov (x, 1), ?_, rfl⟩
  rw [eA, pj_fl]
  exact pj_mem.mpr ⟨(x, 1), (hL.2.2 _).mpr (Or.inr ⟨by omega, hx⟩), by show (1 : Nat) ≠ 2; decide, rfl⟩
theorem bd_sg {n : Nat} {W : wd9} {ov sg sg' : Nat → Bool} {A : rn_L} (h : bdz n W ov A sg) (e : ∀ p, p ∈ A.flatten → sg' p.1 = sg p.1) : bdz n W ov A sg' := ⟨h.1, h.2.1, fun x hx => by
  obtain ⟨p, h1, h2⟩ := bd_nf h hx
  have h3 := e p h1
  rw [h2] at h3
  rw [h3]
  exact h.2.2 x hx⟩
def gdT (z : ow_MS) (A : rn_L) (sg : Nat → Bool) : Prop := ∀ n W ov, 1 ≤ n → bdz n W ov A sg → twA z (Fz n W ov)
/-- the reference's last table -/
def twR (z : ow_MS) : Prop := ∀ T1, rc_At z 45 0 T1 → T1 = [] ∨ ∃ A sg, (∀ p : Nat × Nat, p ∈ A.flatten → p.2 < 2) ∧ T1 = tk sg A ∧ gdT z A sg
theorem gdT_fr {P : Nat → Prop} {z z1 : ow_MS} {A : rn_L} {sg : Nat → Bool} (hf : fr P z z1) (hP : ¬ P 44) (h : gdT z A sg) : gdT z1 A sg := fun n W ov hn hb => twA_fr hf hP (h n W ov hn hb)
theorem twR_fr {P : Nat → Prop} {z z1 : ow_MS} (hf : fr P z z1) (h1 : ¬ P 44) (h2 : ¬ P 45) (h : twR z) : twR z1 := by
  intro T1 hT
  have hT' : rc_At z 45 0 T1 := by
    obtain ⟨a1, a2, a3, a4⟩ := hT
    rw [(hf 45 h2).2.1] at a3
    exact ⟨a1, a2, a3, fun k t hk => by rw [← (hf 45 h2).2.1]; exact a4 k t hk⟩
  rcases h T1 hT' with e | ⟨A, sg, q1, q2, q3⟩
  · exact Or.inl e
  · exact Or.inr ⟨A, sg, q1, q2, gdT_fr hf h1 q3⟩
section XTWO
variable {X : (Nat → Nat → Int32) → Prop} {z : ow_MS}
/-- what the reference's close and pack leave -/
def twF (w : Nat → Nat) (lp : Nat → Bool) (n l : Nat) (A : rn_L) (sg : Nat → Bool) : Prop := ∃ Rs m P, clQ w n l Rs ∧ Rs.length ≤ n ∧ (∀ s, s < n → s ∈ Rs.flatten) ∧ mk (rgS w lp l Rs) m P ∧ pkR (rgS w lp l Rs) (fun i => !lp i) m P = tk sg A ∧ ∀ p : Nat × Nat, p ∈ A.flatten → p.2 < 2
theorem xq_two {b n l : Nat} {w : Nat → Nat} {lp : Nat → Bool} {k j : Int32} (h : gI X z) (hb : b < 20) (hB : hBr z b n l) (hw : ltX 94 z b n l w lp) (hJ : twR z) (hW : cwR z) : Te (fun K => qe_X13_two K (nI b) k j z) (fun r => (twR r.2 ∧ cwR r.2) ∧ (rFl X z 2 r ∧ 10 < l ∨ l ≤ 10 ∧ r.2.1 1 = 0 ∧ ∃ A sg, twF w lp n l A sg ∧ ∀ nn W ov, 1 ≤ nn → bdz nn W ov A sg → twN9 (Fz nn W ov) k j r.1)) := by
  let Q : Int32 × ow_MS → Prop := fun r => (twR r.2 ∧ cwR r.2) ∧ (rFl X z 2 r ∧ 10 < l ∨ l ≤ 10 ∧ r.2.1 1 = 0 ∧ ∃ A sg, twF w lp n l A sg ∧ ∀ nn W ov, 1 ≤ nn → bdz nn W ov A sg → twN9 (Fz nn W ov) k j r.1)
  have h1 := gI_1 (c := 0) h
  have p1 := hB.1
  have p2 := hB.2.1
  have p3 := hB.2.2.1
  have c4 : ∀ {x1 : Int32} {y : ow_MS} {A : rn_L} {sg : Nat → Bool}, ¬ (-64 ≤ k.toInt ∧ k.toInt ≤ 64 ∧ -20 ≤ j.toInt ∧ j.toInt ≤ 20) → l ≤ 10 → y.1 1 = 0 → twR y ∧ cwR y → twF w lp n l A sg → Tt (fun K i => q_X13_two K i 4 x1 k j 0 y) Q := by
    intro x1 y A sg hno hl g1 g2 g3
    refine u_X13_two_4 ?_; unfold qm_X13_two_4
    exact w_some ⟨g2, Or.inr ⟨hl, g1, A, sg, g3, fun nn W ov _ _ => ⟨fun h9 => absurd h9 hno, fun _ => rfl⟩⟩⟩
  have c3 : ∀ {x1 : Int32} {y : ow_MS} {A : rn_L} {sg : Nat → Bool}, l ≤ 10 → y.1 1 = 0 → twR y ∧ cwR y → twF w lp n l A sg → gdT y A sg → Tt (fun K i => q_X13_two K i 3 x1 k j 0 y) Q := by
    intro x1 y A sg hl g1 g2 g3 g4
    have t1 : (k < (-64 : Int32)) ↔ k.toInt < -64 := Int32.lt_iff_toInt_lt
    have t2 : ((64 : Int32) < k) ↔ 64 < k.toInt := Int32.lt_iff_toInt_lt
    have t3 : (j < (-20 : Int32)) ↔ j.toInt < -20 := Int32.lt_iff_toInt_lt
    have t4 : (j ≤ (20 : Int32)) ↔ j.toInt ≤ 20 := Int32.le_iff_toInt_le
    refine u_X13_two_3 ?_; unfold qm_X13_two_3
    refine w_if (fun h2 => c4 (by have := t1.mp h2; omega) hl g1 g2 g3) (fun h2 => w_if (fun h3 => c4 (by have := t2.mp h3; omega) hl g1 g2 g3) (fun h3 => w_if (fun h4 => c4 (by have := t3.mp h4; omega) hl g1 g2 g3) (fun h4 => w_if (fun h5 => ?_) (fun h5 => c4 (by have h9 : ¬ (j.toInt ≤ 20) := fun h9 => h5 (t4.mpr h9); omega) hl g1 g2 g3))))
    have b1 : ¬ (k.toInt < -64) := fun h9 => h2 (t1.mpr h9)
    have b2 : ¬ (64 < k.toInt) := fun h9 => h3 (t2.mpr h9)
    have b3 : ¬ (j.toInt < -20) := fun h9 => h4 (t3.mpr h9)
    have b4 := t4.mp h5
    obtain ⟨a, ea⟩ : ∃ a : Nat, k.toInt = (a : Int) - 64 := ⟨(k.toInt + 64).toNat, by omega⟩
    obtain ⟨t, et⟩ : ∃ t : Nat, j.toInt = (t : Int) - 20 := ⟨(j.toInt + 20).toNat, by omega⟩
    have ek : k = iI ((a : Int) - 64) := by
      rw [← ea]
      exact (Int32.ofInt_toInt k).symm
    have ej : j = iI ((t : Int) - 20) := by
      rw [← et]
      exact (Int32.ofInt_toInt j).symm
    have e2 : (129 : Int32) * (j + 20) + k + 64 = nI (129 * t + a) := by
      rw [ek, ej]
      show (iI 129 * (iI ((t : Int) - 20) + iI 20) + iI ((a : Int) - 64)) + iI 64 = _
      rw [iI_add, iI_mul, iI_add, iI_add]
      exact iI_nI (by omega)
    rw [e2]
    refine w_rdJ ml44 rfl (by omega) rfl (w_some ⟨g2, Or.inr ⟨hl, g1, A, sg, g3, fun nn W ov hnn hbz => ⟨fun _ => ?_, fun h9 => absurd ⟨by omega, by omega, by omega, by omega⟩ h9⟩⟩⟩)
    show (y.2.2 44 (129 * t + a)).toInt32 = _
    rw [g4 nn W ov hnn hbz a t (by omega) (by omega), i64_i32, ea, et]
  refine e_X13_two ?_
  refine u_X13_two_0 ?_; unfold qm_X13_two_0
  refine w_wrF (w_hasBX h1.2.2.2.2.2.1 (fun h0 => ?_) (fun c n' l' hc hx hh => w_ifF (by decide) ?_))
  · have := h0 b hb rfl
    have e : (usF z 1 0).2.1 96 b = nI n := hB.2.2.2.1
    rw [e] at this
    exact absurd this (nI_ne0 (by omega) (by omega))
  · have ec : b = c := nI_inj9 (by omega) (by omega) hx
    subst ec
    have e5 : (usF z 1 0).2.1 95 b = nI l := hB.2.2.2.2.1
    have hJ1 : twR (usF z 1 0) := twR_fr (fr_F (P := fun g => g = 1) rfl) (by decide) (by decide) hJ
    have hW1 : cwR (usF z 1 0) := cwR_fr (fr_F (P := fun g => g = 1) rfl) (by decide) (by decide) hW
    refine w_rdI ml95 rfl (by omega) e5 (w_le (b := 10) (by omega) (by omega) (fun h12 => ?_) (fun h12 => w_mono (w_failX (k := 2) h1 fr_1) (fun r hr => ⟨⟨twR_fr hr.2.2 (by unfold rPs rSc; omega) (by unfold rPs rSc; omega) hJ, cwR_fr hr.2.2 (by unfold rPs rSc; omega) (by unfold rPs rSc; omega) hW⟩, Or.inl ⟨hr, h12⟩⟩)))
    have hB1 : hBr (usF z 1 0) b n l := hB
    refine w_cs0 (xr_close hb hB1 (w := w) (lp := lp) hw) ?_
    rintro z4 ⟨f4, Rs, k1, k2, k3, k4, k5⟩
    have hwn : ∀ i, i < l → w i + 1 < n := fun i hi => (hw i hi).1
    have ok := cl_ok (lp := lp) hwn k1 k3
    have okl := okF_len ok
    have hFr : wkF (rgS w lp l Rs).flatten := okF_wk (by omega) ok
    have hRl : (rgS w lp l Rs).length ≤ 5 := by
      unfold rgS
      rw [List.length_map]
      omega
    have hz1 : z4.1 1 = 0 := by
      rw [(f4 1 (by unfold frK; omega)).1]
      exact po_usF_at
    have hJ4 : twR z4 := twR_fr f4 (by unfold frK; omega) (by unfold frK; omega) hJ1
    have g4 : gI X z4 := gI_fr f4 (fun g hg => by unfold frK at hg; unfold per; omega) h1
    refine w_cs0 (tr_pack (h := 27) (o := 0) pn3 (by omega) ml27 (by omega) (by omega) (by omega) (by omega) hFr k4 k5) ?_
    rintro y2 ⟨m, P, hk, hr, f2, -, -, -⟩
    obtain ⟨A, sg, cc, eA, hok, l1, l2⟩ := pkR_ok (sg := fun i => !lp i) hFr hk
    rw [eA] at hr
    have g2 : gI X y2 := gI_fr f2 (fun g hg => by unfold frQ at hg; unfold per; omega) g4
    have hJ2 : twR y2 := twR_fr f2 (by unfold frQ; omega) (by unfold frQ; omega) hJ4
    have hW2 : cwR y2 := cwR_fr f2 (by unfold frQ; omega) (by unfold frQ; omega) (cwR_fr f4 (by unfold frK; omega) (by unfold frK; omega) hW1)
    have hy2 : y2.1 1 = 0 := by
      rw [(f2 1 (by unfold frQ; omega)).1]
      exact hz1
    have hFF : twF w lp n l A sg := ⟨Rs, m, P, k1, k2, k3, hk, eA, fun p hp => ((hok.2 p).mp hp).2⟩
    obtain ⟨_, ⟨T1, q1⟩, kC⟩ := g2.2.2.2.2.1
    have hTl := hr.1
    have hneA : A ≠ [] := fun e9 => by
      have h0 := k3 0 (by omega)
      rw [e9, List.length_nil] at l2
      unfold rgS at l2
      rw [List.length_map] at l2
      rw [List.eq_nil_of_length_eq_zero l2.symm] at h0
      cases h0
    refine w_cs1 (tr_same (o := 0) (p := 0) ml27 ml45 (by omega) (by omega) (by omega) (by omega) hr q1) (fun a y9 e9 => ?_)
    cases e9
    refine w_if (fun _ => ?_) (fun h8 => ?_)
    rotate_left
    · have eS : tk sg A = T1 := by
        by_cases q : tk sg A = T1
        · exact q
        · exact absurd (by rw [decide_eq_false q]; rfl) h8
      rcases hJ2 T1 q1 with q | ⟨A9, sg9, q2, q3, q4⟩
      · have := tk_pos (sg := sg) hneA
        rw [eS, q] at this
        exact absurd this (by decide)
      · obtain ⟨u1, u2⟩ := tk_inj A A9 (fun p hp => ((hok.2 p).mp hp).2) q2 (eS.trans q3)
        subst u1
        exact c3 h12 hy2 ⟨hJ2, hW2⟩ hFF (fun nn W ov hnn hbz => q4 nn W ov hnn (bd_sg hbz (fun p hp => (u2 p hp).symm)))
    have hFw : wkF A.flatten := okF_wk (by omega) hok
    have hAl := okF_len hok
    have lp2 : ∀ (dd i : Nat) (y1 y : ow_MS), i + dd = 32 → y1.2.1 27 = y2.2.1 27 → y1.1 1 = 0 → gdT y1 A sg → cwR y1 → fr (fun g => g = 45) y1 y → (∀ t, t < i → y.2.1 45 t = y1.2.1 27 (0 + t)) → Tt (fun K t => q_X13_two K t 2 (nI b) k j (nI i) y) Q := by
      intro dd
      induction dd with
      | zero =>
        intro i y1 y hi e12 e1 h44 h42 hf ht
        have hrow : rc_At y1 27 0 (tk sg A) := by
          obtain ⟨a1, a2, a3, a4⟩ := hr
          exact ⟨a1, a2, by rw [e12]; exact a3, fun k t hk => by rw [e12]; exact a4 k t hk⟩
        have hr45 : rc_At y 45 0 (tk sg A) := rc_cpy hrow (fun t h9 => ht t (by omega))
        have h44' : gdT y A sg := gdT_fr hf (by decide) h44
        refine u_X13_two_2 ?_; unfold qm_X13_two_2
        exact w_leT (a := 32) (by omega) (by omega) (c3 h12 (by rw [(hf 1 (by decide)).1]; exact e1) ⟨fun T9 hT9 => Or.inr ⟨A, sg, fun p hp => ((hok.2 p).mp hp).2, rc_uni hT9 hr45, h44'⟩, cwR_fr hf (by decide) (by decide) h42⟩ hFF h44')
      | succ dd ih =>
        intro i y1 y hi e12 e1 h44 h42 hf ht
        refine u_X13_two_2 ?_; unfold qm_X13_two_2
        rw [nI_1]
        refine w_leF (a := 32) (by omega) (by omega) (w_rdI ml27 rfl (by omega) rfl (w_wrI ml45 rfl (by omega) (ih (i + 1) y1 _ (by omega) e12 e1 h44 h42 (fr_I2 hf rfl) (fun t h9 => ?_))))
        by_cases hti : t = i
        · rw [hti, po_usI_at, (hf 27 (by decide)).2.1, Nat.zero_add]
        · exact rd_ne hti (ht t (by omega))
    have lp1 : ∀ (dd i : Nat) (y : ow_MS), i + dd = 5289 → fr (fun g => g = 44) y2 y → (∀ t, t < i → y.2.2 44 t = Int64.ofInt 0) → Tt (fun K t => q_X13_two K t 1 (nI b) k j (nI i) y) Q := by
      intro dd
      induction dd with
      | zero =>
        intro i y hi hf ht
        have hry : rc_At y 27 0 (tk sg A) := rc_fr hf (by decide) hr
        refine u_X13_two_1 ?_; unfold qm_X13_two_1
        refine w_leT (a := 5289) (by omega) (by omega) (w_rdN (i := 0) rfl (by omega) (w_cs0 (tr_unpack (o := 0) (pnL (i := 0) (by omega)) (by omega) ml27 (by omega) (by omega) (by omega) (by omega) (fun p hp => by have := (hok.2 p).mp hp; omega) hry) (fun z2 ⟨hA, hS, f5⟩ => w_okZ (Or.inr rfl) (w_wrF ?_))))
        have f3 : fr (fun g => g = 46) z2 (usF z2 46 1) := fr_F rfl
        have hA4 : rn_At (usF z2 46 1) (1000 * (0 + 4)) A [] := fr_At f3 (fun g hg => by omega) hA
        have hS4 : rn_sg (usF z2 46 1) (1000 * (0 + 4)) A.flatten sg := hS
        have hcw : twA (usF z2 46 1) (fun _ _ => 0) := twA_fr f3 (by decide) (twA_fr f5 (by omega) (fun a b ha hb => ht (129 * b + a) (by omega)))
        obtain ⟨hg, ho⟩ := ou_all hFw (by omega)
        have hsk : Te (fun K => qe_X13_skein K 0 1 0 0 (usF z2 46 1)) (fun z1 => fr (skE 44 0) (usF z2 46 1) z1 ∧ ∀ a : Nat × wd9 × (Nat → Bool), (1 ≤ a.1 ∧ bdz a.1 a.2.1 a.2.2 A sg) → (fr (skH 0) (usF z2 46 1) z1 ∧ twA z1 (fun p q => 0 + 1 * Fz a.1 a.2.1 a.2.2 (p - (((40 : Nat) : Int) - 40)) (q - ((0 : Nat) : Int))))) := te_all (tp_skeinH0 (e := 1) (H := 44) (Or.inr rfl) tp_leafT hok (by omega) (by omega) hA4 po_usF_at) (fun a ha => xr_skein2 ha.1 12 0 16 0 0 40 A sg 1 (fun _ _ => 0) a.2.1 a.2.2 (usF z2 46 1) (by omega) (by omega) (by omega) hFw (by omega) (by omega) hA4 hS4 hg ho (by omega) (by omega) (Or.inl rfl) po_usF_at hcw ha.2)
        refine w_cs0 hsk (fun z3 ⟨f6, c6⟩ => ?_)
        have f7 : fr (fun g => g = 44 ∨ g = 46 ∨ g = 41 ∨ 1000 ≤ g) y2 z3 := fr_tr (fr_mono (fun g hg => Or.inl hg) hf) (fr_tr (fr_mono (fun g hg => by omega) f5) (fr_tr (fr_mono (fun g hg => Or.inr (Or.inl hg)) f3) (fr_mono (fun g hg => by unfold skE at hg; omega) f6)))
        refine lp2 32 0 z3 z3 (by omega) (f7 27 (by omega)).2.1 (by rw [(f7 1 (by omega)).1]; exact hy2) (fun nn W ov hnn hbz => twA_cg (c6 (nn, W, ov) ⟨hnn, hbz⟩).2 (fun p q => ?_)) (cwR_fr f7 (by omega) (by omega) hW2) fr_rf (fun t ht => absurd ht (by omega))
        show 0 + 1 * Fz nn W ov (p - (((40 : Nat) : Int) - 40)) (q - ((0 : Nat) : Int)) = Fz nn W ov p q
        rw [show p - (((40 : Nat) : Int) - 40) = p by omega, show q - ((0 : Nat) : Int) = q by omega, Int.one_mul, Int.zero_add]
      | succ dd ih =>
        intro i y hi hf ht
        refine u_X13_two_1 ?_; unfold qm_X13_two_1
        rw [nI_1]
        refine w_leF (a := 5289) (by omega) (by omega) (w_wrJ ml44 rfl (by omega) (ih (i + 1) _ (by omega) (fr_J2 hf rfl) (fun t h9 => ?_)))
        by_cases hti : t = i
        · rw [hti, usJ_at]
          rfl
        · rw [usJ_ne hti]
          exact ht t (by omega)
    exact lp1 5289 0 y2 (by omega) fr_rf (fun t ht => absurd ht (by omega))
theorem xq_two0 {x k j : Int32} (h : gI X z) (hn : noB (z.2.1 96) x) (hJ : twR z) (hW : cwR z) : Te (fun K => qe_X13_two K x k j z) (fun r => (twR r.2 ∧ cwR r.2) ∧ rFl X z 1 r) := by
  have h1 := gI_1 (c := 0) h
  refine e_X13_two ?_
  refine u_X13_two_0 ?_; unfold qm_X13_two_0
  refine w_wrF (w_hasBX h1.2.2.2.2.2.1 (fun h0 => w_ifT rfl (w_mono (w_failX (k := 1) h1 fr_1) (fun r hr => ⟨⟨twR_fr hr.2.2 (by unfold rPs rSc; omega) (by unfold rPs rSc; omega) hJ, cwR_fr hr.2.2 (by unfold rPs rSc; omega) (by unfold rPs rSc; omega) hW⟩, hr⟩))) (fun c n' l' hc hx hh => ?_))
  have h9 := hn c hc hx
  have e : z.2.1 96 c = nI n' := hh.2.2.2.1
  have := hh.1
  have := hh.2.1
  rw [e] at h9
  exact absurd h9 (nI_ne0 (by omega) (by omega))
end XTWO
end
section
/-! 99zzzzzzzzzzzzzzzzya.xtwr -/
/-! two: what conway leaves of two's rows; the class's two, exactly -/
section XTWR1
variable {X : (Nat → Nat → Int32) → Prop} {z : ow_MS} {St : plT}
theorem xq_conT {d x : Int32} (h : gI X z) (hR : relR z St) (hS : okS St) (hJ : twR z) : Te (fun K => qe_X13_conway K d x z) (fun r => twR r.2) := by
  let Q : Int32 × ow_MS → Prop := fun r => twR r.2
  have h1 := gI_1 (c := 0) h
  have hR1 := relR_1 (c := 0) hR
  have f01 : fr rPs z (usF z 1 0) := fr_1
  refine e_X13_conway ?_
  refine u_X13_conway_0 ?_; unfold qm_X13_conway_0
  refine w_wrF (w_hasX hR1 (fun h0 => w_ifT rfl (w_mono (w_failX h1 fr_1) (fun r hr => twR_fr hr.2.2 (by unfold rPs rSc; omega) (by unfold rPs rSc; omega) hJ))) (fun e A sg he hx hs hv hne => w_ifF (by decide) ?_))
  subst hx
  have c4 : ∀ {x1 : Int32} {y : ow_MS}, twR y → Tt (fun K i => q_X13_conway K i 4 x1 x 0 y) Q := by
    intro x1 y g4
    refine u_X13_conway_4 ?_; unfold qm_X13_conway_4
    exact w_some g4
  have c3 : ∀ {x1 : Int32} {y : ow_MS}, twR y → Tt (fun K i => q_X13_conway K i 3 x1 x 0 y) Q := by
    intro x1 y g4
    refine u_X13_conway_3 ?_; unfold qm_X13_conway_3
    refine w_if (fun h0 => c4 g4) (fun h0 => ?_)
    obtain ⟨k, k31, rfl⟩ := nI_of h0
    exact w_lt (b := 40) k31 (by omega) (fun hk => w_rdJ ml42 rfl hk rfl (w_some g4)) (fun hk => c4 g4)
  obtain ⟨⟨T1, k1⟩, kC⟩ := h1.2.2.2.2.1
  have hTl := hv.1.1
  obtain ⟨-, -, c, hA⟩ := hS e A sg he hs
  have hJ1 : twR (usF z 1 0) := twR_fr f01 (by unfold rPs rSc; omega) (by unfold rPs rSc; omega) hJ
  rw [show (32 : Int32) * nI e = nI (32 * e) from pk_mul 32 e]
  refine w_cs1 (tr_same (o := 32 * e) (p := 0) ml12 ml43 (by omega) (by omega) (by omega) (by omega) hv.1 k1) (fun a y e9 => ?_)
  cases e9
  refine w_if (fun _ => ?_) (fun h8 => c3 hJ1)
  have lp2 : ∀ (dd i : Nat) (y : ow_MS), i + dd = 32 → twR y → Tt (fun K t => q_X13_conway K t 2 (nI e) x (nI i) y) Q := by
    intro dd
    induction dd with
    | zero =>
      intro i y hi g4
      refine u_X13_conway_2 ?_; unfold qm_X13_conway_2
      exact w_leT (a := 32) (by omega) (by omega) (c3 g4)
    | succ dd ih =>
      intro i y hi g4
      refine u_X13_conway_2 ?_; unfold qm_X13_conway_2
      rw [show (32 : Int32) * nI e = nI (32 * e) from pk_mul 32 e, nI_add, nI_1]
      exact w_leF (a := 32) (by omega) (by omega) (w_rdI ml12 rfl (by omega) rfl (w_wrI ml43 rfl (by omega) (ih (i + 1) _ (by omega) (twR_fr (P := fun g => g = 43) (fr_I rfl) (by decide) (by decide) g4))))
  have lp1 : ∀ (dd i : Nat) (y : ow_MS), i + dd = 40 → fr (fun g => g = 42) (usF z 1 0) y → Tt (fun K t => q_X13_conway K t 1 (nI e) x (nI i) y) Q := by
    intro dd
    induction dd with
    | zero =>
      intro i y hi hf
      have hv9 : vRow y 12 (32 * e) A sg := vRow_fr9 hf (by decide) hv
      refine u_X13_conway_1 ?_; unfold qm_X13_conway_1
      refine w_leT (a := 40) (by omega) (by omega) (w_rdN (i := 0) rfl (by omega) (w_cs0 (to_open (pnL (i := 0) (by omega)) he hv9) (fun z2 ⟨o2, f2⟩ => w_okZ (Or.inl rfl) (w_wrF ?_))))
      have f3 : fr (fun g => g = 46) z2 (usF z2 46 0) := fr_F rfl
      have hA4 : rn_At (usF z2 46 0) (1000 * (0 + 4)) A [] := o2.1.1
      refine w_cs0 (tp_skeinH0 (e := 0) (H := 42) (Or.inl rfl) tp_leafC hA.1 hA.2.2.2.1 hA.2.2.2.2 hA4 po_usF_at) (fun z3 f4 => ?_)
      have f5 : fr (fun g => g = 42 ∨ g = 46 ∨ g = 41 ∨ 1000 ≤ g) (usF z 1 0) z3 := fr_tr (fr_mono (fun g hg => Or.inl hg) hf) (fr_tr (fr_mono (fun g hg => by omega) f2) (fr_tr (fr_mono (fun g hg => Or.inr (Or.inl hg)) f3) (fr_mono (fun g hg => by unfold skE at hg; omega) f4)))
      exact lp2 32 0 z3 (by omega) (twR_fr f5 (by omega) (by omega) hJ1)
    | succ dd ih =>
      intro i y hi hf
      refine u_X13_conway_1 ?_; unfold qm_X13_conway_1
      rw [nI_1]
      exact w_leF (a := 40) (by omega) (by omega) (w_wrJ ml42 rfl (by omega) (ih (i + 1) _ (by omega) (fr_J2 hf rfl)))
  exact lp1 40 0 (usF z 1 0) (by omega) fr_rf
end XTWR1
def gdK (y : ow_MS) (A : rn_L) (sg : Nat → Bool) : Prop := ∀ n W ov, 1 ≤ n → bdz n W ov A sg → twC y (Fz n W ov)
/-- the class's last table -/
def twK (y : ow_MS) : Prop := ∃ C, slC y 25000 0 C ∧ cOK C ∧ (C.2 = [] ∨ ∃ A sg c, C = clC sg A ∧ okL A c ∧ gdK y A sg)
theorem gdK_fr {P : Nat → Prop} {y y1 : ow_MS} {A : rn_L} {sg : Nat → Bool} (hf : fr P y y1) (hP : ¬ P 24004) (h : gdK y A sg) : gdK y1 A sg := fun n W ov hn hb => twC_fr hf hP (h n W ov hn hb)
theorem twK_fr {P : Nat → Prop} {y y1 : ow_MS} (hf : fr P y y1) (hP : ∀ g, P g → ¬ (g = 24004 ∨ 25001 ≤ g ∧ g ≤ 25003)) (h : twK y) : twK y1 := by
  obtain ⟨C, c1, c2, c3⟩ := h
  exact ⟨C, slC_fr hf (fun q hq h9 => hP q h9 (by unfold cW at hq; omega)) c1, c2, c3.imp id (fun ⟨A, sg, c, q1, q2, q3⟩ => ⟨A, sg, c, q1, q2, gdK_fr hf (fun h9 => hP _ h9 (by omega)) q3⟩)⟩
section XTWR2
variable {vl : Nat → Nat} {y : ow_MS} {St : plT} {x x' : Int32}
theorem xc_unfT {g' p' s' c : Nat} {A : rn_L} {sg : Nat → Bool} (hg' : tH g' p') (hd : g' + 6 ≤ 24000) (hs' : s' < p') (hb : slC y g' s' (clC sg A)) (hA : okL A c) (hby : byR y (g' + 1)) (hl : lvS y) (hbn : bnC y) (hK : twK y) : Te (fun K => ce_X8_unfoldCode vl K 24000 g' (nI s') y) (fun y1 => slC y1 25000 0 (clC sg A) ∧ gdK y1 A sg) := by
  obtain ⟨C, c1, c2, c3⟩ := hK
  refine e_X8_unfoldCode ?_; unfold cm_X8_unfoldCode_0
  refine w_cs1 (tc_isKnown2 (s := 0) (by omega) hg' (by omega) hs' hb (okL_c hA).2 hby c1 c2) ?_
  rintro v y1 ⟨h1, -, -, f1⟩
  dsimp only at h1 f1
  rcases h1 with ⟨rfl, rfl, eC, hlen⟩ | ⟨rfl, h1⟩
  · refine w_ifF (by decide) (w_some ⟨by rw [← eC]; exact c1, ?_⟩)
    rcases c3 with e | ⟨A', sg', c', q1, q2, q3⟩
    · rw [e] at hlen
      exact absurd hlen (by decide)
    · obtain ⟨u1, u2, u3⟩ := clC_inj hA q2 (eC.symm.trans q1)
      subst u1
      exact fun n W ov hn hbz => q3 n W ov hn (bd_sg hbz (fun p hp => (u3 p.1 ((hA.1.2 p).mp hp).1).symm))
  · have f1s : fr skP y y1 := fr_mono (fun g hg => by unfold cW at hg; unfold skP; omega) f1
    have l1 : lvS y1 := fun j hj => by
      obtain ⟨T, t1, t2⟩ := hl j hj
      exact ⟨T, cAt_fr f1 (fun g hg h9 => by unfold cP lv at hg; unfold cW at h9; omega) t1, t2⟩
    refine w_ifT rfl (w_cs0 (tc_fillA ch_24003 (by omega)) ?_)
    rintro y2 ⟨-, f2⟩
    refine w_cs0 (tc_fillA ch_24004 (by omega)) ?_
    rintro y3 ⟨z3, f3⟩
    have hc3 : twC y3 (fun _ _ => 0) := fun a b ha hb => z3 (a * 41 + b) (by omega)
    have f13a : fr (fun g => g = 24003 ∨ g = 24004) y1 y3 := fr_tr (fr_mono (fun g hg => by omega) f2) (fr_mono (fun g hg => by omega) f3)
    have l3 : lvS y3 := fun j hj => by
      obtain ⟨T, t1, t2⟩ := l1 j hj
      exact ⟨T, cAt_fr f13a (fun g hg h9 => by unfold cP lv at hg; omega) t1, t2⟩
    obtain ⟨T, t1, t2⟩ := l3 0 (by omega)
    have s3 : slC y3 g' s' (clC sg A) := slC_fr (fr_tr f1s (fr_mono (fun g hg => by unfold skP; omega) f13a)) (fun q hq h9 => by unfold cW at hq; unfold skP at h9; omega) hb
    have b3 : bnC y3 := bnC_fr (fr_tr f1s (fr_mono (fun g hg => by unfold skP; omega) f13a)) (fun m hm h9 => by unfold skP at h9; omega) hbn
    refine w_crX (j := 0) rfl (by omega) (w_cs0 (tc_load3 (lv_nH (L := 0) (by omega)) hg' (Or.inr (by omega)) hs' hA s3 t1 t2) ?_)
    rintro y4 ⟨⟨T1, q1, q2, q3, q4⟩, f4⟩
    have n4 := q1.2.2.1
    have l4 : lvS y4 := lvS_fr (L := 0) f4 (fun g hg => Or.inl (cL_in hg)) ⟨T1, q1.1, n4.2.2.1⟩ l3
    have b4 : bnC y4 := bnC_fr f4 (fun m hm h9 => by have := cL_in h9; unfold lv at this; omega) b3
    have hpm : pm1 T1 := fun x hx => by
      rw [q4 x (by omega)]
      cases sg x
      · exact Or.inl rfl
      · exact Or.inr rfl
    have nv4 : nvL 0 T1 := ⟨n4.1, n4.2.1, n4.2.2.1, by have := n4.2.2.2; omega⟩
    have hun : Te (fun K => ce_X8_unfold vl K 24000 0 1 0 0 y4) (fun z1 => (lvS z1 ∧ fr (unP 0) y4 z1) ∧ ∀ a : Nat × wd9 × (Nat → Bool), (1 ≤ a.1 ∧ bdz a.1 a.2.1 a.2.2 A sg) → ((lvS z1 ∧ fr (unP 0) y4 z1) ∧ twC z1 (fun p q => 0 + 1 * Fz a.1 a.2.1 a.2.2 (p - 0) (q - ((0 : Nat) : Int))))) := te_all (tc_unfold l4 q1.1 nv4) (fun a ha => xc_unfD2 ha.1 12 0 rfl T1 A sg a.2.2 a.2.1 (fun x => x) 1 (fun _ _ => 0) 0 y4 l4 b4 q1.1 nv4 (by have := n4.2.1; omega) (isoV_of q1.2.1 n4.1) hpm (by have := hA.2.2.2.2; omega) ha.2 (twC_fr f4 (fun h9 => by have := cL_in h9; unfold lv at this; omega) hc3) (by decide) (by decide))
    refine w_cs0 hun ?_
    rintro y5 ⟨⟨l5, f5⟩, c5⟩
    have f15 : fr (fun g => 24003 ≤ g ∧ g ≤ 24004 ∨ 26001 ≤ g ∧ g ≤ 38011) y1 y5 := fr_tr (fr_mono (fun g hg => by omega) f13a) (fr_tr (fr_mono (fun g hg => by have := cL_in hg; unfold lv at this; omega) f4) (fr_mono (fun g hg => by unfold unP at hg; omega) f5))
    refine w_some ⟨slC_fr f15 (fun q hq h9 => by unfold cW at hq; omega) h1, fun n W ov hn hbz => twC_cg (c5 (n, W, ov) ⟨hn, hbz⟩).2 (fun p q => ?_)⟩
    show 0 + 1 * Fz n W ov (p - 0) (q - ((0 : Nat) : Int)) = Fz n W ov p q
    rw [show p - 0 = p by omega, show q - ((0 : Nat) : Int) = q by omega, Int.one_mul, Int.zero_add]
theorem xc_conT (hM : gM y) (hC : relC y St) (hS : okS St) (hbn : bnC y) (hK : twK y) : Te (fun K => ce_X11_conway vl K 0 x x' y) (fun r => twK r.2.2) := by
  refine e_X11_conway ?_; unfold cm_X11_conway_0
  refine w_tc0 (xc_need hM.1.1 hC hS) ?_ ?_
  · rintro y1 ⟨h1, rfl⟩
    rcases h1 with h1 | ⟨-, d, A, sg, c, hd, rfl, hSt, hs, hA, hne, hpl⟩
    · exact absurd (show (0 : Nat) = 1 from h1.1) (by decide)
    · refine w_cs0 (xc_unfT ch_1000 (by omega) hd hs hA hM.1.1.1 (lvS_ns hM.1.2.1) hbn hK) ?_
      rintro y2 ⟨k2, k3⟩
      refine w_cs1 tc_conwayAt ?_
      rintro v z ⟨e2, a1, a2⟩
      dsimp only at e2 a1 a2
      rw [e2]
      exact w_some ⟨_, k2, (okL_c hA).2, Or.inr ⟨A, sg, c, rfl, hA, k3⟩⟩
  · rintro a y1 ha ⟨h1, rfl⟩
    exact w_some hK
theorem xc_twoAt : Te (fun K => ce_X8_twoAt vl K 24000 x x' y) (fun r => r.2 = y ∧ ∀ F, twC y F → twN9 F x x' r.1) := by
  have e1 : ∀ u : Int32, u.toInt64 = Int64.ofInt u.toInt := fun u => by
    have := Int32.toInt64_ofInt (n := u.toInt) (Int32.minValue_le_toInt u) (Int32.toInt_le u)
    rw [Int32.ofInt_toInt] at this
    exact this
  have bd : ∀ u : Int32, (-2147483648 : Int) ≤ u.toInt ∧ u.toInt ≤ (2147483647 : Int) := fun u => ⟨Int32.minValue_le_toInt u, Int32.toInt_le u⟩
  have b1 := bd x
  have b2 := bd x'
  refine e_X8_twoAt ?_; unfold cm_X8_twoAt_0
  rw [e1 x, e1 x']
  refine w_cs1 (xc_tIx (by omega) (by omega) (by omega) (by omega)) ?_
  rintro v z ⟨e2, h2⟩
  dsimp only at h2 e2
  rw [e2]
  rcases h2 with ⟨a, b, ha, hb, ea, eb, rfl⟩ | ⟨rfl, hno⟩
  · refine w_ifF (rn_neg1 (by omega)) (w_crI ch_24004 rfl (show a * 41 + b < 5289 by omega) rfl (w_some ⟨rfl, fun F hF => ⟨fun _ => ?_, fun h9 => absurd ⟨by omega, by omega, by omega, by omega⟩ h9⟩⟩))
    show y.2.1 24004 (a * 41 + b) = _
    rw [hF a b ha hb, ea, eb]
  · exact w_ifT rfl (w_some ⟨rfl, fun F hF => ⟨fun h9 => absurd h9 hno, fun _ => rfl⟩⟩)
theorem xc_two0 (hB : brC y) (hn : noB (y.2.1 15) x) {i j : Int32} : Te (fun K => ce_X11_two vl K 0 x i j y) (fun r => r.1 = 1 ∧ r.2.2 = y) := by
  refine e_X11_two ?_; unfold cm_X11_two_0
  refine w_tc0 (tc_needBraid (brC_E hB)) ?_ ?_
  · rintro y1 ⟨h1, rfl⟩
    rcases h1 with ⟨-, hb⟩ | h1
    · exfalso
      obtain ⟨b, n, l, hb20, e, hn2, hn5, e15, l16, e14, hw⟩ := isB_w hB hb
      have h9 := hn b hb20 e
      rw [e15] at h9
      exact absurd h9 (nI_ne0 (by omega) (by omega))
    · exact absurd (show (0 : Nat) = 1 from h1.1) (by decide)
  · rintro a y1 ha ⟨h1, rfl⟩
    rcases h1 with h1 | h1
    · exact absurd h1.1 ha
    · exact w_some ⟨h1.1, rfl⟩
theorem xc_two {b n l : Nat} {w : Nat → Nat} {lp : Nat → Bool} {A : rn_L} {sg : Nat → Bool} (hM : gM y) (hB : brC y) (hk : knC y) (hb : b < 20) (hn2 : 2 ≤ n) (hn5 : n ≤ 5) (h15 : y.2.1 15 b = nI n) (hl : l ≤ 16) (h14 : y.2.1 14 b = nI l) (hw : ltX 13 y b n l w lp) (hbn : bnC y) (hK : twK y) (hW : cwK y) (hF : l ≤ 10 → twF w lp n l A sg) : Te (fun K => ce_X11_two vl K 0 (nI b) x x' y) (fun r => (twK r.2.2 ∧ cwK r.2.2) ∧ (r.1 = 4 ∧ r.2.2 = y ∧ 10 < l ∨ l ≤ 10 ∧ r.1 = 0 ∧ ∃ W ov, bdz n W ov A sg ∧ twN9 (Fz n W ov) x x' r.2.1)) := by
  have hwn : ∀ i, i < l → w i + 1 < n := fun i hi => (hw i hi).1
  refine e_X11_two ?_; unfold cm_X11_two_0
  refine w_tc0 (tc_needBraid (brC_E hB)) ?_ ?_
  · rintro y1 ⟨h1, rfl⟩
    refine w_crI ch_14 rfl hb h14 (w_le (b := 10) (by omega) (by omega) (fun h12 => ?_) (fun h12 => w_some ⟨⟨hK, hW⟩, Or.inl ⟨rfl, rfl, h12⟩⟩))
    obtain ⟨T, t1, t2⟩ := hM.1.2.1 4000 nH4
    refine w_crI ch_14 rfl hb h14 (w_crI ch_15 rfl hb h15 ?_)
    rw [m16]
    refine w_cs0 (xc_close t1 t2 hb hn2 hn5 (by omega) hw) ?_
    rintro y3 ⟨⟨T1, g1, g2, g3, g4, g5, g6⟩, f3⟩
    have hN3 : gN y3 := gN_net nH4 f3 (fun g hg => by unfold clR cP at hg; omega) ⟨T1, g1, g2.2.2.1⟩ hM.1
    have f3u : fr uP y1 y3 := fr_mono (fun g hg => by unfold clR cP at hg; unfold uP; omega) f3
    have hk7 : kH 7000 := Or.inl rfl
    have hb7 := hN3.2.2 7000 hk7
    refine w_cs0 (tc_encode hk7 nH4 g1 g2 hb7.1 hb7.2.1 hb7.2.2) ?_
    rintro y4 ⟨⟨Cs, os, z1, z2, z3⟩, b1, b2, b3, hy4, f4⟩
    have f4u : fr uP y3 y4 := fr_mono (fun g hg => by
      unfold enP cpP epP cV cQ at hg
      unfold uP
      omega) f4
    have f14 : fr uP y1 y4 := fr_tr f3u f4u
    have hl4 : lvS y4 := fun j hj => by
      obtain ⟨T, t1, t2⟩ := lvS_ns hM.1.2.1 j hj
      exact ⟨T, cAt_fr f14 (fun g hg h9 => by unfold cP lv at hg; unfold uP at h9; omega) t1, t2⟩
    subst g3
    obtain ⟨Rs, m, P, k1, k2, k3, k4, k5, k6⟩ := hF h12
    have hiso := cl_iso (by omega) g2.1 hwn g5 g4 g6 k1 k3
    obtain ⟨m1, m2⟩ := cl_pl (by omega) g2.1 hwn g5 g4
    obtain ⟨A', sg', p1, p2, p3, p4, f', p5⟩ := enc_iso (isoS_iff.mp hiso.1) (by unfold rgS; rw [List.length_map]; omega) g2 k4 z1
    obtain ⟨u1, u2⟩ := tk_inj A A' k6 (okL_u p2) (k5.symm.trans p1)
    subst u1
    have hnr : nrm A sg' := ⟨T1, f', Cs, os, g2, m1, p5, z1, p3⟩
    rw [p3] at z2
    have k4' : knC y4 := knC_fr f14 (fun g hg => by unfold uP at hg; omega) hk
    have bn4 : bnC y4 := bnC_fr f14 (fun m hm h9 => by unfold uP at h9; omega) hbn
    have tw4 : twK y4 := twK_fr f14 (fun g hg h9 => by unfold uP at hg; omega) hK
    have cw4 : cwK y4 := cwK_fr f14 (fun g hg h9 => by unfold uP at hg; omega) hW
    refine w_cs0 (te_and (xc_unfoldCode (s' := 0) (kH_out hk7) (by omega) Nat.one_pos z2 p2 b1 hnr hl4 cw4) (xc_unfT (s' := 0) (kH_out hk7) (by omega) Nat.one_pos z2 p2 b1 hl4 bn4 tw4)) ?_
    rintro y5 ⟨⟨s1, s2⟩, s3, s4⟩
    refine w_cs1 xc_twoAt ?_
    rintro v z ⟨e2, h2⟩
    dsimp only at e2 h2
    rw [e2]
    obtain ⟨W, hbz⟩ := bd_cl p5 hiso hwn k1 k3
    exact w_some ⟨⟨⟨_, s3, (okL_c p2).2, Or.inr ⟨A, sg', _, rfl, p2, s4⟩⟩, ⟨_, s1, (okL_c p2).2, Or.inr ⟨A, sg', _, rfl, p2, s2⟩⟩⟩, Or.inr ⟨h12, rfl, W, _, bd_sg hbz u2, h2 _ (s4 n W _ (by omega) hbz)⟩⟩
  · rintro a y1 ha ⟨h1, rfl⟩
    rcases h1 with h1 | h1
    · exact absurd h1.1 ha
    · have := h1.2 b hb rfl
      rw [h15] at this
      exact absurd this (nI_ne0 (by omega) (by omega))
end XTWR2
end
section
/-! 99zzzzzzzzzzzzzzzzyb.xtws -/
/-! two is a step of the law; what is left of the whole: five cases -/
def twQ (g : Nat) : Prop := 4001 ≤ g ∧ g ≤ 5011 ∨ 7004 ≤ g ∧ g ≤ 10005 ∨ skP g
section XTWS
variable {vl : Nat → Nat} {y : ow_MS}
theorem tc_twoF {x x1 x2 : Int32} (hM : gM y) (hB : brC y) (hk : knC y) : Te (fun K => ce_X11_two vl K 0 x x1 x2 y) (fun r => (∀ D, cOK D → slC y 25000 1 D → slC r.2.2 25000 1 D) ∧ fr twQ y r.2.2) := by
  refine e_X11_two ?_; unfold cm_X11_two_0
  refine w_tc0 (tc_needBraid (brC_E hB)) ?_ ?_
  · rintro y1 ⟨h1, rfl⟩
    rcases h1 with ⟨-, hb⟩ | h1
    · obtain ⟨b, n, l, hb20, rfl, hn2, hn5, e15, l16, e14, hw⟩ := isB_w hB hb
      refine w_crI ch_14 rfl hb20 e14 (w_le (b := 10) (by omega) (by omega) (fun h12 => ?_) (fun _ => w_some ⟨fun D _ hs => hs, fr_rf⟩))
      obtain ⟨T, t1, t2⟩ := hM.1.2.1 4000 nH4
      refine w_crI ch_14 rfl hb20 e14 (w_crI ch_15 rfl hb20 e15 ?_)
      rw [m16]
      refine w_cs0 (tc_close t1 t2 hb20 hn2 hn5 (by omega) hw) ?_
      rintro y3 ⟨⟨T1, g1, g2⟩, f3⟩
      have hN3 : gN y3 := gN_net nH4 f3 (fun g hg => by unfold clR cP at hg; omega) ⟨T1, g1, g2.2.2.1⟩ hM.1
      have hk7 : kH 7000 := Or.inl rfl
      have hb7 := hN3.2.2 7000 hk7
      refine w_cs0 (tc_encode hk7 nH4 g1 g2 hb7.1 hb7.2.1 hb7.2.2) ?_
      rintro y4 ⟨⟨Cs, os, z1, z2, z3⟩, b1, b2, b3, hy4, f4⟩
      obtain ⟨A', sg', q1, q2, -⟩ := enc_ok g2 z1
      have f14 : fr (fun g => 4001 ≤ g ∧ g ≤ 5011 ∨ 7004 ≤ g ∧ g ≤ 10005) y1 y4 := fr_tr (fr_mono (fun g hg => by unfold clR cP at hg; omega) f3) (fr_mono (fun g hg => by
        unfold enP cpP epP cV cQ at hg
        omega) f4)
      have hl4 : lvS y4 := fun j hj => by
        obtain ⟨T, t1, t2⟩ := lvS_ns hM.1.2.1 j hj
        exact ⟨T, cAt_fr f14 (fun g hg h9 => by unfold cP lv at hg; omega) t1, t2⟩
      have k4 : knC y4 := knC_fr f14 (fun g hg => by omega) hk
      rw [q2] at z2
      refine w_cs0 (te_and (tc_unfoldCode (s' := 0) (kH_out hk7) (by omega) Nat.one_pos z2 q1 b1 k4 hl4) (tc_unfK (s' := 0) (kH_out hk7) (by omega) Nat.one_pos z2 q1 b1 k4 hl4)) ?_
      rintro y5 ⟨⟨k5, l5, f5⟩, s5⟩
      refine w_cs1 tc_twoAt ?_
      rintro v z e2
      dsimp only at e2
      rw [e2]
      exact w_some ⟨fun D hD hs => s5 D hD (slC_fr f14 (fun q hq h9 => by unfold cW at hq; omega) hs), fr_tr (fr_mono (fun g hg => by unfold twQ; omega) f14) (fr_mono (fun g hg => Or.inr (Or.inr hg)) f5)⟩
    · exact absurd (show (0 : Nat) = 1 from h1.1) (by decide)
  · rintro a y1 ha ⟨h1, rfl⟩
    exact w_some ⟨fun D _ hs => hs, fr_rf⟩
/-- what the class keeps besides -/
theorem CI_tw {y1 : ow_MS} (hf : fr twQ y y1) (h1 : knC y1) (h2 : ∀ D, cOK D → slC y 25000 1 D → slC y1 25000 1 D) (h : CI vl y) : CI vl y1 := by
  obtain ⟨-, ⟨C, c1, c2, c3⟩, i3, i4, i5, i6, i7, i8⟩ := h
  have no : ∀ g, 24005 ≤ g ∧ g ≤ 25000 ∨ 38012 ≤ g → ¬ twQ g := fun g hg h9 => by unfold twQ skP at h9; omega
  refine ⟨h1, ⟨C, h2 C c2 c1, c2, c3.imp id (fun ⟨A, sg, c, q1, S, G, q2, q3, q4, q5⟩ => ⟨A, sg, c, q1, S, G, q2, (hf 40008 (no _ (by omega))).1.trans q3, (hf 24009 (no _ (by omega))).1.trans q4, fun k hk => by rw [(hf 24006 (no _ (by omega))).2.1]; exact q5 k hk⟩)⟩, bnC_fr hf (fun m hm => no _ (by omega)) i3, mpC_fr hf ⟨no _ (by omega), no _ (by omega), no _ (by omega)⟩ i4, ?_, fun m hm => ?_, fun i k hi hk => ?_, i8⟩
  · obtain ⟨k, k1, k2, k3⟩ := i5
    refine ⟨k, k1, by rw [(hf 41010 (no _ (by omega))).1]; exact k2, fun s hs => ?_⟩
    rw [(hf 41012 (no _ (by omega))).2.1, (hf 41013 (no _ (by omega))).2.1, (hf 41014 (no _ (by omega))).2.1]
    exact k3 s hs
  · rw [(hf 43005 (no _ (by omega))).2.1]
    exact i6 m hm
  · rw [(hf (45001 + i) (no _ (by omega))).2.1]
    exact i7 i k hi hk
variable {X : (Nat → Nat → Int32) → Prop} {z : ow_MS} {x i j : Int32}
theorem c_two (h : rel3 X z y) (hk : knC y) (hbn : bnC y) (hz : cwR z ∧ twR z) (hy : cwK y ∧ twK y) : Te (fun K => qe_X13_two K x i j z) (fun rr => Te (fun K => ce_X11_two vl K 0 x i j y) (fun rc => (rel3 X rr.2 rc.2.2 ∧ ansI [(1, 1), (2, 4)] rr rc) ∧ (twR rr.2 ∧ cwR rr.2) ∧ (twK rc.2.2 ∧ cwK rc.2.2) ∧ knC rc.2.2 ∧ (∀ D, cOK D → slC y 25000 1 D → slC rc.2.2 25000 1 D) ∧ fr twQ y rc.2.2)) := by
  obtain ⟨⟨St, k⟩, hM, h2⟩ := id h
  have hR : Te (fun K => qe_X13_two K x i j z) (fun rr => gI X rr.2 ∧ fr (pf [1, 2, 3, 4, 5, 6, 7, 8, 9, 27, 41, 42, 44, 45, 46, 120] []) z rr.2) := te_fo (tp_two (b := x) (k := i) (j := j) k.1) (fun K => ff_X13_two)
  have hC : Te (fun K => ce_X11_two vl K 0 x i j y) (fun rc => (gM rc.2.2 ∧ brC rc.2.2 ∧ knC rc.2.2 ∧ fr twP y rc.2.2) ∧ (∀ D, cOK D → slC y 25000 1 D → slC rc.2.2 25000 1 D) ∧ fr twQ y rc.2.2) := te_and (tc_two (x := x) (x1 := i) (x2 := j) hM h2.2.2.1 hk) (tc_twoF hM h2.2.2.1 hk)
  have fin : ∀ (rr : Int32 × ow_MS) (rc : Nat × Int32 × ow_MS), gI X rr.2 ∧ fr (pf [1, 2, 3, 4, 5, 6, 7, 8, 9, 27, 41, 42, 44, 45, 46, 120] []) z rr.2 → ((gM rc.2.2 ∧ brC rc.2.2 ∧ knC rc.2.2 ∧ fr twP y rc.2.2) ∧ (∀ D, cOK D → slC y 25000 1 D → slC rc.2.2 25000 1 D) ∧ fr twQ y rc.2.2) → (twR rr.2 ∧ cwR rr.2) → (twK rc.2.2 ∧ cwK rc.2.2) → ansI [(1, 1), (2, 4)] rr rc → ((rel3 X rr.2 rc.2.2 ∧ ansI [(1, 1), (2, 4)] rr rc) ∧ (twR rr.2 ∧ cwR rr.2) ∧ (twK rc.2.2 ∧ cwK rc.2.2) ∧ knC rc.2.2 ∧ (∀ D, cOK D → slC y 25000 1 D → slC rc.2.2 25000 1 D) ∧ fr twQ y rc.2.2) := fun rr rc ⟨hgI, fR⟩ ⟨⟨hG, hB9, hk2, _⟩, hs1, hf⟩ h1 h3 ha => by
    have no : ∀ g, g ≤ 4000 ∨ 5012 ≤ g ∧ g ≤ 7003 ∨ 10006 ≤ g ∧ g ≤ 24002 → ¬ twQ g := fun g hg h9 => by unfold twQ skP at h9; omega
    have hC9 : relC rc.2.2 St := relC_fr hf (fun q hq => no q (by unfold cW at hq; omega)) k.2.2.2.1
    have h2' : rel2 rr.2 rc.2.2 := by
      obtain ⟨k1, k2, k3, ⟨Ns, q1, q2, q3⟩, Ms, q4, q5, q6⟩ := h2
      exact ⟨relT_k fR hf (by decide) ⟨no _ (by omega), no _ (by omega)⟩ k1, relB_k fR hf (by decide) ⟨no _ (by omega), no _ (by omega), no _ (by omega)⟩ k2, brC_fr hf ⟨no _ (by omega), no _ (by omega), no _ (by omega)⟩ k3, ⟨Ns, rlR_k fR (by decide) q1, rlC_k hf (fun q hq => no q (by unfold cV at hq; omega)) q2, q3⟩, Ms, rlR_k fR (by decide) q4, rlC_k hf (fun q hq => no q (by unfold cV at hq; omega)) q5, q6⟩
    exact ⟨⟨⟨⟨St, hgI, hG.1, relR_fr fR (by decide) k.2.2.1, hC9, k.2.2.2.2⟩, hG, h2'⟩, ha⟩, h1, h3, hk2, hs1, hf⟩
  rcases br_cs k.1 x with hn | ⟨b, n, l, hb20, rfl, hh⟩
  · refine te_two (te_and hR (xq_two0 (k := i) (j := j) k.1 hn hz.2 hz.1)) (te_and hC (xc_two0 (i := i) (j := j) h2.2.2.1 (noB_iff h2.2.1 hn))) (fun rr rc ⟨a1, a2, a3⟩ ⟨b1, b2, b3⟩ => fin rr rc a1 b1 a2 (by rw [b3]; exact ⟨hy.2, hy.1⟩) (Or.inr ⟨1, 1, by simp, a3.2.1, b2⟩))
  · obtain ⟨w, lp, w1, w2, w3, w4⟩ := ltX_of hh hb20 h2.2.1
    have p1 := hh.1
    have p2 := hh.2.1
    have p3 := hh.2.2.1
    refine w_monoE (te_and hR (xq_two (k := i) (j := j) k.1 hb20 hh w1 hz.2 hz.1)) (fun rr ⟨a1, a2, hr⟩ => ?_)
    rcases hr with ⟨r1, r2⟩ | ⟨r0, r1, A, sg, r2, r3⟩
    · refine w_monoE (te_and hC (xc_two (x := i) (x' := j) (A := []) (sg := fun _ => false) hM h2.2.2.1 hk hb20 p1 p2 w3 p3 w4 w2 hbn hy.2 hy.1 (fun h9 => absurd h9 (by omega)))) (fun rc ⟨b1, b2, hc⟩ => fin rr rc a1 b1 a2 b2 ?_)
      rcases hc with ⟨c1, -⟩ | ⟨c1, -⟩
      · exact Or.inr ⟨2, 4, by simp, r1.2.1, c1⟩
      · omega
    · refine w_monoE (te_and hC (xc_two (x := i) (x' := j) (A := A) (sg := sg) hM h2.2.2.1 hk hb20 p1 p2 w3 p3 w4 w2 hbn hy.2 hy.1 (fun _ => r2))) (fun rc ⟨b1, b2, hc⟩ => fin rr rc a1 b1 a2 b2 ?_)
      rcases hc with ⟨-, -, c3⟩ | ⟨-, c1, W, ov, c2, c3⟩
      · omega
      · exact Or.inl ⟨r1, c1, twN_uni (r3 n W ov (by omega) c2) c3⟩
end XTWS
section XTWS2
variable {Pc Pr : ow_MS → Prop}
theorem s3_two (hc : keepP ciX Pc) (hk : ∀ y, Pc y → cwK y ∧ twK y) (hp : ∀ y y1, fr twQ y y1 → cwK y1 → twK y1 → (∀ D, cOK D → slC y 25000 1 D → slC y1 25000 1 D) → Pc y → Pc y1) (hz : ∀ z, Pr z → cwR z ∧ twR z) (hq : ∀ z z1, fr (pf [1, 2, 3, 4, 5, 6, 7, 8, 9, 27, 41, 42, 44, 45, 46, 120] []) z z1 → cwR z1 → twR z1 → Pr z → Pr z1) : stpX Pc Pr lst_two := by
  intro S x1 x2 x3 x4 x5 h pc pr
  have hci := h.1.2.1
  have hc1 : Te (fun K => qe_X13_two K x1 x2 x3 S.2.2) (fun rr => Te (fun K => ce_X11_two S.1 K 0 x1 x2 x3 S.2.1) (fun rc => (REL (S.1, rc.2.2, rr.2) ∧ ansI [(1, 1), (2, 4)] rr rc) ∧ NM rc.2.2 ∧ Pc rc.2.2 ∧ Pr rr.2)) := w_monoE (te_fo (c_two (vl := S.1) (x := x1) (i := x2) (j := x3) h.1.1 hci.1 hci.2.2.1 (hz _ pr) (hk _ pc)) (fun K => ff_X13_two)) (fun rr ⟨hr, fR⟩ => w_monoE hr (fun rc ⟨⟨q1, q2⟩, q3, q4, q5, q6, q7⟩ => ⟨⟨⟨q1, CI_tw q7 q5 q6 hci, jnR_fr fR (by decide) (by decide) h.1.2.2⟩, q2⟩, NM_fr q7 (fun g hg h9 => by unfold twQ skP at hg; omega) h.2, hp _ _ q7 q4.2 q4.1 q6 pc, hq _ _ fR q3.2 q3.1 pr⟩))
  have hs0 : Te (lsV S.1 (fun K => ce_X11_two S.1 K 0 x1 x2 x3 S.2.1) (fun k z => if k = 1 then some (1, z) else if k = 4 then some (2, z) else none) (fun K => qe_X13_two K x1 x2 x3 S.2.2)) (fun S1 => REL S1 ∧ dPhi S.1 ≤ dPhi S1.1) := by
    refine st_int (w_monoE hc1 (fun rr hr => w_monoE hr (fun rc hb => hb.1))) (fun j k hm => ?_)
    simp only [List.mem_cons, List.not_mem_nil, or_false, Prod.mk.injEq] at hm
    rcases hm with ⟨rfl, rfl⟩ | ⟨rfl, rfl⟩
    · exact ⟨by decide, by decide, by decide, fun _ => rfl⟩
    · exact ⟨by decide, by decide, by decide, fun _ => rfl⟩
  have hmp : ∀ (k : Nat) (z : ow_MS) (r : Int32 × ow_MS), ((fun k z => if k = 1 then some (1, z) else if k = 4 then some (2, z) else none) : Nat → ow_MS → Option (Int32 × ow_MS)) k z = some r → r.2 = z := (fun k z r hr => by
    have hr : (if k = 1 then some (1, z) else if k = 4 then some (2, z) else none) = some r := hr
    by_cases c0 : k = 1
    · rw [if_pos c0] at hr
      cases hr
      rfl
    by_cases c1 : k = 4
    · rw [if_neg c0, if_pos c1] at hr
      cases hr
      rfl
    rw [if_neg c0, if_neg c1] at hr
    cases hr)
  have hs : Te (lsV S.1 (fun K => ce_X11_two S.1 K 0 x1 x2 x3 S.2.1) (fun k z => if k = 1 then some (1, z) else if k = 4 then some (2, z) else none) (fun K => qe_X13_two K x1 x2 x3 S.2.2)) (fun S1 => REL2 S1 ∧ dPhi S.1 ≤ dPhi S1.1) := w_monoE (lsV_nm hs0 (w_monoE (te_in2 hc1) (fun rc ⟨_, hb⟩ => hb.2.1)) hmp) (fun S1 ⟨⟨q1, q2⟩, q3⟩ => ⟨⟨q1, q3⟩, q2⟩)
  exact lsV_pp hs (w_monoE (te_in2 hc1) (fun rc ⟨_, hb⟩ => hb.2.2.1)) (w_monoE (te_out hc1) (fun rr ⟨_, hb⟩ => hb.2.2.2)) (fun y v hy => hc (fun g => g = 52001) y _ (fr_J rfl) (fun g hg h9 => by unfold ciX at h9; omega) hy) hmp
theorem s3_conway2 (hc : keepP ciX Pc) (hk : ∀ y, Pc y → cwK y ∧ twK y) (hp : ∀ y y1, fr skP y y1 → cwK y1 → twK y1 → knC y1 → (∀ D, cOK D → slC y 25000 1 D → slC y1 25000 1 D) → Pc y → Pc y1) (hz : ∀ z, Pr z → cwR z ∧ twR z) (hq : ∀ z z1, fr (pf [1, 41, 42, 43, 44, 46] []) z z1 → cwR z1 → twR z1 → Pr z → Pr z1) : stpX Pc Pr lst_conway := by
  intro S x1 x2 x3 x4 x5 h pc pr
  obtain ⟨⟨St, kS⟩, hMS, -⟩ := id h.1.1
  have hc1 : Te (fun K => qe_X13_conway K x1 x2 S.2.2) (fun rr => Te (fun K => ce_X11_conway S.1 K 0 x1 x2 S.2.1) (fun rc => (REL (S.1, rc.2.2, rr.2) ∧ ansI [(1, 1)] rr rc) ∧ NM rc.2.2 ∧ Pc rc.2.2 ∧ Pr rr.2)) := w_monoE (te_and (te_fo (c_conway (vl := S.1) (x := x1) (x' := x2) h.1.1 h.1.2.1.1 h.2 (hz _ pr).1 (hk _ pc).1) (fun K => ff_X13_conway)) (xq_conT (d := x1) (x := x2) kS.1 kS.2.2.1 kS.2.2.2.2 (hz _ pr).2)) (fun rr ⟨⟨hr, fR⟩, qT⟩ => w_monoE (te_and hr (te_and (tc_conK (x := x1) (x' := x2) h.1.1.2.1 h.1.2.1.1) (xc_conT (x := x1) (x' := x2) hMS kS.2.2.2.1 kS.2.2.2.2 h.1.2.1.2.2.1 (hk _ pc).2))) (fun rc ⟨⟨⟨q1, q2⟩, q3, q4, q5, q6⟩, q7, q8⟩ => ⟨⟨⟨q1, CI_sk q6 q5 q7 h.1.2.1, jnR_fr fR (by decide) (by decide) h.1.2.2⟩, q2⟩, NM_fr q6 (fun g hg h9 => by unfold skP at hg; omega) h.2, hp _ _ q6 q4 q8 q5 q7 pc, hq _ _ fR q3 qT pr⟩))
  have hs0 : Te (lsV S.1 (fun K => ce_X11_conway S.1 K 0 x1 x2 S.2.1) (fun k z => if k = 1 then some (1, z) else none) (fun K => qe_X13_conway K x1 x2 S.2.2)) (fun S1 => REL S1 ∧ dPhi S.1 ≤ dPhi S1.1) := by
    refine st_int (w_monoE hc1 (fun rr hr => w_monoE hr (fun rc hb => hb.1))) (fun j k hm => ?_)
    simp only [List.mem_cons, List.not_mem_nil, or_false, Prod.mk.injEq] at hm
    obtain ⟨rfl, rfl⟩ := hm
    exact ⟨by decide, by decide, by decide, fun _ => rfl⟩
  have hmp : ∀ (k : Nat) (z : ow_MS) (r : Int32 × ow_MS), ((fun k z => if k = 1 then some (1, z) else none) : Nat → ow_MS → Option (Int32 × ow_MS)) k z = some r → r.2 = z := (fun k z r hr => by
    have hr : (if k = 1 then some (1, z) else none) = some r := hr
    by_cases c0 : k = 1
    · rw [if_pos c0] at hr
      cases hr
      rfl
    rw [if_neg c0] at hr
    cases hr)
  have hs : Te (lsV S.1 (fun K => ce_X11_conway S.1 K 0 x1 x2 S.2.1) (fun k z => if k = 1 then some (1, z) else none) (fun K => qe_X13_conway K x1 x2 S.2.2)) (fun S1 => REL2 S1 ∧ dPhi S.1 ≤ dPhi S1.1) := w_monoE (lsV_nm hs0 (w_monoE (te_in2 hc1) (fun rc ⟨_, hb⟩ => hb.2.1)) hmp) (fun S1 ⟨⟨q1, q2⟩, q3⟩ => ⟨⟨q1, q3⟩, q2⟩)
  exact lsV_pp hs (w_monoE (te_in2 hc1) (fun rc ⟨_, hb⟩ => hb.2.2.1)) (w_monoE (te_out hc1) (fun rr ⟨_, hb⟩ => hb.2.2.2)) (fun y v hy => hc (fun g => g = 52001) y _ (fr_J rfl) (fun g hg h9 => by unfold ciX at h9; omega) hy) hmp
variable {Qc Qr : ow_MS → Prop}
theorem twK_0 {y : ow_MS} (hY : ∀ g, ¬ spc g → y.1 g = 0 ∧ ∀ i, y.2.1 g i = 0) : twK y := ⟨(0, []), ⟨(hY 25003 (by unfold spc; omega)).2 0, (hY 25002 (by unfold spc; omega)).2 0, fun i a hi => (by rw [List.getElem?_nil] at hi; cases hi)⟩, ⟨Nat.zero_le _, Nat.zero_le _, fun a ha => absurd ha List.not_mem_nil⟩, Or.inl rfl⟩
theorem twR_0 {z : ow_MS} (hz : ∀ g i, ¬ (73 ≤ g ∧ g ≤ 76 ∨ 97 ≤ g ∧ g ≤ 107) → z.2.1 g i = 0) : twR z := fun T1 hT => Or.inl (by
  have e := hT.2.2.1
  rw [hz 45 0 (by omega)] at e
  have l := hT.1
  exact List.eq_nil_of_length_eq_zero (nI_inj9 (a := 0) (b := T1.length) (by omega) (by omega) e).symm)
theorem pc_keep5 (hc : keepP ciX Qc) : keepP ciX (fun y => cwK y ∧ cjT y ∧ twK y ∧ Qc y) := fun F y y1 hf hF h => ⟨cwK_fr hf (fun g hg h9 => hF g hg (by unfold ciX; omega)) h.1, cjT_fr hf (fun h9 => hF _ h9 (by unfold ciX; omega)) (fun h9 => hF _ h9 (by unfold ciX; omega)) h.2.1, twK_fr hf (fun g hg h9 => hF g hg (by unfold ciX; omega)) h.2.2.1, hc F y y1 hf hF h.2.2.2⟩
theorem pr_keep5 (hr : keepP rfX Qr) : keepP rfX (fun z => cwR z ∧ enW z ∧ epA z ∧ twR z ∧ Qr z) := fun F z z1 hf hF h => ⟨cwR_fr hf (fun h9 => hF _ h9 (by unfold rfX; omega)) (fun h9 => hF _ h9 (by unfold rfX; omega)) h.1, enW_fr hf (fun h9 => hF _ h9 (by unfold rfX; omega)) h.2.1, epA_keep F z z1 hf hF h.2.2.1, twR_fr hf (fun h9 => hF _ h9 (by unfold rfX; omega)) (fun h9 => hF _ h9 (by unfold rfX; omega)) h.2.2.2.1, hr F z z1 hf hF h.2.2.2.2⟩
theorem tw_jn {y y1 : ow_MS} (hf : fr jnP y y1) (hs : ∀ D, cOK D → slC y 25000 0 D → slC y1 25000 0 D) (h : twK y) : twK y1 := by
  obtain ⟨C, c1, c2, c3⟩ := h
  exact ⟨C, hs C c2 c1, c2, c3.imp id (fun ⟨A, sg, c, q1, q2, q3⟩ => ⟨A, sg, c, q1, q2, gdK_fr hf (by unfold jnP; omega) q3⟩)⟩
end XTWS2
end
section
/-! 99zzzzzzzzzzzzzzzzyc.xch1 -/
/-! chain: numbers modulo a prime; rows, their span, how many of them count -/
abbrev vc9 : Type := Nat → Int
/-- alike modulo p, up to n -/
def zq9 (p : Int) (n : Nat) (u v : vc9) : Prop := ∀ i, i < n → p ∣ u i - v i
def lc9 : List Int → List vc9 → vc9
  | c :: cs, v :: vs => fun i => c * v i + lc9 cs vs i
  | _, _ => fun _ => 0
def sp9 (p : Int) (n : Nat) (vs : List vc9) (v : vc9) : Prop := ∃ cs, zq9 p n v (lc9 cs vs)
theorem dvr9 {p a : Int} (c : Int) (h : p ∣ a) : p ∣ c * a := Int.dvd_trans h (Int.dvd_mul_left c a)
theorem dvl9 {p a : Int} (c : Int) (h : p ∣ a) : p ∣ a * c := Int.dvd_trans h (Int.dvd_mul_right a c)
def pr9 (p : Int) : Prop := 2 ≤ p ∧ ∀ a b : Int, p ∣ a * b → p ∣ a ∨ p ∣ b
def iv9 (p : Int) : Prop := ∀ a : Int, ¬ p ∣ a → ∃ b, p ∣ a * b - 1
section XCH1
variable {p : Int} {n : Nat} {u v w : vc9} {vs us : List vc9}
theorem zq_r : zq9 p n v v := fun i _ => by rw [Int.sub_self]; exact Int.dvd_zero p
theorem zq_s (h : zq9 p n u v) : zq9 p n v u := fun i hi => by
  have := Int.dvd_neg.mpr (h i hi)
  rw [Int.neg_sub] at this
  exact this
theorem zq_t (h1 : zq9 p n u v) (h2 : zq9 p n v w) : zq9 p n u w := fun i hi => by
  have := Int.dvd_add (h1 i hi) (h2 i hi)
  rw [show u i - v i + (v i - w i) = u i - w i by omega] at this
  exact this
theorem zq_a {u' v' : vc9} (h1 : zq9 p n u v) (h2 : zq9 p n u' v') : zq9 p n (fun i => u i + u' i) (fun i => v i + v' i) := fun i hi => by
  have := Int.dvd_add (h1 i hi) (h2 i hi)
  rw [show u i - v i + (u' i - v' i) = u i + u' i - (v i + v' i) by omega] at this
  exact this
theorem zq_m (c : Int) (h : zq9 p n u v) : zq9 p n (fun i => c * u i) (fun i => c * v i) := fun i hi => by
  have := dvr9 c (h i hi)
  rw [Int.mul_sub] at this
  exact this
theorem lc_nil (cs : List Int) : lc9 cs [] = fun _ => 0 := by cases cs <;> rfl
theorem lc_z (vs : List vc9) : lc9 [] vs = fun _ => 0 := by cases vs <;> rfl
/-- sums of combinations -/
theorem lc_add : ∀ (vs : List vc9) (cs ds : List Int), ∃ es, ∀ i, lc9 es vs i = lc9 cs vs i + lc9 ds vs i
  | [], cs, ds => ⟨[], fun i => by rw [lc_nil, lc_nil, lc_nil]; rfl⟩
  | v :: vs, [], ds => ⟨ds, fun i => by rw [lc_z]; show _ = 0 + _; omega⟩
  | v :: vs, c :: cs, [] => ⟨c :: cs, fun i => by rw [lc_z]; show _ = _ + 0; omega⟩
  | v :: vs, c :: cs, d :: ds => by
    obtain ⟨es, h⟩ := lc_add vs cs ds
    refine ⟨(c + d) :: es, fun i => ?_⟩
    show (c + d) * v i + lc9 es vs i = c * v i + lc9 cs vs i + (d * v i + lc9 ds vs i)
    rw [h i, Int.add_mul]
    omega
theorem lc_mul (c : Int) : ∀ (vs : List vc9) (cs : List Int), ∃ es, ∀ i, lc9 es vs i = c * lc9 cs vs i
  | [], cs => ⟨[], fun i => by rw [lc_nil, lc_nil]; exact (Int.mul_zero c).symm⟩
  | v :: vs, [] => ⟨[], fun i => by rw [lc_z]; exact (Int.mul_zero c).symm⟩
  | v :: vs, d :: ds => by
    obtain ⟨es, h⟩ := lc_mul c vs ds
    refine ⟨(c * d) :: es, fun i => ?_⟩
    show (c * d) * v i + lc9 es vs i = c * (d * v i + lc9 ds vs i)
    rw [h i, Int.mul_add, Int.mul_assoc]
theorem sp_0 : sp9 p n vs (fun _ => 0) := ⟨[], by rw [lc_z]; exact zq_r⟩
theorem sp_q (h : zq9 p n u v) (hv : sp9 p n vs v) : sp9 p n vs u := by
  obtain ⟨cs, hc⟩ := hv
  exact ⟨cs, zq_t h hc⟩
theorem sp_a (hu : sp9 p n vs u) (hv : sp9 p n vs v) : sp9 p n vs (fun i => u i + v i) := by
  obtain ⟨cs, hc⟩ := hu
  obtain ⟨ds, hd⟩ := hv
  obtain ⟨es, he⟩ := lc_add vs cs ds
  refine ⟨es, ?_⟩
  rw [show lc9 es vs = fun i => lc9 cs vs i + lc9 ds vs i from funext he]
  exact zq_a hc hd
theorem sp_m (c : Int) (hu : sp9 p n vs u) : sp9 p n vs (fun i => c * u i) := by
  obtain ⟨cs, hc⟩ := hu
  obtain ⟨es, he⟩ := lc_mul c vs cs
  refine ⟨es, ?_⟩
  rw [show lc9 es vs = fun i => c * lc9 cs vs i from funext he]
  exact zq_m c hc
theorem sp_h : sp9 p n (v :: vs) v := ⟨[1], by
  show zq9 p n v (fun i => 1 * v i + lc9 [] vs i)
  rw [lc_z]
  exact fun i _ => by
    show p ∣ v i - (1 * v i + 0)
    rw [Int.one_mul, Int.add_zero, Int.sub_self]
    exact Int.dvd_zero p⟩
theorem sp_c (h : sp9 p n vs u) : sp9 p n (v :: vs) u := by
  obtain ⟨cs, hc⟩ := h
  refine ⟨0 :: cs, ?_⟩
  show zq9 p n u (fun i => 0 * v i + lc9 cs vs i)
  rw [show (fun i => 0 * v i + lc9 cs vs i) = lc9 cs vs from funext (fun i => by rw [Int.zero_mul, Int.zero_add])]
  exact hc
theorem sp_in : ∀ {vs : List vc9}, v ∈ vs → sp9 p n vs v
  | [], h => absurd h List.not_mem_nil
  | w :: vs, h => by
    rcases List.mem_cons.mp h with e | e
    · rw [e]
      exact sp_h
    · exact sp_c (sp_in e)
theorem lc_sp : ∀ (cs : List Int) (us : List vc9), (∀ u, u ∈ us → sp9 p n vs u) → sp9 p n vs (lc9 cs us)
  | [], us, _ => by
    rw [lc_z]
    exact sp_0
  | c :: cs, [], _ => sp_0
  | c :: cs, u :: us, h => sp_a (sp_m c (h u List.mem_cons_self)) (lc_sp cs us (fun t ht => h t (List.mem_cons_of_mem _ ht)))
/-- spans within spans -/
theorem sp_tr (h : sp9 p n us w) (h2 : ∀ u, u ∈ us → sp9 p n vs u) : sp9 p n vs w := by
  obtain ⟨cs, hc⟩ := h
  exact sp_q hc (lc_sp cs us h2)
theorem sp_cons (h : sp9 p n (v :: vs) u) : ∃ c w, sp9 p n vs w ∧ zq9 p n u (fun i => c * v i + w i) := by
  obtain ⟨cs, hc⟩ := h
  cases cs with
  | nil =>
    rw [lc_z] at hc
    refine ⟨0, fun _ => 0, sp_0, fun i hi => ?_⟩
    have := hc i hi
    show p ∣ u i - (0 * v i + 0)
    rw [Int.zero_mul, Int.add_zero]
    exact this
  | cons c cs => exact ⟨c, lc9 cs vs, ⟨cs, zq_r⟩, hc⟩
end XCH1
/-- the highest places of the vectors of a set -/
def Ld9 (p : Int) (n : Nat) (S : vc9 → Prop) (i : Nat) : Prop := i < n ∧ ∃ v, S v ∧ ¬ p ∣ v i ∧ ∀ j, i < j → j < n → p ∣ v j
noncomputable def cn9 (P : Nat → Prop) : Nat → Nat
  | 0 => 0
  | k + 1 => cn9 P k + @ite _ (P k) (Classical.propDecidable _) 1 0
/-- how many count -/
noncomputable def dm9 (p : Int) (n : Nat) (S : vc9 → Prop) : Nat := cn9 (Ld9 p n S) n
noncomputable def rk9 (p : Int) (n : Nat) : List vc9 → Nat
  | [] => 0
  | v :: vs => rk9 p n vs + @ite _ (sp9 p n vs v) (Classical.propDecidable _) 0 1
theorem cn_y {P : Nat → Prop} {k : Nat} (h : P k) : cn9 P (k + 1) = cn9 P k + 1 := by
  show cn9 P k + @ite _ (P k) (Classical.propDecidable _) 1 0 = _
  rw [if_pos h]
theorem cn_n {P : Nat → Prop} {k : Nat} (h : ¬ P k) : cn9 P (k + 1) = cn9 P k := by
  show cn9 P k + @ite _ (P k) (Classical.propDecidable _) 1 0 = _
  rw [if_neg h, Nat.add_zero]
theorem cn_cg {P Q : Nat → Prop} : ∀ {k : Nat}, (∀ i, i < k → (P i ↔ Q i)) → cn9 P k = cn9 Q k
  | 0, _ => rfl
  | k + 1, h => by
    have ih := cn_cg (P := P) (Q := Q) (k := k) (fun i hi => h i (by omega))
    by_cases c : P k
    · rw [cn_y c, cn_y ((h k (by omega)).mp c), ih]
    · rw [cn_n c, cn_n (fun h9 => c ((h k (by omega)).mpr h9)), ih]
theorem cn_one {P Q : Nat → Prop} {a : Nat} : ∀ {k : Nat}, a < k → ¬ P a → (∀ i, i < k → (Q i ↔ P i ∨ i = a)) → cn9 Q k = cn9 P k + 1
  | 0, h, _, _ => absurd h (Nat.not_lt_zero _)
  | k + 1, h, hP, hQ => by
    by_cases e : a = k
    · rw [← e, cn_y ((hQ a h).mpr (Or.inr rfl)), cn_n hP]
      exact congrArg (· + 1) (cn_cg (fun i hi => by
        rw [hQ i (by omega)]
        exact ⟨fun h9 => h9.elim id (fun h8 => by omega), Or.inl⟩))
    · have ih := cn_one (k := k) (P := P) (Q := Q) (by omega) hP (fun i hi => hQ i (by omega))
      by_cases c : P k
      · rw [cn_y c, cn_y ((hQ k (by omega)).mpr (Or.inl c)), ih]
      · rw [cn_n c, cn_n (fun h9 => ((hQ k (by omega)).mp h9).elim c (fun h8 => e h8.symm)), ih]
theorem cn_not {P : Nat → Prop} : ∀ {k : Nat}, cn9 P k + cn9 (fun i => ¬ P i) k = k
  | 0 => rfl
  | k + 1 => by
    have ih := cn_not (P := P) (k := k)
    by_cases c : P k
    · rw [cn_y c, cn_n (P := fun i => ¬ P i) (fun h9 => h9 c)]
      omega
    · rw [cn_n c, cn_y (P := fun i => ¬ P i) c]
      omega
section XCH2
variable {p : Int} {n : Nat} {u v w : vc9} {vs us : List vc9}
theorem rk_y (h : sp9 p n vs v) : rk9 p n (v :: vs) = rk9 p n vs := by
  show rk9 p n vs + @ite _ (sp9 p n vs v) (Classical.propDecidable _) 0 1 = _
  rw [if_pos h, Nat.add_zero]
theorem rk_n (h : ¬ sp9 p n vs v) : rk9 p n (v :: vs) = rk9 p n vs + 1 := by
  show rk9 p n vs + @ite _ (sp9 p n vs v) (Classical.propDecidable _) 0 1 = _
  rw [if_neg h]
/-- a vector that is not in the span can be changed by the span so that its highest place is new -/
theorem ld_red (hp : pr9 p) (hi : iv9 p) : ∀ (d : Nat) (v : vc9), (∀ j, d ≤ j → j < n → p ∣ v j) → ¬ sp9 p n vs v → ∃ (w : vc9) (a : Nat), a < n ∧ sp9 p n vs (fun i => v i - w i) ∧ ¬ p ∣ w a ∧ (∀ j, a < j → j < n → p ∣ w j) ∧ ¬ Ld9 p n (sp9 p n vs) a
  | 0, v, h, hs => absurd (sp_q (fun i hi => by
      show p ∣ v i - 0
      rw [Int.sub_zero]
      exact h i (by omega) hi) sp_0) hs
  | d + 1, v, h, hs => by
    by_cases hd : d < n
    · by_cases c : p ∣ v d
      · exact ld_red hp hi d v (fun j h1 h2 => by
          by_cases e : j = d
          · rw [e]
            exact c
          · exact h j (by omega) h2) hs
      · by_cases hl : Ld9 p n (sp9 p n vs) d
        · obtain ⟨-, w, w1, w2, w3⟩ := hl
          obtain ⟨b, hb⟩ := hi (w d) w2
          -- v - (v d * b) w
          have s9 : sp9 p n vs (fun i => (v d * b) * w i) := sp_m _ w1
          have h2 : ¬ sp9 p n vs (fun i => v i - (v d * b) * w i) := fun h9 => hs (sp_q (fun i hi => by
            show p ∣ v i - (v i - v d * b * w i + v d * b * w i)
            rw [show v i - (v i - v d * b * w i + v d * b * w i) = 0 by omega]
            exact Int.dvd_zero p) (sp_a h9 s9))
          obtain ⟨w', a, a1, a2, a3, a4, a5⟩ := ld_red hp hi d (fun i => v i - (v d * b) * w i) (fun j h1 h3 => by
            show p ∣ v j - v d * b * w j
            by_cases e : j = d
            · rw [e]
              have := dvr9 (-(v d)) hb
              rw [show -(v d) * (w d * b - 1) = v d - v d * b * w d by rw [Int.mul_sub, Int.mul_one, Int.neg_mul, Int.sub_neg, Int.mul_comm (w d) b, ← Int.mul_assoc]; omega] at this
              exact this
            · exact Int.dvd_sub (h j (by omega) h3) (dvr9 _ (w3 j (by omega) h3))) h2
          refine ⟨w', a, a1, sp_q (fun i hi => ?_) (sp_a a2 s9), a3, a4, a5⟩
          show p ∣ v i - w' i - (v i - v d * b * w i - w' i + v d * b * w i)
          rw [show v i - w' i - (v i - v d * b * w i - w' i + v d * b * w i) = 0 by omega]
          exact Int.dvd_zero p
        · refine ⟨v, d, hd, sp_q (fun i hi => ?_) sp_0, c, fun j h1 h2 => h j (by omega) h2, hl⟩
          show p ∣ v i - v i - 0
          rw [show v i - v i - 0 = 0 by omega]
          exact Int.dvd_zero p
    · exact ld_red hp hi d v (fun j h1 h2 => absurd h2 (by omega)) hs
theorem dm_cg {S T : vc9 → Prop} (h : ∀ v, S v ↔ T v) : dm9 p n S = dm9 p n T := cn_cg (fun i _ => ⟨fun ⟨h1, v, h2, h3⟩ => ⟨h1, v, (h v).mp h2, h3⟩, fun ⟨h1, v, h2, h3⟩ => ⟨h1, v, (h v).mpr h2, h3⟩⟩)
/-- the number that counts hangs on the span alone -/
theorem rk_dm (hp : pr9 p) (hi : iv9 p) : ∀ vs : List vc9, rk9 p n vs = dm9 p n (sp9 p n vs)
  | [] => by
    have h0 : ∀ k, k ≤ n → cn9 (Ld9 p n (sp9 p n [])) k = 0 := by
      intro k
      induction k with
      | zero => intro _; rfl
      | succ k ih =>
        intro hk
        rw [cn_n (fun h9 => ?_), ih (by omega)]
        obtain ⟨h1, v, ⟨cs, hc⟩, h3, -⟩ := h9
        rw [lc_nil] at hc
        have := hc k h1
        rw [Int.sub_zero] at this
        exact h3 this
    exact (h0 n (Nat.le_refl n)).symm
  | v :: vs => by
    have ih := rk_dm hp hi vs
    by_cases c : sp9 p n vs v
    · rw [rk_y c, ih]
      refine dm_cg (fun w => ⟨sp_c, fun h => sp_tr h (fun u hu => ?_)⟩)
      rcases List.mem_cons.mp hu with e | e
      · rw [e]
        exact c
      · exact sp_in e
    · rw [rk_n c, ih]
      obtain ⟨w, a, a1, a2, a3, a4, a5⟩ := ld_red hp hi n v (fun j h1 h2 => absurd h2 (by omega)) c
      have hwv : sp9 p n (v :: vs) w := sp_q (fun i hi => by
        show p ∣ w i - (v i + (-1) * (v i - w i))
        rw [show w i - (v i + (-1) * (v i - w i)) = 0 by omega]
        exact Int.dvd_zero p) (sp_a sp_h (sp_m (-1) (sp_c a2)))
      refine (cn_one (P := Ld9 p n (sp9 p n vs)) a1 a5 (fun i hi9 => ⟨fun h => ?_, fun h => ?_⟩)).symm
      · obtain ⟨h1, x, h2, h3, h4⟩ := h
        obtain ⟨c1, y, y1, y2⟩ := sp_cons h2
        -- x = c1 v + y = c1 w + (c1 (v - w) + y)
        have y3 : sp9 p n vs (fun i => c1 * (v i - w i) + y i) := sp_a (sp_m c1 a2) y1
        have x2 : ∀ t, t < n → p ∣ x t - (c1 * w t + (c1 * (v t - w t) + y t)) := fun t ht => by
          have := y2 t ht
          rw [show x t - (c1 * w t + (c1 * (v t - w t) + y t)) = x t - (c1 * v t + y t) by rw [Int.mul_sub]; omega]
          exact this
        by_cases e : i = a
        · exact Or.inr e
        refine Or.inl ?_
        by_cases hc1 : p ∣ c1
        · refine ⟨h1, fun t => c1 * (v t - w t) + y t, y3, fun h9 => h3 ?_, fun t t1 t2 => ?_⟩
          · have := Int.dvd_add (x2 i hi9) (Int.dvd_add (dvl9 (w i) hc1) h9)
            rw [show x i - (c1 * w i + (c1 * (v i - w i) + y i)) + (c1 * w i + (c1 * (v i - w i) + y i)) = x i by omega] at this
            exact this
          · have := Int.dvd_sub (h4 t t1 t2) (Int.dvd_add (x2 t t2) (dvl9 (w t) hc1))
            rw [show x t - (x t - (c1 * w t + (c1 * (v t - w t) + y t)) + c1 * w t) = c1 * (v t - w t) + y t by omega] at this
            exact this
        · rcases Nat.lt_trichotomy i a with e9 | e9 | e9
          · -- then a is a highest place of the span: no
            exfalso
            refine a5 ⟨a1, fun t => c1 * (v t - w t) + y t, y3, fun h9 => ?_, fun t t1 t2 => ?_⟩
            · have := Int.dvd_sub (h4 a e9 a1) (Int.dvd_add (x2 a a1) h9)
              rw [show x a - (x a - (c1 * w a + (c1 * (v a - w a) + y a)) + (c1 * (v a - w a) + y a)) = c1 * w a by omega] at this
              exact (hp.2 _ _ this).elim hc1 a3
            · have := Int.dvd_sub (h4 t (by omega) t2) (Int.dvd_add (x2 t t2) (dvr9 c1 (a4 t t1 t2)))
              rw [show x t - (x t - (c1 * w t + (c1 * (v t - w t) + y t)) + c1 * w t) = c1 * (v t - w t) + y t by omega] at this
              exact this
          · exact absurd e9 e
          · refine ⟨h1, fun t => c1 * (v t - w t) + y t, y3, fun h9 => h3 ?_, fun t t1 t2 => ?_⟩
            · have := Int.dvd_add (x2 i hi9) (Int.dvd_add (dvr9 c1 (a4 i e9 hi9)) h9)
              rw [show x i - (c1 * w i + (c1 * (v i - w i) + y i)) + (c1 * w i + (c1 * (v i - w i) + y i)) = x i by omega] at this
              exact this
            · have := Int.dvd_sub (h4 t t1 t2) (Int.dvd_add (x2 t t2) (dvr9 c1 (a4 t (by omega) t2)))
              rw [show x t - (x t - (c1 * w t + (c1 * (v t - w t) + y t)) + c1 * w t) = c1 * (v t - w t) + y t by omega] at this
              exact this
      · rcases h with ⟨h1, x, h2, h3⟩ | h
        · exact ⟨h1, x, sp_c h2, h3⟩
        · rw [h]
          exact ⟨a1, w, hwv, a3, a4⟩
/-- lists with the same span -/
theorem rk_sp (hp : pr9 p) (hi : iv9 p) (h1 : ∀ v, v ∈ vs → sp9 p n us v) (h2 : ∀ u, u ∈ us → sp9 p n vs u) : rk9 p n vs = rk9 p n us := by
  rw [rk_dm hp hi, rk_dm hp hi]
  exact dm_cg (fun w => ⟨fun h => sp_tr h h1, fun h => sp_tr h h2⟩)
end XCH2
end
section
/-! 99zzzzzzzzzzzzzzzzyd.xch2 -/
/-! chain: maps between rows; what is left of kernels by images -/
/-- the image of a row, the images of the places being d -/
def ap9 (d : Nat → vc9) : Nat → vc9 → vc9
  | 0, _ => fun _ => 0
  | n + 1, v => fun j => ap9 d n v j + v n * d n j
def rwl9 (d : Nat → vc9) : Nat → List vc9
  | 0 => []
  | n + 1 => d n :: rwl9 d n
section XCH3
variable {p : Int} {n m : Nat} {d : Nat → vc9} {u v w : vc9}
theorem ap_add : ∀ {n : Nat} (j : Nat), ap9 d n (fun i => u i + v i) j = ap9 d n u j + ap9 d n v j
  | 0, _ => rfl
  | n + 1, j => by
    show ap9 d n (fun i => u i + v i) j + (u n + v n) * d n j = ap9 d n u j + u n * d n j + (ap9 d n v j + v n * d n j)
    rw [ap_add j, Int.add_mul]
    omega
theorem ap_mul (c : Int) : ∀ {n : Nat} (j : Nat), ap9 d n (fun i => c * u i) j = c * ap9 d n u j
  | 0, _ => (Int.mul_zero c).symm
  | n + 1, j => by
    show ap9 d n (fun i => c * u i) j + c * u n * d n j = c * (ap9 d n u j + u n * d n j)
    rw [ap_mul c j, Int.mul_add, Int.mul_assoc]
theorem ap_q : ∀ {n : Nat}, zq9 p n u v → zq9 p m (ap9 d n u) (ap9 d n v)
  | 0, _ => zq_r
  | n + 1, h => zq_a (ap_q (n := n) (fun i hi => h i (by omega))) (fun j hj => by
    show p ∣ u n * d n j - v n * d n j
    rw [← Int.sub_mul]
    exact dvl9 _ (h n (by omega)))
theorem ap_0 : ∀ {n : Nat} (j : Nat), ap9 d n (fun _ => 0) j = 0
  | 0, _ => rfl
  | n + 1, j => by
    show ap9 d n (fun _ => 0) j + 0 * d n j = 0
    rw [ap_0 j, Int.zero_mul]
    rfl
theorem ap_cg : ∀ {n : Nat}, (∀ i, i < n → u i = v i) → ap9 d n u = ap9 d n v
  | 0, _ => rfl
  | n + 1, h => by
    show (fun j => ap9 d n u j + u n * d n j) = fun j => ap9 d n v j + v n * d n j
    rw [ap_cg (n := n) (fun i hi => h i (by omega)), h n (by omega)]
/-- spans are images -/
theorem sp_ap : ∀ {n : Nat} {w : vc9}, sp9 p m (rwl9 d n) w ↔ ∃ v, zq9 p m w (ap9 d n v)
  | 0, w => by
    constructor
    · rintro ⟨cs, h⟩
      have e : rwl9 d 0 = [] := rfl
      rw [e, lc_nil] at h
      exact ⟨fun _ => 0, h⟩
    · rintro ⟨v, h⟩
      exact sp_q h sp_0
  | n + 1, w => by
    constructor
    · intro h
      obtain ⟨c, w', h1, h2⟩ := sp_cons h
      obtain ⟨v, hv⟩ := sp_ap.mp h1
      refine ⟨fun i => if i = n then c else v i, zq_t h2 ?_⟩
      have e : ap9 d n (fun i => if i = n then c else v i) = ap9 d n v := ap_cg (fun i hi => if_neg (by omega))
      intro j hj
      show p ∣ c * d n j + w' j - (ap9 d n (fun i => if i = n then c else v i) j + (if n = n then c else v n) * d n j)
      rw [e, if_pos rfl]
      have := hv j hj
      rw [show c * d n j + w' j - (ap9 d n v j + c * d n j) = w' j - ap9 d n v j by omega]
      exact this
    · rintro ⟨v, h⟩
      exact sp_q h (sp_a (sp_c (sp_ap.mpr ⟨v, zq_r⟩)) (sp_m (v n) sp_h))
def kr9 (p : Int) (m : Nat) (d : Nat → vc9) (n : Nat) (v : vc9) : Prop := zq9 p m (ap9 d n v) (fun _ => 0)
theorem ap_cut {k : Nat} : ∀ {n : Nat}, k ≤ n → (∀ j, k ≤ j → j < n → p ∣ v j) → zq9 p m (ap9 d n v) (ap9 d k v)
  | 0, h, _ => by
    rw [show k = 0 by omega]
    exact zq_r
  | n + 1, h, hz => by
    by_cases e : k = n + 1
    · rw [e]
      exact zq_r
    · refine zq_t ?_ (ap_cut (n := n) (by omega) (fun j h1 h2 => hz j h1 (by omega)))
      intro j hj
      show p ∣ ap9 d n v j + v n * d n j - ap9 d n v j
      rw [show ap9 d n v j + v n * d n j - ap9 d n v j = v n * d n j by omega]
      exact dvl9 _ (hz n (by omega) (by omega))
theorem nu9 (h2p : 2 ≤ p) : ¬ p ∣ -1 := fun h9 => by
  have := Int.le_of_dvd (by decide) (Int.dvd_neg.mpr h9)
  omega
/-- kernel and rank -/
theorem kr_dm (h2p : 2 ≤ p) (hi : iv9 p) : dm9 p n (kr9 p m d n) + rk9 p m (rwl9 d n) = n := by
  have e1 : dm9 p n (kr9 p m d n) = cn9 (fun i => sp9 p m (rwl9 d i) (d i)) n := cn_cg (fun i hi9 => by
    constructor
    · rintro ⟨-, v, v1, v2, v3⟩
      obtain ⟨b, hb⟩ := hi (v i) v2
      have h1 : zq9 p m (ap9 d (i + 1) v) (fun _ => 0) := zq_t (zq_s (ap_cut (by omega) (fun j h1 h2 => v3 j (by omega) h2))) v1
      refine sp_ap.mpr ⟨fun t => -b * v t, fun j hj => ?_⟩
      have h2 := h1 j hj
      have h2 : p ∣ ap9 d i v j + v i * d i j - 0 := h2
      rw [ap_mul (-b) j]
      have h3 := dvr9 b h2
      have h4 := dvl9 (d i j) hb
      have h5 := Int.dvd_sub h3 h4
      rw [show b * (ap9 d i v j + v i * d i j - 0) - (v i * b - 1) * d i j = d i j - -b * ap9 d i v j by
        rw [Int.sub_zero, Int.mul_add, Int.sub_mul, Int.one_mul, Int.neg_mul, ← Int.mul_assoc b (v i), Int.mul_comm b (v i)]
        omega] at h5
      exact h5
    · intro h
      obtain ⟨c, hc⟩ := sp_ap.mp h
      refine ⟨hi9, fun t => if t < i then c t else if t = i then -1 else 0, ?_, ?_, ?_⟩
      · have h1 : zq9 p m (ap9 d n (fun t => if t < i then c t else if t = i then -1 else 0)) (ap9 d (i + 1) (fun t => if t < i then c t else if t = i then -1 else 0)) := ap_cut (by omega) (fun j j1 j2 => by
          show p ∣ (if j < i then c j else if j = i then -1 else 0)
          rw [if_neg (by omega), if_neg (by omega)]
          exact Int.dvd_zero p)
        refine zq_t h1 (fun j hj => ?_)
        show p ∣ ap9 d i (fun t => if t < i then c t else if t = i then -1 else 0) j + (if i < i then c i else if i = i then -1 else 0) * d i j - 0
        rw [ap_cg (v := c) (fun t ht => if_pos ht), if_neg (Nat.lt_irrefl i), if_pos rfl]
        have := Int.dvd_neg.mpr (hc j hj)
        rw [show -(d i j - ap9 d i c j) = ap9 d i c j + -1 * d i j - 0 by omega] at this
        exact this
      · show ¬ p ∣ (if i < i then c i else if i = i then -1 else 0)
        rw [if_neg (Nat.lt_irrefl i), if_pos rfl]
        intro h9
        exact nu9 h2p h9
      · intro j j1 j2
        show p ∣ (if j < i then c j else if j = i then -1 else 0)
        rw [if_neg (by omega), if_neg (by omega)]
        exact Int.dvd_zero p)
  have e2 : ∀ k, rk9 p m (rwl9 d k) = cn9 (fun i => ¬ sp9 p m (rwl9 d i) (d i)) k := by
    intro k
    induction k with
    | zero => rfl
    | succ k ih =>
      by_cases c : sp9 p m (rwl9 d k) (d k)
      · rw [cn_n (P := fun i => ¬ sp9 p m (rwl9 d i) (d i)) (fun h9 => h9 c), ← ih]
        exact rk_y c
      · rw [cn_y (P := fun i => ¬ sp9 p m (rwl9 d i) (d i)) c, ← ih]
        exact rk_n c
  rw [e1, e2]
  exact cn_not
end XCH3
/-- closed under sums, multiples and likeness -/
def sbs9 (p : Int) (n : Nat) (S : vc9 → Prop) : Prop := S (fun _ => 0) ∧ (∀ u v, S u → S v → S (fun i => u i + v i)) ∧ (∀ c u, S u → S (fun i => c * u i)) ∧ ∀ u v, zq9 p n u v → S v → S u
section XCH4
variable {p : Int} {n n' m : Nat} {S S' : vc9 → Prop} {d : Nat → vc9}
theorem sub_sp (vs : List vc9) : sbs9 p n (sp9 p n vs) := ⟨sp_0, fun _ _ => sp_a, fun c _ => sp_m c, fun _ _ => sp_q⟩
theorem sub_kr : sbs9 p n (kr9 p m d n) := by
  refine ⟨fun j hj => ?_, fun u v hu hv => ?_, fun c u hu => ?_, fun u v h hv => zq_t (ap_q h) hv⟩
  · rw [ap_0]
    exact Int.dvd_zero p
  · refine zq_t (fun j hj => ?_) (zq_a hu hv)
    rw [ap_add]
    show p ∣ ap9 d n u j + ap9 d n v j - (ap9 d n u j + ap9 d n v j)
    rw [Int.sub_self]
    exact Int.dvd_zero p
  · intro j hj
    rw [ap_mul]
    have := dvr9 c (hu j hj)
    rw [Int.mul_sub, Int.mul_zero] at this
    exact this
theorem sub_lc (hS : sbs9 p n S) : ∀ (cs : List Int) (vs : List vc9), (∀ v, v ∈ vs → S v) → S (lc9 cs vs)
  | [], vs, _ => by
    rw [lc_z]
    exact hS.1
  | c :: cs, [], _ => hS.1
  | c :: cs, v :: vs, h => hS.2.1 _ _ (hS.2.2.1 c v (h v List.mem_cons_self)) (sub_lc hS cs vs (fun t ht => h t (List.mem_cons_of_mem _ ht)))
theorem sub_in (hS : sbs9 p n S) {vs : List vc9} {w : vc9} (h : ∀ v, v ∈ vs → S v) (hw : sp9 p n vs w) : S w := by
  obtain ⟨cs, hc⟩ := hw
  exact hS.2.2.2 _ _ hc (sub_lc hS cs vs h)
/-- a set closed so is a span -/
theorem sub_ex (hi : iv9 p) (hS : sbs9 p n S) : ∃ vs : List vc9, (∀ v, v ∈ vs → S v) ∧ ∀ w, S w → sp9 p n vs w := by
  have key : ∀ k, k ≤ n → ∃ vs : List vc9, (∀ v, v ∈ vs → S v) ∧ ∀ w, S w → (∀ j, k ≤ j → j < n → p ∣ w j) → sp9 p n vs w := by
    intro k
    induction k with
    | zero =>
      intro _
      refine ⟨[], fun v hv => absurd hv List.not_mem_nil, fun w _ h => sp_q (fun i hi => ?_) sp_0⟩
      show p ∣ w i - 0
      rw [Int.sub_zero]
      exact h i (by omega) hi
    | succ k ih =>
      intro hk
      obtain ⟨vs, h1, h2⟩ := ih (by omega)
      by_cases c : Ld9 p n S k
      · obtain ⟨-, v, v1, v2, v3⟩ := c
        obtain ⟨b, hb⟩ := hi (v k) v2
        refine ⟨v :: vs, fun u hu => ?_, fun w hw hz => ?_⟩
        · rcases List.mem_cons.mp hu with e | e
          · rw [e]
            exact v1
          · exact h1 u e
        · have s1 : S (fun i => w i + (-(w k * b)) * v i) := hS.2.1 _ _ hw (hS.2.2.1 _ _ v1)
          have s2 := h2 _ s1 (fun j j1 j2 => by
            show p ∣ w j + -(w k * b) * v j
            by_cases e : j = k
            · rw [e]
              have := dvr9 (-(w k)) hb
              rw [show -(w k) * (v k * b - 1) = w k + -(w k * b) * v k by
                rw [Int.mul_sub, Int.mul_one, Int.neg_mul, Int.neg_mul, Int.mul_comm (v k) b, ← Int.mul_assoc]
                omega] at this
              exact this
            · exact Int.dvd_add (hz j (by omega) j2) (dvr9 _ (v3 j (by omega) j2)))
          refine sp_q (fun i hi => ?_) (sp_a (sp_c (v := v) s2) (sp_m (w k * b) sp_h))
          show p ∣ w i - (w i + -(w k * b) * v i + w k * b * v i)
          rw [show w i - (w i + -(w k * b) * v i + w k * b * v i) = 0 by rw [Int.neg_mul]; omega]
          exact Int.dvd_zero p
      · refine ⟨vs, h1, fun w hw hz => h2 w hw (fun j j1 j2 => ?_)⟩
        by_cases e : j = k
        · rw [e]
          by_cases c9 : p ∣ w k
          · exact c9
          · exact absurd ⟨by omega, w, hw, c9, fun t t1 t2 => hz t (by omega) t2⟩ c
        · exact hz j (by omega) j2
  obtain ⟨vs, h1, h2⟩ := key n (Nat.le_refl n)
  exact ⟨vs, h1, fun w hw => h2 w hw (fun j j1 j2 => absurd j2 (by omega))⟩
theorem dm_rk (hp : pr9 p) (hi : iv9 p) (hS : sbs9 p n S) {vs : List vc9} (h1 : ∀ v, v ∈ vs → S v) (h2 : ∀ w, S w → sp9 p n vs w) : dm9 p n S = rk9 p n vs := by
  rw [rk_dm hp hi]
  exact dm_cg (fun w => ⟨h2 w, sub_in hS h1⟩)
theorem lc_ap {F : Nat → vc9} (j : Nat) : ∀ (cs : List Int) (zs : List vc9), ap9 F n (lc9 cs zs) j = lc9 cs (zs.map (ap9 F n)) j
  | [], zs => by
    rw [lc_z, lc_z]
    exact ap_0 j
  | c :: cs, [] => ap_0 j
  | c :: cs, z :: zs => by
    show ap9 F n (fun i => c * z i + lc9 cs zs i) j = c * ap9 F n z j + lc9 cs (zs.map (ap9 F n)) j
    rw [ap_add, ap_mul, lc_ap j cs zs]
theorem sp_app : ∀ {xs bs : List vc9} {w : vc9}, sp9 p n (xs ++ bs) w ↔ ∃ cs b, sp9 p n bs b ∧ zq9 p n w (fun i => lc9 cs xs i + b i)
  | [], bs, w => by
    constructor
    · intro h
      refine ⟨[], w, h, fun i _ => ?_⟩
      show p ∣ w i - (0 + w i)
      rw [Int.zero_add, Int.sub_self]
      exact Int.dvd_zero p
    · rintro ⟨cs, b, h1, h2⟩
      refine sp_q (zq_t h2 (fun i _ => ?_)) h1
      rw [lc_nil]
      show p ∣ 0 + b i - b i
      rw [Int.zero_add, Int.sub_self]
      exact Int.dvd_zero p
  | x :: xs, bs, w => by
    constructor
    · intro h
      obtain ⟨c, w', h1, h2⟩ := sp_cons h
      obtain ⟨cs, b, h3, h4⟩ := sp_app.mp h1
      refine ⟨c :: cs, b, h3, zq_t h2 (fun i hi => ?_)⟩
      have := h4 i hi
      show p ∣ c * x i + w' i - (c * x i + lc9 cs xs i + b i)
      rw [show c * x i + w' i - (c * x i + lc9 cs xs i + b i) = w' i - (lc9 cs xs i + b i) by omega]
      exact this
    · rintro ⟨cs, b, h1, h2⟩
      have hb : sp9 p n ((x :: xs) ++ bs) b := sp_tr h1 (fun u hu => sp_in (List.mem_append_right _ hu))
      exact sp_q h2 (sp_a (lc_sp cs (x :: xs) (fun u hu => sp_in (List.mem_append_left _ hu))) hb)
/-- a map that is one to one and onto between what is left -/
theorem hd_eq (hp : pr9 p) (hi : iv9 p) {F : Nat → vc9} {Z Z' B B' : vc9 → Prop} (hZ : sbs9 p n Z) (hZ' : sbs9 p n' Z') (hB : sbs9 p n B) (hB' : sbs9 p n' B') (bZ : ∀ v, B v → Z v) (bZ' : ∀ v, B' v → Z' v) (fZ : ∀ v, Z' v → Z (ap9 F n' v)) (fB : ∀ v, B' v → B (ap9 F n' v)) (on : ∀ z, Z z → ∃ z', Z' z' ∧ B (fun i => z i - ap9 F n' z' i)) (one : ∀ z', Z' z' → B (ap9 F n' z') → B' z') : dm9 p n Z + dm9 p n' B' = dm9 p n' Z' + dm9 p n B := by
  obtain ⟨zs, z1, z2⟩ := sub_ex hi hZ'
  obtain ⟨bs, b1, b2⟩ := sub_ex hi hB
  obtain ⟨cs', c1, c2⟩ := sub_ex hi hB'
  have e1 : dm9 p n B = rk9 p n bs := dm_rk hp hi hB b1 b2
  have e2 : dm9 p n' B' = rk9 p n' cs' := dm_rk hp hi hB' c1 c2
  have e3 : dm9 p n' Z' = rk9 p n' (zs ++ cs') := dm_rk hp hi hZ' (fun v hv => (List.mem_append.mp hv).elim (z1 v) (fun h => bZ' v (c1 v h))) (fun w hw => sp_tr (z2 w hw) (fun u hu => sp_in (List.mem_append_left _ hu)))
  have e4 : dm9 p n Z = rk9 p n (zs.map (ap9 F n') ++ bs) := dm_rk hp hi hZ (fun v hv => by
    rcases List.mem_append.mp hv with h | h
    · obtain ⟨z, h1, rfl⟩ := List.mem_map.mp h
      exact fZ z (z1 z h1)
    · exact bZ v (b1 v h)) (fun w hw => by
    obtain ⟨z', h1, h2⟩ := on w hw
    obtain ⟨as, ha⟩ := z2 z' h1
    refine sp_app.mpr ⟨as, _, b2 _ h2, fun i hi9 => ?_⟩
    have h3 := ap_q (d := F) ha i hi9
    rw [lc_ap] at h3
    have := h3
    show p ∣ w i - (lc9 as (zs.map (ap9 F n')) i + (w i - ap9 F n' z' i))
    rw [show w i - (lc9 as (zs.map (ap9 F n')) i + (w i - ap9 F n' z' i)) = ap9 F n' z' i - lc9 as (zs.map (ap9 F n')) i by omega]
    exact this)
  rw [e1, e2, e3, e4]
  -- step by step
  have key : ∀ zs : List vc9, (∀ z, z ∈ zs → Z' z) → rk9 p n (zs.map (ap9 F n') ++ bs) + rk9 p n' cs' = rk9 p n' (zs ++ cs') + rk9 p n bs := by
    intro zs
    induction zs with
    | nil =>
      intro _
      show rk9 p n bs + rk9 p n' cs' = rk9 p n' cs' + rk9 p n bs
      omega
    | cons z zs ih =>
      intro hz
      have ih9 := ih (fun t ht => hz t (List.mem_cons_of_mem _ ht))
      have hzs : ∀ t, t ∈ zs → Z' t := fun t ht => hz t (List.mem_cons_of_mem _ ht)
      have ifc9 : sp9 p n (zs.map (ap9 F n') ++ bs) (ap9 F n' z) ↔ sp9 p n' (zs ++ cs') z := by
        constructor
        · intro h
          obtain ⟨as, b, h1, h2⟩ := sp_app.mp h
          have hB9 : B b := sub_in hB b1 h1
          -- z - lc as zs
          have h3 : Z' (fun i => z i + (-1) * lc9 as zs i) := hZ'.2.1 _ _ (hz z List.mem_cons_self) (hZ'.2.2.1 _ _ (sub_lc hZ' as zs hzs))
          have h4 : B (ap9 F n' (fun i => z i + (-1) * lc9 as zs i)) := hB.2.2.2 _ _ (fun i hi9 => by
            rw [ap_add, ap_mul, lc_ap]
            have := h2 i hi9
            rw [show ap9 F n' z i + -1 * lc9 as (zs.map (ap9 F n')) i - b i = ap9 F n' z i - (lc9 as (zs.map (ap9 F n')) i + b i) by omega]
            exact this) hB9
          refine sp_app.mpr ⟨as, _, c2 _ (one _ h3 h4), fun i _ => ?_⟩
          show p ∣ z i - (lc9 as zs i + (z i + -1 * lc9 as zs i))
          rw [show z i - (lc9 as zs i + (z i + -1 * lc9 as zs i)) = 0 by omega]
          exact Int.dvd_zero p
        · intro h
          obtain ⟨as, b, h1, h2⟩ := sp_app.mp h
          have hB9 : B' b := sub_in hB' c1 h1
          refine sp_app.mpr ⟨as, ap9 F n' b, b2 _ (fB b hB9), fun i hi9 => ?_⟩
          have := ap_q (d := F) h2 i hi9
          rw [ap_add, lc_ap] at this
          exact this
      show rk9 p n (ap9 F n' z :: (zs.map (ap9 F n') ++ bs)) + rk9 p n' cs' = rk9 p n' (z :: (zs ++ cs')) + rk9 p n bs
      by_cases c : sp9 p n' (zs ++ cs') z
      · rw [rk_y (ifc9.mpr c), rk_y c]
        exact ih9
      · rw [rk_n (fun h9 => c (ifc9.mp h9)), rk_n c]
        omega
  exact key zs z1
end XCH4
end
